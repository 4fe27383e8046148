/-! THE LEXER: which reserved word a word is, by the reference -/
theorem mtc_iff {T : Int → Int} : ∀ (w : List Nat) (x : Int), mtc T x w = true ↔ ∀ j : Nat, j < w.length → T (x + j) = ((w.getD j 0 : Nat) : Int) := by
  intro w
  induction w with
  | nil => intro x; exact ⟨fun _ j hj => absurd hj (Nat.not_lt_zero _), fun _ => rfl⟩
  | cons c cs ih =>
    intro x
    show (decide (T x = (c : Int)) && mtc T (x + 1) cs) = true ↔ _
    rw [Bool.and_eq_true, decide_eq_true_eq, ih (x + 1)]
    constructor
    · intro ⟨h1, h2⟩ j hj
      cases j with
      | zero => rw [show x + ((0 : Nat) : Int) = x by omega]; exact h1
      | succ j =>
        have q := h2 j (by rw [List.length_cons] at hj; omega)
        rw [show x + ((j + 1 : Nat) : Int) = x + 1 + j by omega]; exact q
    · intro h
      refine ⟨?_, fun j hj => ?_⟩
      · have q := h 0 (by rw [List.length_cons]; omega)
        rw [show x + ((0 : Nat) : Int) = x by omega] at q; exact q
      · have q := h (j + 1) (by rw [List.length_cons]; omega)
        rw [show x + ((j + 1 : Nat) : Int) = x + 1 + j by omega] at q; exact q
theorem chr_drop {k : Nat} {l : List Nat} {a j : Int} (h : (xw_sl k).drop a.toNat = l) (a0 : 0 ≤ a) (j0 : 0 ≤ j) : xw_chr k (a + j) = ((l.getD j.toNat 0 : Nat) : Int) := by
  unfold xw_chr
  rw [← h, List.getD_eq_getElem?_getD, List.getD_eq_getElem?_getD, List.getElem?_drop, show (a + j).toNat = a.toNat + j.toNat by omega]
theorem getD_in {w rest : List Nat} {j : Nat} (h : j < w.length) : (w ++ rest).getD j 0 = w.getD j 0 := by
  rw [List.getD_eq_getElem?_getD, List.getD_eq_getElem?_getD, List.getElem?_append_left h]
theorem getD_at {w rest : List Nat} : (w ++ 32 :: rest).getD w.length 0 = 32 := by
  rw [List.getD_eq_getElem?_getD, List.getElem?_append_right (Nat.le_refl _), Nat.sub_self]
  rfl
theorem getD_mem {w : List Nat} {j : Nat} (h : j < w.length) : w.getD j 0 ∈ w := by
  rw [List.getD_eq_getElem?_getD, List.getElem?_eq_getElem h]
  exact List.getElem_mem h
section WDR
variable {B : Nat} {m : xw_M}
/-- on to the next space -/
theorem nxt_rf {r4 : Int → Int → xw_M → xP} {a x1 : Int} {w rest : List Nat} (hd : (xw_sl 2).drop a.toNat = w ++ 32 :: rest) (a0 : 0 ≤ a) (a1 : a + ((w.length : Nat) : Int) < 109) (hw : ∀ c ∈ w, (c : Int) ≠ 32) (x0 : 0 ≤ x1) (x1' : x1 < 100) {Q : Int → xw_M → Prop} {X : Nat → xw_M → Prop} (h : xH (r4 (x1 + 1) (a + ((w.length : Nat) : Int)) m) Q X) : xH (xl2 (yl252_92 B r4) 1000000 x1 a m) Q X := by
  have gen : ∀ N : Nat, 1000 < N → xH (xl2 (yl252_92 B r4) N x1 a m) Q X := by
    intro N hN
    refine xl2_rule (F := yl252_92 B r4) (fun y1 y2 m' => y1 = x1 ∧ m' = m ∧ (a ≤ y2 ∧ y2 ≤ a + ((w.length : Nat) : Int))) (fun _ y2 _ => (109 - y2).toNat) ?_ N x1 a m ⟨rfl, rfl, by omega, by omega⟩ (by omega)
    intro r y1 y2 m' ⟨e1, e2, e3⟩ ih
    subst e1 e2
    unfold yl252_92
    have ch := chr_drop (k := 2) (j := y2 - a) hd a0 (by omega)
    rw [show a + (y2 - a) = y2 by omega] at ch
    rw [if_pos ⟨by omega, by omega⟩, ch]
    by_cases hl : y2 < a + ((w.length : Nat) : Int)
    · have lt : (y2 - a).toNat < w.length := by omega
      rw [getD_in lt, if_neg (hw _ (getD_mem lt)), w32_id (by omega) (by omega)]
      exact ih _ _ _ ⟨rfl, rfl, by omega, by omega⟩ (by omega)
    · have el : y2 = a + ((w.length : Nat) : Int) := by omega
      rw [show (y2 - a).toNat = w.length by omega, getD_at, if_pos (show ((32 : Nat) : Int) = 32 from rfl), w32_id (by omega) (by omega), el]
      exact h
  exact gen 1000000 (by decide)
end WDR
