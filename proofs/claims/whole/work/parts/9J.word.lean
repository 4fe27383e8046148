/-! THE LEXER: which reserved word a word is, by the class -/
/-- the class's walk over the reserved words: x2 the kind of the word it is in, x3 how far it agrees, or -1 -/
def cwk (L : Int) (T : Int → Int) : List Nat → Int → Int → Int
  | [], _, _ => 1
  | c :: cs, x2, x3 => if (c : Int) = 32 then (if x3 = L then x2 else cwk L T cs (x2 + 1) 0) else if x3 < 0 then cwk L T cs x2 (-1) else if x3 < L then (if T x3 = (c : Int) then cwk L T cs x2 (x3 + 1) else cwk L T cs x2 (-1)) else cwk L T cs x2 (-1)
theorem cwk_c {L : Int} {T : Int → Int} {c : Nat} {cs : List Nat} {x2 x3 : Int} : cwk L T (c :: cs) x2 x3 = if (c : Int) = 32 then (if x3 = L then x2 else cwk L T cs (x2 + 1) 0) else if x3 < 0 then cwk L T cs x2 (-1) else if x3 < L then (if T x3 = (c : Int) then cwk L T cs x2 (x3 + 1) else cwk L T cs x2 (-1)) else cwk L T cs x2 (-1) := rfl
/-- T agrees with the word from x on -/
def mtc (T : Int → Int) : Int → List Nat → Bool
  | _, [] => true
  | x, c :: cs => decide (T x = (c : Int)) && mtc T (x + 1) cs
/-- the first word that is T, L long: its number from k on, or -1 -/
def fwd (L : Int) (T : Int → Int) : List (List Nat) → Int → Int
  | [], _ => -1
  | w :: ws, k => if ((w.length : Nat) : Int) = L ∧ mtc T 0 w = true then k else fwd L T ws (k + 1)
/-- the reserved words -/
def rsv : List (List Nat) := [[100, 105, 109, 101, 110, 115, 105, 111, 110], [109, 101, 97, 115, 117, 114, 101], [109, 101, 109, 98, 101, 114], [115, 101, 108, 101, 99, 116], [119, 104, 101, 114, 101], [103, 114, 111, 117, 112], [98, 121], [114, 111, 108, 108, 117, 112], [99, 117, 98, 101], [103, 114, 111, 117, 112, 105, 110, 103], [115, 117, 109], [99, 111, 117, 110, 116], [109, 105, 110], [109, 97, 120], [97, 110, 100], [111, 114], [110, 111, 116], [98, 101, 116, 119, 101, 101, 110], [105, 110]]
def jnw : List (List Nat) → List Nat
  | [] => []
  | w :: ws => w ++ 32 :: jnw ws
theorem rsv_0 : xw_sl 0 = jnw rsv := by decide
theorem rsv_2 : xw_sl 2 = 32 :: jnw rsv := by decide
theorem cwk_no {L : Int} {T : Int → Int} (L0 : 0 ≤ L) : ∀ (w rest : List Nat) (x2 : Int), (∀ c ∈ w, (c : Int) ≠ 32) → cwk L T (w ++ 32 :: rest) x2 (-1) = cwk L T rest (x2 + 1) 0 := by
  intro w
  induction w with
  | nil =>
    intro rest x2 _
    show (if ((32 : Nat) : Int) = 32 then (if (-1 : Int) = L then x2 else cwk L T rest (x2 + 1) 0) else _) = _
    rw [if_pos (show ((32 : Nat) : Int) = 32 from rfl), if_neg (by omega)]
  | cons c cs ih =>
    intro rest x2 h
    show (if (c : Int) = 32 then _ else if (-1 : Int) < 0 then cwk L T (cs ++ 32 :: rest) x2 (-1) else _) = _
    rw [if_neg (h c (List.mem_cons_self ..)), if_pos (by decide)]
    exact ih rest x2 (fun d hd => h d (List.mem_cons_of_mem _ hd))
theorem cwk_w {L : Int} {T : Int → Int} (L0 : 0 ≤ L) : ∀ (w rest : List Nat) (x2 x3 : Int), (∀ c ∈ w, (c : Int) ≠ 32) → 0 ≤ x3 → cwk L T (w ++ 32 :: rest) x2 x3 = if x3 + ((w.length : Nat) : Int) = L ∧ mtc T x3 w = true then x2 else cwk L T rest (x2 + 1) 0 := by
  intro w
  induction w with
  | nil =>
    intro rest x2 x3 _ h3
    show (if ((32 : Nat) : Int) = 32 then (if x3 = L then x2 else cwk L T rest (x2 + 1) 0) else _) = _
    rw [if_pos (show ((32 : Nat) : Int) = 32 from rfl)]
    by_cases e : x3 = L
    · rw [if_pos e, if_pos ⟨by show x3 + ((0 : Nat) : Int) = L; omega, rfl⟩]
    · rw [if_neg e, if_neg (fun q => e (by have := q.1; show x3 = L; have z : (([] : List Nat).length : Int) = 0 := rfl; omega))]
  | cons c cs ih =>
    intro rest x2 x3 h h3
    have hl : (((c :: cs).length : Nat) : Int) = ((cs.length : Nat) : Int) + 1 := by rw [List.length_cons]; omega
    show (if (c : Int) = 32 then _ else if x3 < 0 then _ else if x3 < L then (if T x3 = (c : Int) then cwk L T (cs ++ 32 :: rest) x2 (x3 + 1) else cwk L T (cs ++ 32 :: rest) x2 (-1)) else cwk L T (cs ++ 32 :: rest) x2 (-1)) = _
    have hc : ∀ d ∈ cs, (d : Int) ≠ 32 := fun d hd => h d (List.mem_cons_of_mem _ hd)
    rw [if_neg (h c (List.mem_cons_self ..)), if_neg (by omega), cwk_no L0 cs rest x2 hc, hl]
    by_cases e : x3 < L
    · rw [if_pos e]
      by_cases ht : T x3 = (c : Int)
      · rw [if_pos ht, ih rest x2 (x3 + 1) hc (by omega)]
        have em : mtc T x3 (c :: cs) = mtc T (x3 + 1) cs := by
          show (decide (T x3 = (c : Int)) && mtc T (x3 + 1) cs) = _
          rw [decide_eq_true ht, Bool.true_and]
        rw [em, show x3 + 1 + ((cs.length : Nat) : Int) = x3 + (((cs.length : Nat) : Int) + 1) by omega]
      · rw [if_neg ht]
        have em : mtc T x3 (c :: cs) = false := by
          show (decide (T x3 = (c : Int)) && mtc T (x3 + 1) cs) = _
          rw [decide_eq_false ht, Bool.false_and]
        rw [em, if_neg (by intro q; exact absurd q.2 (by decide))]
    · rw [if_neg e, if_neg (by omega)]
theorem cwk_all {L : Int} {T : Int → Int} (L0 : 0 ≤ L) : ∀ (ws : List (List Nat)) (k : Int), (∀ w ∈ ws, ∀ c ∈ w, (c : Int) ≠ 32) → 0 ≤ k → cwk L T (jnw ws) (200 + k) 0 = if fwd L T ws k = -1 then 1 else 200 + fwd L T ws k := by
  intro ws
  induction ws with
  | nil => intro k _ _; rfl
  | cons w ws ih =>
    intro k h k0
    show cwk L T (w ++ 32 :: jnw ws) (200 + k) 0 = if (if ((w.length : Nat) : Int) = L ∧ mtc T 0 w = true then k else fwd L T ws (k + 1)) = -1 then 1 else 200 + (if ((w.length : Nat) : Int) = L ∧ mtc T 0 w = true then k else fwd L T ws (k + 1))
    rw [cwk_w L0 w (jnw ws) (200 + k) 0 (h w (List.mem_cons_self ..)) (Int.le_refl _), Int.zero_add]
    by_cases e : ((w.length : Nat) : Int) = L ∧ mtc T 0 w = true
    · rw [if_pos e, if_pos e, if_neg (by omega)]
    · rw [if_neg e, if_neg e, show (200 : Int) + k + 1 = 200 + (k + 1) by omega]
      exact ih (k + 1) (fun v hv => h v (List.mem_cons_of_mem _ hv)) (by omega)
/-- a word's kind, by number k or none -/
def wkn (L : Int) (T : Int → Int) : Int := if 40 < L then 2 else if fwd L T rsv 0 = -1 then 1 else 200 + fwd L T rsv 0
section WDC
variable {B : Nat} {m : xw_M}
theorem wkind_cl {s e : Int} (h4 : xR m 1 4 = s) (h2 : xR m 1 2 = e) (s0 : 0 ≤ s) (se : s ≤ e) (e1 : e ≤ 65536) : yf51 B m = some (.inl (wkn (e - s) (fun i => xR m 2 (s + i))), m) := by
  unfold yf51 wkn
  rw [h2, h4, w32_id (by omega) (by omega)]
  by_cases h40 : 40 < e - s
  · rw [if_pos h40, if_pos h40]
  · rw [if_neg h40, if_neg h40]
    have all := cwk_all (L := e - s) (T := fun i => xR m 2 (s + i)) (by omega) rsv 0 (by decide) (Int.le_refl _)
    rw [← all, ← rsv_0]
    have len : (xw_sl 0).length = 108 := by decide
    have gen : ∀ N : Nat, 1000 < N → xl4 (yl51_27 B) N (e - s) 200 0 0 m = some (.inl (cwk (e - s) (fun i => xR m 2 (s + i)) (xw_sl 0) (200 + 0) 0), m) := by
      intro N hN
      have := xH_ex (xl4_rule (F := yl51_27 B) (Q := fun v m' => v = cwk (e - s) (fun i => xR m 2 (s + i)) (xw_sl 0) (200 + 0) 0 ∧ m' = m) (X := fun _ _ => False) (fun y1 y2 y3 y4 m' => y1 = e - s ∧ m' = m ∧ (0 ≤ y4 ∧ y4 ≤ 108) ∧ (-1 ≤ y3 ∧ y3 ≤ 108 ∧ y3 ≤ y4) ∧ (200 ≤ y2 ∧ y2 ≤ 200 + y4) ∧ cwk (e - s) (fun i => xR m 2 (s + i)) ((xw_sl 0).drop y4.toNat) y2 y3 = cwk (e - s) (fun i => xR m 2 (s + i)) (xw_sl 0) (200 + 0) 0) (fun _ _ _ y4 _ => (108 - y4).toNat) (by
        intro r y1 y2 y3 y4 m' ⟨a1, a2, a3, a4, a5, a6⟩ ih
        subst a1 a2
        unfold yl51_27
        by_cases h : y4 < 108
        · have dr : (xw_sl 0).drop y4.toNat = (xw_sl 0).getD y4.toNat 0 :: (xw_sl 0).drop (y4 + 1).toNat := by
            rw [List.drop_eq_getElem_cons (show y4.toNat < (xw_sl 0).length by omega), show (y4 + 1).toNat = y4.toNat + 1 by omega, List.getD_eq_getElem?_getD, List.getElem?_eq_getElem (show y4.toNat < (xw_sl 0).length by omega)]
            rfl
          have ch : xw_chr 0 y4 = (((xw_sl 0).getD y4.toNat 0 : Nat) : Int) := rfl
          rw [dr, cwk_c, ← ch] at a6
          have w4 : w32 (y4 + 1) = y4 + 1 := w32_id (by omega) (by omega)
          have w2 : w32 (y2 + 1) = y2 + 1 := w32_id (by omega) (by omega)
          have w3 : w32 (y3 + 1) = y3 + 1 := w32_id (by omega) (by omega)
          rw [if_pos h, if_pos ⟨a3.1, h⟩, w4, w2, w3]
          by_cases c1 : xw_chr 0 y4 = 32
          · rw [if_pos c1] at a6 ⊢
            by_cases c2 : y3 = e - s
            · rw [if_pos c2] at a6 ⊢
              rw [xH_ret]
              exact ⟨a6, rfl⟩
            · rw [if_neg c2] at a6 ⊢
              exact ih _ _ _ _ _ ⟨rfl, rfl, by omega, by omega, by omega, a6⟩ (by omega)
          · rw [if_neg c1] at a6 ⊢
            by_cases c2 : y3 < 0
            · rw [if_pos c2] at a6 ⊢
              exact ih _ _ _ _ _ ⟨rfl, rfl, by omega, by omega, by omega, a6⟩ (by omega)
            · rw [if_neg c2] at a6 ⊢
              by_cases c3 : y3 < e - s
              · rw [if_pos c3] at a6 ⊢
                rw [h4, if_pos ⟨by omega, by omega⟩]
                by_cases c4 : xR m' 2 (s + y3) = xw_chr 0 y4
                · rw [if_pos c4] at a6 ⊢
                  exact ih _ _ _ _ _ ⟨rfl, rfl, by omega, by omega, by omega, a6⟩ (by omega)
                · rw [if_neg c4] at a6 ⊢
                  exact ih _ _ _ _ _ ⟨rfl, rfl, by omega, by omega, by omega, a6⟩ (by omega)
              · rw [if_neg c3] at a6 ⊢
                exact ih _ _ _ _ _ ⟨rfl, rfl, by omega, by omega, by omega, a6⟩ (by omega)
        · rw [if_neg h, xH_ret]
          refine ⟨?_, rfl⟩
          rw [← a6, List.drop_eq_nil_of_le (by omega)]
          rfl) N (e - s) 200 0 0 m ⟨rfl, rfl, by omega, by omega, by omega, rfl⟩ (by omega))
      obtain ⟨v, m', z, rfl, rfl⟩ := this
      exact z
    exact gen 1000000 (by decide)
end WDC
