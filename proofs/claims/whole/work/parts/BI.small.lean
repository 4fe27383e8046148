/-! THE ANSWER, by the class: whether a view fits, and the smallest table (smallestTable) -/
section SML
variable {B : Nat} {m : xw_M} {D : Int}
def fitc (m : xw_M) (D v : Int) : Prop := ∀ d, 0 ≤ d → d < D → xR m 292 d < 4 → vdg (lvc m) D v d ≤ xR m 292 d
theorem fits_l {v : Int} (hD : D ≤ 8) (h31 : xR m 3 1 = D) (hv : 0 ≤ v ∧ v < 2147483648) (hl : ∀ d, 0 ≤ d → d < D → 0 ≤ lvc m d ∧ lvc m d ≤ 4) : ∀ (N : Nat) (d : Int), 0 ≤ d → d ≤ D → (D - d).toNat < N → ∃ b : Bool, xl2 (yl95_2 B) N v d m = some (.inl (b01 b), m) ∧ (b = true ↔ ∀ e, d ≤ e → e < D → xR m 292 e < 4 → vdg (lvc m) D v e ≤ xR m 292 e) := by
  intro N
  induction N with
  | zero => intro d _ _ h; omega
  | succ N ih =>
    intro d d0 d1 hN
    show ∃ b : Bool, yl95_2 B (xl2 (yl95_2 B) N) v d m = _ ∧ _
    have IH := ih (d + 1)
    clear ih
    generalize xl2 (yl95_2 B) N = G at IH ⊢
    unfold yl95_2
    rw [h31]
    by_cases c : d < D
    · have db : 0 ≤ d ∧ d < 8 := by omega
      have wd : w32 (d + 1) = d + 1 := w32_id (by omega) (by omega)
      obtain ⟨b, e1, e2⟩ := IH (by omega) (by omega) (by omega)
      unfold yf96
      rw [if_pos c, if_pos db, wd]
      by_cases a : xR m 292 d < 4
      · have lv := levelIn_ok (B := B) (m := m) (D := D) (v := v) (d := d) hD h31 hv hl d0 c
        have lv' : yf97 B v d m = some (.inl (vdg (lvc m) D v d), m) := lv
        rw [if_pos a, xB_ret, if_neg (by decide), lv', xB_ret, if_pos db]
        by_cases z : xR m 292 d < vdg (lvc m) D v d
        · rw [if_pos z]
          exact ⟨false, rfl, fun h => by simp at h, fun h => by have := h d (Int.le_refl _) c a; omega⟩
        · rw [if_neg z]
          refine ⟨b, e1, e2.trans ⟨fun h e q0 q1 q2 => ?_, fun h e q0 q1 q2 => h e (by omega) q1 q2⟩⟩
          by_cases ed : e = d
          · rw [ed]; omega
          · exact h e (by omega) q1 q2
      · rw [if_neg a, xB_ret, if_pos rfl]
        refine ⟨b, e1, e2.trans ⟨fun h e q0 q1 q2 => ?_, fun h e q0 q1 q2 => h e (by omega) q1 q2⟩⟩
        by_cases ed : e = d
        · rw [ed] at q2; exact absurd q2 a
        · exact h e (by omega) q1 q2
    · rw [if_neg c]
      exact ⟨true, rfl, fun _ e q0 q1 => by omega, fun _ => rfl⟩
theorem fits_ok {v : Int} (D0 : 0 ≤ D) (hD : D ≤ 8) (h31 : xR m 3 1 = D) (hv : 0 ≤ v ∧ v < 2147483648) (hl : ∀ d, 0 ≤ d → d < D → 0 ≤ lvc m d ∧ lvc m d ≤ 4) : ∃ b : Bool, yf95 B v m = some (.inl (b01 b), m) ∧ (b = true ↔ fitc m D v) := by
  unfold yf95
  generalize hN : (1000000 : Nat) = N
  exact fits_l (B := B) hD h31 hv hl N 0 (by omega) D0 (by omega)
/-- the first of the smallest tables that fit: its number (-1: the facts), its rows -/
noncomputable def btb (fit : Int → Prop) (rz : Int → Int) (F : Int) : Nat → Int × Int
  | 0 => (-1, F)
  | i + 1 => if @decide (rz i < (btb fit rz F i).2 ∧ fit i) (Classical.propDecidable _) = true then ((i : Int), rz i) else btb fit rz F i
theorem btb_t {fit : Int → Prop} {rz : Int → Int} {F : Int} {i : Nat} (h1 : rz i < (btb fit rz F i).2) (h2 : fit i) : btb fit rz F (i + 1) = ((i : Int), rz i) := by
  show (if @decide (rz i < (btb fit rz F i).2 ∧ fit i) (Classical.propDecidable _) = true then ((i : Int), rz i) else btb fit rz F i) = _
  rw [if_pos (@decide_eq_true _ (Classical.propDecidable _) ⟨h1, h2⟩)]
theorem btb_f {fit : Int → Prop} {rz : Int → Int} {F : Int} {i : Nat} (h : ¬ (rz i < (btb fit rz F i).2 ∧ fit i)) : btb fit rz F (i + 1) = btb fit rz F i := by
  show (if @decide (rz i < (btb fit rz F i).2 ∧ fit i) (Classical.propDecidable _) = true then ((i : Int), rz i) else btb fit rz F i) = _
  rw [if_neg (fun e => h (@of_decide_eq_true _ (Classical.propDecidable _) e))]
theorem small_l {n F : Int} {rz : Int → Int} (D0 : 0 ≤ D) (hD : D ≤ 8) (h31 : xR m 3 1 = D) (hl : ∀ d, 0 ≤ d → d < D → 0 ≤ lvc m d ∧ lvc m d ≤ 4) (hn : xR m 508 11 = n) (n1 : n ≤ 16) (hv : ∀ i, 0 ≤ i → i < n → (0 ≤ xR m 511 i ∧ xR m 511 i < 2147483648) ∧ xR m 512 i = rz i) : ∀ (N i : Nat), (i : Int) ≤ n → (n - i).toNat < N → xl3 (yl94_12 B) N (btb (fun i => fitc m D (xR m 511 i)) rz F i).1 (btb (fun i => fitc m D (xR m 511 i)) rz F i).2 i m = some (.inl (btb (fun i => fitc m D (xR m 511 i)) rz F n.toNat).1, m) := by
  intro N
  induction N with
  | zero => intro i _ h; omega
  | succ N ih =>
    intro i i1 hN
    show yl94_12 B (xl3 (yl94_12 B) N) _ _ _ m = _
    have IH := ih (i + 1)
    clear ih
    generalize xl3 (yl94_12 B) N = G at IH ⊢
    unfold yl94_12
    rw [hn]
    by_cases c : (i : Int) < n
    · have ib : (0 : Int) ≤ i ∧ (i : Int) < 16 := by omega
      have wi : w32 ((i : Int) + 1) = ((i + 1 : Nat) : Int) := by rw [w32_id (by omega) (by omega)]; omega
      have IH2 := IH (by omega) (by omega)
      obtain ⟨v1, v2⟩ := hv i (by omega) c
      rw [if_pos c, if_pos ib, wi, v2]
      by_cases a : rz i < (btb (fun i => fitc m D (xR m 511 i)) rz F i).2
      · obtain ⟨b, e1, e2⟩ := fits_ok (B := B) D0 hD h31 v1 hl
        rw [if_pos a, e1, xB_ret]
        cases hb : b with
        | true =>
          rw [if_neg (by decide), v2]
          rw [btb_t a (e2.mp hb)] at IH2
          exact IH2
        | false =>
          rw [if_pos (by decide)]
          rw [btb_f (fun h => by have := e2.mpr h.2; rw [hb] at this; simp at this)] at IH2
          exact IH2
      · rw [if_neg a]
        rw [btb_f (fun h => a h.1)] at IH2
        exact IH2
    · rw [if_neg c, show n.toNat = i from by omega]
theorem small_ok {n F : Int} {rz : Int → Int} (D0 : 0 ≤ D) (hD : D ≤ 8) (h31 : xR m 3 1 = D) (hl : ∀ d, 0 ≤ d → d < D → 0 ≤ lvc m d ∧ lvc m d ≤ 4) (hn : xR m 508 11 = n) (n0 : 0 ≤ n) (n1 : n ≤ 16) (hF : xR m 508 10 = F) (hv : ∀ i, 0 ≤ i → i < n → (0 ≤ xR m 511 i ∧ xR m 511 i < 2147483648) ∧ xR m 512 i = rz i) : yf94 B m = some (.inl (btb (fun i => fitc m D (xR m 511 i)) rz F n.toNat).1, m) := by
  unfold yf94
  rw [hF]
  generalize hN : (1000000 : Nat) = N
  exact small_l (B := B) D0 hD h31 hl hn n1 hv N 0 n0 (by omega)
end SML
