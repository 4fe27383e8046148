/-! A VIEW'S NUMBERS (digit, levelIn) -/
def vr (lv : Int → Int) (D v : Int) : Nat → Int
  | 0 => v
  | j + 1 => vr lv D v j / (lv (D - 1 - (j : Nat)) + 1)
/-- at which number the view v has the dimension d -/
def vdg (lv : Int → Int) (D v d : Int) : Int := vr lv D v (D - 1 - d).toNat % (lv d + 1)
theorem vr_b {lv : Int → Int} {D v : Int} (hv : 0 ≤ v) (hl : ∀ d, 0 ≤ d → d < D → 0 ≤ lv d ∧ lv d ≤ 4) : ∀ j : Nat, (j : Int) ≤ D → 0 ≤ vr lv D v j ∧ vr lv D v j ≤ v := by
  intro j
  induction j with
  | zero => intro _; exact ⟨hv, Int.le_refl _⟩
  | succ j ih =>
    intro hj
    have h := ih (by omega)
    have q := hl (D - 1 - (j : Nat)) (by omega) (by omega)
    show 0 ≤ vr lv D v j / (lv (D - 1 - (j : Nat)) + 1) ∧ vr lv D v j / (lv (D - 1 - (j : Nat)) + 1) ≤ v
    have h1 : 0 ≤ vr lv D v j / (lv (D - 1 - (j : Nat)) + 1) := Int.ediv_nonneg h.1 (by omega)
    have h2 : vr lv D v j / (lv (D - 1 - (j : Nat)) + 1) ≤ vr lv D v j := Int.ediv_le_self _ h.1
    omega
theorem vdg_b {lv : Int → Int} {D v d : Int} (hl : ∀ d, 0 ≤ d → d < D → 0 ≤ lv d ∧ lv d ≤ 4) (h0 : 0 ≤ d) (h1 : d < D) : 0 ≤ vdg lv D v d ∧ vdg lv D v d ≤ lv d := by
  have q := hl d h0 h1
  unfold vdg
  have h2 := Int.emod_nonneg (vr lv D v (D - 1 - d).toNat) (show lv d + 1 ≠ 0 by omega)
  have h3 := Int.emod_lt_of_pos (vr lv D v (D - 1 - d).toNat) (show 0 < lv d + 1 by omega)
  omega
theorem vdg_cg {lv lv' : Int → Int} {D v d : Int} (h0 : 0 ≤ d) (h1 : d < D) (h : ∀ d, 0 ≤ d → d < D → lv d = lv' d) : vdg lv D v d = vdg lv' D v d := by
  have : ∀ j : Nat, (j : Int) ≤ D → vr lv D v j = vr lv' D v j := by
    intro j
    induction j with
    | zero => intro _; rfl
    | succ j ih =>
      intro hj
      show vr lv D v j / (lv _ + 1) = vr lv' D v j / (lv' _ + 1)
      rw [ih (by omega), h _ (by omega) (by omega)]
  unfold vdg
  rw [this _ (by omega), h d h0 h1]
/-- digit, of the reference -/
theorem digit_ok {B : Nat} {m : xw_M} {D v d : Int} (hD : D ≤ 8) (h14 : xR m 536 14 = D) (hv : 0 ≤ v ∧ v < 2147483648) (hl : ∀ d, 0 ≤ d → d < D → 0 ≤ xR m 538 d ∧ xR m 538 d ≤ 4) (h0 : 0 ≤ d) (h1 : d < D) : yf291 B v d m = some (.inl (vdg (xR m 538) D v d), m) := by
  unfold yf291
  rw [h14, w32_id (by omega) (by omega)]
  refine xl3_eq (F := yl291_10 B) (fun _ _ _ _ => some (.inl (vdg (xR m 538) D v d), m)) (fun x0 x1 x2 m' => x0 = d ∧ m' = m ∧ d ≤ x2 ∧ x2 < D ∧ x1 = vr (xR m 538) D v (D - 1 - x2).toNat) (fun _ _ x2 _ => (x2 - d).toNat) ?_ 1000000 d v (D - 1) m ⟨rfl, rfl, by omega, by omega, by rw [show (D - 1 - (D - 1)).toNat = 0 from by omega]; rfl⟩ (by omega)
  intro r x0 x1 x2 m' ⟨a0, a1, a2, a3, a4⟩ ih
  subst a0 a1
  have q := hl x2 (by omega) a3
  have hb := vr_b hv.1 hl (D - 1 - x2).toNat (by omega)
  unfold yl291_10
  by_cases hx : x0 < x2
  · rw [if_pos hx, if_pos ⟨by omega, by omega⟩, w32_id (x := xR m' 538 x2 + 1) (by omega) (by omega), if_pos (by omega), if_pos (by omega), w32_id (by omega) (by omega), ih _ _ _ _ ⟨rfl, rfl, by omega, by omega, ?_⟩ (by omega)]
    rw [show (D - 1 - (x2 + -1)).toNat = (D - 1 - x2).toNat + 1 from by omega, a4]
    show _ = vr (xR m' 538) D v (D - 1 - x2).toNat / (xR m' 538 (D - 1 - (((D - 1 - x2).toNat : Nat) : Int)) + 1)
    rw [show D - 1 - (((D - 1 - x2).toNat : Nat) : Int) = x2 from by omega]
  · have e : x2 = x0 := by omega
    subst e
    rw [if_neg hx, if_pos ⟨h0, by omega⟩, w32_id (x := xR m' 538 x2 + 1) (by omega) (by omega), if_pos (by omega), if_pos (by omega), a4]
    rfl
/-- levelIn, of the class -/
theorem levelIn_ok {B : Nat} {m : xw_M} {D v d : Int} (hD : D ≤ 8) (h31 : xR m 3 1 = D) (hv : 0 ≤ v ∧ v < 2147483648) (hl : ∀ d, 0 ≤ d → d < D → 0 ≤ xR m (15 + 26 * d) 10 ∧ xR m (15 + 26 * d) 10 ≤ 4) (h0 : 0 ≤ d) (h1 : d < D) : yf97 B v d m = some (.inl (vdg (fun d => xR m (15 + 26 * d) 10) D v d), m) := by
  unfold yf97
  rw [h31, w32_id (by omega) (by omega)]
  refine xl3_eq (F := yl97_10 B) (fun _ _ _ _ => some (.inl (vdg (fun d => xR m (15 + 26 * d) 10) D v d), m)) (fun x0 x1 x2 m' => x0 = d ∧ m' = m ∧ d ≤ x2 ∧ x2 < D ∧ x1 = vr (fun d => xR m (15 + 26 * d) 10) D v (D - 1 - x2).toNat) (fun _ _ x2 _ => (x2 - d).toNat) ?_ 1000000 d v (D - 1) m ⟨rfl, rfl, by omega, by omega, by rw [show (D - 1 - (D - 1)).toNat = 0 from by omega]; rfl⟩ (by omega)
  intro r x0 x1 x2 m' ⟨a0, a1, a2, a3, a4⟩ ih
  subst a0 a1
  have q := hl x2 (by omega) a3
  have hb := vr_b (lv := fun d => xR m' (15 + 26 * d) 10) hv.1 hl (D - 1 - x2).toNat (by omega)
  have ob := (dm_f B (d := x2) (by omega) (by omega)).1
  unfold yl97_10
  by_cases hx : x0 < x2
  · rw [if_pos hx, if_pos ⟨by omega, by omega⟩, if_pos ob, w32_id (x := xR m' (15 + 26 * x2) 10 + 1) (by omega) (by omega), if_pos (by omega), if_pos (by omega), w32_id (by omega) (by omega), ih _ _ _ _ ⟨rfl, rfl, by omega, by omega, ?_⟩ (by omega)]
    rw [show (D - 1 - (x2 + -1)).toNat = (D - 1 - x2).toNat + 1 from by omega, a4]
    show _ = vr (fun d => xR m' (15 + 26 * d) 10) D v (D - 1 - x2).toNat / (xR m' (15 + 26 * (D - 1 - (((D - 1 - x2).toNat : Nat) : Int))) 10 + 1)
    rw [show D - 1 - (((D - 1 - x2).toNat : Nat) : Int) = x2 from by omega]
  · have e : x2 = x0 := by omega
    subst e
    rw [if_neg hx, if_pos ⟨h0, by omega⟩, if_pos ob, w32_id (x := xR m' (15 + 26 * x2) 10 + 1) (by omega) (by omega), if_pos (by omega), if_pos (by omega), a4]
    rfl
