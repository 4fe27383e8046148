/-! THE ANSWER: cell, isBlank -/
section CEL
variable {B : Nat} {m : xw_M} {c : Int}
theorem q_f (B : Nat) {Q : Int} (h : Q = 544 ∨ Q = 558) : xw_obb 13 Q = true ∧ (xw_rf Q 1 = Q + 1 ∧ xw_rf Q 2 = Q + 2 ∧ xw_rf Q 5 = Q + 4) ∧ (xw_obb 16 (Q + 1) = true ∧ xw_obb 16 (Q + 2) = true ∧ xw_obb 16 (Q + 4) = true) ∧ xw_le B (Q + 1) = 24 ∧ xw_le B (Q + 2) = 24 ∧ xw_le B (Q + 4) = 8 := by
  rw [le_B B (a := Q + 1) (by omega) (by omega) (by omega), le_B B (a := Q + 2) (by omega) (by omega) (by omega), le_B B (a := Q + 4) (by omega) (by omega) (by omega)]
  rcases h with rfl | rfl <;> decide +kernel
/-- groupOf -/
theorem group_ok {Q p : Int} (hQ : m 536 22 = Q) (q0 : Q = 544 ∨ Q = 558) (g0 : 0 ≤ xR m Q 4 ∧ xR m Q 4 ≤ 8) (p0 : 0 ≤ p) (p1 : p < 24) : yf345 B p m = some (.inl (rgi m Q p), m) := by
  obtain ⟨o1, ⟨r1, r2, r5⟩, ⟨x1, x2, x4⟩, l1, l2, l4⟩ := q_f B q0
  unfold yf345
  have gen : ∀ N : Nat, 100 < N → xl3 (yl345_4 B) N p (-1) 0 m = some (.inl (rgi m Q p), m) := by
    intro N hN
    have := xH_ex (Q := fun v m' => v = rgi m Q p ∧ m' = m) (xl3_rule (F := yl345_4 B) (Q := fun v m' => v = rgi m Q p ∧ m' = m) (X := fun _ _ => False) (fun y0 y1 y2 m' => y0 = p ∧ (0 ≤ y2 ∧ y2 ≤ xR m Q 4) ∧ y1 = gix (xR m (Q + 4)) (xR m (Q + 2) p) y2.toNat ∧ m' = m) (fun _ _ y2 _ => (xR m Q 4 - y2).toNat) (by
      intro r y0 y1 y2 m' ⟨e0, hy, e1, em⟩ ih
      subst e0 em
      unfold yl345_4
      rw [hQ, if_pos o1]
      by_cases h : y2 < xR m' Q 4
      · rw [if_pos h, r5, l4, if_pos ⟨hy.1, by omega⟩, if_pos x4, r2, l2, if_pos ⟨p0, p1⟩, if_pos x2, w32_id (by omega) (by omega)]
        have st : gix (xR m' (Q + 4)) (xR m' (Q + 2) y0) (y2 + 1).toNat = if xR m' (Q + 4) y2 = xR m' (Q + 2) y0 then y2 else y1 := by
          rw [show (y2 + 1).toNat = y2.toNat + 1 by omega, e1]
          show (if xR m' (Q + 4) ((y2.toNat : Nat) : Int) = xR m' (Q + 2) y0 then ((y2.toNat : Nat) : Int) else _) = _
          rw [Int.toNat_of_nonneg hy.1]
        by_cases hg : xR m' (Q + 4) y2 = xR m' (Q + 2) y0
        · rw [if_pos hg]
          rw [if_pos hg] at st
          exact ih _ _ _ _ ⟨rfl, ⟨by omega, by omega⟩, st.symm, rfl⟩ (by omega)
        · rw [if_neg hg]
          rw [if_neg hg] at st
          exact ih _ _ _ _ ⟨rfl, ⟨by omega, by omega⟩, st.symm, rfl⟩ (by omega)
      · rw [if_neg h, xH_ret]
        refine ⟨?_, rfl⟩
        unfold rgi
        rw [e1, show y2 = xR m' Q 4 by omega]) N p (-1) 0 m ⟨rfl, ⟨Int.le_refl _, g0.1⟩, rfl, rfl⟩ (by omega))
    obtain ⟨v, m', e, rfl, rfl⟩ := this
    exact e
  exact gen 1000000 (by decide)
/-- isTogether -/
theorem toget_ok {Q p r : Int} (hQ : m 536 22 = Q) (q0 : Q = 544 ∨ Q = 558) (g0 : 0 ≤ xR m Q 4 ∧ xR m Q 4 ≤ 8) (p0 : 0 ≤ p) (p1 : p < 24) (r0 : 0 ≤ r ∧ r < 4000) : yf344 B r p m = some (.inl (rtk m Q r p), m) := by
  unfold yf344 rtk
  rw [if_pos r0, group_ok hQ q0 g0 p0 p1, xB_ret]
  split <;> rfl
/-- the class's cell -/
theorem cell_cl {t i p : Int} (t0 : t = 420 ∨ t = 464) (p0 : 0 ≤ p) (p1 : p < 24) (i0 : 0 ≤ i) (i1 : i < 4000) (x0 : 0 ≤ xR m (t + 37) i ∧ xR m (t + 37) i < 4000) : yf229 B t i p m = some (.inl (xJ m (t + 13 + p) (xR m (t + 37) i)), m) ∧ yf232 B t i p m = some (.inl (if xw_iandf (xw_ishrf (xR m (t + 40) (xR m (t + 37) i)) p) 1 = 0 then 0 else 1), m) := by
  have rw0 : rwo (t + 1) 24 4000 := by rcases t0 with rfl | rfl; exact Or.inr (Or.inr (Or.inl ⟨rfl, rfl, rfl⟩)); exact Or.inr (Or.inr (Or.inr ⟨rfl, rfl, rfl⟩))
  have a := rw_a B rw0 p0 p1
  have r0 : xw_obb 9 t = true ∧ xw_rf t 0 = t + 1 ∧ xw_obb 8 (t + 1) = true ∧ xw_rf (t + 1) 1 = t + 12 ∧ xw_rf (t + 1) 2 = t + 37 ∧ xw_obb 21 (t + 12) = true ∧ xw_obb 16 (t + 37) = true ∧ xw_rf t 2 = t + 40 ∧ xw_obb 16 (t + 40) = true := by rcases t0 with rfl | rfl <;> decide +kernel
  have l0 : xw_le B (t + 12) = 24 ∧ xw_le B (t + 37) = 4000 ∧ xw_le B (t + 40) = 4000 := by
    rw [le_B B (a := t + 12) (by omega) (by omega) (by omega), le_B B (a := t + 37) (by omega) (by omega) (by omega), le_B B (a := t + 40) (by omega) (by omega) (by omega)]
    rcases t0 with rfl | rfl <;> decide +kernel
  rw [show t + 1 + 11 = t + 12 by omega, show t + 1 + 12 + p = t + 13 + p by omega] at a
  obtain ⟨r1, r2, r3, r4, r5, r6, r7, r8, r9⟩ := r0
  refine ⟨?_, ?_⟩
  · unfold yf229
    rw [if_pos r1, r2, if_pos r3, r4, r5, l0.1, if_pos ⟨p0, p1⟩, if_pos a.1, if_pos r6, l0.2.1, if_pos ⟨i0, i1⟩, if_pos r7, a.2.1, a.2.2.2, if_pos x0, if_pos a.2.2.1]
  · unfold yf232
    rw [if_pos r1, r2, if_pos r3, r5, l0.2.1, if_pos ⟨i0, i1⟩, if_pos r7, r8, l0.2.2, if_pos x0, if_pos r9]
    split <;> rfl
/-- is there such a cell: either side -/
theorem there_cl {i p : Int} (pt : ptr m) (a : ans m) : yf228 B (m 0 12) i p m = some (.inl (if xR m 536 24 ≠ 0 ∧ (0 ≤ i ∧ i < xR m 536 65) ∧ 0 ≤ p ∧ p < xR m (m 536 22) 0 then 1 else 0), m) := by
  obtain ⟨o, t0⟩ := ans_ob pt
  obtain ⟨a1, a2, a3⟩ := a
  have r0 : xw_rf (m 0 12) 0 = m 0 12 + 1 ∧ xw_obb 8 (m 0 12 + 1) = true := by rcases t0 with q | q <;> rw [q] <;> decide
  unfold yf228
  rw [if_pos o, r0.1, if_pos r0.2]
  by_cases h7 : xR m (m 0 12) 7 = 0
  · rw [if_pos h7, if_neg (fun q => q.1 (a1.mp h7))]
  · have h24 : xR m 536 24 ≠ 0 := fun q => h7 (a1.mpr q)
    obtain ⟨b1, b2, b3, b4, b5⟩ := a3 h24
    rw [if_neg h7, b1.2, b3.2]
    by_cases c1 : i < 0
    · rw [if_pos c1, if_neg (by omega)]
    · rw [if_neg c1]
      by_cases c2 : i < xR m 536 65
      · rw [if_pos c2]
        by_cases c3 : p < 0
        · rw [if_pos c3, if_neg (by omega)]
        · rw [if_neg c3]
          by_cases c4 : p < xR m (m 536 22) 0
          · rw [if_pos c4, if_pos ⟨h24, by omega, by omega, c4⟩]
          · rw [if_neg c4, if_neg (by omega)]
      · rw [if_neg c2, if_neg (by omega)]
theorem there_rf {i p : Int} (pt : ptr m) : yf343 B i p m = some (.inl (if xR m 536 24 ≠ 0 ∧ (0 ≤ i ∧ i < xR m 536 65) ∧ 0 ≤ p ∧ p < xR m (m 536 22) 0 then 1 else 0), m) := by
  have q0 : m 536 22 = 544 ∨ m 536 22 = 558 := by rcases pt.2.2.1 with q | q <;> omega
  have o1 := (q_f B q0).1
  unfold yf343
  rw [if_pos o1]
  by_cases h7 : xR m 536 24 = 0
  · rw [if_pos h7, if_neg (fun q => q.1 h7)]
  · rw [if_neg h7]
    by_cases c1 : i < 0
    · rw [if_pos c1, if_neg (by omega)]
    · rw [if_neg c1]
      by_cases c2 : i < xR m 536 65
      · rw [if_pos c2]
        by_cases c3 : p < 0
        · rw [if_pos c3, if_neg (by omega)]
        · rw [if_neg c3]
          by_cases c4 : p < xR m (m 536 22) 0
          · rw [if_pos c4, if_pos ⟨h7, by omega, by omega, c4⟩]
          · rw [if_neg c4, if_neg (by omega)]
      · rw [if_neg c2, if_neg (by omega)]
end CEL
