/-! THE ANSWER, by the class: one item of a row, in one picture -/
section FIR
variable {B : Nat} {m : xw_M} {t r i : Int}
def fFi (t r i : Int) (m m' : xw_M) : Prop := (∀ a, a ≠ t + 13 + i → a ≠ t + 40 → m' a = m a) ∧ ∀ a j, j ≠ r → m' a j = m a j
theorem fin_item (h : t = 420 ∨ t = 464) (r0 : 0 ≤ r) (r1 : r < 4000) (i0 : 0 ≤ i) (i1 : i < 24) (hk : xR m 224 i = 1 ∨ (209 ≤ xR m 224 i ∧ xR m 224 i ≤ 213)) (hg : (xR m 224 i = 1 ∨ xR m 224 i = 209) → (0 ≤ xR m 225 i ∧ xR m 225 i < 8) ∧ ∃ d l, xR m 227 (xR m 225 i) = 4 * d + l ∧ (0 ≤ d ∧ d < 8) ∧ (0 ≤ l ∧ l < 4) ∧ (xR m (t + 4 + xR m 225 i) r ≠ xR m (t + 43) (xR m 225 i) → (0 ≤ xR m (t + 4 + xR m 225 i) r ∧ xR m (t + 4 + xR m 225 i) r < 1000) ∧ 0 ≤ xR m (15 + 26 * d + 19 + l) (xR m (t + 4 + xR m 225 i) r) ∧ xR m (15 + 26 * d + 19 + l) (xR m (t + 4 + xR m 225 i) r) < 1000)) : ∃ m', yf129 B t r i m = some (.inl 0, m') ∧ fFi t r i m m' ∧ xJ m' (t + 13 + i) r = fvl m t r i ∧ xR m' (t + 40) r = if fbl m t r i = true then xw_iorf (xR m (t + 40) r) (xw_ishlf 1 i) else xR m (t + 40) r := by
  have ufr : ∀ c v, (c = t + 13 + i ∨ c = t + 40) → fFi t r i m (xw_u m c r v) := fun c v hc => ⟨fun a a1 a2 => by funext j; exact if_neg (fun z => by omega), fun a j hj => if_neg (fun z => hj z.2)⟩
  have bj : xJ (blk m t r i) (t + 13 + i) r = xJ m (t + 13 + i) r := by unfold blk xJ xw_u; rw [if_neg (by omega)]
  have bb : xR (blk m t r i) (t + 40) r = xw_iorf (xR m (t + 40) r) (xw_ishlf 1 i) := by unfold blk; rw [xR_u, if_pos ⟨rfl, rfl⟩, ior_w]
  have ub : ∀ v, xR (xw_u m (t + 13 + i) r v) (t + 40) r = xR m (t + 40) r := fun v => by rw [xR_u, if_neg (by omega)]
  have uj : ∀ v, w64 v = v → xJ (xw_u m (t + 13 + i) r v) (t + 13 + i) r = v := fun v hv => by unfold xJ xw_u; rw [if_pos ⟨rfl, rfl⟩, hv]
  by_cases k1 : xR m 224 i = 1
  · obtain ⟨g, d, l, e1, e2, e3, e4⟩ := hg (Or.inl k1)
    have y := fin_1 (B := B) h r0 r1 i0 i1 k1 rfl g.1 g.2 e1 e2.1 e2.2 e3.1 e3.2 e4
    have dv : (4 * d + l) / 4 = d := by omega
    have md : (4 * d + l) % 4 = l := by omega
    by_cases z : xR m (t + 4 + xR m 225 i) r = xR m (t + 43) (xR m 225 i)
    · rw [if_pos z] at y
      refine ⟨_, y, ufr _ _ (Or.inr rfl), ?_, ?_⟩
      · rw [bj]; unfold fvl; rw [if_neg (by omega), if_neg (fun q => q.2 z)]
      · rw [bb, if_pos (by unfold fbl; exact decide_eq_true (Or.inl ⟨k1, z⟩))]
    · rw [if_neg z] at y
      refine ⟨_, y, ufr _ _ (Or.inl rfl), ?_, ?_⟩
      · rw [uj _ (w64_xR _ _ _)]; unfold fvl; rw [if_neg (by omega), if_pos ⟨k1, z⟩, e1, dv, md]
      · rw [ub, if_neg (by unfold fbl; intro q; have := of_decide_eq_true q; omega)]
  · by_cases k2 : xR m 224 i = 209
    · obtain ⟨g, _⟩ := hg (Or.inr k2)
      have y := fin_209 (B := B) h r0 r1 i0 i1 k2 rfl g.1 g.2
      refine ⟨_, y, ufr _ _ (Or.inl rfl), ?_, ?_⟩
      · rw [uj _ (by split <;> decide)]; unfold fvl; rw [if_pos k2]
      · rw [ub, if_neg (by unfold fbl; intro q; have := of_decide_eq_true q; omega)]
    · have fv : fvl m t r i = xJ m (t + 13 + i) r := by unfold fvl; rw [if_neg k2, if_neg (fun q => k1 q.1)]
      rw [fv]
      by_cases k3 : xR m 224 i = 212 ∨ xR m 224 i = 213
      · have y := fin_mm (B := B) h r0 r1 i0 i1 k3
        by_cases z : xJ m (t + 39) r = 0
        · rw [if_pos z] at y
          exact ⟨_, y, ufr _ _ (Or.inr rfl), bj, by rw [bb, if_pos (by unfold fbl; exact decide_eq_true (Or.inr ⟨k3, z⟩))]⟩
        · rw [if_neg z] at y
          exact ⟨_, y, ⟨fun _ _ _ => rfl, fun _ _ _ => rfl⟩, rfl, by rw [if_neg (by unfold fbl; intro q; have := of_decide_eq_true q; omega)]⟩
      · have k4 : xR m 224 i = 210 ∨ xR m 224 i = 211 := by clear hg; omega
        have y := fin_sc (B := B) (m := m) (t := t) (r := r) i0 i1 k4
        exact ⟨_, y, ⟨fun _ _ _ => rfl, fun _ _ _ => rfl⟩, rfl, by rw [if_neg (by unfold fbl; intro q; have := of_decide_eq_true q; omega)]⟩
end FIR
