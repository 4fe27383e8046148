/-! THE ANSWER, by the class: the items of a row are finished: what was not touched says the same -/
section FIT
variable {t r : Int}
theorem ffl_fr {m m' : xw_M} {i : Int} (h : t = 420 ∨ t = 464) (f : fFr t r m m') (F : FOK m t r i) (e : m' (t + 13 + i) r = m (t + 13 + i) r) : fvl m' t r i = fvl m t r i ∧ fbl m' t r i = fbl m t r i := by
  have e4 := xR_cg (f.1 224 (by omega) (by omega))
  have e5 := xR_cg (f.1 225 (by omega) (by omega))
  have e7 := xR_cg (f.1 227 (by omega) (by omega))
  have e43 := xR_cg (f.1 (t + 43) (by omega) (by omega))
  have ej : xJ m' (t + 13 + i) r = xJ m (t + 13 + i) r := by unfold xJ; rw [e]
  have e39 : xJ m' (t + 39) r = xJ m (t + 39) r := by unfold xJ; rw [f.1 (t + 39) (by omega) (by omega)]
  unfold fvl fbl
  rw [e4, e5, e7, e43, ej, e39]
  by_cases k : xR m 224 i = 1 ∨ xR m 224 i = 209
  · obtain ⟨g, d, l, a1, a2, a3, _⟩ := F.2 k
    have dv : (4 * d + l) / 4 = d := by omega
    have md : (4 * d + l) % 4 = l := by omega
    rw [a1, dv, md, xR_cg (f.1 (t + 4 + xR m 225 i) (by omega) (by omega)), xR_cg (f.1 (15 + 26 * d + 19 + l) (by omega) (by omega)), xR_cg (f.1 (15 + 26 * d + 9 + l) (by omega) (by omega))]
    exact ⟨rfl, rfl⟩
  · have k1 : ¬ xR m 224 i = 1 := fun z => k (Or.inl z)
    have k2 : ¬ xR m 224 i = 209 := fun z => k (Or.inr z)
    refine ⟨?_, ?_⟩
    · rw [if_neg k2, if_neg k2, if_neg (fun z => k1 z.1), if_neg (fun z => k1 z.1)]
    · exact decide_eq_decide.mpr ⟨fun z => z.elim (fun y => absurd y.1 k1) Or.inr, fun z => z.elim (fun y => absurd y.1 k1) Or.inr⟩
end FIT
