/-! THE ANSWER, by the class: the items of a row are finished, all of them -/
section FIS
variable {B : Nat} {t r it : Int}
/-- what finishing rows changes -/
def fFr (t r : Int) (m m' : xw_M) : Prop := (∀ a, ¬ (t + 13 ≤ a ∧ a ≤ t + 36) → a ≠ t + 40 → m' a = m a) ∧ ∀ a j, j ≠ r → m' a j = m a j
/-- an item can be finished -/
def FOK (m : xw_M) (t r i : Int) : Prop := (xR m 224 i = 1 ∨ (209 ≤ xR m 224 i ∧ xR m 224 i ≤ 213)) ∧ ((xR m 224 i = 1 ∨ xR m 224 i = 209) → (0 ≤ xR m 225 i ∧ xR m 225 i < 8) ∧ ∃ d l, xR m 227 (xR m 225 i) = 4 * d + l ∧ (0 ≤ d ∧ d < 8) ∧ (0 ≤ l ∧ l < 4) ∧ (xR m (t + 4 + xR m 225 i) r ≠ xR m (t + 43) (xR m 225 i) → (0 ≤ xR m (t + 4 + xR m 225 i) r ∧ xR m (t + 4 + xR m 225 i) r < 1000) ∧ 0 ≤ xR m (15 + 26 * d + 19 + l) (xR m (t + 4 + xR m 225 i) r) ∧ xR m (15 + 26 * d + 19 + l) (xR m (t + 4 + xR m 225 i) r) < 1000))
theorem FOK_fr {m m' : xw_M} {i : Int} (h : t = 420 ∨ t = 464) (f : fFr t r m m') (F : FOK m t r i) : FOK m' t r i := by
  have e4 := xR_cg (f.1 224 (by omega) (by omega))
  have e5 := xR_cg (f.1 225 (by omega) (by omega))
  have e7 := xR_cg (f.1 227 (by omega) (by omega))
  have e43 := xR_cg (f.1 (t + 43) (by omega) (by omega))
  unfold FOK
  rw [e4, e5, e7, e43]
  refine ⟨F.1, fun k => ?_⟩
  obtain ⟨g, d, l, a1, a2, a3, a4⟩ := F.2 k
  refine ⟨g, d, l, a1, a2, a3, ?_⟩
  rw [xR_cg (f.1 (t + 4 + xR m 225 i) (by omega) (by omega)), xR_cg (f.1 (15 + 26 * d + 19 + l) (by omega) (by omega))]
  exact a4
end FIS
