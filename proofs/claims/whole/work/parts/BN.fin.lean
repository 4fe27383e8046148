/-! THE ANSWER, by the class: an item of a row is finished (finishItem): sums, counts, least and greatest -/
section FIN
variable {B : Nat} {m : xw_M} {t r i : Int}
/-- the bit of a blank -/
def blk (m : xw_M) (t r i : Int) : xw_M := xw_u m (t + 40) r (xw_iorf (xR m (t + 40) r) (xw_ishlf 1 i))
theorem fin_mm (h : t = 420 ∨ t = 464) (r0 : 0 ≤ r) (r1 : r < 4000) (i0 : 0 ≤ i) (i1 : i < 24) (hk : xR m 224 i = 212 ∨ xR m 224 i = 213) : yf129 B t r i m = some (.inl 0, if xJ m (t + 39) r = 0 then blk m t r i else m) := by
  obtain ⟨o, ⟨_, f1, f2, _⟩, ⟨_, o1, o2, _⟩, ⟨l1, l2, _⟩, _⟩ := an_f B h
  have e : yk129_196 B t r i m = some (.inl 0, if xJ m (t + 39) r = 0 then blk m t r i else m) := by
    unfold yk129_196 blk
    have rb : 0 ≤ r ∧ r < 4000 := ⟨r0, r1⟩
    rw [f1, f2, if_pos o, l1, if_pos rb, if_pos o1]
    by_cases z : xJ m (t + 39) r = 0
    · rw [if_pos z, if_pos z, l2, if_pos rb, if_pos o2]
    · rw [if_neg z, if_neg z]
  unfold yf129
  rw [if_pos ⟨i0, i1⟩, e]
  clear o f1 f2 o1 o2 l1 l2 e
  rcases hk with hk | hk
  · rw [hk, if_neg (by decide), if_neg (by decide), if_pos rfl]
  · rw [hk, if_neg (by decide), if_neg (by decide), if_neg (by decide), if_pos rfl]
theorem fin_sc (i0 : 0 ≤ i) (i1 : i < 24) (hk : xR m 224 i = 210 ∨ xR m 224 i = 211) : yf129 B t r i m = some (.inl 0, m) := by
  unfold yf129
  rw [if_pos ⟨i0, i1⟩]
  rcases hk with hk | hk
  · rw [hk, if_neg (by decide), if_neg (by decide), if_neg (by decide), if_neg (by decide)]
  · rw [hk, if_neg (by decide), if_neg (by decide), if_neg (by decide), if_neg (by decide)]
end FIN
