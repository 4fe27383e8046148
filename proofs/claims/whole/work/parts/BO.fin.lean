/-! THE ANSWER, by the class: an item of a row is finished (finishItem): columns and grouping -/
section FIO
variable {B : Nat} {m : xw_M} {t r i g : Int}
/-- whether a row is about all of a group -/
theorem fin_209 (h : t = 420 ∨ t = 464) (r0 : 0 ≤ r) (r1 : r < 4000) (i0 : 0 ≤ i) (i1 : i < 24) (hk : xR m 224 i = 209) (hg : xR m 225 i = g) (g0 : 0 ≤ g) (g1 : g < 8) : yf129 B t r i m = some (.inl 0, xw_u m (t + 13 + i) r (if xR m (t + 4 + g) r = xR m (t + 43) g then 1 else 0)) := by
  obtain ⟨o, ⟨f0, _, _, _, _, f5⟩, ⟨o8, _, _, _, _, o5⟩, ⟨_, _, _, _, l5⟩, ⟨p0, p1, _⟩, ⟨q0, q1⟩, ⟨s0, s1⟩⟩ := an_f B h
  obtain ⟨u1, u2, u3, u4⟩ := an_g B h g0 g1
  obtain ⟨w1, w2, w3, w4⟩ := an_i B h i0 i1
  have gb : 0 ≤ g ∧ g < 8 := ⟨g0, g1⟩
  have rb : 0 ≤ r ∧ r < 4000 := ⟨r0, r1⟩
  have ib : 0 ≤ i ∧ i < 24 := ⟨i0, i1⟩
  unfold yf129
  rw [if_pos ib, hk, if_neg (by decide), if_pos rfl, hg]
  unfold yk129_30
  rw [f0, f5, p0, p1, if_pos o, if_pos o8, s0, if_pos gb, if_pos u1, if_pos q0, u2, u4, if_pos rb, if_pos u3, l5, if_pos gb, if_pos o5]
  by_cases z : xR m (t + 4 + g) r = xR m (t + 43) g
  · rw [if_pos z, if_pos z, if_pos rfl, s1, if_pos ib, if_pos w1, if_pos q1, w2, w4, if_pos rb, if_pos w3]
  · rw [if_neg z, if_neg z, if_pos rfl, s1, if_pos ib, if_pos w1, if_pos q1, w2, w4, if_pos rb, if_pos w3]
end FIO
