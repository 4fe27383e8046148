/-! THE ANSWER, by the class: an item of a row is finished (finishItem): a column's value -/
section FIP
variable {B : Nat} {m : xw_M} {t r i g d l : Int}
theorem fin_1 (h : t = 420 ∨ t = 464) (r0 : 0 ≤ r) (r1 : r < 4000) (i0 : 0 ≤ i) (i1 : i < 24) (hk : xR m 224 i = 1) (hg : xR m 225 i = g) (g0 : 0 ≤ g) (g1 : g < 8) (hc : xR m 227 g = 4 * d + l) (d0 : 0 ≤ d) (d1 : d < 8) (l0 : 0 ≤ l) (l1 : l < 4) (hr : xR m (t + 4 + g) r ≠ xR m (t + 43) g → (0 ≤ xR m (t + 4 + g) r ∧ xR m (t + 4 + g) r < 1000) ∧ 0 ≤ xR m (15 + 26 * d + 19 + l) (xR m (t + 4 + g) r) ∧ xR m (15 + 26 * d + 19 + l) (xR m (t + 4 + g) r) < 1000) : yf129 B t r i m = some (.inl 0, if xR m (t + 4 + g) r = xR m (t + 43) g then blk m t r i else xw_u m (t + 13 + i) r (xR m (15 + 26 * d + 9 + l) (xR m (15 + 26 * d + 19 + l) (xR m (t + 4 + g) r)))) := by
  have dv : (4 * d + l) / 4 = d := by omega
  have md : (4 * d + l) % 4 = l := by omega
  have nn : 0 ≤ 4 * d + l := by omega
  have db : 0 ≤ d ∧ d < 8 := ⟨d0, d1⟩
  have lb : 0 ≤ l ∧ l < 4 := ⟨l0, l1⟩
  obtain ⟨o, ⟨f0, _, f2, _, _, f5⟩, ⟨o8, _, o2, _, _, o5⟩, ⟨_, l2, _, _, l5⟩, ⟨p0, p1, _⟩, ⟨q0, q1⟩, ⟨s0, s1⟩⟩ := an_f B h
  obtain ⟨u1, u2, u3, u4⟩ := an_g B h g0 g1
  obtain ⟨w1, w2, w3, w4⟩ := an_i B h i0 i1
  obtain ⟨x0, ⟨_, _, _, x3, _, x5, _⟩, ⟨_, _, _, y3, _, y5, _⟩, ⟨_, _, _, z3, _, z5, _⟩⟩ := dm_f B d0 d1
  obtain ⟨⟨a1, a2, a3, a4⟩, _, ⟨b1, b2, b3, b4⟩, _⟩ := dm_l B d0 d1 l0 l1
  have gb : 0 ≤ g ∧ g < 8 := ⟨g0, g1⟩
  have rb : 0 ≤ r ∧ r < 4000 := ⟨r0, r1⟩
  have ib : 0 ≤ i ∧ i < 24 := ⟨i0, i1⟩
  unfold yf129
  rw [if_pos ib, hk, if_pos rfl, hg]
  unfold yk129_30
  rw [f0, f5, p0, p1, if_pos o, if_pos o8, s0, if_pos gb, if_pos u1, if_pos q0, u2, u4, if_pos rb, if_pos u3, l5, if_pos gb, if_pos o5]
  by_cases z : xR m (t + 4 + g) r = xR m (t + 43) g
  · rw [if_pos z, if_pos z, if_neg (by decide), f2, l2, if_pos rb, if_pos o2]
    rfl
  · obtain ⟨c1, c2⟩ := hr z
    rw [if_neg z, if_neg z, if_neg (by decide), hc, if_pos nn, dv, md, x3, x5, z3, z5, a2, b2, a4, b4, s1, w2, w4, if_pos gb, if_pos db, if_pos ib, if_pos w1, if_pos q1, if_pos x0, if_pos lb, if_pos a1, if_pos y3, if_pos lb, if_pos b1, if_pos y5, if_pos c1, if_pos b3, if_pos c2, if_pos a3, if_pos rb, if_pos w3]
end FIP
