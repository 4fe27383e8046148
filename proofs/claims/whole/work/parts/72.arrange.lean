/-! A DIMENSION IS ARRANGED (arrange), by the class: members by their values at level 0, then ranks -/
section ARR
variable {B : Nat} {m : xw_M} {d L n : Int}
/-- what an arranged dimension is, of a memory m: L levels, n members -/
def arrd (m : xw_M) (d L n : Int) : Prop := ∀ l, 0 ≤ l → l < L → ∃ K, xR m (15 + 26 * d + 23) l = K ∧ (∀ k, 0 ≤ k → k < K → 0 ≤ xR m (15 + 26 * d + 19 + l) k ∧ xR m (15 + 26 * d + 19 + l) k < n) ∧ RK (xR m (15 + 26 * d + 9 + l)) n K (fun k => xR m (15 + 26 * d + 9 + l) (xR m (15 + 26 * d + 19 + l) k)) (xR m (15 + 26 * d + 14 + l))
theorem arr_ok (hd : 0 ≤ d ∧ d < 8) (hL : 0 ≤ L ∧ L ≤ 4) (hn : 0 ≤ n ∧ n ≤ 1000) (h10 : xR m (15 + 26 * d) 10 = L) (h11 : xR m (15 + 26 * d) 11 = n) : ∃ m' o, yf27 B (15 + 26 * d) m = some (.inl 0, m') ∧ (∀ a, a < 15 + 26 * d + 9 ∨ 15 + 26 * d + 25 < a → m' a = m a) ∧ vsrt (xR m (15 + 26 * d + 9)) o n ∧ (∀ l i, 0 ≤ l → l < L → 0 ≤ i → i < n → xR m' (15 + 26 * d + 9 + l) i = xR m (15 + 26 * d + 9 + l) (o i)) ∧ arrd m' d L n := by
  obtain ⟨g1, ⟨_, _, _, v1, _, _, _, v5, v6⟩, ⟨_, _, _, c1, _, _, _, c5, c6⟩, ⟨_, _, _, w1, _, _, _, w5, w6⟩⟩ := dm_f B hd.1 hd.2
  obtain ⟨⟨z1, z2, z3, z4⟩, _⟩ := dm_l B hd.1 hd.2 (l := 0) (by decide) (by decide)
  rw [Int.add_zero] at z2 z3 z4
  obtain ⟨m1, e1, S1, F1⟩ := isort_ok (B := B) (p := 15 + 26 * d + 9) hd hn h11 z3 z4 (by omega)
  unfold yf27
  rw [if_pos g1, v1, w1, if_pos ⟨by decide, by decide⟩, if_pos z1, if_pos c1, z2, e1, xB_ret]
  generalize ho : xR m1 (15 + 26 * d + 24) = o at *
  generalize ha : 15 + 26 * d = a at *
  have ho1 := S1.1.1
  have goal := xH_ex (Q := fun v m' => v = 0 ∧ (∀ b, b < a + 9 ∨ a + 25 < b → m' b = m b) ∧ (∀ l i, 0 ≤ l → l < L → 0 ≤ i → i < n → xR m' (a + 9 + l) i = xR m (a + 9 + l) (o i)) ∧ ∀ l, 0 ≤ l → l < L → ∃ K, xR m' (a + 23) l = K ∧ (∀ k, 0 ≤ k → k < K → 0 ≤ xR m' (a + 19 + l) k ∧ xR m' (a + 19 + l) k < n) ∧ RK (xR m' (a + 9 + l)) n K (fun k => xR m' (a + 9 + l) (xR m' (a + 19 + l) k)) (xR m' (a + 14 + l))) (xl2_rule (F := yl27_12 B) (fun x0 x1 m' => x0 = a ∧ 0 ≤ x1 ∧ x1 ≤ L ∧ (∀ b, b < a + 9 ∨ a + 25 < b → m' b = m b) ∧ xR m' (a + 24) = o ∧ (∀ l, x1 ≤ l → l < L → m' (a + 9 + l) = m (a + 9 + l)) ∧ ∀ l i, 0 ≤ l → l < x1 → 0 ≤ i → i < n → xR m' (a + 9 + l) i = xR m (a + 9 + l) (o i)) (fun _ x1 _ => (L - x1).toNat) ?_ 1000000 a 0 m1 ⟨rfl, by omega, by omega, fun b hb => F1 b (by omega), ho, fun l l0 l1 => F1 _ (by omega), fun l i l0 l1 => by omega⟩ (by omega))
  · obtain ⟨v, m', e, rfl, h1, h2, h3⟩ := goal
    refine ⟨m', o, e, h1, S1, h2, ?_⟩
    unfold arrd
    rw [ha]
    exact h3
  · intro r x0 x1 m2 ⟨a0, a1, a2, F2, O2, U2, V2⟩ ih
    subst a0
    have q10 : xR m2 x0 10 = L := by rw [xR_cg (F2 x0 (by omega))]; exact h10
    unfold yl27_12
    rw [if_pos g1, q10]
    by_cases hx : x1 < L
    · rw [if_pos hx]
      obtain ⟨⟨k1, k2, k3, k4⟩, _⟩ := dm_l B hd.1 hd.2 (l := x1) a1 (by omega)
      rw [ha] at k1 k2 k3 k4
      refine xl3_rule (F := yl27_22 B r) (fun y0 y1 y2 m' => y0 = x0 ∧ y1 = x1 ∧ 0 ≤ y2 ∧ y2 ≤ n ∧ (∀ b, b ≠ x0 + 25 → m' b = m2 b) ∧ ∀ i, 0 ≤ i → i < y2 → xR m' (x0 + 25) i = xR m (x0 + 9 + x1) (o i)) (fun _ _ y2 _ => (n - y2).toNat) ?_ 1000000 x0 x1 0 m2 ⟨rfl, rfl, by omega, by omega, fun _ _ => rfl, fun i i0 i1 => by omega⟩ (by omega)
      intro r' y0 y1 y2 m3 ⟨b0, b1, b2, b3, F3, V3⟩ ih'
      subst b0 b1
      have q11 : xR m3 y0 11 = n := by rw [xR_cg (F3 y0 (by omega)), xR_cg (F2 y0 (by omega))]; exact h11
      have ro : xR m3 (y0 + 24) = o := by rw [xR_cg (F3 (y0 + 24) (by omega))]; exact O2
      have rV : xR m3 (y0 + 9 + y1) = xR m (y0 + 9 + y1) := by rw [xR_cg (F3 (y0 + 9 + y1) (by omega)), xR_cg (U2 y1 (Int.le_refl _) hx)]
      unfold yl27_22
      rw [if_pos g1, q11, v1, w1, v5, w5, v6, w6]
      by_cases hy : y2 < n
      · have hoy := ho1 y2 b2 hy
        rw [if_pos hy, if_pos ⟨a1, by omega⟩, if_pos k1, if_pos c1, if_pos ⟨b2, by omega⟩, if_pos c5, ro, k2, k4, if_pos ⟨hoy.1, by omega⟩, if_pos k3, if_pos ⟨b2, by omega⟩, if_pos c6, rV, w32_id (by omega) (by omega)]
        refine ih' _ _ _ _ ⟨rfl, rfl, by omega, by omega, fun b hb => by rw [xu_c hb]; exact F3 b hb, fun i i0 i1 => ?_⟩ (by omega)
        rw [xR_u]
        by_cases e : i = y2
        · rw [if_pos ⟨rfl, e⟩, e, w32_xR]
        · rw [if_neg (fun h => e h.2)]
          exact V3 i i0 (by omega)
      · have ey : y2 = n := by omega
        subst ey
        rw [if_neg hy, if_pos ⟨a1, by omega⟩, if_pos k1, if_pos c1, k2, k4, if_pos ⟨by omega, by omega, by omega, by omega, by omega⟩, if_pos c6, if_pos k3, w32_id (by omega) (by omega)]
        have cp : ∀ b i, (xw_cp m3 (y0 + 25) 0 (y0 + 9 + y1) 0 y2) b i = if b = y0 + 9 + y1 ∧ 0 ≤ i ∧ i < 0 + y2 then m3 (y0 + 25) (i - 0 + 0) else m3 b i := fun b i => rfl
        have cpn : ∀ b, b ≠ y0 + 9 + y1 → (xw_cp m3 (y0 + 25) 0 (y0 + 9 + y1) 0 y2) b = m3 b := fun b hb => by
          funext i
          rw [cp, if_neg (fun e => hb e.1)]
        refine ih _ _ _ ⟨rfl, by omega, by omega, fun b hb => by rw [cpn b (by omega), F3 b (by omega)]; exact F2 b hb, by rw [xR_cg (cpn (y0 + 24) (by omega))]; exact ro, fun l l0 l1 => by rw [cpn _ (by omega), F3 _ (by omega)]; exact U2 l (by omega) l1, fun l i l0 l1 i0 i1 => ?_⟩ (by omega)
        by_cases e : l = y1
        · rw [e]
          have : xR (xw_cp m3 (y0 + 25) 0 (y0 + 9 + y1) 0 y2) (y0 + 9 + y1) i = xR m3 (y0 + 25) i := by
            unfold xR
            rw [cp, if_pos ⟨rfl, i0, by omega⟩, show i - 0 + 0 = i from by omega]
          rw [this]
          exact V3 i i0 i1
        · rw [xR_cg (cpn (y0 + 9 + l) (by omega)), xR_cg (F3 (y0 + 9 + l) (by omega))]
          exact V2 l i l0 (by omega) i0 i1
    · have ex : x1 = L := by omega
      subst ex
      rw [if_neg hx]
      -- the ranks
      refine xl2_rule (F := yl27_82 B) (fun y0 y1 m' => y0 = x0 ∧ 0 ≤ y1 ∧ y1 ≤ x1 ∧ (∀ b, b < x0 + 14 ∨ x0 + 25 < b → m' b = m2 b) ∧ ∀ l, 0 ≤ l → l < y1 → ∃ K, xR m' (x0 + 23) l = K ∧ (∀ k, 0 ≤ k → k < K → 0 ≤ xR m' (x0 + 19 + l) k ∧ xR m' (x0 + 19 + l) k < n) ∧ RK (xR m' (x0 + 9 + l)) n K (fun k => xR m' (x0 + 9 + l) (xR m' (x0 + 19 + l) k)) (xR m' (x0 + 14 + l))) (fun _ y1 _ => (x1 - y1).toNat) ?_ 1000000 x0 0 m2 ⟨rfl, by omega, by omega, fun _ _ => rfl, fun l l0 l1 => by omega⟩ (by omega)
      intro r' y0 y1 m3 ⟨b0, b1, b2, F3, V3⟩ ih'
      subst b0
      have q10' : xR m3 y0 10 = x1 := by rw [xR_cg (F3 y0 (by omega))]; exact q10
      have q11 : xR m3 y0 11 = n := by rw [xR_cg (F3 y0 (by omega)), xR_cg (F2 y0 (by omega))]; exact h11
      unfold yl27_82
      rw [if_pos g1, q10']
      by_cases hy : y1 < x1
      · obtain ⟨⟨k1, k2, k3, k4⟩, _⟩ := dm_l B hd.1 hd.2 (l := y1) b1 (by omega)
        rw [ha] at k1 k2 k3 k4
        have hod : y0 + 24 = 15 + 26 * d + 24 := by omega
        obtain ⟨m4, e4, S4, F4⟩ := isort_ok (B := B) (m := m3) (d := d) (n := n) (p := y0 + 9 + y1) hd hn (by rw [ha]; exact q11) k3 k4 (by omega)
        rw [ha] at e4 S4 F4
        have q11' : xR m4 (15 + 26 * d) 11 = n := by rw [ha, xR_cg (F4 y0 (by omega))]; exact q11
        obtain ⟨m5, K, e5, F5, G5, K5, B5, R5⟩ := rank_ok (B := B) (m := m4) (d := d) (l := y1) hd ⟨b1, by omega⟩ hn q11' (by rw [ha, xR_cg (F4 (y0 + 9 + y1) (by omega))]; exact S4)
        rw [ha] at e5 F5 G5 K5 B5 R5
        rw [if_pos hy, v1, w1, if_pos ⟨b1, by omega⟩, if_pos k1, if_pos c1, k2, e4, xB_ret, e5, xB_ret, w32_id (by omega) (by omega)]
        refine ih' _ _ _ ⟨rfl, by omega, by omega, fun b hb => by rw [F5 b (by omega) (by omega) (by omega), F4 b (by omega)]; exact F3 b hb, fun l l0 l1 => ?_⟩ (by omega)
        by_cases e : l = y1
        · subst e
          refine ⟨K, K5, B5, ?_⟩
          rw [xR_cg (F5 (y0 + 9 + l) (by omega) (by omega) (by omega))]
          exact R5
        · obtain ⟨K', h1, h2, h3⟩ := V3 l l0 (by omega)
          refine ⟨K', ?_, ?_, ?_⟩
          · unfold xR at h1 ⊢
            rw [G5 l e, F4 (y0 + 23) (by omega)]
            exact h1
          · rw [xR_cg (F5 (y0 + 19 + l) (by omega) (by omega) (by omega)), xR_cg (F4 (y0 + 19 + l) (by omega))]
            exact h2
          · rw [xR_cg (F5 (y0 + 9 + l) (by omega) (by omega) (by omega)), xR_cg (F4 (y0 + 9 + l) (by omega)), xR_cg (F5 (y0 + 19 + l) (by omega) (by omega) (by omega)), xR_cg (F4 (y0 + 19 + l) (by omega)), xR_cg (F5 (y0 + 14 + l) (by omega) (by omega) (by omega)), xR_cg (F4 (y0 + 14 + l) (by omega))]
            exact h3
      · have ey : y1 = x1 := by omega
        subst ey
        rw [if_neg hy, xH_ret]
        refine ⟨rfl, fun b hb => by rw [F3 b (by omega)]; exact F2 b hb, fun l i l0 l1 i0 i1 => by rw [xR_cg (F3 (y0 + 9 + l) (by omega))]; exact V2 l i l0 l1 i0 i1, V3⟩
end ARR
