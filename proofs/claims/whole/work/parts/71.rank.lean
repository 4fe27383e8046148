/-! RANKS of a dimension's level, by the class (rank) -/
section RANK
variable {B : Nat} {m : xw_M} {d l n : Int}
theorem rank_ok (hd : 0 ≤ d ∧ d < 8) (hl : 0 ≤ l ∧ l < 4) (hn : 0 ≤ n ∧ n ≤ 1000) (h11 : xR m (15 + 26 * d) 11 = n) (hs : vsrt (xR m (15 + 26 * d + 9 + l)) (xR m (15 + 26 * d + 24)) n) : ∃ m' K, yf29 B (15 + 26 * d) l m = some (.inl 0, m') ∧ (∀ a, a ≠ 15 + 26 * d + 14 + l → a ≠ 15 + 26 * d + 19 + l → a ≠ 15 + 26 * d + 23 → m' a = m a) ∧ (∀ k, k ≠ l → m' (15 + 26 * d + 23) k = m (15 + 26 * d + 23) k) ∧ xR m' (15 + 26 * d + 23) l = K ∧ (∀ k, 0 ≤ k → k < K → 0 ≤ xR m' (15 + 26 * d + 19 + l) k ∧ xR m' (15 + 26 * d + 19 + l) k < n) ∧ RK (xR m (15 + 26 * d + 9 + l)) n K (fun k => xR m (15 + 26 * d + 9 + l) (xR m' (15 + 26 * d + 19 + l) k)) (xR m' (15 + 26 * d + 14 + l)) := by
  obtain ⟨g1, ⟨_, _, _, v1, v2, v3, v4, v5, _⟩, ⟨_, _, _, c1, c2, c3, c4, c5, _⟩, ⟨_, _, _, w1, w2, w3, w4, w5, _⟩⟩ := dm_f B hd.1 hd.2
  obtain ⟨⟨z1, z2, z3, z4⟩, ⟨i1, i2, i3, i4⟩, ⟨u1, u2, u3, u4⟩, _⟩ := dm_l B hd.1 hd.2 hl.1 hl.2
  obtain ⟨⟨o1, o2⟩, o3⟩ := hs
  unfold yf29
  rw [if_pos g1, v1, w1, if_pos ⟨hl.1, by omega⟩, if_pos z1, if_pos c1, z2]
  generalize hV : xR m (15 + 26 * d + 9 + l) = V at *
  generalize ho : xR m (15 + 26 * d + 24) = o at *
  generalize ha : 15 + 26 * d = a at *
  -- what holds when i members are ranked, last the greatest rank
  have goal := xH_ex (Q := fun v m' => v = 0 ∧ ∃ K, (∀ b, b ≠ a + 14 + l → b ≠ a + 19 + l → b ≠ a + 23 → m' b = m b) ∧ (∀ k, k ≠ l → m' (a + 23) k = m (a + 23) k) ∧ xR m' (a + 23) l = K ∧ (∀ k, 0 ≤ k → k < K → 0 ≤ xR m' (a + 19 + l) k ∧ xR m' (a + 19 + l) k < n) ∧ RK V n K (fun k => V (xR m' (a + 19 + l) k)) (xR m' (a + 14 + l))) (xl5_rule (F := yl29_12 B) (fun x0 x1 x2 x3 x4 m' => x0 = a ∧ x1 = l ∧ x2 = a + 9 + l ∧ -1 ≤ x3 ∧ x3 < x4 ∧ 0 ≤ x4 ∧ x4 ≤ n ∧ (∀ b, b ≠ a + 14 + l → b ≠ a + 19 + l → m' b = m b) ∧ (∀ k, 0 ≤ k → k ≤ x3 → ∃ q, (0 ≤ q ∧ q < x4) ∧ xR m' (a + 19 + l) k = o q) ∧ (∀ k k', 0 ≤ k → k < k' → k' ≤ x3 → V (xR m' (a + 19 + l) k) < V (xR m' (a + 19 + l) k')) ∧ (∀ q, 0 ≤ q → q < x4 → (0 ≤ xR m' (a + 14 + l) (o q) ∧ xR m' (a + 14 + l) (o q) ≤ x3) ∧ V (xR m' (a + 19 + l) (xR m' (a + 14 + l) (o q))) = V (o q)) ∧ (0 < x4 → 0 ≤ x3 ∧ V (xR m' (a + 19 + l) x3) = V (o (x4 - 1)))) (fun _ _ _ _ x4 _ => (n - x4).toNat) ?_ 1000000 a l (a + 9 + l) (-1) 0 m ⟨rfl, rfl, rfl, by omega, by omega, by omega, by omega, fun _ _ _ => rfl, fun k k0 k1 => by omega, fun k k' k0 k1 k2 => by omega, fun q q0 q1 => by omega, fun h => by omega⟩ (by omega))
  · obtain ⟨v, m', e, rfl, K, h⟩ := goal
    exact ⟨m', K, e, h⟩
  · intro r x0 x1 x2 x3 x4 m1 ⟨a0, a1, a2, a3, a4, a5, a6, F, E1, E2, E3, E4⟩ ih
    subst a0 a1 a2
    have q11 : xR m1 x0 11 = n := by rw [xR_cg (F x0 (by omega) (by omega))]; exact h11
    have ro : xR m1 (x0 + 24) = o := by rw [xR_cg (F (x0 + 24) (by omega) (by omega))]; exact ho
    have rV : xR m1 (x0 + 9 + x1) = V := by rw [xR_cg (F (x0 + 9 + x1) (by omega) (by omega))]; exact hV
    unfold yl29_12
    rw [if_pos g1, q11, v5, w5, v4, w4]
    by_cases hx : x4 < n
    · have hox := o1 x4 a5 hx
      -- a rank for the member
      have rest : ∀ m2 y3, -1 ≤ y3 → y3 < x4 + 1 → 0 ≤ y3 → (∀ b, b ≠ x0 + 14 + x1 → b ≠ x0 + 19 + x1 → m2 b = m b) → m2 (x0 + 14 + x1) = m1 (x0 + 14 + x1) → (∀ k, 0 ≤ k → k ≤ y3 → ∃ q, (0 ≤ q ∧ q < x4 + 1) ∧ xR m2 (x0 + 19 + x1) k = o q) → (∀ k k', 0 ≤ k → k < k' → k' ≤ y3 → V (xR m2 (x0 + 19 + x1) k) < V (xR m2 (x0 + 19 + x1) k')) → (∀ k, 0 ≤ k → k ≤ x3 → xR m2 (x0 + 19 + x1) k = xR m1 (x0 + 19 + x1) k) → x3 ≤ y3 → V (xR m2 (x0 + 19 + x1) y3) = V (o x4) → xH (yk29_66 B r x0 x1 (x0 + 9 + x1) y3 x4 (o x4) m2) (fun v m' => v = 0 ∧ ∃ K, (∀ b, b ≠ x0 + 14 + x1 → b ≠ x0 + 19 + x1 → b ≠ x0 + 23 → m' b = m b) ∧ (∀ k, k ≠ x1 → m' (x0 + 23) k = m (x0 + 23) k) ∧ xR m' (x0 + 23) x1 = K ∧ (∀ k, 0 ≤ k → k < K → 0 ≤ xR m' (x0 + 19 + x1) k ∧ xR m' (x0 + 19 + x1) k < n) ∧ RK V n K (fun k => V (xR m' (x0 + 19 + x1) k)) (xR m' (x0 + 14 + x1))) (fun _ _ => False) := by
        intro m2 y3 b0 b1 b2 G1 G2 H1 H2 H3 H4 H5
        unfold yk29_66
        rw [if_pos g1, v2, w2, if_pos ⟨hl.1, by omega⟩, if_pos i1, if_pos c2, i2, i4, if_pos ⟨hox.1, by omega⟩, if_pos i3, w32_id (by omega) (by omega)]
        have eb : ∀ k, xR (xw_u m2 (x0 + 14 + x1) (o x4) y3) (x0 + 19 + x1) k = xR m2 (x0 + 19 + x1) k := fun k => by rw [xR_cg (xu_c (by omega))]
        refine ih _ _ _ _ _ _ ⟨rfl, rfl, rfl, b0, by omega, by omega, by omega, fun b h1 h2 => by rw [xu_c h1]; exact G1 b h1 h2, fun k k0 k1 => by rw [eb]; exact H1 k k0 k1, fun k k' k0 k1 k2 => by rw [eb, eb]; exact H2 k k' k0 k1 k2, fun q q0 q1 => ?_, fun _ => ⟨b2, by rw [eb, show x4 + 1 - 1 = x4 from by omega]; exact H5⟩⟩ (by omega)
        rw [xR_u]
        by_cases e : q = x4
        · rw [e, if_pos ⟨rfl, rfl⟩, w32_id (by omega) (by omega), eb]
          exact ⟨⟨b2, by omega⟩, H5⟩
        · have hne : o q ≠ o x4 := fun h => e (o2 q x4 q0 (by omega) a5 hx h)
          rw [if_neg (fun h => hne h.2), xR_cg G2, eb]
          obtain ⟨r1, r2⟩ := E3 q q0 (by omega)
          rw [H3 _ r1.1 r1.2]
          exact ⟨⟨r1.1, by omega⟩, r2⟩
      -- a new value
      have new : (0 < x4 → V (o (x4 - 1)) < V (o x4)) → xH (yk29_53 B r x0 x1 (x0 + 9 + x1) x3 x4 (o x4) m1) (fun v m' => v = 0 ∧ ∃ K, (∀ b, b ≠ x0 + 14 + x1 → b ≠ x0 + 19 + x1 → b ≠ x0 + 23 → m' b = m b) ∧ (∀ k, k ≠ x1 → m' (x0 + 23) k = m (x0 + 23) k) ∧ xR m' (x0 + 23) x1 = K ∧ (∀ k, 0 ≤ k → k < K → 0 ≤ xR m' (x0 + 19 + x1) k ∧ xR m' (x0 + 19 + x1) k < n) ∧ RK V n K (fun k => V (xR m' (x0 + 19 + x1) k)) (xR m' (x0 + 14 + x1))) (fun _ _ => False) := by
        intro hlt
        unfold yk29_53
        rw [if_pos g1, v3, w3, if_pos ⟨hl.1, by omega⟩, if_pos u1, if_pos c3, u2, u4, w32_id (x := x3 + 1) (by omega) (by omega), if_pos ⟨by omega, by omega⟩, if_pos u3]
        have eb : ∀ k, xR (xw_u m1 (x0 + 19 + x1) (x3 + 1) (o x4)) (x0 + 19 + x1) k = if k = x3 + 1 then o x4 else xR m1 (x0 + 19 + x1) k := fun k => by
          rw [xR_u]
          by_cases e : k = x3 + 1
          · rw [if_pos ⟨rfl, e⟩, if_pos e]
            exact w32_id (by omega) (by omega)
          · rw [if_neg (fun h => e h.2), if_neg e]
        refine rest _ (x3 + 1) (by omega) (by omega) (by omega) (fun b h1 h2 => by rw [xu_c h2]; exact F b h1 h2) (xu_c (by omega)) (fun k k0 k1 => ?_) (fun k k' k0 k1 k2 => ?_) (fun k k0 k1 => by rw [eb, if_neg (by omega)]) (by omega) (by rw [eb, if_pos rfl])
        · rw [eb]
          by_cases e : k = x3 + 1
          · rw [if_pos e]
            exact ⟨x4, ⟨a5, by omega⟩, rfl⟩
          · rw [if_neg e]
            obtain ⟨q, q0, q1⟩ := E1 k k0 (by omega)
            exact ⟨q, ⟨q0.1, by omega⟩, q1⟩
        · rw [eb, eb, if_neg (show ¬ k = x3 + 1 by omega)]
          by_cases e : k' = x3 + 1
          · rw [if_pos e]
            have h4 : 0 < x4 := by omega
            obtain ⟨p1, p2⟩ := E4 h4
            have := hlt h4
            by_cases ek : k = x3
            · rw [ek, p2]; exact this
            · have := E2 k x3 k0 (by omega) (Int.le_refl _)
              omega
          · rw [if_neg e]
            exact E2 k k' k0 k1 (by omega)
      rw [if_pos hx, if_pos ⟨a5, by omega⟩, if_pos c5, ro]
      by_cases h0 : x4 = 0
      · rw [if_pos h0]
        exact new (fun h => by omega)
      · have hoy := o1 (x4 - 1) (by omega) (by omega)
        rw [if_neg h0, z4, if_pos ⟨hox.1, by omega⟩, if_pos z3, if_pos ⟨by omega, by omega⟩, if_pos ⟨hoy.1, by omega⟩, rV]
        by_cases he : V (o x4) = V (o (x4 - 1))
        · rw [if_pos he]
          obtain ⟨p1, p2⟩ := E4 (by omega)
          exact rest m1 x3 a3 (by omega) p1 F rfl (fun k k0 k1 => by obtain ⟨q, q0, q1⟩ := E1 k k0 k1; exact ⟨q, ⟨q0.1, by omega⟩, q1⟩) E2 (fun _ _ _ => rfl) (Int.le_refl _) (by rw [p2, he])
        · rw [if_neg he]
          have := o3 (x4 - 1) x4 (by omega) (by omega) hx
          exact new (fun _ => by omega)
    · have ex : x4 = n := by omega
      subst ex
      rw [if_neg hx, if_pos ⟨hl.1, by omega⟩, if_pos c4, xH_ret]
      have F' : ∀ b, b ≠ x0 + 23 → (xw_u m1 (x0 + 23) x1 (x3 + 1)) b = m1 b := fun b hb => xu_c hb
      refine ⟨rfl, x3 + 1, fun b h1 h2 h3 => by rw [F' b h3]; exact F b h1 h2, fun k hk => ?_, ?_, fun k k0 k1 => ?_, ?_⟩
      · unfold xw_u
        rw [if_neg (fun e => hk e.2), F (x0 + 23) (by omega) (by omega)]
      · rw [xR_u, if_pos ⟨rfl, rfl⟩]
        exact w32_id (by omega) (by omega)
      · rw [xR_cg (F' (x0 + 19 + x1) (by omega))]
        obtain ⟨q, q0, q1⟩ := E1 k k0 (by omega)
        rw [q1]
        exact o1 q q0.1 q0.2
      · rw [xR_cg (F' (x0 + 19 + x1) (by omega)), xR_cg (F' (x0 + 14 + x1) (by omega))]
        have onto := prm_onto (show prm o x4 from ⟨o1, o2⟩)
        refine ⟨⟨by omega, by omega⟩, fun k k' k0 k1 k2 => E2 k k' k0 k1 (by omega), fun i i0 i1 => ?_, fun k k0 k1 => ?_⟩
        · obtain ⟨q, q0, q1⟩ := onto i i0 i1
          rw [← q1]
          obtain ⟨r1, r2⟩ := E3 q q0.1 q0.2
          exact ⟨⟨r1.1, by omega⟩, r2⟩
        · obtain ⟨q, q0, q1⟩ := E1 k k0 (by omega)
          exact ⟨o q, o1 q q0.1 q0.2, by dsimp only; rw [q1]⟩
end RANK
