/-! RANKS by the reference (rank, placeOf) -/
section RRANK
variable {B : Nat} {m : xw_M}
theorem placeOf_ok {v K : Int} (hK : 0 ≤ K ∧ K ≤ 1000) : ∃ k, yf311 B v K m = some (.inl k, m) ∧ (0 ≤ k ∧ k ≤ K) ∧ (∀ j, 0 ≤ j → j < k → xJ m 594 j < v) ∧ (k < K → v ≤ xJ m 594 k) := by
  unfold yf311
  have goal := xH_ex (Q := fun k m' => m' = m ∧ (0 ≤ k ∧ k ≤ K) ∧ (∀ j, 0 ≤ j → j < k → xJ m 594 j < v) ∧ (k < K → v ≤ xJ m 594 k)) (xl3_rule (F := yl311_2 B) (fun x0 x1 x2 m' => x0 = v ∧ x1 = K ∧ 0 ≤ x2 ∧ x2 ≤ K ∧ m' = m ∧ ∀ j, 0 ≤ j → j < x2 → xJ m 594 j < v) (fun _ _ x2 _ => (K - x2).toNat) ?_ 1000000 v K 0 m ⟨rfl, rfl, by omega, by omega, rfl, fun j j0 j1 => by omega⟩ (by omega))
  · obtain ⟨k, m', e, rfl, h⟩ := goal
    exact ⟨k, e, h⟩
  · intro r x0 x1 x2 m' ⟨a0, a1, a2, a3, a4, L⟩ ih
    subst a0 a1 a4
    unfold yl311_2
    by_cases hx : x2 < x1
    · rw [if_pos hx, if_pos ⟨a2, by omega⟩]
      by_cases hc : xJ m' 594 x2 < x0
      · rw [if_pos hc, w32_id (by omega) (by omega)]
        refine ih _ _ _ _ ⟨rfl, rfl, by omega, by omega, rfl, fun j j0 j1 => ?_⟩ (by omega)
        by_cases e : j = x2
        · rw [e]; exact hc
        · exact L j j0 (by omega)
      · rw [if_neg hc, xH_ret]
        exact ⟨rfl, ⟨a2, a3⟩, L, fun _ => by omega⟩
    · rw [if_neg hx, xH_ret]
      exact ⟨rfl, ⟨a2, a3⟩, L, fun h => absurd h hx⟩
theorem rrank_ok {d l n : Int} (hd : 0 ≤ d ∧ d < 8) (hl : 0 ≤ l ∧ l < 4) (hn : 0 ≤ n ∧ n ≤ 1000) (h539 : xR m 539 d = n) : ∃ m' K u, yf310 B d l m = some (.inl 0, m') ∧ (∀ a, a ≠ 594 → a ≠ 573 → a ≠ 574 → m' a = m a) ∧ (∀ k, k ≠ 4 * d + l → m' 574 k = m 574 k) ∧ (∀ k, (∀ p, 0 ≤ p → p < n → k ≠ 4000 * d + 4 * p + l) → m' 573 k = m 573 k) ∧ xR m' 574 (4 * d + l) = K ∧ RK (fun p => xR m 540 (4000 * d + 4 * p + l)) n K u (fun p => xR m' 573 (4000 * d + 4 * p + l)) := by
  generalize hVf : (fun p => xR m 540 (4000 * d + 4 * p + l)) = V
  have hV : ∀ p, xR m 540 (4000 * d + 4 * p + l) = V p := fun p => by rw [← hVf]
  have hVw : ∀ p, xw_rg (V p) := fun p => by rw [← hV]; exact w32_rg _
  unfold yf310
  have goal := xH_ex (Q := fun v m' => v = 0 ∧ ∃ K u, (∀ a, a ≠ 594 → a ≠ 573 → a ≠ 574 → m' a = m a) ∧ (∀ k, k ≠ 4 * d + l → m' 574 k = m 574 k) ∧ (∀ k, (∀ p, 0 ≤ p → p < n → k ≠ 4000 * d + 4 * p + l) → m' 573 k = m 573 k) ∧ xR m' 574 (4 * d + l) = K ∧ RK V n K u (fun p => xR m' 573 (4000 * d + 4 * p + l))) (xl4_rule (F := yl310_5 B) (fun x0 x1 x2 x3 m' => x0 = d ∧ x1 = l ∧ 0 ≤ x2 ∧ x2 ≤ x3 ∧ x3 ≤ n ∧ (∀ a, a ≠ 594 → m' a = m a) ∧ (∀ a b, 0 ≤ a → a < b → b < x2 → xJ m' 594 a < xJ m' 594 b) ∧ (∀ q, 0 ≤ q → q < x3 → ∃ k, (0 ≤ k ∧ k < x2) ∧ xJ m' 594 k = V q) ∧ ∀ k, 0 ≤ k → k < x2 → ∃ q, (0 ≤ q ∧ q < x3) ∧ V q = xJ m' 594 k) (fun _ _ _ x3 _ => (n - x3).toNat) ?_ 1000000 d l 0 0 m ⟨rfl, rfl, by omega, by omega, by omega, fun _ _ => rfl, fun a b q0 q1 q2 => by omega, fun q q0 q1 => by omega, fun k k0 k1 => by omega⟩ (by omega))
  · obtain ⟨v, m', e, rfl, K, u, h⟩ := goal
    exact ⟨m', K, u, e, h⟩
  · intro r x0 x1 x2 x3 m1 ⟨a0, a1, a2, a3, a4, F, U, S1, S2⟩ ih
    subst a0 a1
    have q539 : xR m1 539 x0 = n := by rw [xR_cg (F 539 (by decide))]; exact h539
    have vo : ∀ mm : xw_M, (∀ a, a ≠ 594 → a ≠ 573 → mm a = m a) → ∀ p, 0 ≤ p → p < n → yf289 B x0 x1 p mm = some (.inl (V p), mm) := fun mm FF p p0 p1 => by
      unfold yf289
      rw [if_pos ⟨by omega, by omega⟩, xR_cg (FF 540 (by decide) (by decide)), hV]
    unfold yl310_5
    rw [if_pos ⟨hd.1, hd.2⟩, q539]
    by_cases hx : x3 < n
    · obtain ⟨k, ek, kb, k1, k2⟩ := placeOf_ok (B := B) (m := m1) (v := V x3) (K := x2) ⟨a2, by omega⟩
      have hw := hVw x3
      unfold xw_rg at hw
      -- the value comes in at k
      have ins : (k < x2 → V x3 < xJ m1 594 k) → xH (xl7 (yl310_58 B r) 1000000 x0 x1 x2 x3 (V x3) k x2 m1) (fun v m' => v = 0 ∧ ∃ K u, (∀ a, a ≠ 594 → a ≠ 573 → a ≠ 574 → m' a = m a) ∧ (∀ k, k ≠ 4 * x0 + x1 → m' 574 k = m 574 k) ∧ (∀ k, (∀ p, 0 ≤ p → p < n → k ≠ 4000 * x0 + 4 * p + x1) → m' 573 k = m 573 k) ∧ xR m' 574 (4 * x0 + x1) = K ∧ RK V n K u (fun p => xR m' 573 (4000 * x0 + 4 * p + x1))) (fun _ _ => False) := by
        intro hk
        refine xl7_rule (F := yl310_58 B r) (fun y0 y1 y2 y3 y4 y5 y6 m' => y0 = x0 ∧ y1 = x1 ∧ y2 = x2 ∧ y3 = x3 ∧ y4 = V x3 ∧ y5 = k ∧ k ≤ y6 ∧ y6 ≤ x2 ∧ (∀ a, a ≠ 594 → m' a = m a) ∧ (∀ j, 0 ≤ j → j < y6 → xJ m' 594 j = xJ m1 594 j) ∧ ∀ j, y6 < j → j ≤ x2 → xJ m' 594 j = xJ m1 594 (j - 1)) (fun _ _ _ _ _ _ y6 _ => y6.toNat) ?_ 1000000 x0 x1 x2 x3 (V x3) k x2 m1 ⟨rfl, rfl, rfl, rfl, rfl, rfl, kb.2, by omega, F, fun _ _ _ => rfl, fun j j0 j1 => by omega⟩ (by omega)
        intro r' y0 y1 y2 y3 y4 y5 y6 m2 ⟨b0, b1, b2, b3, b4, b5, b6, b7, F2, L2, H2⟩ ih'
        subst b0 b1 b2 b3 b4 b5
        unfold yl310_58
        by_cases hy : y5 < y6
        · rw [if_pos hy, if_pos ⟨by omega, by omega⟩, if_pos ⟨by omega, by omega⟩, w32_id (by omega) (by omega)]
          refine ih' _ _ _ _ _ _ _ _ ⟨rfl, rfl, rfl, rfl, rfl, rfl, by omega, by omega, fun a ha => by rw [xu_c ha]; exact F2 a ha, fun j j0 j1 => ?_, fun j j0 j1 => ?_⟩ (by omega)
          · rw [xJ_u, if_neg (fun h => by omega)]
            exact L2 j j0 (by omega)
          · rw [xJ_u]
            by_cases e : j = y6
            · rw [if_pos ⟨rfl, e⟩, w64_xJ, e]
              exact L2 (y6 - 1) (by omega) (by omega)
            · rw [if_neg (fun h => e h.2)]
              exact H2 j (by omega) j1
        · have e6 : y6 = y5 := by omega
          subst e6
          rw [if_neg hy, if_pos ⟨kb.1, by omega⟩, w32_id (by omega) (by omega), w32_id (by omega) (by omega)]
          have eu : ∀ j, 0 ≤ j → j < y2 + 1 → xJ (xw_u m2 594 y6 (V y3)) 594 j = if j < y6 then xJ m1 594 j else if j = y6 then V y3 else xJ m1 594 (j - 1) := by
            intro j j0 j1
            rw [xJ_u]
            by_cases e1 : j < y6
            · rw [if_neg (fun h => by omega), if_pos e1]
              exact L2 j j0 e1
            · by_cases e2 : j = y6
              · rw [if_pos ⟨rfl, e2⟩, if_neg e1, if_pos e2]
                exact w64_id (by omega) (by omega)
              · rw [if_neg (fun h => e2 h.2), if_neg e1, if_neg e2]
                exact H2 j (by omega) (by omega)
          refine ih _ _ _ _ _ ⟨rfl, rfl, by omega, by omega, by omega, fun a ha => by rw [xu_c ha]; exact F2 a ha, fun a b q0 q1 q2 => ?_, fun q q0 q1 => ?_, fun j j0 j1 => ?_⟩ (by omega)
          · rw [eu a q0 (by omega), eu b (by omega) q2]
            by_cases x1' : a < y6
            · rw [if_pos x1']
              by_cases y1' : b < y6
              · rw [if_pos y1']
                exact U a b q0 q1 (by omega)
              · rw [if_neg y1']
                by_cases y2' : b = y6
                · rw [if_pos y2']
                  exact k1 a q0 x1'
                · rw [if_neg y2']
                  have := k1 a q0 x1'
                  have := hk (by omega)
                  by_cases e : b - 1 = y6
                  · rw [e]; omega
                  · have := U y6 (b - 1) kb.1 (by omega) (by omega)
                    omega
            · rw [if_neg x1', if_neg (show ¬ b < y6 by omega), if_neg (show ¬ b = y6 by omega)]
              by_cases x2' : a = y6
              · rw [if_pos x2']
                have := hk (by omega)
                by_cases e : b - 1 = y6
                · rw [e]; exact this
                · have := U y6 (b - 1) kb.1 (by omega) (by omega)
                  omega
              · rw [if_neg x2']
                exact U (a - 1) (b - 1) (by omega) (by omega) (by omega)
          · by_cases e : q = y3
            · exact ⟨y6, ⟨kb.1, by omega⟩, by rw [eu y6 kb.1 (by omega), if_neg (by omega), if_pos rfl, e]⟩
            · obtain ⟨j, j0, j1⟩ := S1 q q0 (by omega)
              by_cases ej : j < y6
              · exact ⟨j, ⟨j0.1, by omega⟩, by rw [eu j j0.1 (by omega), if_pos ej, j1]⟩
              · exact ⟨j + 1, ⟨by omega, by omega⟩, by rw [eu (j + 1) (by omega) (by omega), if_neg (by omega), if_neg (by omega), show j + 1 - 1 = j from by omega, j1]⟩
          · rw [eu j j0 j1]
            by_cases e1 : j < y6
            · rw [if_pos e1]
              obtain ⟨q, q0, q1⟩ := S2 j j0 (by omega)
              exact ⟨q, ⟨q0.1, by omega⟩, q1⟩
            · rw [if_neg e1]
              by_cases e2 : j = y6
              · rw [if_pos e2]
                exact ⟨y3, ⟨by omega, by omega⟩, rfl⟩
              · rw [if_neg e2]
                obtain ⟨q, q0, q1⟩ := S2 (j - 1) (by omega) (by omega)
                exact ⟨q, ⟨q0.1, by omega⟩, q1⟩
      rw [if_pos hx, vo m1 (fun a h1 _ => F a h1) x3 (by omega) hx, xB_ret, ek, xB_ret]
      by_cases hk0 : k = x2
      · rw [if_pos hk0]
        exact ins (fun h => by omega)
      · rw [if_neg hk0, if_pos ⟨kb.1, by omega⟩]
        by_cases he : xJ m1 594 k = V x3
        · rw [if_pos he, w32_id (by omega) (by omega)]
          refine ih _ _ _ _ _ ⟨rfl, rfl, a2, by omega, by omega, F, U, fun q q0 q1 => ?_, fun j j0 j1 => ?_⟩ (by omega)
          · by_cases e : q = x3
            · exact ⟨k, ⟨kb.1, by omega⟩, by rw [e]; exact he⟩
            · exact S1 q q0 (by omega)
          · obtain ⟨q, q0, q1⟩ := S2 j j0 j1
            exact ⟨q, ⟨q0.1, by omega⟩, q1⟩
        · rw [if_neg he]
          refine ins (fun h => ?_)
          have := k2 h
          omega
    · have ex : x3 = n := by omega
      subst ex
      rw [if_neg hx]
      -- the ranks
      refine xl4_rule (F := yl310_109 B) (fun y0 y1 y2 y3 m' => y0 = x0 ∧ y1 = x1 ∧ y2 = x2 ∧ 0 ≤ y3 ∧ y3 ≤ x3 ∧ (∀ a, a ≠ 573 → m' a = m1 a) ∧ (∀ k, (∀ p, 0 ≤ p → p < x3 → k ≠ 4000 * x0 + 4 * p + x1) → m' 573 k = m 573 k) ∧ ∀ p, 0 ≤ p → p < y3 → (0 ≤ xR m' 573 (4000 * x0 + 4 * p + x1) ∧ xR m' 573 (4000 * x0 + 4 * p + x1) < x2) ∧ xJ m1 594 (xR m' 573 (4000 * x0 + 4 * p + x1)) = V p) (fun _ _ _ y3 _ => (x3 - y3).toNat) ?_ 1000000 x0 x1 x2 0 m1 ⟨rfl, rfl, rfl, by omega, by omega, fun _ _ => rfl, fun k _ => by rw [F 573 (by decide)], fun p p0 p1 => by omega⟩ (by omega)
      intro r' y0 y1 y2 y3 m2 ⟨b0, b1, b2, b3, b4, F2, G2, V2⟩ ih'
      subst b0 b1 b2
      have q539' : xR m2 539 y0 = x3 := by rw [xR_cg (F2 539 (by decide))]; exact q539
      unfold yl310_109
      rw [if_pos ⟨hd.1, hd.2⟩, q539']
      by_cases hy : y3 < x3
      · obtain ⟨k, ek, kb, k1, k2⟩ := placeOf_ok (B := B) (m := m2) (v := V y3) (K := y2) ⟨a2, by omega⟩
        have e594 : xJ m2 594 = xJ m1 594 := xJ_cg (F2 594 (by decide))
        rw [e594] at k1 k2
        obtain ⟨j, j0, j1⟩ := S1 y3 b3 hy
        have hkj : k = j := by
          rcases Int.lt_trichotomy k j with c | c | c
          · have q1 := k2 (by omega)
            have q2 := U k j kb.1 c j0.2
            omega
          · exact c
          · have := k1 j j0.1 c
            omega
        rw [if_pos hy, vo m2 (fun a h1 h2 => by rw [F2 a h2]; exact F a h1) y3 b3 hy, xB_ret, ek, xB_ret, if_pos ⟨by omega, by omega⟩, w32_id (by omega) (by omega)]
        refine ih' _ _ _ _ _ ⟨rfl, rfl, rfl, by omega, by omega, fun a ha => by rw [xu_c ha]; exact F2 a ha, fun z hz => ?_, fun p p0 p1 => ?_⟩ (by omega)
        · unfold xw_u
          rw [if_neg (fun e => hz y3 b3 hy e.2)]
          exact G2 z hz
        · rw [xR_u]
          by_cases e : p = y3
          · rw [if_pos ⟨rfl, by rw [e]⟩, w32_id (by omega) (by omega), hkj, e]
            exact ⟨j0, j1⟩
          · rw [if_neg (fun h => by omega)]
            exact V2 p p0 (by omega)
      · have ey : y3 = x3 := by omega
        subst ey
        rw [if_neg hy, if_pos ⟨by omega, by omega⟩, xH_ret]
        refine ⟨rfl, y2, xJ m1 594, fun a h1 h2 h3 => by rw [xu_c h3, F2 a h2]; exact F a h1, fun k hk => ?_, fun k hk => by rw [xu_c (by decide)]; exact G2 k hk, ?_, ?_⟩
        · unfold xw_u
          rw [if_neg (fun e => hk e.2), F2 574 (by decide), F 574 (by decide)]
        · rw [xR_u, if_pos ⟨rfl, rfl⟩]
          exact w32_id (by omega) (by omega)
        · refine ⟨⟨a2, a3⟩, U, fun i i0 i1 => ?_, S2⟩
          rw [xR_cg (xu_c (by decide))]
          exact V2 i i0 i1
end RRANK
