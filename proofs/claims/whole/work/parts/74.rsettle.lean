/-! THE REFERENCE ARRANGES A DIMENSION (settleMembers) -/
def swp (i j p : Int) : Int := if p = i then j else if p = j then i else p
theorem swp_prm {π : Int → Int} {n i j : Int} (h : prm π n) (hi : 0 ≤ i ∧ i < n) (hj : 0 ≤ j ∧ j < n) : prm (fun p => π (swp i j p)) n := by
  have hb : ∀ p, 0 ≤ p → p < n → 0 ≤ swp i j p ∧ swp i j p < n := fun p p0 p1 => by
    unfold swp
    split
    · exact hj
    · split
      · exact hi
      · exact ⟨p0, p1⟩
  refine ⟨fun p p0 p1 => h.1 _ (hb p p0 p1).1 (hb p p0 p1).2, fun p q p0 p1 q0 q1 e => ?_⟩
  have := h.2 _ _ (hb p p0 p1).1 (hb p p0 p1).2 (hb q q0 q1).1 (hb q q0 q1).2 e
  unfold swp at this
  by_cases a1 : p = i
  · rw [if_pos a1] at this
    by_cases b1 : q = i
    · omega
    · rw [if_neg b1] at this
      split at this <;> omega
  · rw [if_neg a1] at this
    by_cases a2 : p = j
    · rw [if_pos a2] at this
      by_cases b1 : q = i
      · rw [if_pos b1] at this; omega
      · rw [if_neg b1] at this
        split at this <;> omega
    · rw [if_neg a2] at this
      by_cases b1 : q = i
      · rw [if_pos b1] at this; omega
      · rw [if_neg b1] at this
        split at this <;> omega
section RSET
variable {B : Nat} {m : xw_M} {d n L : Int}
/-- only the members of d, their ranks and what ranking uses are others -/
def fM (m m' : xw_M) (d : Int) : Prop := (∀ a, a ≠ 540 → a ≠ 573 → a ≠ 574 → a ≠ 594 → m' a = m a) ∧ (∀ k, k < 4000 * d ∨ 4000 * d + 4000 ≤ k → m' 540 k = m 540 k ∧ m' 573 k = m 573 k) ∧ ∀ k, k < 4 * d ∨ 4 * d + 4 ≤ k → m' 574 k = m 574 k
theorem rsettle_ok (hd : 0 ≤ d ∧ d < 8) (hn : 0 ≤ n ∧ n ≤ 1000) (hL : 0 ≤ L ∧ L ≤ 4) (h539 : xR m 539 d = n) (h538 : xR m 538 d = L) : ∃ m' π, yf309 B d m = some (.inl 0, m') ∧ fM m m' d ∧ prm π n ∧ (∀ l p, 0 ≤ l → l < 4 → 0 ≤ p → p < n → xR m' 540 (4000 * d + 4 * p + l) = xR m 540 (4000 * d + 4 * π p + l)) ∧ (∀ a b, 0 ≤ a → a < b → b < n → xR m' 540 (4000 * d + 4 * a + 0) ≤ xR m' 540 (4000 * d + 4 * b + 0)) ∧ ∀ l, 0 ≤ l → l < L → ∃ u, RK (fun p => xR m' 540 (4000 * d + 4 * p + l)) n (xR m' 574 (4 * d + l)) u (fun p => xR m' 573 (4000 * d + 4 * p + l)) := by
  unfold yf309
  have goal := xH_ex (Q := fun v m' => v = 0 ∧ ∃ π, fM m m' d ∧ prm π n ∧ (∀ l p, 0 ≤ l → l < 4 → 0 ≤ p → p < n → xR m' 540 (4000 * d + 4 * p + l) = xR m 540 (4000 * d + 4 * π p + l)) ∧ (∀ a b, 0 ≤ a → a < b → b < n → xR m' 540 (4000 * d + 4 * a + 0) ≤ xR m' 540 (4000 * d + 4 * b + 0)) ∧ ∀ l, 0 ≤ l → l < L → ∃ u, RK (fun p => xR m' 540 (4000 * d + 4 * p + l)) n (xR m' 574 (4 * d + l)) u (fun p => xR m' 573 (4000 * d + 4 * p + l))) (xl2_rule (F := yl309_2 B) (fun x0 x1 m' => x0 = d ∧ 0 ≤ x1 ∧ x1 ≤ n ∧ (∀ a, a ≠ 540 → m' a = m a) ∧ (∀ k, k < 4000 * d ∨ 4000 * d + 4000 ≤ k → m' 540 k = m 540 k) ∧ ∃ π, prm π n ∧ (∀ l p, 0 ≤ l → l < 4 → 0 ≤ p → p < n → xR m' 540 (4000 * d + 4 * p + l) = xR m 540 (4000 * d + 4 * π p + l)) ∧ ∀ a b, 0 ≤ a → a < x1 → a < b → b < n → xR m' 540 (4000 * d + 4 * a + 0) ≤ xR m' 540 (4000 * d + 4 * b + 0)) (fun _ x1 _ => (n - x1).toNat) ?_ 1000000 d 0 m ⟨rfl, by omega, by omega, fun _ _ => rfl, fun _ _ => rfl, fun p => p, ⟨fun i h0 h1 => ⟨h0, h1⟩, fun i j _ _ _ _ e => e⟩, fun _ _ _ _ _ _ => rfl, fun a b a0 a1 => by omega⟩ (by omega))
  · obtain ⟨v, m', e, rfl, π, h⟩ := goal
    exact ⟨m', π, e, h⟩
  · intro r x0 x1 m1 ⟨a0, a1, a2, F, G, π, P, V, S⟩ ih
    subst a0
    have q539 : xR m1 539 x0 = n := by rw [xR_cg (F 539 (by decide))]; exact h539
    unfold yl309_2
    rw [if_pos ⟨hd.1, hd.2⟩, q539]
    by_cases hx : x1 < n
    · rw [if_pos hx, w32_id (by omega) (by omega)]
      refine xl4_rule (F := yl309_19 B r) (fun y0 y1 y2 y3 m' => y0 = x0 ∧ y1 = x1 ∧ m' = m1 ∧ x1 ≤ y2 ∧ y2 < y3 ∧ y3 ≤ n ∧ ∀ q, x1 ≤ q → q < y3 → xR m1 540 (4000 * x0 + 4 * y2 + 0) ≤ xR m1 540 (4000 * x0 + 4 * q + 0)) (fun _ _ _ y3 _ => (n - y3).toNat) ?_ 1000000 x0 x1 x1 (x1 + 1) m1 ⟨rfl, rfl, rfl, by omega, by omega, by omega, fun q q0 q1 => by rw [show q = x1 from by omega]; exact Int.le_refl _⟩ (by omega)
      intro r19 y0 y1 y2 y3 m' ⟨b0, b1, b2, b3, b4, b5, M⟩ ih19
      subst b0 b1 b2
      unfold yl309_19
      rw [if_pos ⟨hd.1, hd.2⟩, q539]
      by_cases hy : y3 < n
      · rw [if_pos hy, if_pos ⟨by omega, by omega⟩, if_pos ⟨by omega, by omega⟩, w32_id (by omega) (by omega)]
        by_cases hc : xR m' 540 (4000 * y0 + 4 * y3) < xR m' 540 (4000 * y0 + 4 * y2)
        · rw [if_pos hc]
          refine ih19 _ _ _ _ _ ⟨rfl, rfl, rfl, by omega, by omega, by omega, fun q q0 q1 => ?_⟩ (by omega)
          by_cases e : q = y3
          · rw [e]; exact Int.le_refl _
          · have := M q q0 (by omega)
            rw [Int.add_zero] at this ⊢
            omega
        · rw [if_neg hc]
          refine ih19 _ _ _ _ _ ⟨rfl, rfl, rfl, b3, by omega, by omega, fun q q0 q1 => ?_⟩ (by omega)
          by_cases e : q = y3
          · rw [e, Int.add_zero, Int.add_zero]; omega
          · exact M q q0 (by omega)
      · have ey : y3 = n := by omega
        subst ey
        rw [if_neg hy]
        refine xl4_rule (F := yl309_78 B r) (fun z0 z1 z2 z3 m2 => z0 = y0 ∧ z1 = y1 ∧ z2 = y2 ∧ 0 ≤ z3 ∧ z3 ≤ 4 ∧ (∀ a, a ≠ 540 → m2 a = m a) ∧ (∀ k, k < 4000 * y0 ∨ 4000 * y0 + 4000 ≤ k → m2 540 k = m 540 k) ∧ ∀ l p, 0 ≤ l → l < 4 → 0 ≤ p → p < y3 → xR m2 540 (4000 * y0 + 4 * p + l) = xR m' 540 (4000 * y0 + 4 * (if l < z3 then swp y1 y2 p else p) + l)) (fun _ _ _ z3 _ => (4 - z3).toNat) ?_ 1000000 y0 y1 y2 0 m' ⟨rfl, rfl, rfl, by omega, by omega, F, G, fun l p l0 l1 p0 p1 => by rw [if_neg (by omega)]⟩ (by omega)
        intro r78 z0 z1 z2 z3 m2 ⟨c0, c1, c2, c3, c4, F2, G2, W2⟩ ih78
        subst c0 c1 c2
        unfold yl309_78
        by_cases hz : z3 < 4
        · have e1 := W2 z3 z2 c3 hz (by omega) (by omega)
          have e2 := W2 z3 z1 c3 hz a1 hx
          rw [if_neg (by omega)] at e1 e2
          rw [if_pos hz, w32_id (x := 4000 * z0 + 4 * z1 + z3) (by omega) (by omega), w32_id (x := 4000 * z0 + 4 * z2 + z3) (by omega) (by omega), if_pos ⟨by omega, by omega⟩, if_pos ⟨by omega, by omega⟩, w32_id (by omega) (by omega), e1, e2]
          refine ih78 _ _ _ _ _ ⟨rfl, rfl, rfl, by omega, by omega, fun a ha => by rw [xu_c ha, xu_c ha]; exact F2 a ha, fun k hk => ?_, fun l p l0 l1 p0 p1 => ?_⟩ (by omega)
          · unfold xw_u
            rw [if_neg (fun e => by omega), if_neg (fun e => by omega)]
            exact G2 k hk
          · rw [xR_u, xR_u]
            by_cases el : l = z3
            · rw [if_pos (show l < z3 + 1 by omega)]
              unfold swp
              by_cases ep1 : p = z1
              · rw [if_pos ep1]
                by_cases ep2 : p = z2
                · rw [if_pos ⟨rfl, by rw [ep2, el]⟩, w32_xR, el, show z1 = z2 from by omega]
                · rw [if_neg (fun h => by omega), if_pos ⟨rfl, by rw [ep1, el]⟩, w32_xR, el]
              · rw [if_neg ep1]
                by_cases ep2 : p = z2
                · rw [if_pos ⟨rfl, by rw [ep2, el]⟩, if_pos ep2, w32_xR, el]
                · rw [if_neg (fun h => by omega), if_neg (fun h => by omega), if_neg ep2, W2 l p l0 l1 p0 p1, if_neg (by omega)]
            · rw [if_neg (fun h => by omega), if_neg (fun h => by omega), W2 l p l0 l1 p0 p1]
              by_cases hl3 : l < z3
              · rw [if_pos hl3, if_pos (by omega)]
              · rw [if_neg hl3, if_neg (by omega)]
        · rw [if_neg hz, w32_id (by omega) (by omega)]
          have W3 : ∀ l p, 0 ≤ l → l < 4 → 0 ≤ p → p < y3 → xR m2 540 (4000 * z0 + 4 * p + l) = xR m' 540 (4000 * z0 + 4 * swp z1 z2 p + l) := fun l p l0 l1 p0 p1 => by rw [W2 l p l0 l1 p0 p1, if_pos (by omega)]
          have sb : ∀ p, 0 ≤ p → p < y3 → 0 ≤ swp z1 z2 p ∧ swp z1 z2 p < y3 := fun p p0 p1 => by
            unfold swp
            split
            · exact ⟨by omega, by omega⟩
            · split
              · exact ⟨a1, hx⟩
              · exact ⟨p0, p1⟩
          refine ih _ _ _ ⟨rfl, by omega, by omega, F2, G2, fun p => π (swp z1 z2 p), swp_prm P ⟨a1, hx⟩ ⟨by omega, by omega⟩, fun l p l0 l1 p0 p1 => ?_, fun a b a0 a1' ab bn => ?_⟩ (by omega)
          · rw [W3 l p l0 l1 p0 p1]
            exact V l _ l0 l1 (sb p p0 p1).1 (sb p p0 p1).2
          · rw [W3 0 a (by decide) (by decide) a0 (by omega), W3 0 b (by decide) (by decide) (by omega) bn]
            by_cases ea : a = z1
            · have e3 : swp z1 z2 a = z2 := if_pos ea
              rw [e3]
              have hsb : z1 ≤ swp z1 z2 b := by
                unfold swp
                split
                · omega
                · split <;> omega
              exact M _ hsb (sb b (by omega) bn).2
            · have e3 : swp z1 z2 a = a := by
                unfold swp
                rw [if_neg ea, if_neg (by omega)]
              rw [e3]
              have hsb : a < swp z1 z2 b := by
                unfold swp
                split
                · omega
                · split <;> omega
              exact S a _ a0 (by omega) hsb (sb b (by omega) bn).2
    · have ex : x1 = n := by omega
      subst ex
      rw [if_neg hx]
      refine xl2_rule (F := yl309_158 B) (fun y0 y1 m' => y0 = x0 ∧ 0 ≤ y1 ∧ y1 ≤ L ∧ (∀ a, a ≠ 594 → a ≠ 573 → a ≠ 574 → m' a = m1 a) ∧ (∀ k, k < 4000 * x0 ∨ 4000 * x0 + 4000 ≤ k → m' 573 k = m 573 k) ∧ (∀ k, k < 4 * x0 ∨ 4 * x0 + 4 ≤ k → m' 574 k = m 574 k) ∧ ∀ l, 0 ≤ l → l < y1 → ∃ u, RK (fun p => xR m1 540 (4000 * x0 + 4 * p + l)) x1 (xR m' 574 (4 * x0 + l)) u (fun p => xR m' 573 (4000 * x0 + 4 * p + l))) (fun _ y1 _ => (L - y1).toNat) ?_ 1000000 x0 0 m1 ⟨rfl, by omega, by omega, fun _ _ _ _ => rfl, fun k _ => by rw [F 573 (by decide)], fun k _ => by rw [F 574 (by decide)], fun l l0 l1 => by omega⟩ (by omega)
      intro r' y0 y1 m2 ⟨b0, b1, b2, F2, G2, H2, R2⟩ ih'
      subst b0
      have q538 : xR m2 538 y0 = L := by rw [xR_cg (F2 538 (by decide) (by decide) (by decide)), xR_cg (F 538 (by decide))]; exact h538
      have q539' : xR m2 539 y0 = x1 := by rw [xR_cg (F2 539 (by decide) (by decide) (by decide))]; exact q539
      unfold yl309_158
      rw [if_pos ⟨hd.1, hd.2⟩, q538]
      by_cases hy : y1 < L
      · obtain ⟨m3, K, u, e3, F3, G3, H3, K3, R3⟩ := rrank_ok (B := B) (m := m2) (d := y0) (l := y1) hd ⟨b1, by omega⟩ hn q539'
        rw [if_pos hy, e3, xB_ret, w32_id (by omega) (by omega)]
        have e540 : xR m2 540 = xR m1 540 := xR_cg (F2 540 (by decide) (by decide) (by decide))
        refine ih' _ _ _ ⟨rfl, by omega, by omega, fun a h1 h2 h3 => by rw [F3 a h1 h2 h3]; exact F2 a h1 h2 h3, fun k hk => by rw [H3 k (fun p p0 p1 => by omega)]; exact G2 k hk, fun k hk => by rw [G3 k (by omega)]; exact H2 k hk, fun l l0 l1 => ?_⟩ (by omega)
        by_cases e : l = y1
        · rw [e, K3]
          rw [e540] at R3
          exact ⟨u, R3⟩
        · obtain ⟨u', R'⟩ := R2 l l0 (by omega)
          refine ⟨u', ?_⟩
          have ek : xR m3 574 (4 * y0 + l) = xR m2 574 (4 * y0 + l) := by unfold xR; rw [G3 _ (by omega)]
          have er : (fun p => xR m3 573 (4000 * y0 + 4 * p + l)) = fun p => xR m2 573 (4000 * y0 + 4 * p + l) := by
            funext p
            unfold xR
            rw [H3 _ (fun q q0 q1 => by omega)]
          rw [ek, er]
          exact R'
      · rw [if_neg hy, xH_ret]
        have e540 : m2 540 = m1 540 := F2 540 (by decide) (by decide) (by decide)
        refine ⟨rfl, π, ⟨fun a h1 h2 h3 h4 => by rw [F2 a h4 h2 h3]; exact F a h1, fun k hk => ⟨by rw [e540]; exact G k hk, G2 k hk⟩, H2⟩, P, fun l p l0 l1 p0 p1 => by rw [xR_cg e540]; exact V l p l0 l1 p0 p1, fun a b a0 ab bn => by rw [xR_cg e540]; exact S a b a0 (by omega) ab bn, fun l l0 l1 => ?_⟩
        rw [xR_cg e540]
        exact R2 l l0 (by omega)
end RSET
