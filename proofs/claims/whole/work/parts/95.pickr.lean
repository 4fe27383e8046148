/-! THE CHOOSER: the reference's pick, whole -/
section PKZ
variable {lv : Int → Int} {D F : Int} {B : Nat} {m : xw_M} {df : Int → Int → Int}
theorem pick_r {k : Int} (hr : rhs m lv D F df) (hV : mpw lv D D.toNat ≤ 512) (hk : 0 ≤ k ∧ k ≤ 16) : ∃ n m', yf332 B k m = some (.inl 0, m') ∧ (∀ a, a ≠ 536 → a ≠ 581 → (a < 583 ∨ 585 < a) → m' a = m a) ∧ (∀ q, q ≠ 43 → m' 536 q = m 536 q) ∧ xR m' 536 43 = n ∧ pkn lv D (esf lv D df F) F (mpw lv D D.toNat).toNat k n ∧ ∀ i, 0 ≤ i → i < n → xR m' 581 i = pkf lv D (esf lv D df F) F (mpw lv D D.toNat).toNat i.toNat := by
  obtain ⟨hD, hl, h14, h38, h31, hF, hdf⟩ := id hr
  have hl0 : ∀ d, 0 ≤ d → d < D → 0 ≤ lv d := fun d d0 d1 => by have := hl d d0 d1; omega
  have V1 := mpw_pos hl0 D.toNat (by omega)
  have eb := fun v => esf_b (lv := lv) (D := D) (df := df) hF (by omega) (fun d k d0 d1 k0 k1 => (hdf d k d0 d1 k0 k1).2) hl v
  obtain ⟨m1, e1, f1, k1⟩ := reckon_ok (B := B) hr hV
  unfold yf332
  rw [views_rf hr, xB_ret, e1, xB_ret]
  generalize hes : esf lv D df F = est at *
  generalize hVi : mpw lv D D.toNat = Vi at *
  generalize hVn : Vi.toNat = V at *
  have cb := cSf_b (lv := lv) (D := D) (est := est) (V := V) hF.1 (fun v _ _ => eb v)
  have fr0 : ∀ a, a ≠ 536 → a ≠ 581 → (a < 583 ∨ 585 < a) → xw_u m1 536 43 0 a = m a := fun a a1 a2 a3 => by rw [xu_c a1]; exact f1 a a3
  have ff0 : ∀ q, q ≠ 43 → xw_u m1 536 43 0 536 q = m 536 q := fun q hq => by rw [xu_ne (by omega), f1 536 (by omega)]
  have rk0 : rkd (xw_u m1 536 43 0) lv D est (cSf lv D est F V 0) Vi := fun v v0 v1 => by
    obtain ⟨z1, z2, z3⟩ := k1 v v0 v1
    exact ⟨fun d d0 d1 => by rw [xR_cg (xu_c (by omega))]; exact z1 d d0 d1, by rw [xJ_cg (xu_c (by omega))]; exact z2, by rw [xJ_cg (xu_c (by omega))]; exact z3⟩
  have main : ∀ x3 : Int, (x3 = 1 ↔ 0 < k) → (x3 = 0 ∨ x3 = 1) → ∃ n m', xl3 (yl332_29 B) 1000000 k Vi x3 (xw_u m1 536 43 0) = some (.inl 0, m') ∧ (∀ a, a ≠ 536 → a ≠ 581 → (a < 583 ∨ 585 < a) → m' a = m a) ∧ (∀ q, q ≠ 43 → m' 536 q = m 536 q) ∧ xR m' 536 43 = n ∧ pkn lv D est F V k n ∧ ∀ i, 0 ≤ i → i < n → xR m' 581 i = pkf lv D est F V i.toNat := by
    intro x30 hx30 hx01
    have goal := xH_ex (Q := fun s m' => s = 0 ∧ (∀ a, a ≠ 536 → a ≠ 581 → (a < 583 ∨ 585 < a) → m' a = m a) ∧ (∀ q, q ≠ 43 → m' 536 q = m 536 q) ∧ ∃ n, xR m' 536 43 = n ∧ pkn lv D est F V k n ∧ ∀ i, 0 ≤ i → i < n → xR m' 581 i = pkf lv D est F V i.toNat) (o := xl3 (yl332_29 B) 1000000 k Vi x30 (xw_u m1 536 43 0)) (by
      generalize hN : (1000000 : Nat) = N
      refine xl3_rule (F := yl332_29 B) (fun x1 x2 x3 m' => x1 = k ∧ x2 = Vi ∧ (∀ a, a ≠ 536 → a ≠ 581 → (a < 583 ∨ 585 < a) → m' a = m a) ∧ (∀ q, q ≠ 43 → m' 536 q = m 536 q) ∧ (0 ≤ xR m' 536 43 ∧ xR m' 536 43 ≤ k) ∧ (∀ i, 0 ≤ i → i < xR m' 536 43 → pkf lv D est F V i.toNat ≠ -1 ∧ xR m' 581 i = pkf lv D est F V i.toNat) ∧ ((x3 = 1 ∧ xR m' 536 43 < k ∧ rkd m' lv D est (cSf lv D est F V (xR m' 536 43).toNat) Vi) ∨ (x3 = 0 ∧ (xR m' 536 43 = k ∨ pkf lv D est F V (xR m' 536 43).toNat = -1)))) (fun _ _ x3 m' => (2 * (k - xR m' 536 43) + x3).toNat) ?_ N k Vi x30 (xw_u m1 536 43 0) ⟨rfl, rfl, fr0, ff0, ⟨by rw [xR_at (by decide)]; omega, by rw [xR_at (by decide)]; omega⟩, fun i i0 i1 => by rw [xR_at (by decide)] at i1; omega, ?_⟩ (by rw [xR_at (by decide)]; omega)
      · intro r x1 x2 x3 m' ⟨b1, b2, b3, b4, b5, b6, b7⟩ ih
        subst b1 b2
        unfold yl332_29
        rcases b7 with ⟨q1, q2, q3⟩ | ⟨q1, q2⟩
        · rw [if_neg (by omega)]
          generalize hi : xR m' 536 43 = i0 at *
          have h14' : xR m' 536 14 = D := by rw [xR_fld (b4 14 (by omega))]; exact h14
          generalize hN2 : (1000000 : Nat) = N2
          refine xl5_rule (F := yl332_42 B r) (fun y1 y2 y4 y5 y7 m2 => y1 = x1 ∧ y2 = x2 ∧ (0 ≤ y7 ∧ y7 ≤ x2) ∧ (y4, y5) = bsf (fun v => bnf lv D est (cSf lv D est F V i0.toNat) v V) y7.toNat ∧ m2 = m') (fun _ _ _ _ y7 _ => (x2 - y7).toNat) ?_ N2 x1 x2 (-1) 0 0 m' ⟨rfl, rfl, ⟨Int.le_refl _, by omega⟩, rfl, rfl⟩ (by omega)
          intro r2 y1 y2 y4 y5 y7 m2 ⟨c1, c2, c3, c4, c5⟩ ih2
          subst c1 c2 c5
          unfold yl332_42
          by_cases h7 : y7 < y2
          · rw [if_pos h7, rbenefit_ok (B := B) (F := F) hD h14' hV q3 hF c3.1 h7 (eb y7) (fun w _ _ => cb _ _), xB_ret, hVn, w32_id (by omega) (by omega)]
            have bs : bsf (fun v => bnf lv D est (cSf lv D est F V i0.toNat) v V) (y7.toNat + 1) = if y5 < bnf lv D est (cSf lv D est F V i0.toNat) y7 V then (y7, bnf lv D est (cSf lv D est F V i0.toNat) y7 V) else (y4, y5) := by
              show (if (bsf (fun v => bnf lv D est (cSf lv D est F V i0.toNat) v V) y7.toNat).2 < bnf lv D est (cSf lv D est F V i0.toNat) ((y7.toNat : Nat) : Int) V then (((y7.toNat : Nat) : Int), bnf lv D est (cSf lv D est F V i0.toNat) ((y7.toNat : Nat) : Int) V) else bsf (fun v => bnf lv D est (cSf lv D est F V i0.toNat) v V) y7.toNat) = _
              rw [Int.toNat_of_nonneg c3.1, ← c4]
            by_cases hb : y5 < bnf lv D est (cSf lv D est F V i0.toNat) y7 V
            · rw [if_pos hb]
              refine ih2 _ _ _ _ _ _ ⟨rfl, rfl, ⟨by omega, by omega⟩, ?_, rfl⟩ (by omega)
              rw [show (y7 + 1).toNat = y7.toNat + 1 by omega, bs, if_pos hb]
            · rw [if_neg hb]
              refine ih2 _ _ _ _ _ _ ⟨rfl, rfl, ⟨by omega, by omega⟩, ?_, rfl⟩ (by omega)
              rw [show (y7 + 1).toNat = y7.toNat + 1 by omega, bs, if_neg hb]
          · have ey : y7 = y2 := by omega
            rw [ey, hVn] at c4
            have pk : y4 = pkf lv D est F V i0.toNat := by unfold pkf; rw [← c4]
            have bb := (bsf_b (fun v => bnf lv D est (cSf lv D est F V i0.toNat) v V) V).1
            rw [← c4] at bb
            have bb' : y4 = -1 ∨ (0 ≤ y4 ∧ y4 < (V : Int)) := bb
            rw [if_neg h7]
            by_cases h4 : y4 < 0
            · rw [if_pos h4]
              unfold yk332_191
              rw [if_pos h4]
              refine ih _ _ _ _ ⟨rfl, rfl, b3, b4, by rw [hi]; exact b5, by rw [hi]; exact b6, Or.inr ⟨rfl, Or.inr (by rw [hi, ← pk]; omega)⟩⟩ (by rw [hi]; omega)
            · have y4b : 0 ≤ y4 ∧ y4 < y2 := by omega
              rw [if_neg h4, hi, if_pos ⟨b5.1, by omega⟩]
              have cs : ∀ w, cSf lv D est F V (i0.toNat + 1) w = cuf lv D est (cSf lv D est F V i0.toNat) y4 w := fun w => by
                show (if (bsf (fun v => bnf lv D est (cSf lv D est F V i0.toNat) v V) V).1 = -1 then _ else cuf lv D est (cSf lv D est F V i0.toNat) (bsf (fun v => bnf lv D est (cSf lv D est F V i0.toNat) v V) V).1 w) = _
                rw [← c4]
                exact if_neg (show ¬ y4 = -1 by omega)
              generalize hm3 : xw_u (xw_u m2 581 i0 y4) 536 43 (i0 + 1) = m3
              have g3 : ∀ a, a ≠ 536 → a ≠ 581 → m3 a = m2 a := fun a a1 a2 => by rw [← hm3, xu_c a1, xu_c a2]
              have g3f : ∀ q, q ≠ 43 → m3 536 q = m2 536 q := fun q hq => by rw [← hm3, xu_ne (by omega), xu_c (by omega)]
              have g343 : xR m3 536 43 = i0 + 1 := by rw [← hm3]; exact xR_at (w32_id (by omega) (by omega))
              have g3p : ∀ i, 0 ≤ i → i < i0 + 1 → pkf lv D est F V i.toNat ≠ -1 ∧ xR m3 581 i = pkf lv D est F V i.toNat := fun i i0' i1 => by
                rw [← hm3, xR_cg (xu_c (show (581 : Int) ≠ 536 by omega)), xR_u]
                by_cases ei : i = i0
                · rw [if_pos ⟨rfl, ei⟩, ei, ← pk]; exact ⟨by omega, w32_id (by omega) (by omega)⟩
                · rw [if_neg (by omega)]; exact b6 i i0' (by omega)
              have rk3 : ∀ v, 0 ≤ v → v < y2 → (∀ d, 0 ≤ d → d < D → xR m3 584 (8 * v + d) = vdg lv D v d) ∧ xJ m3 583 v = est v ∧ xJ m3 585 v = cSf lv D est F V i0.toNat v := fun v v0 v1 => by
                rw [xR_cg (g3 584 (by omega) (by omega)), xJ_cg (g3 583 (by omega) (by omega)), xJ_cg (g3 585 (by omega) (by omega))]; exact q3 v v0 v1
              generalize hN3 : (1000000 : Nat) = N3
              refine xl4_rule (F := yl332_126 B r) (fun z1 z2 z4 z7 m4 => z1 = y1 ∧ z2 = y2 ∧ z4 = y4 ∧ (0 ≤ z7 ∧ z7 ≤ y2) ∧ (∀ a, a ≠ 585 → m4 a = m3 a) ∧ (∀ v, 0 ≤ v → v < z7 → xJ m4 585 v = cuf lv D est (cSf lv D est F V i0.toNat) y4 v) ∧ ∀ v, z7 ≤ v → xJ m4 585 v = xJ m3 585 v) (fun _ _ _ z7 _ => (y2 - z7).toNat) ?_ N3 y1 y2 y4 0 m3 ⟨rfl, rfl, rfl, ⟨Int.le_refl _, by omega⟩, fun _ _ => rfl, fun v v0 v1 => absurd v1 (Int.not_lt.mpr v0), fun _ _ => rfl⟩ (by omega)
              intro r3 z1 z2 z4 z7 m4 ⟨d1, d2, d3, d4, d5, d6, d7⟩ ih3
              subst d1 d2 d3
              unfold yl332_126
              by_cases hz : z7 < z2
              · have c7 := (rk3 z7 d4.1 hz).2.2
                have e4 : xJ m4 583 z4 = est z4 := by rw [xJ_cg (d5 583 (by omega))]; exact (rk3 z4 y4b.1 y4b.2).2.1
                have o7 : xJ m4 585 z7 = cSf lv D est F V i0.toNat z7 := by rw [d7 z7 (Int.le_refl _)]; exact c7
                have cbz := cb i0.toNat z7
                have ebz := eb z4
                rw [if_pos hz, if_pos ⟨d4.1, by omega⟩, if_pos ⟨y4b.1, by omega⟩, e4, o7, w32_id (by omega) (by omega)]
                have st : ∀ nv, nv = cuf lv D est (cSf lv D est F V i0.toNat) z4 z7 → xH (r3 z1 z2 z4 (z7 + 1) (xw_u m4 585 z7 nv)) (fun s m' => s = 0 ∧ (∀ a, a ≠ 536 → a ≠ 581 → (a < 583 ∨ 585 < a) → m' a = m a) ∧ (∀ q, q ≠ 43 → m' 536 q = m 536 q) ∧ ∃ n, xR m' 536 43 = n ∧ pkn lv D est F V z1 n ∧ ∀ i, 0 ≤ i → i < n → xR m' 581 i = pkf lv D est F V i.toNat) (fun _ _ => False) := fun nv hnv => by
                  have nb : 0 ≤ nv ∧ nv ≤ 20000 := by
                    rw [hnv]
                    unfold cuf
                    split
                    · omega
                    · omega
                  refine ih3 _ _ _ _ _ ⟨rfl, rfl, rfl, ⟨by omega, by omega⟩, fun a ha => by rw [xu_c ha]; exact d5 a ha, fun v v0 v1 => ?_, fun v hv => ?_⟩ (by omega)
                  · rw [xJ_u]
                    by_cases ev : v = z7
                    · rw [if_pos ⟨rfl, ev⟩, ev, ← hnv]; exact w64_id (by omega) (by omega)
                    · rw [if_neg (by omega)]; exact d6 v v0 (by omega)
                  · rw [xJ_ne (by omega)]; exact d7 v (by omega)
                by_cases hlt : est z4 < cSf lv D est F V i0.toNat z7
                · have rk4 : rkd m4 lv D est (fun w => xJ m4 585 w) z2 := fun v v0 v1 => ⟨fun d d0 d1 => by rw [xR_cg (d5 584 (by omega))]; exact (rk3 v v0 v1).1 d d0 d1, by rw [xJ_cg (d5 583 (by omega))]; exact (rk3 v v0 v1).2.1, rfl⟩
                  rw [if_pos hlt, above_ok (B := B) (m := m4) hD (by rw [xR_cg (d5 536 (by omega)), xR_fld (g3f 14 (by omega))]; exact h14') hV rk4 y4b.1 y4b.2 d4.1 hz, xB_ret]
                  by_cases ha : abb lv D z4 z7 = true
                  · rw [if_pos ha, if_neg (by decide), e4]
                    exact st _ (by unfold cuf; rw [if_pos ⟨hlt, ha⟩])
                  · rw [if_neg ha, if_pos rfl, o7]
                    exact st _ (by unfold cuf; rw [if_neg (fun q => ha q.2)])
                · rw [if_neg hlt]
                  exact st _ (by unfold cuf; rw [if_neg (fun q => hlt q.1)])
              · have ez : z7 = z2 := by omega
                rw [ez] at d6
                have f43 : xR m4 536 43 = i0 + 1 := by rw [xR_cg (d5 536 (by omega))]; exact g343
                have fra : ∀ a, a ≠ 536 → a ≠ 581 → (a < 583 ∨ 585 < a) → m4 a = m a := fun a a1 a2 a3 => by rw [d5 a (by omega), g3 a a1 a2]; exact b3 a a1 a2 a3
                have ffa : ∀ q, q ≠ 43 → m4 536 q = m 536 q := fun q hq => by rw [d5 536 (by omega), g3f q hq]; exact b4 q hq
                have pka : ∀ i, 0 ≤ i → i < xR m4 536 43 → pkf lv D est F V i.toNat ≠ -1 ∧ xR m4 581 i = pkf lv D est F V i.toNat := fun i i0' i1 => by rw [f43] at i1; rw [xR_cg (d5 581 (by omega))]; exact g3p i i0' i1
                rw [if_neg hz]
                unfold yk332_191
                rw [if_neg h4, f43]
                by_cases hm : i0 + 1 < z1
                · rw [if_pos hm]
                  refine ih _ _ _ _ ⟨rfl, rfl, fra, ffa, by rw [f43]; omega, pka, Or.inl ⟨rfl, by rw [f43]; exact hm, fun v v0 v1 => ?_⟩⟩ (by rw [f43]; omega)
                  refine ⟨fun d d0 d1 => by rw [xR_cg (d5 584 (by omega))]; exact (rk3 v v0 v1).1 d d0 d1, by rw [xJ_cg (d5 583 (by omega))]; exact (rk3 v v0 v1).2.1, ?_⟩
                  rw [d6 v v0 v1, f43, show (i0 + 1).toNat = i0.toNat + 1 by omega, cs]
                · rw [if_neg hm]
                  refine ih _ _ _ _ ⟨rfl, rfl, fra, ffa, by rw [f43]; omega, pka, Or.inr ⟨rfl, Or.inl (by rw [f43]; omega)⟩⟩ (by rw [f43]; omega)
        · rw [if_pos q1, xH_ret]
          exact ⟨rfl, b3, b4, _, rfl, ⟨b5, fun i i0 i1 => (b6 i i0 i1).1, q2⟩, fun i i0 i1 => (b6 i i0 i1).2⟩
      · rw [xR_at (by decide)]
        by_cases h1 : x30 = 1
        · exact Or.inl ⟨h1, hx30.mp h1, rk0⟩
        · refine Or.inr ⟨by omega, Or.inl ?_⟩
          have : ¬ 0 < k := fun q => h1 (hx30.mpr q)
          omega)
    obtain ⟨s, m', e, rfl, h1, h2, n, h3, h4, h5⟩ := goal
    exact ⟨n, m', e, h1, h2, h3, h4, h5⟩
  by_cases hk0 : 0 < k
  · rw [if_pos hk0]; exact main 1 ⟨fun _ => hk0, fun _ => rfl⟩ (Or.inr rfl)
  · rw [if_neg hk0]; exact main 0 ⟨fun h => absurd h (by decide), fun h => absurd h hk0⟩ (Or.inl rfl)
end PKZ
