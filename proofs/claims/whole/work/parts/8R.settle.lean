/-! OPERATIONS: settle -/
section SOP
variable {B : Nat} {m : xw_M} {c : Int}
/-- behind a change that had no room -/
theorem Inw_F {mz : xw_M} (h : Inw B c m) (hc : c < 600) (k : ∀ a, a < 302 ∨ (336 < a ∧ a < 371) ∨ a = 373 ∨ (376 ≤ a ∧ a ≤ 392) ∨ (417 ≤ a ∧ a ≤ 418) ∨ (420 ≤ a ∧ a ≤ 509) ∨ (511 ≤ a ∧ a ≤ 516) ∨ a = 524 ∨ (537 ≤ a ∧ a ≤ 580) ∨ (586 ≤ a ∧ a ≤ 588) ∨ (595 ≤ a ∧ a ≤ 602) → (a = 0 ∨ a ≠ 0) → mz a = m a) (kf : ∀ q, q ≠ 1 → (q < 43 ∨ 48 < q) → q ≠ 57 → q ≠ 58 → q ≠ 59 → q ≠ 60 → q ≠ 61 → mz 536 q = m 536 q) (t : tpz 518 517 (B * 512 : Nat) mz) (rz : ∃ p, rs B mz p) (tw : ∃ s t, two s t ∧ mz 536 59 = s ∧ mz 536 60 = t) : Inw B (c + 1) mz ∧ anF m mz := by
  have e : ∀ a, a < 302 ∨ (336 < a ∧ a < 371) ∨ a = 373 ∨ (376 ≤ a ∧ a ≤ 392) ∨ (417 ≤ a ∧ a ≤ 418) ∨ (420 ≤ a ∧ a ≤ 509) ∨ (511 ≤ a ∧ a ≤ 516) ∨ a = 524 ∨ (537 ≤ a ∧ a ≤ 580) ∨ (586 ≤ a ∧ a ≤ 588) ∨ (595 ≤ a ∧ a ≤ 602) → mz a = m a := fun a ha => k a ha (by omega)
  refine ⟨Inw_fr h (by omega) (by omega) ⟨fun k' _ => by rw [e 0 (by omega)], fun k' _ => by rw [e 1 (by omega)], fun a a0 a1 => e a (by omega), by rw [e 373 (by omega)], fun a a0 a1 => e a (by omega), fun a ha => e a (by omega), fun q q1 q2 q3 q4 q5 q6 q7 => kf q q1 (by omega) (by omega) (by omega) (by omega) (by omega) (by omega), fun a ha => e a (by omega)⟩ ⟨?_, ?_, t, tpz_fr h.tp.2.2.2.1 (e 524 (by omega)) (e 509 (by omega)), rz⟩ ⟨tw, ?_, ?_, ?_⟩, fun h3 => by rw [xR_fld (kf 3 (by omega) (by omega) (by omega) (by omega) (by omega) (by omega) (by omega))] at h3; exact h3, fun k' _ => by rw [e 0 (by omega)], fun a a0 a1 => e a (by omega), fun q hq => kf q (by omega) (by omega) (by omega) (by omega) (by omega) (by omega) (by omega), fun a ha => e a (by omega)⟩
  · rw [xR_cg (e 508 (by omega))]; exact h.tp.1
  · rw [xR_fld (kf 49 (by omega) (by omega) (by omega) (by omega) (by omega) (by omega) (by omega))]; exact h.tp.2.1
  · rw [e 0 (by omega)]; exact h.pt.2.1
  · rw [kf 22 (by omega) (by omega) (by omega) (by omega) (by omega) (by omega) (by omega), kf 23 (by omega) (by omega) (by omega) (by omega) (by omega) (by omega) (by omega)]; exact h.pt.2.2.1
  · rw [kf 73 (by omega) (by omega) (by omega) (by omega) (by omega) (by omega) (by omega), kf 74 (by omega) (by omega) (by omega) (by omega) (by omega) (by omega) (by omega)]; exact h.pt.2.2.2
theorem settle_dsk {mL mc mz : xw_M} {D M tu Wt nb pl q1 lf wr : Int} {K Rf Rs : Int → Int} {Rv : Int → Int → Int} (F : dsk B m D M tu K Rf Rv) (r : ram m D M tu K) (tu1 : tu < 1000000000) (f0 : 0 ≤ xR m 536 31) (LD : stm B m mL D M Wt nb pl q1 K Rs) (A : cmA B mL mc pl nb tu lf wr) (ro : isRoom (xR m 587) (xR m 588) (xR m 536 52) B nb pl) (pl2 : 2 ≤ pl ∧ pl + nb ≤ B) (nb1 : 1 ≤ nb) (w : mz 516 = mc 516) (k1 : ∀ a, 537 ≤ a → a ≠ 580 → a ≠ 582 → (a < 586 ∨ 594 < a) → a ≠ 603 → a ≠ 604 → mz a = m a) (kf : ∀ q, q = 14 ∨ q = 19 ∨ q = 31 ∨ q = 38 ∨ q = 40 → mz 536 q = m 536 q) (x52 : xR mz 536 52 = 2) (l0 : xR mz 586 0 = xR m 586 0 ∧ xR mz 587 0 = xR m 587 0 ∧ xR mz 588 0 = xR m 588 0) (l1 : xR mz 586 1 = 1 ∧ xR mz 587 1 = pl ∧ xR mz 588 1 = nb) (h580 : ∀ i, 0 ≤ i → i < xR m 536 40 → xR mz 580 i = Rs i) : dsk B mz D M (tu + 1) (fun e => if e = 0 then 1 else 4) (fun _ => xR m 536 31) (fun _ => Rs) := by
  obtain ⟨d1, d2, d3, d4, d5, d6, d7, d8, d9, d10, d11, d12, d13, d14, d15, d16⟩ := LD
  obtain ⟨a1, a2, a3, a4, a5, a6, a7, a8⟩ := A
  have w5 : mL 516 = m 516 := d4 516 (by omega) (by omega) (by omega) (by omega) (by omega) (by omega) (by omega) (by omega) (by omega) (by omega) (by omega)
  have E1 := F.e1
  have kd0 := F.kd 0 (Int.le_refl _) (by omega)
  refine dsk_settle (fw := mL 517) F tu1 f0 ⟨k1 538 (by omega) (by omega) (by omega) (by omega) (by omega) (by omega), k1 539 (by omega) (by omega) (by omega) (by omega) (by omega) (by omega), k1 573 (by omega) (by omega) (by omega) (by omega) (by omega) (by omega), fun i _ _ => ⟨by rw [k1 575 (by omega) (by omega) (by omega) (by omega) (by omega) (by omega)], by rw [k1 576 (by omega) (by omega) (by omega) (by omega) (by omega) (by omega)]⟩⟩ (fun a ha => k1 a (by omega) (by omega) (by omega) (by omega) (by omega) (by omega)) kf x52 l0 l1 h580 (by rw [w, ← w5]; exact a8) ?_ ro pl2 nb1 d1 d2 d3
  have mm := a7
  rw [xR_fld (d9 9 (by omega) (by omega)), xR_fld (d9 10 (by omega) (by omega)), d10, d11, r.lo, r.fa] at mm
  rw [w, xR_fld (kf 38 (by omega)), xR_fld (kf 31 (by omega)), xR_fld (kf 40 (by omega))]
  refine Man_f mm (fun i i0 i1 => ⟨?_, ?_⟩) (fun e e0 e1 => ?_)
  · rw [(d12 i i0 i1).1, xR_cg (k1 579 (by omega) (by omega) (by omega) (by omega) (by omega) (by omega))]
  · rw [(d12 i i0 i1).2, h580 i i0 i1]
  · by_cases he : e = 0
    · subst he
      rw [d13.1, d13.2.1, d13.2.2, l0.2.1, l0.2.2]
      exact ⟨by show K 0 = 1; omega, rfl, rfl⟩
    · have e1' : e = 1 := by omega
      subst e1'
      rw [d14, d15, d16, l1.2.1, l1.2.2]
      exact ⟨rfl, rfl, rfl⟩
theorem settle_op (h : Inw B c m) (hc : c < 600) : opOk B c m (yf215 B) (yf336 B) ag1 := by
  have fb := h.cn.fb
  have ba := h.cn.ba
  have sg := h.cn.sg
  have lo := h.cn.lo
  have hw := h.cn.wr
  have ch := h.cn.ch
  have hbd := h.bd
  by_cases ho : xR m 536 2 = 1 ∧ xR m 536 3 = 0
  · by_cases h16 : xR m 536 39 < 100
    · obtain ⟨D, M, tu, K, Rf, Rv, F, ht, u, v⟩ := h.op ho.1
      have r := u ho.2
      have hD := r.cg.cn.1
      have hM := r.cg.cn.2.1
      have tn := F.tn
      have E0 := F.ex.1
      have E1 := F.e1
      have fu := h.cn.fu ho.2
      have m0 := F.nm.1
      have kd0 := F.kd 0 (Int.le_refl _) (by omega)
      have LR : ∀ m1 : xw_M, (∀ a, 536 ≤ a → a ≠ 604 → m1 a = m a) → _ := fun m1 e => settle_rf (B := B) (m := m1) (D := D) (M := M) (n := xR m 536 31) (k := xR m 536 40) (E := xR m 536 52) (lf := xR m 536 51) (wr := xR m 536 50) (rca_of F ⟨m, r.cg⟩ h.pt e ⟨Int.le_refl _, fb.1, by omega⟩ (fun x d x0 x1 d0 d1 => by rw [Int.zero_add]; exact F.pl x d x0 x1 d0 d1)) (by rw [xR_cg (e 536 (by omega) (by omega))]; exact ho) (by rw [xR_cg (e 536 (by omega) (by omega))]) (by rw [xR_cg (e 536 (by omega) (by omega))]; omega) (by rw [xR_cg (e 536 (by omega) (by omega))]) tn (by rw [xR_cg (e 579 (by omega) (by omega))]; exact F.vn) (by rw [xR_cg (e 536 (by omega) (by omega))]; exact h.tp.2.1) hbd.2 (by rw [xR_cg (e 536 (by omega) (by omega))]) (by rw [xR_cg (e 587 (by omega) (by omega)), xR_cg (e 588 (by omega) (by omega))]; exact F.ex) E1 (by rw [xR_cg (e 586 (by omega) (by omega))]; omega) (fun e' h1 h2 => by rw [xR_cg (e 586 (by omega) (by omega))]; have := F.kd e' (by omega) h2; omega) (by rw [xR_cg (e 536 (by omega) (by omega))]) (by omega) (by omega) (by rw [xR_cg (e 536 (by omega) (by omega))]) hw.2.1 (by omega)
      obtain ⟨bF, b, Rs, Wt, nb, B0, V0, eW, en, HC⟩ := settle_c h ho F r h16
      have same : ∀ m1 : xw_M, (∀ a, 536 ≤ a → a ≠ 604 → m1 a = m a) → ∀ (bF' : Int) (b' Rs' : Int → Int) (Wt' nb' : Int), fbt m1 D M 0 (xR m 536 31) bF' → (∀ i, 0 ≤ i → i < xR m 536 40 → vbt m1 D M (xR m1 579 i) 0 (xR m 536 31) (Rs' i) (b' i)) → Wt' = bF' + rsum b' (xR m 536 40).toNat → nb' = (8 + Wt' + 4095) / 4096 → nb' = nb ∧ ∀ i, 0 ≤ i → i < xR m 536 40 → Rs' i = Rs i := by
        intro m1 e bF' b' Rs' Wt' nb' hF' hV' eW' en'
        have rs : rsm m1 m (0 + xR m 536 31) := ⟨(e 538 (by omega) (by omega)).symm, (e 539 (by omega) (by omega)).symm, (e 573 (by omega) (by omega)).symm, fun i _ _ => ⟨by rw [e 575 (by omega) (by omega)], by rw [e 576 (by omega) (by omega)]⟩⟩
        have q1 := fbt_uniq fb.1 (fbt_m rs hD hM (Int.le_refl _) fb.1 (Int.le_refl _) hF') B0
        have q2 : ∀ i, 0 ≤ i → i < xR m 536 40 → Rs' i = Rs i ∧ b' i = b i := fun i i0 i1 => by
          have := vbt_m rs hD hM (Int.le_refl _) (Int.le_refl _) (hV' i i0 i1)
          rw [xR_cg (e 579 (by omega) (by omega))] at this
          exact vbt_uniq hD.1 hM this (V0 i i0 i1)
        have q3 : rsum b' (xR m 536 40).toNat = rsum b (xR m 536 40).toNat := rsum_cg _ (fun i i0 i1 => (q2 i i0 (by omega)).2)
        refine ⟨?_, fun i i0 i1 => (q2 i i0 i1).1⟩
        rw [en', en, eW', eW, q1, q3]
      have nb1 : 1 ≤ nb := by
        have := fbt_b hD hM (by omega) B0
        have rb := rsum_b (b := b) (lo := 4) (hi := 7000000) (xR m 536 40).toNat (fun i i0 i1 => by have := vbt_b hD hM (by omega) (V0 i i0 (by omega)); omega)
        omega
      rcases HC with ⟨m7, z7, Ro, f7, t7, rz7⟩ | ⟨pl, mL, q1, hv, ro, LD, zL⟩
      · refine ⟨_, _, z7, fun m1 e1 => ?_⟩
        have er : ∀ a, 536 ≤ a → a ≠ 604 → m1 a = m a := fun a a0 a1 => by rw [e1 a a1]; exact f7 a (by omega) (by omega) (by omega) (by omega) (by omega) (by omega) (by omega) (by omega) (by omega)
        obtain ⟨bF', b', Rs', Wt', nb', B1, V1, eW1, en1, H⟩ := LR m1 er
        obtain ⟨eN, eR⟩ := same m1 er bF' b' Rs' Wt' nb' B1 V1 eW1 en1
        rw [eN, xR_cg (er 587 (by omega) (by omega)), xR_cg (er 588 (by omega) (by omega))] at H
        rcases H with ⟨mz, z, fl, L, g1, g2⟩ | ⟨fi, mz, h2, ro, _⟩
        · have cz : ∀ a, a ≠ 536 → a ≠ 582 → (a < 589 ∨ 594 < a) → a ≠ 603 → mz a = m1 a := fun a h1 h2 h3 h4 => by
            by_cases h580 : a = 580 ∨ a = 586 ∨ a = 587 ∨ a = 588
            · exact g2 a h580
            · exact L.1 a h1 (by omega) h2 (by omega) h4
          have I := Inw_F (mz := mz) h hc (fun a ha _ => by
            rw [cz a (by omega) (by omega) (by omega) (by omega), e1 a (by omega)]
            exact f7 a (by omega) (by omega) (by omega) (by omega) (by omega) (by omega) (by omega) (by omega) (by omega)) (fun q q1 _ q2 q3 q4 q5 q6 => by
            rw [← er 536 (by omega) (by omega)]
            by_cases h3 : q = 3 ∨ q = 39 ∨ q = 50 ∨ q = 51 ∨ q = 52
            · exact g1 q h3
            · exact L.2.1 q q1 (by omega) (by omega) (by omega) (by omega) (by omega) q2 q3 q4 q5 q6) (tpz_fr t7 (by rw [cz 518 (by omega) (by omega) (by omega) (by omega), e1 518 (by omega)]) (by rw [cz 517 (by omega) (by omega) (by omega) (by omega), e1 517 (by omega)])) (by
            obtain ⟨p, hp⟩ := rz7
            exact ⟨p, rs_fr hp (by rw [cz 530 (by omega) (by omega) (by omega) (by omega), e1 530 (by omega)])⟩) L.2.2.2
          exact ⟨_, _, z, I.1, Or.inl I.2, Or.inl ⟨rfl, L.2.2.1⟩⟩
        · have := isRoom_uniq ro Ro; omega
      · have pb : 2 ≤ pl ∧ pl + nb ≤ B := by
          rcases ro with ⟨q, _⟩ | ⟨q, _⟩
          · exact absurd q hv
          · exact q
        obtain ⟨d1, d2, d3, d4, d5, d6, d7, d8, d9, d10, d11, d12, d13, d14, d15, d16⟩ := id LD
        have cL : ∀ a, (1 ≤ a ∧ a < 302) ∨ (336 < a ∧ a < 371) ∨ (373 ≤ a ∧ a < 395) ∨ (417 ≤ a ∧ a ≤ 418) ∨ (420 ≤ a ∧ a ≤ 507) ∨ a = 509 ∨ a = 516 ∨ a = 524 ∨ 536 ≤ a → mL a = m a := fun a ha => d4 a (by omega) (by omega) (by omega) (by omega) (by omega) (by omega) (by omega) (by omega) (by omega) (by omega) (by omega)
        have ptL : ptr mL := ptr_fr h.pt (fun k _ => by rw [cL 536 (by omega)]) (fun k hk => d7 k (by omega))
        have ob := (ans_ob ptL).2
        have rfe : ∀ (mc m1 m1' : xw_M), (∀ a, a ≠ 516 → a ≠ 508 → a ≠ 509 → a ≠ 524 → mc a = mL a) → fgC mc m1 → (∀ a, a ≠ 604 → m1' a = xw_u m1 0 14 2 a) → (∀ a, 536 ≤ a → a ≠ 604 → m1' a = m a) ∧ m1' 516 = mc 516 := by
          intro mc m1 m1' f1 g e1
          have o2 : mc 0 12 = mL 0 12 := by rw [f1 0 (by omega) (by omega) (by omega) (by omega)]
          refine ⟨fun a a0 a1 => ?_, ?_⟩
          · rw [e1 a a1, xu_c (by omega), g.1 a (by omega) (by omega) (by omega) (by omega) (by omega), f1 a (by omega) (by omega) (by omega) (by omega)]
            exact cL a (by omega)
          · rw [e1 516 (by omega), xu_c (by omega), g.1 516 (by omega) (by omega) (by omega) (by omega) (by omega)]
        have goal := xH_ex (Q := fun v m' => ∀ m1', (∀ a, a ≠ 604 → m1' a = m' a) → ∃ v' m2, yf336 B m1' = some (.inl v', m2) ∧ Inw B (c + 1) m2 ∧ (anF m m2 ∨ anN m2) ∧ ag1 (.inl v) (xR m2 536 1) v') (cm_all (B := B) (m := mL) (S := fun m12 => some (.inl (nb + 1), m12)) (pl := pl) (n := nb) (lf := xR m 536 51) (wr := xR m 536 50) (tu := tu) hbd.2 (by omega) (by omega) (Or.inl pb) (by omega) (by rw [xR_fld (d9 18 (by omega) (by omega))]; exact fu.1) (by rw [xR_fld (d9 19 (by omega) (by omega))]; exact hw.1) hw.2.1 (by omega) (by rw [xR_fld (d9 8 (by omega) (by omega))]; exact r.tu) (by omega) (by omega) (by rw [d10]; exact tn) (by rw [d11]; omega) (tpz_fr h.tp.2.2.2.1 (cL 524 (by omega)) (cL 509 (by omega))) ptL (fun mc A hl => by
            rw [xH_ret]
            intro m1' e1
            obtain ⟨a1, a2, a3, a4, a5, a6, a7, a8⟩ := id A
            have er : ∀ a, 536 ≤ a → a ≠ 604 → m1' a = m a := fun a a0 a1' => by
              rw [e1 a a1', a1 a (by omega) (by omega) (by omega) (by omega)]
              exact cL a (by omega)
            obtain ⟨bF', b', Rs', Wt', nb', B1, V1, eW1, en1, H⟩ := LR m1' er
            obtain ⟨eN, eR⟩ := same m1' er bF' b' Rs' Wt' nb' B1 V1 eW1 en1
            rw [eN, xR_cg (er 587 (by omega) (by omega)), xR_cg (er 588 (by omega) (by omega))] at H
            rcases H with ⟨mz, z, fl, L, g1, g2⟩ | ⟨fi, mz, h2, ro', L, x39, H⟩
            · exact absurd (isRoom_uniq ro fl) hv
            · have efi := isRoom_uniq ro' ro
              subst efi
              rw [xR_cg (er 536 (by omega) (by omega))] at x39
              rcases H with ⟨hl', x50, x51, x52, xl0, xl1, x580, H⟩ | ⟨hl', _⟩
              · rcases H with ⟨hne, x3, z⟩ | ⟨hne, _⟩
                · rw [xR_cg (er 586 (by omega) (by omega))] at xl0
                  have k1 : ∀ a, 537 ≤ a → a ≠ 580 → a ≠ 582 → (a < 586 ∨ 594 < a) → a ≠ 603 → a ≠ 604 → mz a = m a := fun a h0 h1 h2 h3 h4 h5 => by rw [L.1 a (by omega) h1 h2 h3 h4]; exact er a (by omega) h5
                  have kf : ∀ q, q ≠ 1 → q ≠ 3 → q ≠ 39 → (q < 50 ∨ 52 < q) → (q < 57 ∨ 61 < q) → mz 536 q = m 536 q := fun q q1 q3 q39 q50 q57 => by rw [L.2.1 q q1 q3 q39 (by omega) (by omega) (by omega) (by omega) (by omega) (by omega) (by omega) (by omega), er 536 (by omega) (by omega)]
                  have cz : ∀ a, a < 536 → mz a = mc a := fun a ha => by rw [L.1 a (by omega) (by omega) (by omega) (by omega) (by omega), e1 a (by omega)]
                  have clz : ∀ a, (1 ≤ a ∧ a < 302) ∨ (336 < a ∧ a < 371) ∨ (373 ≤ a ∧ a < 395) ∨ (417 ≤ a ∧ a ≤ 418) ∨ (420 ≤ a ∧ a ≤ 507) → mz a = m a := fun a ha => by
                    rw [cz a (by omega), a1 a (by omega) (by omega) (by omega) (by omega)]
                    exact cL a (by omega)
                  have z0 : ∀ k, k ≠ 16 → mz 0 k = m 0 k := fun k hk => by rw [cz 0 (by omega), a1 0 (by omega) (by omega) (by omega) (by omega)]; exact d7 k hk
                  have z16 : xR mz 0 16 = xR m 0 16 + 1 := by rw [xR_cg (cz 0 (by omega)), xR_cg (a1 0 (by omega) (by omega) (by omega) (by omega))]; exact d8
                  have DN := settle_dsk (mz := mz) F r (by omega) fb.1 LD A ro pb nb1 (cz 516 (by omega)) k1 (fun q hq => kf q (by omega) (by omega) (by omega) (by omega) (by omega)) x52 xl0 xl1 (fun i i0 i1 => by rw [x580 i i0 i1, eR i i0 i1])
                  have w508 : ∀ q, q ≠ 8 → q ≠ 18 → q ≠ 19 → xR mz 508 q = xR mL 508 q := fun q q1 q2 q3 => by rw [xR_cg (cz 508 (by omega)), xR_fld (a2 q q1 q2 q3)]
                  have L51 : ∀ a, 511 ≤ a → a ≤ 515 → xR mz a = xR mL a := fun a a0 a1' => by rw [xR_cg (cz a (by omega)), xR_cg (a1 a (by omega) (by omega) (by omega) (by omega))]
                  have cat : ∀ a, 3 ≤ a → a < 223 → mz a = m a := fun a a0 a1' => clz a (by omega)
                  have bt := bt_fr (m' := mz) r (fun a a0 a1' => clz a (by omega)) (fun k hk => kf k (by omega) (by omega) (by omega) (by omega) (by omega)) (fun a ha => k1 a (by omega) (by omega) (by omega) (by omega) (by omega) (by omega))
                  refine ⟨_, _, z, Inw_A (mz := mz) h hc ho (fun a ha => clz a (by omega)) (by
                    obtain ⟨p, hp⟩ := d6
                    exact ⟨p, rs_fr hp (by rw [cz 530 (by omega), a1 530 (by omega) (by omega) (by omega) (by omega)])⟩) (fun k hk => z0 k (by omega)) (by rw [cz 508 (by omega), a2 0 (by omega) (by omega) (by omega), d9 0 (by omega) (by omega)]) (tpz_fr d5 (by rw [cz 518 (by omega), a1 518 (by omega) (by omega) (by omega) (by omega)]) (by rw [cz 517 (by omega), a1 517 (by omega) (by omega) (by omega) (by omega)])) (tpz_fr a6 (cz 524 (by omega)) (cz 509 (by omega))) (fun k hk => kf k (by omega) (by omega) (by omega) (by omega) (by omega)) L.2.2.2 x3 (fun a ha => k1 a (by omega) (by omega) (by omega) (by omega) (by omega) (by omega)) ?_ ⟨D, M, tu + 1, _, _, _, DN, by omega, ?_⟩, Or.inl ⟨fun h3 => by omega, fun k hk => z0 k (by omega), fun a a0 a1' => clz a (by omega), fun q hq => kf q (by omega) (by omega) (by omega) (by omega) (by omega), fun a ha => k1 a (by omega) (by omega) (by omega) (by omega) (by omega) (by omega)⟩, Or.inl ⟨rfl, L.2.2.1⟩⟩
                  · unfold cnr
                    rw [x50, x51, x3, x39, z16, xR_fld (z0 15 (by omega)), xR_fld (kf 33 (by omega) (by omega) (by omega) (by omega) (by omega)), xR_fld (kf 32 (by omega) (by omega) (by omega) (by omega) (by omega)), xR_fld (kf 31 (by omega) (by omega) (by omega) (by omega) (by omega)), xR_fld (kf 38 (by omega) (by omega) (by omega) (by omega) (by omega)), xR_cg (cz 508 (by omega)), a5, a4, xR_cg (clz 373 (by omega))]
                    refine ⟨sg, ⟨by rw [ch.1], by omega, by omega⟩, ⟨rfl, by omega, by omega⟩, ba, fb, ⟨lo.1, by omega⟩, fun _ => ?_, fun h3 => by omega⟩
                    unfold fz
                    by_cases hneg : xR m 536 51 < 0
                    · rw [if_neg (by omega), if_pos hneg]; omega
                    · rw [if_pos (by omega), if_neg hneg]
                      exact ⟨rfl, by omega⟩
                  · refine ⟨cgr_m (kf 14 (by omega) (by omega) (by omega) (by omega) (by omega)) (kf 19 (by omega) (by omega) (by omega) (by omega) (by omega)) (k1 538 (by omega) (by omega) (by omega) (by omega) (by omega) (by omega)) (k1 539 (by omega) (by omega) (by omega) (by omega) (by omega) (by omega)) (k1 542 (by omega) (by omega) (by omega) (by omega) (by omega) (by omega)) (k1 543 (by omega) (by omega) (by omega) (by omega) (by omega) (by omega)) (cgr_w cat r.cg), vls_m (k1 540 (by omega) (by omega) (by omega) (by omega) (by omega) (by omega)) (vls_w hD.2 (fun d d0 d1 => (r.cg.cn.2.2.2.2.1 d d0 d1).2.1.2) cat r.vl), fun d d0 d1 => ?_, by rw [xR_cg (cz 508 (by omega))]; exact a3, ?_, ?_, ?_, ?_, fun i i0 i1 => ?_, fun e e0 e1' => ?_, bt⟩
                    · rw [xR_cg (cat (15 + 26 * d) (by omega) (by omega))]
                      exact arrd_cg (r.ar d d0 d1) (r.cg.cn.2.2.2.2.1 d d0 d1).2.1.2 (fun a a0 a1' => cat a (by omega) (by omega))
                    · rw [w508 9 (by omega) (by omega) (by omega), xR_fld (d9 9 (by omega) (by omega)), xR_fld (kf 38 (by omega) (by omega) (by omega) (by omega) (by omega))]; exact r.lo
                    · rw [w508 10 (by omega) (by omega) (by omega), xR_fld (d9 10 (by omega) (by omega)), xR_fld (kf 31 (by omega) (by omega) (by omega) (by omega) (by omega))]; exact r.fa
                    · rw [w508 11 (by omega) (by omega) (by omega), d10, xR_fld (kf 40 (by omega) (by omega) (by omega) (by omega) (by omega))]
                    · rw [w508 14 (by omega) (by omega) (by omega), d11, x52]
                    · rw [xR_fld (kf 40 (by omega) (by omega) (by omega) (by omega) (by omega))] at i1
                      rw [L51 511 (by omega) (by omega), L51 512 (by omega) (by omega), (d12 i i0 i1).1, (d12 i i0 i1).2, x580 i i0 i1, eR i i0 i1, xR_cg (k1 579 (by omega) (by omega) (by omega) (by omega) (by omega) (by omega))]
                      exact ⟨rfl, rfl⟩
                    · rw [x52] at e1'
                      rw [L51 513 (by omega) (by omega), L51 514 (by omega) (by omega), L51 515 (by omega) (by omega)]
                      by_cases he : e = 0
                      · subst he
                        rw [d13.1, d13.2.1, d13.2.2, xl0.2.1, xl0.2.2]
                        exact ⟨by show K 0 = 1; omega, rfl, rfl⟩
                      · have e1'' : e = 1 := by omega
                        subst e1''
                        rw [d14, d15, d16, xl1.2.1, xl1.2.2]
                        exact ⟨rfl, rfl, rfl⟩
                · omega
              · omega) (fun hl mc m1 A g m1' e1 => by
            obtain ⟨er, w516⟩ := rfe mc m1 m1' A.1 g e1
            obtain ⟨a1, a2, a3, a4, a5, a6, a7, a8⟩ := id A
            obtain ⟨bF', b', Rs', Wt', nb', B1, V1, eW1, en1, H⟩ := LR m1' er
            obtain ⟨eN, eR⟩ := same m1' er bF' b' Rs' Wt' nb' B1 V1 eW1 en1
            rw [eN, xR_cg (er 587 (by omega) (by omega)), xR_cg (er 588 (by omega) (by omega))] at H
            rcases H with ⟨mz, z, fl, L, g1, g2⟩ | ⟨fi, mz, h2, ro', L, x39, H⟩
            · exact absurd (isRoom_uniq ro fl) hv
            · have efi := isRoom_uniq ro' ro
              subst efi
              rw [xR_cg (er 536 (by omega) (by omega))] at x39
              rcases H with ⟨hl', x50, x51, x52, xl0, xl1, x580, H⟩ | ⟨hl', _⟩
              · rcases H with ⟨hne, _⟩ | ⟨hne, x3, m2, z, R⟩
                · omega
                · rw [xR_cg (er 586 (by omega) (by omega))] at xl0
                  have k1 : ∀ a, 537 ≤ a → a ≠ 580 → a ≠ 582 → (a < 586 ∨ 594 < a) → a ≠ 603 → a ≠ 604 → mz a = m a := fun a h0 h1 h2 h3 h4 h5 => by rw [L.1 a (by omega) h1 h2 h3 h4]; exact er a (by omega) h5
                  have kf : ∀ q, q ≠ 1 → q ≠ 3 → q ≠ 39 → (q < 50 ∨ 52 < q) → (q < 57 ∨ 61 < q) → mz 536 q = m 536 q := fun q q1 q3 q39 q50 q57 => by rw [L.2.1 q q1 q3 q39 (by omega) (by omega) (by omega) (by omega) (by omega) (by omega) (by omega) (by omega), er 536 (by omega) (by omega)]
                  have DN := settle_dsk (mz := mz) F r (by omega) fb.1 LD A ro pb nb1 (by rw [L.1 516 (by omega) (by omega) (by omega) (by omega) (by omega), w516]) k1 (fun q hq => kf q (by omega) (by omega) (by omega) (by omega) (by omega)) x52 xl0 xl1 (fun i i0 i1 => by rw [x580 i i0 i1, eR i i0 i1])
                  have c536 : mc 536 = m 536 := by rw [a1 536 (by omega) (by omega) (by omega) (by omega)]; exact cL 536 (by omega)
                  have c0 : mc 0 = mL 0 := a1 0 (by omega) (by omega) (by omega) (by omega)
                  have ptc : ptr mc := ptr_fr ptL (fun k _ => by rw [c536, cL 536 (by omega)]) (fun k _ => by rw [c0])
                  have tpc : tps B mc := by
                    refine ⟨?_, ?_, tpz_fr d5 (a1 518 (by omega) (by omega) (by omega) (by omega)) (a1 517 (by omega) (by omega) (by omega) (by omega)), a6, ?_⟩
                    · rw [xR_fld (a2 0 (by omega) (by omega) (by omega)), xR_fld (d9 0 (by omega) (by omega))]; exact h.tp.1
                    · rw [xR_cg c536]; exact h.tp.2.1
                    · obtain ⟨p, hp⟩ := d6
                      exact ⟨p, rs_fr hp (a1 530 (by omega) (by omega) (by omega) (by omega))⟩
                  have q2 : xR mz 536 2 = 1 := by rw [xR_fld (kf 2 (by omega) (by omega) (by omega) (by omega) (by omega))]; exact ho.1
                  have q33 : xR mz 536 33 = xR m 536 33 := xR_fld (kf 33 (by omega) (by omega) (by omega) (by omega) (by omega))
                  have q31 : xR mz 536 31 = xR m 536 31 := xR_fld (kf 31 (by omega) (by omega) (by omega) (by omega) (by omega))
                  have q38 : xR mz 536 38 = xR m 536 38 := xR_fld (kf 38 (by omega) (by omega) (by omega) (by omega) (by omega))
                  have I := Inw_dn (B := B) (c := c + 1) (m := mc) hbd ⟨by have := h.cc.1; omega, by omega⟩ ptc tpc (by rw [xR_cg (a1 2 (by omega) (by omega) (by omega) (by omega)), xR_cg (cL 2 (by omega))]; exact h.tx.2.2.1) g e1 (fun a ha => L.1 a (by omega) (by omega) (by omega) (by omega) (by omega)) R (fun k hk => by rw [kf k (by omega) (by omega) (by omega) (by omega) (by omega), c536]) L.2.2.2 x3 (Or.inr q2) (by rw [q33, xR_cg c0, xR_fld (d7 15 (by omega))]; exact sg) (by rw [x39, xR_cg c0, d8]; exact ⟨by rw [ch.1], by omega, by omega⟩) (by rw [x50, a5]; exact ⟨rfl, by omega, by omega⟩) (by rw [q31, q33]; omega) (by rw [q38]; omega) (fun h2 => by omega) (fun _ => ⟨D, M, tu + 1, _, _, _, DN, by omega⟩)
                  exact ⟨_, _, z, I.1, Or.inr I.2, Or.inl ⟨rfl, by rw [xR_fld (R.2.2.1 1 (by omega) (by omega) (by omega) (by omega) (by omega) (by omega))]; exact L.2.2.1⟩⟩
              · omega) (fun hl1 hl2 mc m1 C g m1' e1 => by
            obtain ⟨s1, s2, s3, s4, s5⟩ := id C
            obtain ⟨er, w516⟩ := rfe mc m1 m1' (fun a a1 a2 _ _ => s1 a a1 a2) g e1
            obtain ⟨bF', b', Rs', Wt', nb', B1, V1, eW1, en1, H⟩ := LR m1' er
            obtain ⟨eN, eR⟩ := same m1' er bF' b' Rs' Wt' nb' B1 V1 eW1 en1
            rw [eN, xR_cg (er 587 (by omega) (by omega)), xR_cg (er 588 (by omega) (by omega))] at H
            rcases H with ⟨mz, z, fl, L, g1, g2⟩ | ⟨fi, mz, h2, ro', L, x39, H⟩
            · exact absurd (isRoom_uniq ro fl) hv
            · rw [xR_cg (er 536 (by omega) (by omega))] at x39
              rcases H with ⟨hl', _⟩ | ⟨hl', x50, x52, x3, xc, m2, z, R⟩
              · omega
              · have k1 : ∀ a, 537 ≤ a → a ≠ 582 → (a < 589 ∨ 594 < a) → a ≠ 603 → a ≠ 604 → mz a = m a := fun a h0 h2 h3 h4 h5 => by
                  have q : mz a = m1' a := by
                    by_cases h580 : a = 580 ∨ a = 586 ∨ a = 587 ∨ a = 588
                    · exact xc a h580
                    · exact L.1 a (by omega) (by omega) h2 (by omega) h4
                  rw [q]; exact er a (by omega) h5
                have kf : ∀ q, q ≠ 1 → q ≠ 3 → q ≠ 39 → (q < 50 ∨ 52 < q) → (q < 57 ∨ 61 < q) → mz 536 q = m 536 q := fun q q1 q3 q39 q50 q57 => by rw [L.2.1 q q1 q3 q39 (by omega) (by omega) (by omega) (by omega) (by omega) (by omega) (by omega) (by omega), er 536 (by omega) (by omega)]
                have c536 : mc 536 = m 536 := by rw [s1 536 (by omega) (by omega)]; exact cL 536 (by omega)
                have c0 : mc 0 = mL 0 := s1 0 (by omega) (by omega)
                have ptc : ptr mc := ptr_fr ptL (fun k _ => by rw [c536, cL 536 (by omega)]) (fun k _ => by rw [c0])
                have tpc : tps B mc := by
                  refine ⟨?_, ?_, tpz_fr d5 (s1 518 (by omega) (by omega)) (s1 517 (by omega) (by omega)), tpz_fr h.tp.2.2.2.1 (by rw [s1 524 (by omega) (by omega)]; exact cL 524 (by omega)) (by rw [s1 509 (by omega) (by omega)]; exact cL 509 (by omega)), ?_⟩
                  · rw [xR_fld (s2 0 (by omega) (by omega)), xR_fld (d9 0 (by omega) (by omega))]; exact h.tp.1
                  · rw [xR_cg c536]; exact h.tp.2.1
                  · obtain ⟨p, hp⟩ := d6
                    exact ⟨p, rs_fr hp (s1 530 (by omega) (by omega))⟩
                have q2 : xR mz 536 2 = 1 := by rw [xR_fld (kf 2 (by omega) (by omega) (by omega) (by omega) (by omega))]; exact ho.1
                have q33 : xR mz 536 33 = xR m 536 33 := xR_fld (kf 33 (by omega) (by omega) (by omega) (by omega) (by omega))
                have q31 : xR mz 536 31 = xR m 536 31 := xR_fld (kf 31 (by omega) (by omega) (by omega) (by omega) (by omega))
                have q38 : xR mz 536 38 = xR m 536 38 := xR_fld (kf 38 (by omega) (by omega) (by omega) (by omega) (by omega))
                have w5 : mL 516 = m 516 := cL 516 (by omega)
                have DN : dsk B mz D M tu K Rf Rv := dsk_fr2 F ⟨k1 538 (by omega) (by omega) (by omega) (by omega) (by omega), k1 539 (by omega) (by omega) (by omega) (by omega) (by omega), k1 573 (by omega) (by omega) (by omega) (by omega) (by omega), fun i _ _ => ⟨by rw [k1 575 (by omega) (by omega) (by omega) (by omega) (by omega)], by rw [k1 576 (by omega) (by omega) (by omega) (by omega) (by omega)]⟩⟩ (fun a ha => k1 a (by omega) (by omega) (by omega) (by omega) (by omega)) (fun q hq => kf q (by omega) (by omega) (by omega) (by omega) (by omega)) (fun q hq => by
                    rcases hq with rfl | rfl | rfl | rfl
                    · exact q31
                    · exact q38
                    · exact xR_fld (kf 40 (by omega) (by omega) (by omega) (by omega) (by omega))
                    · exact x52) (fun x x0 hx => by
                    rw [L.1 516 (by omega) (by omega) (by omega) (by omega) (by omega), w516, cut_of (pl := pl) (n := xR m 536 51) s5 x ?_, w5]
                    rcases hx with hx | ⟨e, he, hx⟩
                    · omega
                    · have := old_ext F.ex ro hv he.1 he.2 hx.1 hx.2
                      omega)
                have I := Inw_dn (B := B) (c := c + 1) (m := mc) hbd ⟨by have := h.cc.1; omega, by omega⟩ ptc tpc (by rw [xR_cg (s1 2 (by omega) (by omega)), xR_cg (cL 2 (by omega))]; exact h.tx.2.2.1) g e1 (fun a ha => L.1 a (by omega) (by omega) (by omega) (by omega) (by omega)) R (fun k hk => by rw [kf k (by omega) (by omega) (by omega) (by omega) (by omega), c536]) L.2.2.2 x3 (Or.inr q2) (by rw [q33, xR_cg c0, xR_fld (d7 15 (by omega))]; exact sg) (by rw [x39, xR_cg c0, d8]; exact ⟨by rw [ch.1], by omega, by omega⟩) (by rw [x50, s4]; exact ⟨rfl, by omega, by omega⟩) (by rw [q31, q33]; omega) (by rw [q38]; omega) (fun h2 => by omega) (fun _ => ⟨D, M, tu, K, Rf, Rv, DN, by omega⟩)
                exact ⟨_, _, z, I.1, Or.inr I.2, Or.inl ⟨rfl, by rw [xR_fld (R.2.2.1 1 (by omega) (by omega) (by omega) (by omega) (by omega) (by omega))]; exact L.2.2.1⟩⟩))
        obtain ⟨v', m', e', q'⟩ := goal
        unfold opOk
        rw [zL]
        exact ⟨_, _, e', q'⟩
    · unfold opOk yf215
      rw [fopen ((op14 h).mpr ho), xB_ret, ch.1, if_neg h16]
      refine ⟨_, _, rfl, fun m1 e1 => ?_⟩
      have I := Inw_1 (x := 1) h hc e1
      unfold yf336
      rw [isOpen_ok, xB_ret, xR_cg (e1 536 (by omega)), isop ho, if_neg (by decide), if_neg h16]
      exact ⟨_, _, rfl, I.1, Or.inl I.2, Or.inr ⟨rfl, xR_at (by decide)⟩⟩
  · unfold opOk yf215
    rw [fnot (by rw [Ne, op14 h]; exact ho)]
    refine ⟨_, _, rfl, fun m1 e1 => ?_⟩
    have I := Inw_1 (x := 1) h hc e1
    unfold yf336
    rw [isOpen_ok, xB_ret, xR_cg (e1 536 (by omega)), notop h ho, if_pos rfl]
    exact ⟨_, _, rfl, I.1, Or.inl I.2, Or.inr ⟨rfl, xR_at (by decide)⟩⟩
end SOP
