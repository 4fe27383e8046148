/-! OPERATIONS: open, whole -/
section OPW
variable {B : Nat} {m : xw_M} {c : Int}
theorem open_op (h : Inw B c m) (hc : c < 600) : opOk B c m (yf147 B) (yf303 B) ag1 := by
  have fb := h.cn.fb
  have ba := h.cn.ba
  have sg := h.cn.sg
  have lo := h.cn.lo
  have hw := h.cn.wr
  have ch := h.cn.ch
  have hbd := h.bd
  obtain ⟨dq1, dq2⟩ := dims_eq h
  by_cases hr : xR m 536 2 = 0 ∧ xR m 536 3 = 0 ∧ 0 < xR m 536 14 ∧ 0 < xR m 536 19 ∧ ∀ d, 0 ≤ d → d < xR m 536 14 → 0 < xR m 539 d
  · obtain ⟨e2, e3, r14, r19, rm⟩ := hr
    have N := h.nw e2
    obtain ⟨D, M, F⟩ := N.up e3
    have fu := h.cn.fu e3
    have cn := F.cg.cn
    have hD := cn.1
    have hM := cn.2.1
    rw [F.cg.r14] at r14 rm
    rw [F.cg.r19] at r19
    obtain ⟨n31, n38, n40, n52, n32⟩ := N.rf
    obtain ⟨q8, q9, q10, q11, q14⟩ := N.cl
    obtain ⟨ma, w, os, Wt, nb, fa, Aa, Aw, eW, en, nb1, nb100, HC⟩ := open_c h e2 e3 F r14 r19 (fun d d0 d1 => by have := rm d d0 d1; rw [(F.cg.sz d d0 d1).2.2.1] at this; omega)
    have ha : ∀ a, a < 15 ∨ 222 < a → ma a = m a := fun a h1 => fa a (fun d d0 d1 => by omega)
    have hwa : ∀ a, 3 ≤ a → a < 223 → w a = ma a := fun a a0 a1 => Aw a (by omega)
    have cw : cgr w m D M := cgr_w2 (fun a a0 a1 h1 => by rw [hwa a a0 a1]; exact fa a h1) F.cg
    have LR : ∀ m1 : xw_M, (∀ a, 536 ≤ a → a ≠ 604 → m1 a = m a) → _ := fun m1 e => open_rf (B := B) (m := m1) (w := w) (D := D) (M := M) (lf := xR m 536 51) (wr := xR m 536 50) cw.cn (cgr_nm2 (cgr_m (by rw [e 536 (by omega) (by omega)]) (by rw [e 536 (by omega) (by omega)]) (e 538 (by omega) (by omega)) (e 539 (by omega) (by omega)) (e 542 (by omega) (by omega)) (e 543 (by omega) (by omega)) cw)) (by rw [xR_cg (e 536 (by omega) (by omega))]; exact e2) (by rw [xR_cg (e 536 (by omega) (by omega))]; exact e3) r14 r19 (by rw [xR_cg (e 539 (by omega) (by omega))]; exact rm) (by rw [xR_cg (e 536 (by omega) (by omega))]; exact h.tp.2.1) hbd.2 (by rw [xR_cg (e 536 (by omega) (by omega))]; exact n52) (by rw [xR_cg (e 536 (by omega) (by omega))]) (by omega) (by omega) (by rw [xR_cg (e 536 (by omega) (by omega))]) hw.2.1 (by omega)
    rcases HC with ⟨m7, z7, Ro, f7, t7⟩ | ⟨pl, mL, hv, ro, LD, zL⟩
    · refine ⟨_, _, z7, fun m1 e1 => ?_⟩
      have er : ∀ a, 536 ≤ a → a ≠ 604 → m1 a = m a := fun a a0 a1 => by rw [e1 a a1, f7 a (by omega) (by omega)]; exact ha a (by omega)
      obtain ⟨Wt', nb', eW1, en1, H⟩ := LR m1 er
      have eN : nb' = nb := by rw [en1, en, eW1, eW]
      rw [eN, xR_cg (er 587 (by omega) (by omega)), xR_cg (er 588 (by omega) (by omega))] at H
      rcases H with ⟨mz, z, fl, L, g1, g2⟩ | ⟨fi, mz, h2, ro, _⟩
      · have cz : ∀ a, a ≠ 536 → (a < 589 ∨ 589 < a) → a ≠ 594 → mz a = m1 a := fun a h1 h2 h3 => by
          by_cases h580 : a = 540 ∨ a = 573 ∨ a = 574 ∨ a = 586 ∨ a = 587 ∨ a = 588
          · exact g2 a h580
          · exact L.1 a h1 (by omega) (by omega) (by omega) (by omega) h3
        have kf : ∀ q, q ≠ 1 → q ≠ 57 → mz 536 q = m 536 q := fun q q1 q2 => by
          rw [← er 536 (by omega) (by omega)]
          by_cases h3 : q = 2 ∨ q = 3 ∨ q = 50 ∨ q = 51 ∨ q = 52
          · exact g1 q h3
          · exact L.2.1 q q1 (by omega) (by omega) (by omega) (by omega) (by omega) q2
        have c7 : ∀ a, a < 536 → a ≠ 510 → (a < 517 ∨ 523 < a) → mz a = ma a := fun a h1 h2 h3 => by rw [cz a (by omega) (by omega) (by omega), e1 a (by omega), f7 a h2 h3]
        have cm : ∀ a, a < 536 → (a < 15 ∨ 222 < a) → a ≠ 510 → (a < 517 ∨ 523 < a) → mz a = m a := fun a h1 h2 h3 h4 => by rw [c7 a h1 h3 h4]; exact ha a h2
        have k1 : ∀ a, 537 ≤ a → (a < 589 ∨ 589 < a) → a ≠ 594 → a ≠ 604 → mz a = m a := fun a h1 h2 h3 h4 => by rw [cz a (by omega) h2 h3]; exact er a (by omega) h4
        have f2 : xR mz 536 2 = 0 := by rw [xR_fld (kf 2 (by omega) (by omega))]; exact e2
        refine ⟨_, _, z, ⟨hbd, ⟨by have := h.cc.1; omega, by omega⟩, ptr_fr h.pt (fun k hk => kf k (by omega) (by omega)) (fun k _ => by rw [cm 0 (by omega) (by omega) (by omega) (by omega)]), ⟨?_, ?_, tpz_fr t7 (by rw [cz 518 (by omega) (by omega) (by omega), e1 518 (by omega)]) (by rw [cz 517 (by omega) (by omega) (by omega), e1 517 (by omega)]), tpz_fr h.tp.2.2.2.1 (cm 524 (by omega) (by omega) (by omega) (by omega)) (cm 509 (by omega) (by omega) (by omega) (by omega)), ?_⟩, sta_fr h.st (fun k hk => kf k (by omega) (by omega)) (by rw [cm 0 (by omega) (by omega) (by omega) (by omega)]), txt_fr h.tx (fun k _ => by rw [cm 1 (by omega) (by omega) (by omega) (by omega)]) (cm 2 (by omega) (by omega) (by omega) (by omega)) (fun k hk => kf k (by omega) (by omega)) (k1 537 (by omega) (by omega) (by omega) (by omega)), cnr_fr h.cn (by omega) (fun k _ => by rw [cm 0 (by omega) (by omega) (by omega) (by omega)]) (fun k _ => by rw [cm 508 (by omega) (by omega) (by omega) (by omega)]) (by rw [cm 373 (by omega) (by omega) (by omega) (by omega)]) (fun k hk => kf k (by omega) (by omega)), mak_fr h.mk (fun k hk => kf k (by omega) (by omega)) (fun a ha' => ?_), fun _ => ⟨?_, ?_, ?_, ?_, fun h3 => ?_, fun _ => ⟨D, M, cgr_m (kf 14 (by omega) (by omega)) (kf 19 (by omega) (by omega)) (k1 538 (by omega) (by omega) (by omega) (by omega)) (k1 539 (by omega) (by omega) (by omega) (by omega)) (k1 542 (by omega) (by omega) (by omega) (by omega)) (k1 543 (by omega) (by omega) (by omega) (by omega)) (cgr_w2 (fun a a0 a1 h1 => by rw [c7 a (by omega) (by omega) (by omega)]; exact fa a h1) F.cg), fun d d0 d1 => ?_, ?_⟩⟩, fun h2 => by omega⟩, Or.inl ⟨fun h3 => by rw [xR_fld (kf 3 (by omega) (by omega))] at h3; exact h3, fun k _ => by rw [cm 0 (by omega) (by omega) (by omega) (by omega)], fun a a0 a1 => cm a (by omega) (by omega) (by omega) (by omega), fun q hq => kf q (by omega) (by omega), fun a ha' => k1 a (by omega) (by omega) (by omega) (by omega)⟩, Or.inl ⟨rfl, L.2.2⟩⟩
        · rw [xR_cg (cm 508 (by omega) (by omega) (by omega) (by omega))]; exact h.tp.1
        · rw [xR_fld (kf 49 (by omega) (by omega))]; exact h.tp.2.1
        · obtain ⟨p, hp⟩ := h.tp.2.2.2.2
          exact ⟨p, rs_fr hp (cm 530 (by omega) (by omega) (by omega) (by omega))⟩
        · rcases ha' with rfl | rfl | rfl | rfl | rfl
          · exact k1 577 (by omega) (by omega) (by omega) (by omega)
          · exact k1 578 (by omega) (by omega) (by omega) (by omega)
          · exact cm 417 (by omega) (by omega) (by omega) (by omega)
          · exact cm 418 (by omega) (by omega) (by omega) (by omega)
          · exact k1 539 (by omega) (by omega) (by omega) (by omega)
        · rw [cm 516 (by omega) (by omega) (by omega) (by omega)]; exact N.m0
        · rw [cm 516 (by omega) (by omega) (by omega) (by omega)]; exact N.m1
        · rw [xR_fld (kf 31 (by omega) (by omega)), xR_fld (kf 38 (by omega) (by omega)), xR_fld (kf 40 (by omega) (by omega)), xR_fld (kf 52 (by omega) (by omega)), xR_fld (kf 32 (by omega) (by omega))]; exact N.rf
        · rw [xR_cg (cm 508 (by omega) (by omega) (by omega) (by omega))]; exact N.cl
        · rw [xR_fld (kf 3 (by omega) (by omega))] at h3; omega
        · obtain ⟨ρ, p, q⟩ := F.me d d0 d1
          obtain ⟨A1, A2, A3⟩ := Aa d d0 d1
          have L4 := (cn.2.2.2.2.1 d d0 d1).2.1
          have ed : xR mz (15 + 26 * d) = xR m (15 + 26 * d) := xR_cg (by rw [c7 _ (by omega) (by omega) (by omega)]; exact fa _ (fun d' _ _ => by omega))
          refine ⟨fun i => ρ (os d i), ?_⟩
          rw [ed]
          refine ⟨prm_comp p A1.1, fun l i l0 l1 i0 i1 => ?_⟩
          have oi := A1.1.1 i i0 i1
          rw [xR_cg (c7 (15 + 26 * d + 9 + l) (by omega) (by omega) (by omega)), A2 l i l0 l1 i0 i1, xR_cg (k1 540 (by omega) (by omega) (by omega) (by omega))]
          exact q l (os d i) l0 l1 oi.1 oi.2
        · unfold hie; rw [xR_cg (k1 538 (by omega) (by omega) (by omega) (by omega)), xR_cg (k1 539 (by omega) (by omega) (by omega) (by omega)), xR_cg (k1 540 (by omega) (by omega) (by omega) (by omega))]; exact ⟨F.di, F.hi⟩
      · have := isRoom_uniq ro Ro; omega
    · have pb : 2 ≤ pl ∧ pl + nb ≤ B := by
        rcases ro with ⟨q, _⟩ | ⟨q, _⟩
        · exact absurd q hv
        · exact q
      obtain ⟨d1, d2, d3, d4, d5, d6, d7, d8, d9, d10⟩ := id LD
      have cL : ∀ a, (a < 15 ∨ 222 < a) → a ≠ 508 → a ≠ 510 → (a < 513 ∨ 515 < a) → (a < 517 ∨ 523 < a) → mL a = m a := fun a h1 h2 h3 h4 h5 => by rw [d4 a h2 (by omega) h4 h5]; exact ha a h1
      have ptL : ptr mL := ptr_fr h.pt (fun k _ => by rw [cL 536 (by omega) (by omega) (by omega) (by omega) (by omega)]) (fun k _ => by rw [cL 0 (by omega) (by omega) (by omega) (by omega) (by omega)])
      have ob := (ans_ob ptL).2
      have d6m : ∀ k, k ≠ 14 → mL 508 k = m 508 k := fun k hk => by rw [d6 k hk, ha 508 (by omega)]
      have w5 : mL 516 = m 516 := cL 516 (by omega) (by omega) (by omega) (by omega) (by omega)
      have rfe : ∀ (mc m1 m1' : xw_M), (∀ a, a ≠ 516 → a ≠ 508 → a ≠ 509 → a ≠ 524 → mc a = mL a) → fgC mc m1 → (∀ a, a ≠ 604 → m1' a = xw_u m1 0 14 2 a) → (∀ a, 536 ≤ a → a ≠ 604 → m1' a = m a) ∧ m1' 516 = mc 516 := by
        intro mc m1 m1' f1 g e1
        have o2 : mc 0 12 = mL 0 12 := by rw [f1 0 (by omega) (by omega) (by omega) (by omega)]
        refine ⟨fun a a0 a1 => ?_, ?_⟩
        · rw [e1 a a1, xu_c (by omega), g.1 a (by omega) (by omega) (by omega) (by omega) (by omega), f1 a (by omega) (by omega) (by omega) (by omega)]
          exact cL a (by omega) (by omega) (by omega) (by omega) (by omega)
        · rw [e1 516 (by omega), xu_c (by omega), g.1 516 (by omega) (by omega) (by omega) (by omega) (by omega)]
      have goal := xH_ex (Q := fun v m' => ∀ m1', (∀ a, a ≠ 604 → m1' a = m' a) → ∃ v' m2, yf303 B m1' = some (.inl v', m2) ∧ Inw B (c + 1) m2 ∧ (anF m m2 ∨ anN m2) ∧ ag1 (.inl v) (xR m2 536 1) v') (cm_all (B := B) (m := mL) (S := fun m10 => xB (yf30 B (xw_u m10 0 14 1)) fun _ m12 => some (.inl (nb + 1), m12)) (pl := pl) (n := nb) (lf := xR m 536 51) (wr := xR m 536 50) (tu := 0) hbd.2 (by omega) (by omega) (Or.inl pb) (by omega) (by rw [xR_fld (d6m 18 (by omega))]; exact fu.1) (by rw [xR_fld (d6m 19 (by omega))]; exact hw.1) hw.2.1 (by omega) (by rw [xR_fld (d6m 8 (by omega))]; exact q8) (by omega) (by omega) (by rw [xR_fld (d6m 11 (by omega)), q11]; omega) (by rw [d7]; omega) (tpz_fr h.tp.2.2.2.1 (cL 524 (by omega) (by omega) (by omega) (by omega) (by omega)) (cL 509 (by omega) (by omega) (by omega) (by omega) (by omega))) ptL (fun mc A hl => by
          have a1 := A.1
          have a2 := A.2.1
          have a3 := A.2.2.1
          have a4 := A.2.2.2.1
          have a5 := A.2.2.2.2.1
          have a6 := A.2.2.2.2.2.1
          have hb12 := bfact_ok (B := B) (m := xw_u mc 0 14 1)
          show xH (xB (yf30 B (xw_u mc 0 14 1)) fun _ m12 => some (.inl (nb + 1), m12)) _ _
          generalize yf30 B (xw_u mc 0 14 1) = Y12 at hb12 ⊢
          obtain ⟨m12, z12, f12, b12⟩ := hb12
          rw [z12, xB_ret, xH_ret]
          intro m1' e1
          have er : ∀ a, 536 ≤ a → a ≠ 604 → m1' a = m a := fun a a0 a1' => by
            rw [e1 a a1', f12 a (by omega) (by omega), xu_c (by omega), a1 a (by omega) (by omega) (by omega) (by omega)]
            exact cL a (by omega) (by omega) (by omega) (by omega) (by omega)
          obtain ⟨Wt', nb', eW1, en1, H⟩ := LR m1' er
          have eN : nb' = nb := by rw [en1, en, eW1, eW]
          rw [eN, xR_cg (er 587 (by omega) (by omega)), xR_cg (er 588 (by omega) (by omega))] at H
          rcases H with ⟨mz, z, fl, L, g1, g2⟩ | ⟨fi, mz, h2, ro', L, H⟩
          · exact absurd (isRoom_uniq ro fl) hv
          · have efi := isRoom_uniq ro' ro
            subst efi
            rcases H with ⟨hl', x2, x50, x51, x52, xl0, RA, H⟩ | ⟨hl', _⟩
            · rcases H with ⟨hne, x3, z⟩ | ⟨hne, _⟩
              · have k1 : ∀ a, 537 ≤ a → a ≠ 540 → a ≠ 573 → a ≠ 574 → (a < 586 ∨ 589 < a) → a ≠ 594 → a ≠ 604 → mz a = m a := fun a h0 h1 h2 h3 h4 h5 h6 => by rw [L.1 a (by omega) h1 h2 h3 h4 h5]; exact er a (by omega) h6
                have kf : ∀ q, q ≠ 1 → q ≠ 2 → q ≠ 3 → (q < 50 ∨ 52 < q) → q ≠ 57 → mz 536 q = m 536 q := fun q q1 q2 q3 q50 q57 => by rw [L.2.1 q q1 q2 q3 (by omega) (by omega) (by omega) q57, er 536 (by omega) (by omega)]
                have RA' : ∀ d, 0 ≤ d → d < D → rarr m mz d := fun d d0 d1 => by
                  have q := RA d d0 d1
                  unfold rarr at q ⊢
                  rw [xR_cg (er 538 (by omega) (by omega)), xR_cg (er 539 (by omega) (by omega)), xR_cg (er 540 (by omega) (by omega))] at q
                  exact q
                have cz : ∀ a, a < 536 → mz a = m12 a := fun a ha' => by rw [L.1 a (by omega) (by omega) (by omega) (by omega) (by omega) (by omega), e1 a (by omega)]
                have czc : ∀ a, a < 536 → a ≠ 0 → a ≠ 417 → a ≠ 418 → mz a = mc a := fun a h1 h2 h3 h4 => by rw [cz a h1, f12 a h3 h4, xu_c h2]
                have czL : ∀ a, a < 536 → a ≠ 0 → a ≠ 417 → a ≠ 418 → a ≠ 516 → a ≠ 508 → a ≠ 509 → a ≠ 524 → mz a = mL a := fun a h1 h2 h3 h4 h5 h6 h7 h8 => by rw [czc a h1 h2 h3 h4, a1 a h5 h6 h7 h8]
                have clz : ∀ a, a < 536 → a ≠ 0 → (a < 15 ∨ 222 < a) → a ≠ 417 → a ≠ 418 → (a < 508 ∨ 524 < a) → mz a = m a := fun a h1 h2 h3 h4 h5 h6 => by rw [czL a h1 h2 h4 h5 (by omega) (by omega) (by omega) (by omega)]; exact cL a h3 (by omega) (by omega) (by omega) (by omega)
                have cat : ∀ a, 3 ≤ a → a < 223 → mz a = ma a := fun a a0 a1' => by rw [czL a (by omega) (by omega) (by omega) (by omega) (by omega) (by omega) (by omega) (by omega)]; exact d4 a (by omega) (by omega) (by omega) (by omega)
                obtain ⟨G1, G2, G3, G4⟩ := cat_open (w := w) (mz := mz) F fa Aa hwa (fun a ha' => k1 a (by omega) (by omega) (by omega) (by omega) (by omega) (by omega) (by omega)) (fun q hq => kf q (by omega) (by omega) (by omega) (by omega) (by omega)) RA'
                obtain ⟨E1, E2, E3, E4⟩ := cat_open (w := mz) (mz := mz) F fa Aa cat (fun a ha' => k1 a (by omega) (by omega) (by omega) (by omega) (by omega) (by omega) (by omega)) (fun q hq => kf q (by omega) (by omega) (by omega) (by omega) (by omega)) RA'
                have q31 : xR mz 536 31 = 0 := by rw [xR_fld (kf 31 (by omega) (by omega) (by omega) (by omega) (by omega))]; exact n31
                have q38 : xR mz 536 38 = 0 := by rw [xR_fld (kf 38 (by omega) (by omega) (by omega) (by omega) (by omega))]; exact n38
                have q40 : xR mz 536 40 = 0 := by rw [xR_fld (kf 40 (by omega) (by omega) (by omega) (by omega) (by omega))]; exact n40
                have q32 : xR mz 536 32 = 0 := by rw [xR_fld (kf 32 (by omega) (by omega) (by omega) (by omega) (by omega))]; exact n32
                have mem9 : ∀ d, 0 ≤ d → d < D → 0 < xR mz 539 d := by rw [xR_cg (k1 539 (by omega) (by omega) (by omega) (by omega) (by omega) (by omega) (by omega))]; exact rm
                have DN := dsk_open (m := m) (mz := mz) N.m0 hbd G1 G2 G3 r14 r19 mem9 eW LD A w5 ⟨by rw [xR_fld (d6m 9 (by omega))]; exact q9, by rw [xR_fld (d6m 10 (by omega))]; exact q10, by rw [xR_fld (d6m 11 (by omega))]; exact q11⟩ pb nb1 (czc 516 (by omega) (by omega) (by omega) (by omega)) ⟨q31, q38, q40⟩ x52 xl0
                have z0 : ∀ k, k ≠ 14 → mz 0 k = m 0 k := fun k hk => by rw [cz 0 (by omega), f12 0 (by omega) (by omega), xu_ne (by omega), a1 0 (by omega) (by omega) (by omega) (by omega), cL 0 (by omega) (by omega) (by omega) (by omega) (by omega)]
                have z014 : xR mz 0 14 = 1 := by rw [xR_cg (cz 0 (by omega)), xR_cg (f12 0 (by omega) (by omega)), xR_at (by decide)]
                have w508 : ∀ q, q ≠ 8 → q ≠ 18 → q ≠ 19 → xR mz 508 q = xR mL 508 q := fun q q1 q2 q3 => by rw [xR_cg (czc 508 (by omega) (by omega) (by omega) (by omega)), xR_fld (a2 q q1 q2 q3)]
                refine ⟨_, _, z, ⟨hbd, ⟨by have := h.cc.1; omega, by omega⟩, ptr_fr h.pt (fun k hk => kf k (by omega) (by omega) (by omega) (by omega) (by omega)) (fun k hk => z0 k (by omega)), ⟨?_, ?_, tpz_fr d5 (czL 518 (by omega) (by omega) (by omega) (by omega) (by omega) (by omega) (by omega) (by omega)) (czL 517 (by omega) (by omega) (by omega) (by omega) (by omega) (by omega) (by omega) (by omega)), tpz_fr a6 (czc 524 (by omega) (by omega) (by omega) (by omega)) (czc 509 (by omega) (by omega) (by omega) (by omega)), ?_⟩, ⟨Or.inr x2, Or.inl x3, by rw [x3, if_neg (by decide), x2]; exact z014⟩, txt_fr h.tx (fun k _ => by rw [clz 1 (by omega) (by omega) (by omega) (by omega) (by omega) (by omega)]) (clz 2 (by omega) (by omega) (by omega) (by omega) (by omega) (by omega)) (fun k hk => kf k (by omega) (by omega) (by omega) (by omega) (by omega)) (k1 537 (by omega) (by omega) (by omega) (by omega) (by omega) (by omega) (by omega)), ?_, ⟨fun hn => absurd ⟨x2, x3⟩ hn, fun _ _ k k0 k1' => ?_⟩, fun h2 => by omega, fun _ => ⟨D, M, 1, _, _, _, DN, by have := h.cc.1; omega, fun _ => ⟨E1, E2, E4, by rw [xR_cg (czc 508 (by omega) (by omega) (by omega) (by omega)), a3]; rfl, ?_, ?_, ?_, ?_, fun i i0 i1 => by omega, fun e e0 e1' => ?_, fun x x0 x1 => by omega⟩, fun h3 => by omega⟩⟩, Or.inl ⟨fun h3 => by omega, fun k hk => z0 k (by omega), fun a a0 a1' => clz a (by omega) (by omega) (by omega) (by omega) (by omega) (by omega), fun q hq => kf q (by omega) (by omega) (by omega) (by omega) (by omega), fun a ha' => k1 a (by omega) (by omega) (by omega) (by omega) (by omega) (by omega) (by omega)⟩, Or.inl ⟨rfl, L.2.2⟩⟩
                · rw [w508 0 (by omega) (by omega) (by omega), xR_fld (d6m 0 (by omega))]; exact h.tp.1
                · rw [xR_fld (kf 49 (by omega) (by omega) (by omega) (by omega) (by omega))]; exact h.tp.2.1
                · obtain ⟨p, hp⟩ := h.tp.2.2.2.2
                  exact ⟨p, rs_fr hp (clz 530 (by omega) (by omega) (by omega) (by omega) (by omega) (by omega))⟩
                · unfold cnr
                  rw [x50, x51, x3, q31, q32, q38, xR_fld (z0 15 (by omega)), xR_fld (z0 16 (by omega)), xR_fld (kf 33 (by omega) (by omega) (by omega) (by omega) (by omega)), xR_fld (kf 39 (by omega) (by omega) (by omega) (by omega) (by omega)), xR_cg (czc 508 (by omega) (by omega) (by omega) (by omega)), a5, a4, xR_cg (clz 373 (by omega) (by omega) (by omega) (by omega) (by omega) (by omega))]
                  refine ⟨sg, ch, ⟨rfl, by omega, by omega⟩, ⟨by rw [ba.1]; exact n32, by omega, by omega⟩, ⟨by omega, by omega⟩, ⟨by omega, by omega⟩, fun _ => ?_, fun h3 => by omega⟩
                  unfold fz
                  by_cases hneg : xR m 536 51 < 0
                  · rw [if_neg (by omega), if_pos hneg]; omega
                  · rw [if_pos (by omega), if_neg hneg]
                    exact ⟨rfl, by omega⟩
                · have zz := h.mk.z (by omega) k k0 k1'
                  have bb := b12 k k0 k1'
                  rw [xR_cg (cz 417 (by omega)), xJ_cg (cz 418 (by omega)), bb.1, bb.2, xR_cg (k1 577 (by omega) (by omega) (by omega) (by omega) (by omega) (by omega) (by omega)), xJ_cg (k1 578 (by omega) (by omega) (by omega) (by omega) (by omega) (by omega) (by omega)), zz.1, zz.2]
                  refine ⟨rfl, rfl, fun hk => ⟨Int.le_refl _, mem9 k k0 ?_⟩⟩
                  rw [E1.r14] at hk
                  exact hk
                · rw [w508 9 (by omega) (by omega) (by omega), xR_fld (d6m 9 (by omega)), q9, q38]
                · rw [w508 10 (by omega) (by omega) (by omega), xR_fld (d6m 10 (by omega)), q10, q31]
                · rw [w508 11 (by omega) (by omega) (by omega), xR_fld (d6m 11 (by omega)), q11, q40]
                · rw [w508 14 (by omega) (by omega) (by omega), d7, x52]
                · rw [x52] at e1'
                  have ee : e = 0 := by omega
                  subst ee
                  rw [xR_cg (czL 513 (by omega) (by omega) (by omega) (by omega) (by omega) (by omega) (by omega) (by omega)), xR_cg (czL 514 (by omega) (by omega) (by omega) (by omega) (by omega) (by omega) (by omega) (by omega)), xR_cg (czL 515 (by omega) (by omega) (by omega) (by omega) (by omega) (by omega) (by omega) (by omega)), d8, d9, d10, xl0.2.1, xl0.2.2]
                  exact ⟨rfl, rfl, rfl⟩
              · omega
            · omega) (fun hl mc m1 A g m1' e1 => by
          obtain ⟨er, w516⟩ := rfe mc m1 m1' A.1 g e1
          have a1 := A.1
          have a2 := A.2.1
          have a5 := A.2.2.2.2.1
          have a6 := A.2.2.2.2.2.1
          obtain ⟨Wt', nb', eW1, en1, H⟩ := LR m1' er
          have eN : nb' = nb := by rw [en1, en, eW1, eW]
          rw [eN, xR_cg (er 587 (by omega) (by omega)), xR_cg (er 588 (by omega) (by omega))] at H
          rcases H with ⟨mz, z, fl, L, g1, g2⟩ | ⟨fi, mz, h2, ro', L, H⟩
          · exact absurd (isRoom_uniq ro fl) hv
          · have efi := isRoom_uniq ro' ro
            subst efi
            rcases H with ⟨hl', x2, x50, x51, x52, xl0, RA, H⟩ | ⟨hl', _⟩
            · rcases H with ⟨hne, _⟩ | ⟨hne, x3, m2, z, R⟩
              · omega
              · have k1 : ∀ a, 537 ≤ a → a ≠ 540 → a ≠ 573 → a ≠ 574 → (a < 586 ∨ 589 < a) → a ≠ 594 → a ≠ 604 → mz a = m a := fun a h0 h1 h2 h3 h4 h5 h6 => by rw [L.1 a (by omega) h1 h2 h3 h4 h5]; exact er a (by omega) h6
                have kf : ∀ q, q ≠ 1 → q ≠ 2 → q ≠ 3 → (q < 50 ∨ 52 < q) → q ≠ 57 → mz 536 q = m 536 q := fun q q1 q2 q3 q50 q57 => by rw [L.2.1 q q1 q2 q3 (by omega) (by omega) (by omega) q57, er 536 (by omega) (by omega)]
                have RA' : ∀ d, 0 ≤ d → d < D → rarr m mz d := fun d d0 d1 => by
                  have q := RA d d0 d1
                  unfold rarr at q ⊢
                  rw [xR_cg (er 538 (by omega) (by omega)), xR_cg (er 539 (by omega) (by omega)), xR_cg (er 540 (by omega) (by omega))] at q
                  exact q
                obtain ⟨G1, G2, G3, G4⟩ := cat_open (w := w) (mz := mz) F fa Aa hwa (fun a ha' => k1 a (by omega) (by omega) (by omega) (by omega) (by omega) (by omega) (by omega)) (fun q hq => kf q (by omega) (by omega) (by omega) (by omega) (by omega)) RA'
                have q31 : xR mz 536 31 = 0 := by rw [xR_fld (kf 31 (by omega) (by omega) (by omega) (by omega) (by omega))]; exact n31
                have q38 : xR mz 536 38 = 0 := by rw [xR_fld (kf 38 (by omega) (by omega) (by omega) (by omega) (by omega))]; exact n38
                have q40 : xR mz 536 40 = 0 := by rw [xR_fld (kf 40 (by omega) (by omega) (by omega) (by omega) (by omega))]; exact n40
                have mem9 : ∀ d, 0 ≤ d → d < D → 0 < xR mz 539 d := by rw [xR_cg (k1 539 (by omega) (by omega) (by omega) (by omega) (by omega) (by omega) (by omega))]; exact rm
                have DN := dsk_open (m := m) (mz := mz) N.m0 hbd G1 G2 G3 r14 r19 mem9 eW LD A w5 ⟨by rw [xR_fld (d6m 9 (by omega))]; exact q9, by rw [xR_fld (d6m 10 (by omega))]; exact q10, by rw [xR_fld (d6m 11 (by omega))]; exact q11⟩ pb nb1 (by rw [L.1 516 (by omega) (by omega) (by omega) (by omega) (by omega) (by omega), w516]) ⟨q31, q38, q40⟩ x52 xl0
                have c536 : mc 536 = m 536 := by rw [a1 536 (by omega) (by omega) (by omega) (by omega)]; exact cL 536 (by omega) (by omega) (by omega) (by omega) (by omega)
                have c0 : mc 0 = m 0 := by rw [a1 0 (by omega) (by omega) (by omega) (by omega)]; exact cL 0 (by omega) (by omega) (by omega) (by omega) (by omega)
                have ptc : ptr mc := ptr_fr h.pt (fun k _ => by rw [c536]) (fun k _ => by rw [c0])
                have tpc : tps B mc := by
                  refine ⟨?_, ?_, tpz_fr d5 (a1 518 (by omega) (by omega) (by omega) (by omega)) (a1 517 (by omega) (by omega) (by omega) (by omega)), a6, ?_⟩
                  · rw [xR_fld (a2 0 (by omega) (by omega) (by omega)), xR_fld (d6m 0 (by omega))]; exact h.tp.1
                  · rw [xR_cg c536]; exact h.tp.2.1
                  · obtain ⟨p, hp⟩ := h.tp.2.2.2.2
                    exact ⟨p, rs_fr hp (by rw [a1 530 (by omega) (by omega) (by omega) (by omega)]; exact cL 530 (by omega) (by omega) (by omega) (by omega) (by omega))⟩
                have q33 : xR mz 536 33 = xR m 536 33 := xR_fld (kf 33 (by omega) (by omega) (by omega) (by omega) (by omega))
                have q39 : xR mz 536 39 = xR m 536 39 := xR_fld (kf 39 (by omega) (by omega) (by omega) (by omega) (by omega))
                have I := Inw_dn (B := B) (c := c + 1) (m := mc) hbd ⟨by have := h.cc.1; omega, by omega⟩ ptc tpc (by rw [xR_cg (a1 2 (by omega) (by omega) (by omega) (by omega)), xR_cg (cL 2 (by omega) (by omega) (by omega) (by omega) (by omega))]; exact h.tx.2.2.1) g e1 (fun a ha' => L.1 a (by omega) (by omega) (by omega) (by omega) (by omega) (by omega)) R (fun k hk => by rw [kf k (by omega) (by omega) (by omega) (by omega) (by omega), c536]) (two_m h.pt.1 (kf 59 (by omega) (by omega) (by omega) (by omega) (by omega)) (kf 60 (by omega) (by omega) (by omega) (by omega) (by omega))) x3 (Or.inr x2) (by rw [q33, xR_cg c0]; exact sg) (by rw [q39, xR_cg c0]; exact ch) (by rw [x50, a5]; exact ⟨rfl, by omega, by omega⟩) (by rw [q31, q33]; omega) (by rw [q38]; have := h.cc.1; omega) (fun h2 => by omega) (fun _ => ⟨D, M, 1, _, _, _, DN, by have := h.cc.1; omega⟩)
                exact ⟨_, _, z, I.1, Or.inr I.2, Or.inl ⟨rfl, by rw [xR_fld (R.2.2.1 1 (by omega) (by omega) (by omega) (by omega) (by omega) (by omega))]; exact L.2.2⟩⟩
            · omega) (fun hl1 hl2 mc m1 C g m1' e1 => by
          obtain ⟨s1, s2, s3, s4, s5⟩ := id C
          obtain ⟨er, w516⟩ := rfe mc m1 m1' (fun a a1 a2 _ _ => s1 a a1 a2) g e1
          obtain ⟨Wt', nb', eW1, en1, H⟩ := LR m1' er
          have eN : nb' = nb := by rw [en1, en, eW1, eW]
          rw [eN, xR_cg (er 587 (by omega) (by omega)), xR_cg (er 588 (by omega) (by omega))] at H
          rcases H with ⟨mz, z, fl, L, g1, g2⟩ | ⟨fi, mz, h2, ro', L, H⟩
          · exact absurd (isRoom_uniq ro fl) hv
          · rcases H with ⟨hl', _⟩ | ⟨hl', x2, x50, x52, x3, xc, m2, z, R⟩
            · omega
            · have kf : ∀ q, q ≠ 1 → q ≠ 2 → q ≠ 3 → (q < 50 ∨ 52 < q) → q ≠ 57 → mz 536 q = m 536 q := fun q q1 q2 q3 q50 q57 => by rw [L.2.1 q q1 q2 q3 (by omega) (by omega) (by omega) q57, er 536 (by omega) (by omega)]
              have q31 : xR mz 536 31 = 0 := by rw [xR_fld (kf 31 (by omega) (by omega) (by omega) (by omega) (by omega))]; exact n31
              have q38 : xR mz 536 38 = 0 := by rw [xR_fld (kf 38 (by omega) (by omega) (by omega) (by omega) (by omega))]; exact n38
              have q40 : xR mz 536 40 = 0 := by rw [xR_fld (kf 40 (by omega) (by omega) (by omega) (by omega) (by omega))]; exact n40
              have c536 : mc 536 = m 536 := by rw [s1 536 (by omega) (by omega)]; exact cL 536 (by omega) (by omega) (by omega) (by omega) (by omega)
              have c0 : mc 0 = m 0 := by rw [s1 0 (by omega) (by omega)]; exact cL 0 (by omega) (by omega) (by omega) (by omega) (by omega)
              have ptc : ptr mc := ptr_fr h.pt (fun k _ => by rw [c536]) (fun k _ => by rw [c0])
              have tpc : tps B mc := by
                refine ⟨?_, ?_, tpz_fr d5 (s1 518 (by omega) (by omega)) (s1 517 (by omega) (by omega)), tpz_fr h.tp.2.2.2.1 (by rw [s1 524 (by omega) (by omega)]; exact cL 524 (by omega) (by omega) (by omega) (by omega) (by omega)) (by rw [s1 509 (by omega) (by omega)]; exact cL 509 (by omega) (by omega) (by omega) (by omega) (by omega)), ?_⟩
                · rw [xR_fld (s2 0 (by omega) (by omega)), xR_fld (d6m 0 (by omega))]; exact h.tp.1
                · rw [xR_cg c536]; exact h.tp.2.1
                · obtain ⟨p, hp⟩ := h.tp.2.2.2.2
                  exact ⟨p, rs_fr hp (by rw [s1 530 (by omega) (by omega)]; exact cL 530 (by omega) (by omega) (by omega) (by omega) (by omega))⟩
              have q33 : xR mz 536 33 = xR m 536 33 := xR_fld (kf 33 (by omega) (by omega) (by omega) (by omega) (by omega))
              have q39 : xR mz 536 39 = xR m 536 39 := xR_fld (kf 39 (by omega) (by omega) (by omega) (by omega) (by omega))
              have bz : ∀ x, 0 ≤ x → x < 65536 → bW (mc 516) x = bW (m 516) x := fun x x0 x1 => by
                rw [cut_of (pl := pl) (n := xR m 536 51) s5 x (by omega), w5]
              have I := Inw_dn (B := B) (c := c + 1) (m := mc) hbd ⟨by have := h.cc.1; omega, by omega⟩ ptc tpc (by rw [xR_cg (s1 2 (by omega) (by omega)), xR_cg (cL 2 (by omega) (by omega) (by omega) (by omega) (by omega))]; exact h.tx.2.2.1) g e1 (fun a ha' => L.1 a (by omega) (by omega) (by omega) (by omega) (by omega) (by omega)) R (fun k hk => by rw [kf k (by omega) (by omega) (by omega) (by omega) (by omega), c536]) (two_m h.pt.1 (kf 59 (by omega) (by omega) (by omega) (by omega) (by omega)) (kf 60 (by omega) (by omega) (by omega) (by omega) (by omega))) x3 (Or.inl x2) (by rw [q33, xR_cg c0]; exact sg) (by rw [q39, xR_cg c0]; exact ch) (by rw [x50, s4]; exact ⟨rfl, by omega, by omega⟩) (by rw [q31, q33]; omega) (by rw [q38]; have := h.cc.1; omega) (fun _ => ⟨by rw [tk_same bz (by omega) (by omega)]; exact N.m0, by rw [tk_same bz (by omega) (by omega)]; exact N.m1, q31, q38, q40, x52, by rw [xR_fld (kf 14 (by omega) (by omega) (by omega) (by omega) (by omega))]; exact (dq2 e3).2.2.1⟩) (fun h2 => by omega)
              exact ⟨_, _, z, I.1, Or.inr I.2, Or.inl ⟨rfl, by rw [xR_fld (R.2.2.1 1 (by omega) (by omega) (by omega) (by omega) (by omega) (by omega))]; exact L.2.2⟩⟩))
      obtain ⟨v', m', e', q'⟩ := goal
      unfold opOk
      rw [zL]
      exact ⟨_, _, e', q'⟩
  · refine ⟨_, _, open_no h hr, fun m1 e1 => ?_⟩
    have I := Inw_1 (x := 1) h hc e1
    have e53 := e1 536 (by omega)
    have hD : 0 ≤ xR m 536 14 ∧ xR m 536 14 ≤ 8 := by
      rcases h.st.1 with q | q
      · by_cases h3 : xR m 536 3 = 0
        · exact (dq2 h3).2.2.1
        · exact ((h.nw q).dn (by have := h.st.2.1; omega)).2
      · obtain ⟨D, M, tu, K, Rf, Rv, F, _⟩ := h.op q
        obtain ⟨w, w1, _⟩ := F.cat
        rw [w1.r14]; exact w1.cn.1
    refine ⟨_, _, open_rno (B := B) (m := m1) (by rw [xR_cg e53]; exact hD) (by rw [xR_cg e53, xR_cg (e1 539 (by omega))]; exact hr), I.1, Or.inl I.2, Or.inr ⟨rfl, xR_at (by decide)⟩⟩
end OPW
