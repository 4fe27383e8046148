/-! OPERATIONS: choose, whole -/
section COQ
variable {B : Nat} {m : xw_M} {c : Int}
theorem choose_op {k : Int} (h : Inw B c m) (hc : c < 600) : opOk B c m (yf200 B k) (yf330 B k) ag2 := by
  have fb := h.cn.fb
  have ba := h.cn.ba
  have sg := h.cn.sg
  have lo := h.cn.lo
  have hw := h.cn.wr
  have ch := h.cn.ch
  have hbd := h.bd
  by_cases hk : 0 ≤ k ∧ k ≤ 16
  · by_cases ho : xR m 536 2 = 1 ∧ xR m 536 3 = 0
    · obtain ⟨D, M, tu, K, Rf, Rv, F, ht, u, v⟩ := h.op ho.1
      have r := u ho.2
      obtain ⟨c1, c2, c3, c4⟩ := chs_of F r
      have df := df_eq F r
      have rh1 : ∀ m1 : xw_M, (∀ a, a ≠ 604 → m1 a = m a) → rhs m1 (xR m 538) D (xR m 536 31) (fun d k => xR m 574 (4 * d + k)) := fun m1 e => ⟨c1, c2, by rw [xR_cg (e 536 (by omega))]; exact r.cg.r14, fun d _ _ => by rw [xR_cg (e 538 (by omega))], by rw [xR_cg (e 536 (by omega))], by omega, fun d k d0 d1 k0 k1 => ⟨by rw [xR_cg (e 574 (by omega))], (df d k d0 d1 k0 k1).2⟩⟩
      by_cases hV : mpw (xR m 538) D D.toNat ≤ 512
      · by_cases h16 : xR m 536 39 < 100
        · have hD := r.cg.cn.1
          have hM := r.cg.cn.2.1
          have E0 := F.ex.1
          have E1 := F.e1
          have fu := h.cn.fu ho.2
          have m0 := F.nm.1
          have kpe : (fun e => decide (K e ≠ 3)) = kpP K := rfl
          obtain ⟨x, pn, HC⟩ := choose_c (k := k) h ho F r hk hV h16
          have xb := pn.1
          have pkb := pkn_nn pn
          have LR : ∀ m1 : xw_M, (∀ a, 536 ≤ a → a ≠ 604 → m1 a = m a) → _ := fun m1 e => choose_rr (k := k) (m1 := m1) h ho F r hk hV h16 e
          have gc := gz_cnt F (xR m 536 52).toNat (by omega)
          have vbb : ∀ (b Rs : Int → Int), (∀ i, 0 ≤ i → i < x → vbt m D M ((fun i : Int => pkf (xR m 538) D (esf (xR m 538) D (fun d k => xR m 574 (4 * d + k)) (xR m 536 31)) (xR m 536 31) (mpw (xR m 538) D D.toNat).toNat i.toNat) i) 0 (xR m 536 31) (Rs i) (b i)) → 0 ≤ rsum b x.toNat ∧ rsum b x.toNat ≤ 7000000 * 16 := fun b Rs V => by
            have rb := rsum_b (b := b) (lo := 4) (hi := 7000000) x.toNat (fun i i0 i1 => by have := vbt_b hD hM (by omega) (V i i0 (by omega)); omega)
            omega
          have same : ∀ (b Rs b' Rs' : Int → Int), (∀ i, 0 ≤ i → i < x → vbt m D M ((fun i : Int => pkf (xR m 538) D (esf (xR m 538) D (fun d k => xR m 574 (4 * d + k)) (xR m 536 31)) (xR m 536 31) (mpw (xR m 538) D D.toNat).toNat i.toNat) i) 0 (xR m 536 31) (Rs i) (b i)) → (∀ i, 0 ≤ i → i < x → vbt m D M ((fun i : Int => pkf (xR m 538) D (esf (xR m 538) D (fun d k => xR m 574 (4 * d + k)) (xR m 536 31)) (xR m 536 31) (mpw (xR m 538) D D.toNat).toNat i.toNat) i) 0 (xR m 536 31) (Rs' i) (b' i)) → rsum b' x.toNat = rsum b x.toNat ∧ ∀ i, 0 ≤ i → i < x → Rs' i = Rs i := fun b Rs b' Rs' V V' => by
            have q2 : ∀ i, 0 ≤ i → i < x → Rs' i = Rs i ∧ b' i = b i := fun i i0 i1 => vbt_uniq hD.1 hM (V' i i0 i1) (V i i0 i1)
            exact ⟨rsum_cg _ (fun i i0 i1 => (q2 i i0 (by omega)).2), fun i i0 i1 => (q2 i i0 i1).1⟩
          rcases HC with ⟨m7, z7, hx, FL, f7, t7, rz7⟩ | ⟨b, Rs, nb, pl, q2, mL, V0, en, RO, LD, zL⟩
          · refine ⟨_, _, z7, fun m1 e1 => ?_⟩
            have er : ∀ a, 536 ≤ a → a ≠ 604 → m1 a = m a := fun a a0 a1 => by rw [e1 a a1]; exact f7 a (by omega) (by omega) (by omega) (by omega) (by omega) (by omega) (by omega) (by omega) (by omega)
            obtain ⟨x', b', Rs', nb', pn', V1, en1, H⟩ := LR m1 er
            have ex := pkn_uniq pn' pn
            subst ex
            have rb := vbb b' Rs' V1
            rw [if_neg (by omega)] at en1
            have nb1 : 0 < nb' := by omega
            rcases H with ⟨mz, z, fl, L, g1, g2⟩ | ⟨fi, mz, nf, fi2, room, _⟩
            · have cz : ∀ a, a ≠ 536 → (a < 581 ∨ (585 < a ∧ a < 589) ∨ 594 < a) → a ≠ 603 → mz a = m1 a := fun a h1 h2 h4 => by
                by_cases h580 : a = 579 ∨ a = 580 ∨ a = 586 ∨ a = 587 ∨ a = 588
                · rw [g2 a h580, er a (by omega) (by omega)]
                · exact L.1 a h1 (by omega) h4
              have I := Inw_F2 (mz := mz) h hc (fun a ha _ => by
                rw [cz a (by omega) (by omega) (by omega), e1 a (by omega)]
                exact f7 a (by omega) (by omega) (by omega) (by omega) (by omega) (by omega) (by omega) (by omega) (by omega)) (fun q q1 _ q2 q3 q4 q5 q6 => by
                by_cases h3 : q = 3 ∨ q = 39 ∨ q = 40 ∨ q = 50 ∨ q = 51 ∨ q = 52
                · exact g1 q h3
                · rw [L.2.1 q q1 (by omega) (by omega) (by omega) (by omega) (by omega) (by omega) (by omega) q2 q3 q4 q5 q6, er 536 (by omega) (by omega)]) (tpz_fr t7 (by rw [cz 518 (by omega) (by omega) (by omega), e1 518 (by omega)]) (by rw [cz 517 (by omega) (by omega) (by omega), e1 517 (by omega)])) (by
                obtain ⟨p, hp⟩ := rz7
                exact ⟨p, rs_fr hp (by rw [cz 530 (by omega) (by omega) (by omega), e1 530 (by omega)])⟩) L.2.2.2
              exact ⟨_, _, z, I.1, Or.inl I.2, Or.inl ⟨rfl, L.2.2.1⟩⟩
            · exfalso
              rcases FL with q | ⟨b, Rs, V0, Ro⟩
              · have q' := (room nb1).2
                rw [gc] at q'
                rw [kpe] at q
                omega
              · have s1 := (same b Rs b' Rs' V0 V1).1
                have q' := (room nb1).1
                rw [en1, s1] at q'
                have := isRoom_uniq q' Ro
                omega
          · have rb := vbb b Rs V0
            have ro : 0 < x → isRoom (xR m 587) (xR m 588) (xR m 536 52) B nb pl ∧ 2 ≤ pl ∧ pl + nb ≤ B ∧ 1 ≤ nb ∧ cnt (kpP K) (xR m 536 52).toNat < 200 := fun hx => by
              obtain ⟨q1, q2, q3⟩ := RO hx
              rw [kpe] at q3
              rw [if_neg (by omega)] at en
              have pb : 2 ≤ pl ∧ pl + nb ≤ B := by
                rcases q2 with ⟨q, _⟩ | ⟨q, _⟩
                · exact absurd q q1
                · exact q
              exact ⟨q2, pb.1, pb.2, by omega, q3⟩
            have no : ¬ 0 < x → nb = 0 := fun hx => by rw [en, if_pos (by omega)]
            have nb0 : 0 ≤ nb ∧ nb ≤ 512 := by
              by_cases hx : 0 < x
              · have := ro hx; omega
              · have := no hx; omega
            have RW : ∀ m1 : xw_M, (∀ a, 536 ≤ a → a ≠ 604 → m1 a = m a) → ∃ fi mz, (0 < x → fi = pl) ∧ crF m1 mz ∧ xR mz 536 39 = xR m 536 39 + 1 ∧ ((((xR m 536 51 < 0 ∨ nb + 1 ≤ xR m 536 51) ∧ xR mz 536 40 = x ∧ xR mz 536 50 = xR m 536 50 + nb + 1 ∧ xR mz 536 51 = (if xR m 536 51 < 0 then -1 else xR m 536 51 - (nb + 1)) ∧ led (xR m 586) (xR m 587) (xR m 588) (xR m 536 52) (fun e => !gz 0 1 (xR m 586 e)) nb 2 pl (xR mz 586) (xR mz 587) (xR mz 588) (xR mz 536 52) ∧ (∀ i, 0 ≤ i → i < x → xR mz 579 i = (fun i : Int => pkf (xR m 538) D (esf (xR m 538) D (fun d k => xR m 574 (4 * d + k)) (xR m 536 31)) (xR m 536 31) (mpw (xR m 538) D D.toNat).toNat i.toNat) i ∧ xR mz 580 i = Rs i) ∧ ((xR m 536 51 ≠ nb + 1 ∧ xR mz 536 3 = 0 ∧ yf330 B k m1 = some (.inl x, mz)) ∨ (xR m 536 51 = nb + 1 ∧ xR mz 536 3 = 1 ∧ ∃ m2, yf330 B k m1 = some (.inl (-3), m2) ∧ fgR mz m2))) ∨ ((1 ≤ xR m 536 51 ∧ xR m 536 51 ≤ nb) ∧ xR mz 536 40 = xR m 536 40 ∧ xR mz 536 50 = xR m 536 50 + xR m 536 51 ∧ xR mz 536 52 = xR m 536 52 ∧ xR mz 536 3 = 1 ∧ (∀ a, a = 579 ∨ a = 580 ∨ a = 586 ∨ a = 587 ∨ a = 588 → mz a = m a) ∧ ∃ m2, yf330 B k m1 = some (.inl (-3), m2) ∧ fgR mz m2))) := by
              intro m1 er
              obtain ⟨x', b', Rs', nb', pn', V1, en1, H⟩ := LR m1 er
              have ex := pkn_uniq pn' pn
              subst ex
              obtain ⟨s1, s2⟩ := same b Rs b' Rs' V0 V1
              rw [s1, ← en] at en1
              subst en1
              rcases H with ⟨mz, z, fl, L, g1, g2⟩ | ⟨fi, mz, nf, fi2, room, L, x39, H⟩
              · exfalso
                have hx : 0 < x' := by
                  by_cases hx : 0 < x'
                  · exact hx
                  · have := no hx; have := fl.1; omega
                obtain ⟨q1, q2, q3, q4, q5⟩ := ro hx
                rcases fl.2 with q | q
                · rw [gc] at q; omega
                · have := isRoom_uniq q q1; omega
              · have efi : 0 < x' → fi = pl := fun hx => by
                  obtain ⟨q1, q2, q3, q4, q5⟩ := ro hx
                  exact isRoom_uniq (room (by omega)).1 q1
                refine ⟨fi, mz, efi, L, x39, ?_⟩
                rcases H with ⟨y1, y2, y3, y4, y5, y6, y7⟩ | H
                · refine Or.inl ⟨y1, y2, y3, y4, ?_, fun i i0 i1 => ⟨(y6 i i0 i1).1, by rw [(y6 i i0 i1).2, s2 i i0 i1]⟩, y7⟩
                  obtain ⟨l1, l2, l3⟩ := y5
                  refine ⟨l1, l2, fun hn => ?_⟩
                  have hx : 0 < x' := by
                    by_cases hx : 0 < x'
                    · exact hx
                    · have := no hx; omega
                  rw [← efi hx]
                  exact l3 hn
                · exact Or.inr H
            obtain ⟨d1, d2, d3, d4, d5, d6, d7, d8, d9, d10, d11, d12⟩ := id LD
            have cL : ∀ a, (1 ≤ a ∧ a < 295) ∨ (336 < a ∧ a < 371) ∨ (373 ≤ a ∧ a < 395) ∨ (417 ≤ a ∧ a ≤ 418) ∨ (420 ≤ a ∧ a ≤ 507) ∨ a = 509 ∨ a = 516 ∨ a = 524 ∨ 536 ≤ a → mL a = m a := fun a ha => d2 a (by omega) (by omega) (by omega) (by omega) (by omega) (by omega) (by omega) (by omega) (by omega) (by omega) (by omega)
            have ptL : ptr mL := ptr_fr h.pt (fun k _ => by rw [cL 536 (by omega)]) (fun k hk => d5 k (by omega))
            have ob := (ans_ob ptL).2
            have rfe : ∀ (mc m1 m1' : xw_M), (∀ a, a ≠ 516 → a ≠ 508 → a ≠ 509 → a ≠ 524 → mc a = mL a) → fgC mc m1 → (∀ a, a ≠ 604 → m1' a = xw_u m1 0 14 2 a) → (∀ a, 536 ≤ a → a ≠ 604 → m1' a = m a) ∧ m1' 516 = mc 516 := by
              intro mc m1 m1' f1 g e1
              have o2 : mc 0 12 = mL 0 12 := by rw [f1 0 (by omega) (by omega) (by omega) (by omega)]
              refine ⟨fun a a0 a1 => ?_, ?_⟩
              · rw [e1 a a1, xu_c (by omega), g.1 a (by omega) (by omega) (by omega) (by omega) (by omega), f1 a (by omega) (by omega) (by omega) (by omega)]
                exact cL a (by omega)
              · rw [e1 516 (by omega), xu_c (by omega), g.1 516 (by omega) (by omega) (by omega) (by omega) (by omega)]
            have cbb := cnt_b (kpP K) (xR m 536 52).toNat
            have he : 0 ≤ xR mL 508 14 ∧ xR mL 508 14 ≤ 200 := by
              rw [d9, kpe]
              by_cases hx : 0 < x
              · have := ro hx; rw [if_pos hx]; omega
              · rw [if_neg hx]; omega
            have tzL : tpz 524 509 512 mL := tpz_fr h.tp.2.2.2.1 (cL 524 (by omega)) (cL 509 (by omega))
            have goal := xH_ex (Q := fun v m' => ∀ m1', (∀ a, a ≠ 604 → m1' a = m' a) → ∃ v' m2, yf330 B k m1' = some (.inl v', m2) ∧ Inw B (c + 1) m2 ∧ (anF m m2 ∨ anN m2) ∧ ag2 (.inl v) (xR m2 536 1) v') (cm_all (B := B) (m := mL) (S := fun m12 => some (.inl x, m12)) (pl := pl) (n := nb) (lf := xR m 536 51) (wr := xR m 536 50) (tu := tu) hbd.2 (by omega) nb0.1 (by
                by_cases hx : 0 < x
                · have := ro hx; exact Or.inl ⟨this.2.1, this.2.2.1⟩
                · exact Or.inr (no hx)) (by omega) (by rw [xR_fld (d7 18 (by omega) (by omega))]; exact fu.1) (by rw [xR_fld (d7 19 (by omega) (by omega))]; exact hw.1) hw.2.1 (by omega) (by rw [xR_fld (d7 8 (by omega) (by omega))]; exact r.tu) (by omega) (by omega) (by rw [d8]; omega) he tzL ptL (fun mc A hl => by
                rw [xH_ret]
                intro m1' e1
                obtain ⟨a1, a2, a3, a4, a5, a6, a7, a8⟩ := id A
                have er : ∀ a, 536 ≤ a → a ≠ 604 → m1' a = m a := fun a a0 a1' => by
                  rw [e1 a a1', a1 a (by omega) (by omega) (by omega) (by omega)]
                  exact cL a (by omega)
                obtain ⟨fi, mz, efi, L, x39, H⟩ := RW m1' er
                rcases H with ⟨hl', x40, x50, x51, xl, x579, H⟩ | ⟨hl', _⟩
                · rcases H with ⟨hne, x3, z⟩ | ⟨hne, _⟩
                  · have k1 : ∀ a, 537 ≤ a → (a < 579 ∨ 594 < a) → a ≠ 603 → a ≠ 604 → mz a = m a := fun a h0 h1 h4 h5 => by rw [L.1 a (by omega) h1 h4]; exact er a (by omega) h5
                    have kf : ∀ q, q ≠ 1 → q ≠ 3 → q ≠ 39 → q ≠ 40 → q ≠ 43 → (q < 50 ∨ 52 < q) → (q < 57 ∨ 61 < q) → mz 536 q = m 536 q := fun q q1 q3 q39 q40 q43 q50 q57 => by rw [L.2.1 q q1 q3 q39 q40 q43 (by omega) (by omega) (by omega) (by omega) (by omega) (by omega) (by omega) (by omega), er 536 (by omega) (by omega)]
                    have cz : ∀ a, a < 536 → mz a = mc a := fun a ha => by rw [L.1 a (by omega) (by omega) (by omega), e1 a (by omega)]
                    have clz : ∀ a, (1 ≤ a ∧ a < 295) ∨ (336 < a ∧ a < 371) ∨ (373 ≤ a ∧ a < 395) ∨ (417 ≤ a ∧ a ≤ 418) ∨ (420 ≤ a ∧ a ≤ 507) → mz a = m a := fun a ha => by
                      rw [cz a (by omega), a1 a (by omega) (by omega) (by omega) (by omega)]
                      exact cL a (by omega)
                    have z0 : ∀ k, k ≠ 16 → mz 0 k = m 0 k := fun k hk => by rw [cz 0 (by omega), a1 0 (by omega) (by omega) (by omega) (by omega)]; exact d5 k hk
                    have z16 : xR mz 0 16 = xR m 0 16 + 1 := by rw [xR_cg (cz 0 (by omega)), xR_cg (a1 0 (by omega) (by omega) (by omega) (by omega))]; exact d6
                    obtain ⟨DN, LE⟩ := choose_dsk (mz := mz) F r (by omega) fb.1 (by omega) LD A ro no (cz 516 (by omega)) k1 (fun q hq => kf q (by omega) (by omega) (by omega) (by omega) (by omega) (by omega) (by omega)) x40 xl x579 pkb
                    have l1 := (led_kp (x := x) F ⟨fun hn => by by_cases hx : 0 < x; exact hx; have := no hx; omega, fun hx => by have := (ro hx).2.2.2.1; omega⟩ xl).1
                    have w508 : ∀ q, q ≠ 8 → q ≠ 18 → q ≠ 19 → xR mz 508 q = xR mL 508 q := fun q q1 q2 q3 => by rw [xR_cg (cz 508 (by omega)), xR_fld (a2 q q1 q2 q3)]
                    have L51 : ∀ a, 511 ≤ a → a ≤ 515 → xR mz a = xR mL a := fun a a0 a1' => by rw [xR_cg (cz a (by omega)), xR_cg (a1 a (by omega) (by omega) (by omega) (by omega))]
                    have cat : ∀ a, 3 ≤ a → a < 223 → mz a = m a := fun a a0 a1' => clz a (by omega)
                    have bt := bt_fr (m' := mz) r (fun a a0 a1' => clz a (by omega)) (fun k hk => kf k (by omega) (by omega) (by omega) (by omega) (by omega) (by omega) (by omega)) (fun a ha => k1 a (by omega) (by omega) (by omega) (by omega))
                    refine ⟨_, _, z, Inw_A (mz := mz) h hc ho (fun a ha => clz a (by omega)) (by
                      obtain ⟨p, hp⟩ := d4
                      exact ⟨p, rs_fr hp (by rw [cz 530 (by omega), a1 530 (by omega) (by omega) (by omega) (by omega)])⟩) (fun k hk => z0 k (by omega)) (by rw [cz 508 (by omega), a2 0 (by omega) (by omega) (by omega), d7 0 (by omega) (by omega)]) (tpz_fr d3 (by rw [cz 518 (by omega), a1 518 (by omega) (by omega) (by omega) (by omega)]) (by rw [cz 517 (by omega), a1 517 (by omega) (by omega) (by omega) (by omega)])) (tpz_fr a6 (cz 524 (by omega)) (cz 509 (by omega))) (fun k hk => kf k (by omega) (by omega) (by omega) (by omega) (by omega) (by omega) (by omega)) L.2.2.2 x3 (fun a ha => k1 a (by omega) (by omega) (by omega) (by omega)) ?_ ⟨D, M, tu + 1, _, _, _, DN, by omega, ?_⟩, Or.inl ⟨fun h3 => by omega, fun k hk => z0 k (by omega), fun a a0 a1' => clz a (by omega), fun q hq => kf q (by omega) (by omega) (by omega) (by omega) (by omega) (by omega) (by omega), fun a ha => k1 a (by omega) (by omega) (by omega) (by omega)⟩, Or.inl ⟨rfl, L.2.2.1⟩⟩
                    · unfold cnr
                      rw [x50, x51, x3, x39, z16, xR_fld (z0 15 (by omega)), xR_fld (kf 33 (by omega) (by omega) (by omega) (by omega) (by omega) (by omega) (by omega)), xR_fld (kf 32 (by omega) (by omega) (by omega) (by omega) (by omega) (by omega) (by omega)), xR_fld (kf 31 (by omega) (by omega) (by omega) (by omega) (by omega) (by omega) (by omega)), xR_fld (kf 38 (by omega) (by omega) (by omega) (by omega) (by omega) (by omega) (by omega)), xR_cg (cz 508 (by omega)), a5, a4, xR_cg (clz 373 (by omega))]
                      refine ⟨sg, ⟨by rw [ch.1], by omega, by omega⟩, ⟨rfl, by omega, by omega⟩, ba, fb, ⟨lo.1, by omega⟩, fun _ => ?_, fun h3 => by omega⟩
                      unfold fz
                      by_cases hneg : xR m 536 51 < 0
                      · rw [if_neg (by omega), if_pos hneg]; omega
                      · rw [if_pos (by omega), if_neg hneg]
                        exact ⟨rfl, by omega⟩
                    · refine ⟨cgr_m (kf 14 (by omega) (by omega) (by omega) (by omega) (by omega) (by omega) (by omega)) (kf 19 (by omega) (by omega) (by omega) (by omega) (by omega) (by omega) (by omega)) (k1 538 (by omega) (by omega) (by omega) (by omega)) (k1 539 (by omega) (by omega) (by omega) (by omega)) (k1 542 (by omega) (by omega) (by omega) (by omega)) (k1 543 (by omega) (by omega) (by omega) (by omega)) (cgr_w cat r.cg), vls_m (k1 540 (by omega) (by omega) (by omega) (by omega)) (vls_w hD.2 (fun d d0 d1 => (r.cg.cn.2.2.2.2.1 d d0 d1).2.1.2) cat r.vl), fun d d0 d1 => ?_, by rw [xR_cg (cz 508 (by omega))]; exact a3, ?_, ?_, ?_, ?_, fun i i0 i1 => ?_, fun e e0 e1' => ?_, bt⟩
                      · rw [xR_cg (cat (15 + 26 * d) (by omega) (by omega))]
                        exact arrd_cg (r.ar d d0 d1) (r.cg.cn.2.2.2.2.1 d d0 d1).2.1.2 (fun a a0 a1' => cat a (by omega) (by omega))
                      · rw [w508 9 (by omega) (by omega) (by omega), xR_fld (d7 9 (by omega) (by omega)), xR_fld (kf 38 (by omega) (by omega) (by omega) (by omega) (by omega) (by omega) (by omega))]; exact r.lo
                      · rw [w508 10 (by omega) (by omega) (by omega), xR_fld (d7 10 (by omega) (by omega)), xR_fld (kf 31 (by omega) (by omega) (by omega) (by omega) (by omega) (by omega) (by omega))]; exact r.fa
                      · rw [w508 11 (by omega) (by omega) (by omega), d8, x40]
                      · rw [w508 14 (by omega) (by omega) (by omega), d9, l1]; rfl
                      · rw [x40] at i1
                        rw [L51 511 (by omega) (by omega), L51 512 (by omega) (by omega), (d10 i i0 i1).1, (d10 i i0 i1).2, (x579 i i0 i1).1, (x579 i i0 i1).2]
                        exact ⟨rfl, rfl⟩
                      · rw [L51 513 (by omega) (by omega), L51 514 (by omega) (by omega), L51 515 (by omega) (by omega)]
                        exact LE e e0 e1'
                  · omega
                · omega) (fun hl mc m1 A g m1' e1 => by
                obtain ⟨er, w516⟩ := rfe mc m1 m1' A.1 g e1
                obtain ⟨a1, a2, a3, a4, a5, a6, a7, a8⟩ := id A
                obtain ⟨fi, mz, efi, L, x39, H⟩ := RW m1' er
                rcases H with ⟨hl', x40, x50, x51, xl, x579, H⟩ | ⟨hl', _⟩
                · rcases H with ⟨hne, _⟩ | ⟨hne, x3, m2, z, R⟩
                  · omega
                  · have k1 : ∀ a, 537 ≤ a → (a < 579 ∨ 594 < a) → a ≠ 603 → a ≠ 604 → mz a = m a := fun a h0 h1 h4 h5 => by rw [L.1 a (by omega) h1 h4]; exact er a (by omega) h5
                    have kf : ∀ q, q ≠ 1 → q ≠ 3 → q ≠ 39 → q ≠ 40 → q ≠ 43 → (q < 50 ∨ 52 < q) → (q < 57 ∨ 61 < q) → mz 536 q = m 536 q := fun q q1 q3 q39 q40 q43 q50 q57 => by rw [L.2.1 q q1 q3 q39 q40 q43 (by omega) (by omega) (by omega) (by omega) (by omega) (by omega) (by omega) (by omega), er 536 (by omega) (by omega)]
                    obtain ⟨DN, LE⟩ := choose_dsk (mz := mz) F r (by omega) fb.1 (by omega) LD A ro no (by rw [L.1 516 (by omega) (by omega) (by omega), w516]) k1 (fun q hq => kf q (by omega) (by omega) (by omega) (by omega) (by omega) (by omega) (by omega)) x40 xl x579 pkb
                    have c536 : mc 536 = m 536 := by rw [a1 536 (by omega) (by omega) (by omega) (by omega)]; exact cL 536 (by omega)
                    have c0 : mc 0 = mL 0 := a1 0 (by omega) (by omega) (by omega) (by omega)
                    have ptc : ptr mc := ptr_fr ptL (fun k _ => by rw [c536, cL 536 (by omega)]) (fun k _ => by rw [c0])
                    have tpc : tps B mc := by
                      refine ⟨?_, ?_, tpz_fr d3 (a1 518 (by omega) (by omega) (by omega) (by omega)) (a1 517 (by omega) (by omega) (by omega) (by omega)), a6, ?_⟩
                      · rw [xR_fld (a2 0 (by omega) (by omega) (by omega)), xR_fld (d7 0 (by omega) (by omega))]; exact h.tp.1
                      · rw [xR_cg c536]; exact h.tp.2.1
                      · obtain ⟨p, hp⟩ := d4
                        exact ⟨p, rs_fr hp (a1 530 (by omega) (by omega) (by omega) (by omega))⟩
                    have q2 : xR mz 536 2 = 1 := by rw [xR_fld (kf 2 (by omega) (by omega) (by omega) (by omega) (by omega) (by omega) (by omega))]; exact ho.1
                    have q33 : xR mz 536 33 = xR m 536 33 := xR_fld (kf 33 (by omega) (by omega) (by omega) (by omega) (by omega) (by omega) (by omega))
                    have q31 : xR mz 536 31 = xR m 536 31 := xR_fld (kf 31 (by omega) (by omega) (by omega) (by omega) (by omega) (by omega) (by omega))
                    have q38 : xR mz 536 38 = xR m 536 38 := xR_fld (kf 38 (by omega) (by omega) (by omega) (by omega) (by omega) (by omega) (by omega))
                    have I := Inw_dn (B := B) (c := c + 1) (m := mc) hbd ⟨by have := h.cc.1; omega, by omega⟩ ptc tpc (by rw [xR_cg (a1 2 (by omega) (by omega) (by omega) (by omega)), xR_cg (cL 2 (by omega))]; exact h.tx.2.2.1) g e1 (fun a ha => L.1 a (by omega) (by omega) (by omega)) R (fun k hk => by rw [kf k (by omega) (by omega) (by omega) (by omega) (by omega) (by omega) (by omega), c536]) L.2.2.2 x3 (Or.inr q2) (by rw [q33, xR_cg c0, xR_fld (d5 15 (by omega))]; exact sg) (by rw [x39, xR_cg c0, d6]; exact ⟨by rw [ch.1], by omega, by omega⟩) (by rw [x50, a5]; exact ⟨rfl, by omega, by omega⟩) (by rw [q31, q33]; omega) (by rw [q38]; omega) (fun h2 => by omega) (fun _ => ⟨D, M, tu + 1, _, _, _, DN, by omega⟩)
                    exact ⟨_, _, z, I.1, Or.inr I.2, Or.inl ⟨rfl, by rw [xR_fld (R.2.2.1 1 (by omega) (by omega) (by omega) (by omega) (by omega) (by omega))]; exact L.2.2.1⟩⟩
                · omega) (fun hl1 hl2 mc m1 C g m1' e1 => by
                obtain ⟨s1, s2, s3, s4, s5⟩ := id C
                obtain ⟨er, w516⟩ := rfe mc m1 m1' (fun a a1 a2 _ _ => s1 a a1 a2) g e1
                obtain ⟨fi, mz, efi, L, x39, H⟩ := RW m1' er
                have hx : 0 < x := by
                  by_cases hx : 0 < x
                  · exact hx
                  · have := no hx; omega
                obtain ⟨ro1, ro2, ro3, ro4, ro5⟩ := ro hx
                rcases H with ⟨hl', _⟩ | ⟨hl', x40, x50, x52, x3, xc, m2, z, R⟩
                · omega
                · have k1 : ∀ a, 537 ≤ a → (a < 581 ∨ (585 < a ∧ a < 589) ∨ 594 < a) → a ≠ 603 → a ≠ 604 → mz a = m a := fun a h0 h3 h4 h5 => by
                    by_cases h580 : a = 579 ∨ a = 580 ∨ a = 586 ∨ a = 587 ∨ a = 588
                    · exact xc a h580
                    · rw [L.1 a (by omega) (by omega) h4]; exact er a (by omega) h5
                  have kf : ∀ q, q ≠ 1 → q ≠ 3 → q ≠ 39 → q ≠ 40 → q ≠ 43 → (q < 50 ∨ 52 < q) → (q < 57 ∨ 61 < q) → mz 536 q = m 536 q := fun q q1 q3 q39 q40 q43 q50 q57 => by rw [L.2.1 q q1 q3 q39 q40 q43 (by omega) (by omega) (by omega) (by omega) (by omega) (by omega) (by omega) (by omega), er 536 (by omega) (by omega)]
                  have c536 : mc 536 = m 536 := by rw [s1 536 (by omega) (by omega)]; exact cL 536 (by omega)
                  have c0 : mc 0 = mL 0 := s1 0 (by omega) (by omega)
                  have ptc : ptr mc := ptr_fr ptL (fun k _ => by rw [c536, cL 536 (by omega)]) (fun k _ => by rw [c0])
                  have tpc : tps B mc := by
                    refine ⟨?_, ?_, tpz_fr d3 (s1 518 (by omega) (by omega)) (s1 517 (by omega) (by omega)), tpz_fr h.tp.2.2.2.1 (by rw [s1 524 (by omega) (by omega)]; exact cL 524 (by omega)) (by rw [s1 509 (by omega) (by omega)]; exact cL 509 (by omega)), ?_⟩
                    · rw [xR_fld (s2 0 (by omega) (by omega)), xR_fld (d7 0 (by omega) (by omega))]; exact h.tp.1
                    · rw [xR_cg c536]; exact h.tp.2.1
                    · obtain ⟨p, hp⟩ := d4
                      exact ⟨p, rs_fr hp (s1 530 (by omega) (by omega))⟩
                  have q2 : xR mz 536 2 = 1 := by rw [xR_fld (kf 2 (by omega) (by omega) (by omega) (by omega) (by omega) (by omega) (by omega))]; exact ho.1
                  have q33 : xR mz 536 33 = xR m 536 33 := xR_fld (kf 33 (by omega) (by omega) (by omega) (by omega) (by omega) (by omega) (by omega))
                  have q31 : xR mz 536 31 = xR m 536 31 := xR_fld (kf 31 (by omega) (by omega) (by omega) (by omega) (by omega) (by omega) (by omega))
                  have q38 : xR mz 536 38 = xR m 536 38 := xR_fld (kf 38 (by omega) (by omega) (by omega) (by omega) (by omega) (by omega) (by omega))
                  have w5 : mL 516 = m 516 := cL 516 (by omega)
                  have DN : dsk B mz D M tu K Rf Rv := dsk_fr2 F ⟨k1 538 (by omega) (by omega) (by omega) (by omega), k1 539 (by omega) (by omega) (by omega) (by omega), k1 573 (by omega) (by omega) (by omega) (by omega), fun i _ _ => ⟨by rw [k1 575 (by omega) (by omega) (by omega) (by omega)], by rw [k1 576 (by omega) (by omega) (by omega) (by omega)]⟩⟩ (fun a ha => k1 a (by omega) (by omega) (by omega) (by omega)) (fun q hq => kf q (by omega) (by omega) (by omega) (by omega) (by omega) (by omega) (by omega)) (fun q hq => by
                      rcases hq with rfl | rfl | rfl | rfl
                      · exact q31
                      · exact q38
                      · exact x40
                      · exact x52) (fun y y0 hy => by
                      rw [L.1 516 (by omega) (by omega) (by omega), w516, cut_of (pl := pl) (n := xR m 536 51) s5 y ?_, w5]
                      rcases hy with hy | ⟨e, he', hy⟩
                      · omega
                      · have := old_ext F.ex ro1 (by omega) he'.1 he'.2 hy.1 hy.2
                        omega)
                  have I := Inw_dn (B := B) (c := c + 1) (m := mc) hbd ⟨by have := h.cc.1; omega, by omega⟩ ptc tpc (by rw [xR_cg (s1 2 (by omega) (by omega)), xR_cg (cL 2 (by omega))]; exact h.tx.2.2.1) g e1 (fun a ha => L.1 a (by omega) (by omega) (by omega)) R (fun k hk => by rw [kf k (by omega) (by omega) (by omega) (by omega) (by omega) (by omega) (by omega), c536]) L.2.2.2 x3 (Or.inr q2) (by rw [q33, xR_cg c0, xR_fld (d5 15 (by omega))]; exact sg) (by rw [x39, xR_cg c0, d6]; exact ⟨by rw [ch.1], by omega, by omega⟩) (by rw [x50, s4]; exact ⟨rfl, by omega, by omega⟩) (by rw [q31, q33]; omega) (by rw [q38]; omega) (fun h2 => by omega) (fun _ => ⟨D, M, tu, K, Rf, Rv, DN, by omega⟩)
                  exact ⟨_, _, z, I.1, Or.inr I.2, Or.inl ⟨rfl, by rw [xR_fld (R.2.2.1 1 (by omega) (by omega) (by omega) (by omega) (by omega) (by omega))]; exact L.2.2.1⟩⟩))
            obtain ⟨v', m', e', q'⟩ := goal
            unfold opOk
            rw [zL]
            exact ⟨_, _, e', q'⟩
        · unfold opOk yf200
          rw [if_neg (by omega), if_neg (by omega)]
          show ∃ r m1, xB (some (.inl 0, m)) _ = some (r, m1) ∧ _
          rw [xB_ret, fopen ((op14 h).mpr ho), xB_ret, views_cl (lv := xR m 538) (by omega) c2 c3 c4, xB_ret, if_neg (by omega), ch.1, if_neg h16]
          refine ⟨_, _, rfl, fun m1 e1 => ?_⟩
          have I := Inw_1 (x := 2) h hc e1
          unfold yf330
          rw [if_neg (by omega), if_neg (by omega), isOpen_ok, xB_ret, xR_cg (e1 536 (by omega)), isop ho, if_neg (by decide), views_rf (rh1 m1 e1), xB_ret, if_neg (by omega), xR_cg (e1 536 (by omega)), if_pos (by omega)]
          exact ⟨_, _, rfl, I.1, Or.inl I.2, Or.inr (Or.inr ⟨rfl, xR_at (by decide)⟩)⟩
      · unfold opOk yf200
        rw [if_neg (by omega), if_neg (by omega)]
        show ∃ r m1, xB (some (.inl 0, m)) _ = some (r, m1) ∧ _
        rw [xB_ret, fopen ((op14 h).mpr ho), xB_ret, views_cl (lv := xR m 538) (by omega) c2 c3 c4, xB_ret, if_pos (by omega)]
        refine ⟨_, _, rfl, fun m1 e1 => ?_⟩
        have I := Inw_1 (x := 2) h hc e1
        unfold yf330
        rw [if_neg (by omega), if_neg (by omega), isOpen_ok, xB_ret, xR_cg (e1 536 (by omega)), isop ho, if_neg (by decide), views_rf (rh1 m1 e1), xB_ret, if_pos (by omega)]
        exact ⟨_, _, rfl, I.1, Or.inl I.2, Or.inr (Or.inr ⟨rfl, xR_at (by decide)⟩)⟩
    · unfold opOk yf200
      rw [if_neg (by omega), if_neg (by omega)]
      show ∃ r m1, xB (some (.inl 0, m)) _ = some (r, m1) ∧ _
      rw [xB_ret, fnot (by rw [Ne, op14 h]; exact ho)]
      refine ⟨_, _, rfl, fun m1 e1 => ?_⟩
      have I := Inw_1 (x := 2) h hc e1
      unfold yf330
      rw [if_neg (by omega), if_neg (by omega), isOpen_ok, xB_ret, xR_cg (e1 536 (by omega)), notop h ho, if_pos rfl]
      exact ⟨_, _, rfl, I.1, Or.inl I.2, Or.inr (Or.inr ⟨rfl, xR_at (by decide)⟩)⟩
  · have e0 : yf200 B k m = some (.inr 15, m) := by
      unfold yf200
      by_cases h0 : k < 0
      · rw [if_pos h0]; rfl
      · rw [if_neg h0, if_pos (by omega)]; rfl
    unfold opOk
    rw [e0]
    refine ⟨_, _, rfl, fun m1 e1 => ?_⟩
    have I := Inw_1 (x := 1) h hc e1
    have e2 : yf330 B k m1 = some (.inl 0, xw_u m1 536 1 1) := by
      unfold yf330
      by_cases h0 : k < 0
      · rw [if_pos h0]
      · rw [if_neg h0, if_pos (by omega)]
    rw [e2]
    exact ⟨_, _, rfl, I.1, Or.inl I.2, Or.inr (Or.inl ⟨rfl, xR_at (by decide)⟩)⟩
end COQ
