/-! OPERATIONS: recover -/
section REC2
variable {B : Nat} {m : xw_M} {c : Int}
/-- beginFact -/
theorem bfact_ok : ∃ m', yf30 B m = some (.inl 0, m') ∧ (∀ a, a ≠ 417 → a ≠ 418 → m' a = m a) ∧ ∀ k, 0 ≤ k → k < 8 → xR m' 417 k = 0 ∧ xJ m' 418 k = 0 := by
  have l1 : xw_le B 417 = 8 := le_B B (by omega) (by omega) (by omega)
  have l2 : xw_le B 418 = 8 := le_B B (by omega) (by omega) (by omega)
  unfold yf30
  rw [fill31 (by decide) (by omega) (by omega), xB_ret, fill32 (by decide) (by omega) (by omega), xB_ret]
  refine ⟨_, rfl, fun a a1 a2 => by rw [xfill_ne a2, xfill_ne a1], fun k k0 k1 => ⟨?_, ?_⟩⟩
  · unfold xR
    rw [xfill_ne (by omega), xfill_at k0 (by omega)]; rfl
  · unfold xJ
    rw [xfill_at k0 (by omega)]; rfl
/-- what the class has behind a restore, a reading of the catalog and its arranging -/
theorem back_cl {D M tu : Int} {K Rf : Int → Int} {Rv : Int → Int → Int} (hb : 16 ≤ B ∧ B ≤ 512) (pt : ptr m) (tp : tps B m) (F : dsk B m D M tu K Rf Rv) (fa : 0 ≤ xR m 536 31 ∧ xR m 536 31 ≤ 20000) : ∃ m', yf12 B m = some (.inl (xR m 536 38), m') ∧ (∀ a, a ≠ 0 → a ≠ 1 → (a < 3 ∨ a = 4 ∨ a = 5 ∨ 222 < a) → a ≠ m 0 12 → a ≠ 373 → a ≠ 417 → a ≠ 418 → a ≠ 508 → (a < 511 ∨ 515 < a) → a ≠ 530 → m' a = m a) ∧ (∀ k, k ≠ 14 → m' 0 k = m 0 k) ∧ xR m' 0 14 = 1 ∧ (xR m' 1 1 = 0 ∧ xR m' 1 6 = 0 ∧ xR m' 1 7 = -1) ∧ (xR m' (m 0 12) 7 = 0) ∧ xR m' 373 5 = 0 ∧ (∀ k, 0 ≤ k → k < 8 → xR m' 417 k = 0 ∧ xJ m' 418 k = 0) ∧ (∀ k, k ≠ 8 → k ≠ 9 → k ≠ 10 → k ≠ 11 → k ≠ 14 → k ≠ 18 → m' 508 k = m 508 k) ∧ xR m' 508 18 = -1 ∧ (∃ p, rs B m' p) ∧ (xR m' 508 8 = tu ∧ xR m' 508 9 = xR m 536 38 ∧ xR m' 508 10 = xR m 536 31 ∧ xR m' 508 11 = xR m 536 40 ∧ xR m' 508 14 = xR m 536 52) ∧ (∀ i, 0 ≤ i → i < xR m 536 40 → xR m' 511 i = xR m 579 i ∧ xR m' 512 i = xR m 580 i) ∧ (∀ e, 0 ≤ e → e < xR m 536 52 → xR m' 513 e = K e ∧ xR m' 514 e = xR m 587 e ∧ xR m' 515 e = xR m 588 e) ∧ cgr m' m D M ∧ vls m' m D ∧ ∀ d, 0 ≤ d → d < D → arrd m' d (xR m' (15 + 26 * d) 10) (xR m' (15 + 26 * d) 11) := by
  obtain ⟨w, w1, w2, w3, w4, w5⟩ := F.cat
  have hD := w1.cn.1
  have hM := w1.cn.2.1
  have E1 := F.e1
  have ed := dm_end w1.cn
  have x0 := F.ex.2.1 0 (Int.le_refl _) (by omega)
  have x0' := F.ln 0 (Int.le_refl _) (by omega)
  have ob := (ans_ob pt).2
  obtain ⟨m1, z1, C⟩ := forget_cl (B := B) pt
  obtain ⟨c1, c2, c3, c4, c5, c6, c7⟩ := C
  obtain ⟨p, hp⟩ := tp.2.2.2.2
  unfold yf12
  rw [z1, xB_ret]
  have k1 : ∀ a, a ≠ 1 → a ≠ 3 → a ≠ m 0 12 → a ≠ 373 → a ≠ 508 → xw_u m1 508 18 (-1) a = m a := fun a a1 a2 a3 a4 a5 => by rw [xu_c a5]; exact c1 a a1 a2 a3 a4 a5
  have W1 : xw_u m1 508 18 (-1) 516 = m 516 := k1 516 (by omega) (by omega) (by omega) (by omega) (by omega)
  obtain ⟨m2, z2, R2, v2, vw2, le2⟩ := restore_ok (B := B) (m := xw_u m1 508 18 (-1)) (tu := tu) (lo := xR m 536 38) (fa := xR m 536 31) (vi := xR m 536 40) (ex := xR m 536 52) (VN := xR m 579) (VR := xR m 580) (K := K) (S := xR m 587) (L := xR m 588) (p := p) hb.2 (by omega) (rs_fr hp (k1 530 (by omega) (by omega) (by omega) (by omega) (by omega))) (by rw [xR_ne (by omega), xR_fld (c7 0 (by omega) (by omega) (by omega) (by omega) (by omega))]; exact tp.1) (by rw [W1]; exact F.nm) (by rw [W1]; exact F.man) (xR_w _ _ _) fa.1 fa.2 F.tn.1 F.tn.2 (by omega) F.ex.1.2 (fun i _ _ => ⟨xR_w _ _ _, xR_w _ _ _⟩) (fun e e0 e1 => by
    have q1 := F.ex.2.1 e e0 e1
    have q2 := F.kd e e0 e1
    have q3 := F.ln e e0 e1
    exact ⟨by omega, ⟨by omega, by omega⟩, by omega, by omega⟩)
  obtain ⟨r1, r2, r3⟩ := R2
  rw [z2, xB_ret, if_neg (by decide)]
  have s0 : xR m2 514 0 = xR m 587 0 := (le2 0 (Int.le_refl _) (by omega)).2.1
  have W2 : m2 516 = m 516 := by rw [r1 516 (by omega) (by omega) (by omega), W1]
  have h21 : xR m2 530 1 = 64 * (B * 512 : Nat) := by rw [xR_fld (r3 1 (by omega)), xR_cg (k1 530 (by omega) (by omega) (by omega) (by omega) (by omega))]; exact hp.1
  have rs2 : ∀ q : Int, 0 ≤ q → q ≤ 64 * ((B * 512 : Nat) : Int) → rs B (xw_u m2 530 2 q) q := fun q q0 q1 => ⟨by rw [xR_ne (by omega)]; exact h21, xR_at (w32_id (by omega) (by omega)), q0⟩
  obtain ⟨m3, z3, t3, g3⟩ := take_b (B := B) (m := xw_u m2 530 2 (xR m 587 0 * 32768 + 32)) (p := xR m 587 0 * 32768 + 32) (b := 32) hb.2 (rs2 _ (by omega) (by omega)) (by omega) (by omega) (by omega)
  have nt : tk (xw_u m2 530 2 (xR m 587 0 * 32768 + 32) 516) (xR m 587 0 * 32768 + 32) (32 : Int).toNat = D + 256 * M := by
    rw [xu_c (by omega), W2]
    exact w3.trans (msk_nn (by omega) (by show D + 256 * M < 4294967296; omega) (by decide))
  have y21 : yf21 B 0 m2 = some (.inl (D + 256 * M), m3) := by
    unfold yf21
    rw [if_pos ⟨by omega, by omega⟩, s0, z3, xB_ret, nt, w32_id (by omega) (by omega)]
  rw [y21, xB_ret]
  have f3 : ∀ a, a ≠ 530 → m3 a = m2 a := fun a ha => by rw [g3.1 a ha, xu_c ha]
  obtain ⟨m4, z4, t4, g4⟩ := goTo_ok (B := B) (m := m3) (e := 0) (s := xR m 587 0) hb.2 (by omega) (by omega) (by rw [xR_cg (f3 514 (by omega))]; exact s0) (by omega) (by omega) t3
  rw [z4, xB_ret]
  have W4 : m4 516 = m 516 := by rw [g4.1 516 (by omega), f3 516 (by omega), W2]
  obtain ⟨m5, z5, t5, f5, g5, h531, h532, s5, k5⟩ := rdcat_ok (B := B) (m := m4) (w := w) (D := D) (M := M) (p := xR m 587 0 * 32768 + 64) hb.2 w1.cn w1.b8.1 w1.b8.2 t4 (by rw [W4]; exact w4) (by omega)
  rw [z5, xB_ret]
  obtain ⟨m6, os, z6, f6, A6⟩ := arr_all (B := B) (ctn_sdm w1.cn h531 h532 s5 (fun k k0 k1 => (k5 k k0 k1).1))
  rw [z6, xB_ret]
  obtain ⟨m7, z7, f7, b7⟩ := bfact_ok (B := B) (m := xw_u m6 0 14 1)
  rw [z7, xB_ret]
  have S6 : ∀ d, 0 ≤ d → d < D → sdm w m6 d ∧ arrd m6 d (xR m6 (15 + 26 * d) 10) (xR m6 (15 + 26 * d) 11) := fun d d0 d1 => sdm_arr w1 w2 d0 d1 (s5 d d0 d1) f6 (A6 d d0 d1)
  have hi : ∀ a, a ≠ 0 → (a < 3 ∨ a = 4 ∨ a = 5 ∨ 222 < a) → a ≠ 417 → a ≠ 418 → a ≠ 530 → m7 a = m2 a := fun a a0 a1 a2 a3 a4 => by
    rw [f7 a a2 a3, xu_c a0, f6 a (fun d d0 d1 => by omega), f5 a a4 a1, g4.1 a a4, f3 a a4]
  have lo7 : ∀ a, 3 ≤ a → a ≤ 222 → m7 a = m6 a := fun a a0 a1 => by rw [f7 a (by omega) (by omega), xu_c (by omega)]
  have m6lo : ∀ a, a < 15 → m6 a = m5 a := fun a ha => f6 a (fun d d0 d1 => by omega)
  have e508 : m7 508 = m2 508 := hi 508 (by omega) (by omega) (by omega) (by omega) (by omega)
  have sd7 : ∀ d, 0 ≤ d → d < D → sdm w m7 d := fun d d0 d1 => sdm_cg d0 (by omega) (w1.cn.2.2.2.2.1 d d0 d1).2.1.2 (fun a a0 a1 => lo7 a (by omega) a1) (S6 d d0 d1).1
  refine ⟨m7, ?_, fun a a0 a1 a2 a3 a4 a5 a6 a7 a8 a9 => ?_, fun k hk => ?_, ?_, ?_, ?_, ?_, b7, fun k h8 h9 h10 h11 h14 h18 => ?_, ?_, ?_, ?_, ?_, ?_, ?_, ?_, fun d d0 d1 => ?_⟩
  · rw [xR_cg e508, v2.2.1]
  · rw [hi a a0 a2 a5 a6 a9, r1 a a7 a9 a8, k1 a a1 (by omega) a3 a4 a7]
  · rw [f7 0 (by omega) (by omega), xu_ne (by omega), m6lo 0 (by omega), f5 0 (by omega) (by omega), g4.1 0 (by omega), f3 0 (by omega), r1 0 (by omega) (by omega) (by omega), k1 0 (by omega) (by omega) (by omega) (by omega) (by omega)]
  · rw [xR_cg (f7 0 (by omega) (by omega)), xR_at (by decide)]
  · rw [xR_cg (hi 1 (by omega) (by omega) (by omega) (by omega) (by omega)), xR_cg (r1 1 (by omega) (by omega) (by omega)), xR_cg (xu_c (by omega))]; exact c2
  · rw [xR_cg (hi (m 0 12) (by omega) (by omega) (by omega) (by omega) (by omega)), xR_cg (r1 (m 0 12) (by omega) (by omega) (by omega)), xR_cg (xu_c (by omega))]; exact c4.1
  · rw [xR_cg (hi 373 (by omega) (by omega) (by omega) (by omega) (by omega)), xR_cg (r1 373 (by omega) (by omega) (by omega)), xR_cg (xu_c (by omega))]; exact c5.1
  · rw [e508, r2 k h8 h9 h10 h11 h14, xu_ne (by omega)]; exact c7 k h8 h9 h10 h11 h14
  · rw [xR_cg e508, xR_fld (r2 18 (by omega) (by omega) (by omega) (by omega) (by omega)), xR_at (by decide)]
  · obtain ⟨q, hq⟩ := t5
    exact ⟨q, rs_fr hq (by rw [f7 530 (by omega) (by omega), xu_c (by omega), f6 530 (fun d d0 d1 => by omega)])⟩
  · rw [xR_cg e508]; exact v2
  · rw [xR_cg (hi 511 (by omega) (by omega) (by omega) (by omega) (by omega)), xR_cg (hi 512 (by omega) (by omega) (by omega) (by omega) (by omega))]; exact vw2
  · rw [xR_cg (hi 513 (by omega) (by omega) (by omega) (by omega) (by omega)), xR_cg (hi 514 (by omega) (by omega) (by omega) (by omega) (by omega)), xR_cg (hi 515 (by omega) (by omega) (by omega) (by omega) (by omega))]; exact le2
  · refine cgr_sdm w1 ?_ ?_ sd7 (fun k k0 k1 => ?_)
    · rw [xR_cg (lo7 3 (by omega) (by omega)), xR_cg (m6lo 3 (by omega))]; exact h531
    · rw [xR_cg (lo7 3 (by omega) (by omega)), xR_cg (m6lo 3 (by omega))]; exact h532
    · rw [xR_cg (lo7 14 (by omega) (by omega)), xR_cg (m6lo 14 (by omega)), xR_cg (lo7 (6 + k) (by omega) (by omega)), xR_cg (m6lo (6 + k) (by omega))]; exact k5 k k0 k1
  · exact vls_sdm (fun d d0 d1 => (w1.sz d d0 d1).1) w2 sd7
  · have q := (S6 d d0 d1).2
    rw [xR_cg (lo7 (15 + 26 * d) (by omega) (by omega))]
    exact arrd_cg q (by rw [(S6 d d0 d1).1.1.2.1]; exact (w1.cn.2.2.2.2.1 d d0 d1).2.1.2) (fun a a0 a1 => lo7 a (by omega) (by omega))
theorem recover_op (h : Inw B c m) (hc : c < 600) : opOk B c m (yf12 B) (yf315 B) ag0 := by
  have ob := (ans_ob h.pt).2
  have hw := h.cn.wr
  have hl := h.cn.lo
  have fb := h.cn.fb
  have ba := h.cn.ba
  have sg := h.cn.sg
  rcases h.st.1 with e | e
  · -- never opened
    have N := h.nw e
    obtain ⟨m1, z1, C⟩ := forget_cl (B := B) h.pt
    obtain ⟨c1, c2, c3, c4, c5, c6, c7⟩ := C
    have k1 : ∀ a, a ≠ 1 → a ≠ 3 → a ≠ m 0 12 → a ≠ 373 → a ≠ 508 → xw_u m1 508 18 (-1) a = m a := fun a a1 a2 a3 a4 a5 => by rw [xu_c a5]; exact c1 a a1 a2 a3 a4 a5
    have W1 : xw_u m1 508 18 (-1) 516 = m 516 := k1 516 (by omega) (by omega) (by omega) (by omega) (by omega)
    unfold opOk yf12
    rw [z1, xB_ret, restore_none h.bd.2 (by have := h.bd; omega) (by rw [W1]; exact N.m0) (by rw [W1]; exact N.m1), xB_ret, if_pos rfl]
    refine ⟨_, _, rfl, fun m1' e1 => ?_⟩
    unfold yf315
    obtain ⟨m3, z3, R⟩ := forget_rf (B := B) (m := xw_u (xw_u m1' 536 1 0) 536 3 0)
    obtain ⟨r1, r2, r3, r4⟩ := R
    rw [z3, xB_ret]
    have cl : ∀ a, a < 536 → m3 a = xw_u (xw_u m1 508 18 (-1)) 0 14 0 a := fun a ha => by rw [r1 a (by omega) (by omega) (by omega), xu_c (by omega), xu_c (by omega), e1 a (by omega)]
    have e53 : m1' 536 = m 536 := by rw [e1 536 (by omega), xu_c (by omega), k1 536 (by omega) (by omega) (by omega) (by omega) (by omega)]
    have q : ∀ k, k ≠ 1 → k ≠ 3 → k ≠ 51 → k ≠ 5 → k ≠ 6 → k ≠ 7 → k ≠ 32 → k ≠ 24 → m3 536 k = m 536 k := fun k h1 h2 h3 h4 h5 h6 h7 h8 => by rw [r3 k h3 h4 h5 h6 h7 h8, xu_ne (by omega), xu_ne (by omega), e53]
    have q3 : xR m3 536 3 = 0 := by rw [xR_fld (r3 3 (by omega) (by omega) (by omega) (by omega) (by omega) (by omega)), xR_at (by decide)]
    have q1 : xR m3 536 1 = 0 := by rw [xR_fld (r3 1 (by omega) (by omega) (by omega) (by omega) (by omega) (by omega)), xR_ne (by omega), xR_at (by decide)]
    have q2 : xR m3 536 2 = 0 := by rw [xR_fld (q 2 (by omega) (by omega) (by omega) (by omega) (by omega) (by omega) (by omega) (by omega))]; exact e
    rw [if_pos q2]
    have M4 : ∀ k, k ≠ 14 → k ≠ 19 → xw_u (xw_u m3 536 14 0) 536 19 0 536 k = m3 536 k := fun k h1 h2 => by rw [xu_ne (by omega), xu_ne (by omega)]
    have M5 : ∀ a, a ≠ 536 → xw_u (xw_u m3 536 14 0) 536 19 0 a = m3 a := fun a h1 => by rw [xu_c h1, xu_c h1]
    have d14 : xR (xw_u (xw_u m3 536 14 0) 536 19 0) 536 14 = 0 := by rw [xR_ne (by omega), xR_at (by decide)]
    have d19 : xR (xw_u (xw_u m3 536 14 0) 536 19 0) 536 19 = 0 := xR_at (by decide)
    generalize hm4 : xw_u (xw_u m3 536 14 0) 536 19 0 = m4 at *
    have f : ∀ k, k ≠ 14 → k ≠ 19 → k ≠ 1 → k ≠ 3 → k ≠ 51 → k ≠ 5 → k ≠ 6 → k ≠ 7 → k ≠ 32 → k ≠ 24 → m4 536 k = m 536 k := fun k h1 h2 h3 h4 h5 h6 h7 h8 h9 h10 => by rw [M4 k h1 h2]; exact q k h3 h4 h5 h6 h7 h8 h9 h10
    have fR : ∀ k, k ≠ 14 → k ≠ 19 → k ≠ 1 → k ≠ 3 → k ≠ 51 → k ≠ 5 → k ≠ 6 → k ≠ 7 → k ≠ 32 → k ≠ 24 → xR m4 536 k = xR m 536 k := fun k h1 h2 h3 h4 h5 h6 h7 h8 h9 h10 => xR_fld (f k h1 h2 h3 h4 h5 h6 h7 h8 h9 h10)
    have g : ∀ k, k ≠ 14 → k ≠ 19 → xR m4 536 k = xR m3 536 k := fun k h1 h2 => xR_fld (M4 k h1 h2)
    have cl4 : ∀ a, a < 536 → m4 a = xw_u (xw_u m1 508 18 (-1)) 0 14 0 a := fun a ha => by rw [M5 a (by omega), cl a ha]
    have cl0 : ∀ k, k ≠ 14 → m4 0 k = m 0 k := fun k hk => by rw [cl4 0 (by omega), xu_ne (by omega), k1 0 (by omega) (by omega) (by omega) (by omega) (by omega)]
    have cs : ∀ a, a < 536 → a ≠ 0 → a ≠ 1 → a ≠ 3 → a ≠ m 0 12 → a ≠ 373 → a ≠ 508 → m4 a = m a := fun a a0 a1 a2 a3 a4 a5 a6 => by rw [cl4 a a0, xu_c a1]; exact k1 a a2 a3 a4 a5 a6
    have c508 : ∀ k, k ≠ 18 → m4 508 k = m1 508 k := fun k hk => by rw [cl4 508 (by omega), xu_c (by omega), xu_ne (by omega)]
    refine ⟨_, _, rfl, ⟨h.bd, ⟨by have := h.cc.1; omega, by omega⟩, ptr_fr h.pt (fun k hk => f k (by omega) (by omega) (by omega) (by omega) (by omega) (by omega) (by omega) (by omega) (by omega) (by omega)) (fun k hk => cl0 k (by omega)), tps_fr h.tp (by rw [c508 0 (by omega)]; exact c7 0 (by omega) (by omega) (by omega) (by omega) (by omega)) (f 49 (by omega) (by omega) (by omega) (by omega) (by omega) (by omega) (by omega) (by omega) (by omega) (by omega)) (fun a ha => cs a (by omega) (by omega) (by omega) (by omega) (by omega) (by omega) (by omega)) (by
        obtain ⟨p, hp⟩ := h.tp.2.2.2.2
        exact ⟨p, rs_fr hp (cs 530 (by omega) (by omega) (by omega) (by omega) (by omega) (by omega) (by omega))⟩), ?_, ?_, ?_, ?_, fun _ => ?_, fun h2 => ?_⟩, Or.inr ⟨?_, ?_⟩, rfl⟩
    · refine ⟨Or.inl (by rw [g 2 (by omega) (by omega)]; exact q2), Or.inl (by rw [g 3 (by omega) (by omega)]; exact q3), ?_⟩
      rw [g 3 (by omega) (by omega), q3, if_neg (by decide), g 2 (by omega) (by omega), q2, xR_cg (cl4 0 (by omega)), xR_at (by decide)]
    · unfold txt
      have t1 : xR m4 1 = xR m1 1 := by rw [xR_cg (cl4 1 (by omega)), xR_cg (xu_c (by omega)), xR_cg (xu_c (by omega))]
      rw [t1, c2.1, c2.2.1, c2.2.2, g 5 (by omega) (by omega), g 6 (by omega) (by omega), g 7 (by omega) (by omega), r2.2.1, r2.2.2.1, r2.2.2.2.1, xR_cg (cs 2 (by omega) (by omega) (by omega) (by omega) (by omega) (by omega) (by omega))]
      exact ⟨⟨rfl, by omega, by omega⟩, fun i i0 i1 => by omega, h.tx.2.2.1, rfl, rfl⟩
    · unfold cnr
      rw [xR_fld (cl0 15 (by omega)), xR_fld (cl0 16 (by omega)), fR 33 (by omega) (by omega) (by omega) (by omega) (by omega) (by omega) (by omega) (by omega) (by omega) (by omega), fR 39 (by omega) (by omega) (by omega) (by omega) (by omega) (by omega) (by omega) (by omega) (by omega) (by omega), fR 50 (by omega) (by omega) (by omega) (by omega) (by omega) (by omega) (by omega) (by omega) (by omega) (by omega), fR 31 (by omega) (by omega) (by omega) (by omega) (by omega) (by omega) (by omega) (by omega) (by omega) (by omega), fR 38 (by omega) (by omega) (by omega) (by omega) (by omega) (by omega) (by omega) (by omega) (by omega) (by omega), g 32 (by omega) (by omega), g 3 (by omega) (by omega), g 51 (by omega) (by omega), r2.2.2.2.2.1, r2.1, q3, xR_fld (c508 19 (by omega)), xR_fld (c7 19 (by omega) (by omega) (by omega) (by omega) (by omega)), xR_cg (cl4 373 (by omega)), xR_cg (xu_c (by omega)), xR_cg (xu_c (by omega)), c5.1, xR_cg (cl4 508 (by omega)), xR_cg (xu_c (by omega)), xR_at (by decide)]
      exact ⟨sg, h.cn.ch, ⟨hw.1, hw.2.1, by omega⟩, ⟨rfl, by omega, by omega⟩, ⟨fb.1, by omega⟩, ⟨hl.1, by omega⟩, fun _ => ⟨rfl, Or.inl rfl⟩, fun _ => rfl⟩
    · refine ⟨fun _ k k0 k1 => ?_, fun h2 => ?_⟩
      · rw [xR_cg (M5 577 (by omega)), xJ_cg (M5 578 (by omega))]; exact r4 k k0 k1
      · rw [g 2 (by omega) (by omega)] at h2; omega
    · refine ⟨by rw [cs 516 (by omega) (by omega) (by omega) (by omega) (by omega) (by omega) (by omega)]; exact N.m0, by rw [cs 516 (by omega) (by omega) (by omega) (by omega) (by omega) (by omega) (by omega)]; exact N.m1, ?_, ?_, fun h3 => ?_, fun _ => ⟨0, 0, ⟨⟨⟨by omega, by omega⟩, ⟨by omega, by omega⟩, ?_, ?_, fun d d0 d1 => by omega, fun d d0 d1 => by omega⟩, ⟨fun d d0 d1 => by omega, fun d i d0 d1 => by omega⟩, d14, d19, fun d d0 d1 => by omega, fun d d0 d1 => by omega⟩, fun d d0 d1 => by omega, fun d d0 d1 => by omega, fun d d0 d1 => by omega⟩⟩
      · rw [fR 31 (by omega) (by omega) (by omega) (by omega) (by omega) (by omega) (by omega) (by omega) (by omega) (by omega), fR 38 (by omega) (by omega) (by omega) (by omega) (by omega) (by omega) (by omega) (by omega) (by omega) (by omega), fR 40 (by omega) (by omega) (by omega) (by omega) (by omega) (by omega) (by omega) (by omega) (by omega) (by omega), fR 52 (by omega) (by omega) (by omega) (by omega) (by omega) (by omega) (by omega) (by omega) (by omega) (by omega), g 32 (by omega) (by omega), r2.2.2.2.2.1]
        exact ⟨N.rf.1, N.rf.2.1, N.rf.2.2.1, N.rf.2.2.2.1, rfl⟩
      · rw [xR_fld (c508 8 (by omega)), xR_fld (c508 9 (by omega)), xR_fld (c508 10 (by omega)), xR_fld (c508 11 (by omega)), xR_fld (c508 14 (by omega))]; exact c6
      · rw [g 3 (by omega) (by omega)] at h3; omega
      · rw [xR_cg (cl4 3 (by omega)), xR_cg (xu_c (by omega)), xR_cg (xu_c (by omega))]; exact c3.1
      · rw [xR_cg (cl4 3 (by omega)), xR_cg (xu_c (by omega)), xR_cg (xu_c (by omega))]; exact c3.2
    · rw [g 2 (by omega) (by omega)] at h2; omega
    · rw [cl0 12 (by omega), xR_cg (cl4 (m 0 12) (by omega)), xR_cg (xu_c (by omega)), xR_cg (xu_c (by omega))]; exact c4.1
    · rw [g 24 (by omega) (by omega)]; exact r2.2.2.2.2.2
  · obtain ⟨D, M, tu, K, Rf, Rv, F, ht, u, v⟩ := h.op e
    obtain ⟨m1, z1, f1, f0, f14, ft, fa, f373, fm, f508, f18, frs, fv, fvw, fle, fcg, fvl, far⟩ := back_cl (B := B) h.bd h.pt h.tp F ⟨fb.1, by omega⟩
    unfold opOk
    refine ⟨_, _, z1, fun m1' e1 => ?_⟩
    unfold yf315
    obtain ⟨m3, z3, R⟩ := forget_rf (B := B) (m := xw_u (xw_u m1' 536 1 0) 536 3 0)
    obtain ⟨r1, r2, r3, r4⟩ := R
    rw [z3, xB_ret]
    have hD := fcg.cn.1
    have cl : ∀ a, a < 536 → m3 a = m1 a := fun a ha => by rw [r1 a (by omega) (by omega) (by omega), xu_c (by omega), xu_c (by omega), e1 a (by omega)]
    have hi1 : ∀ a, 536 ≤ a → m1 a = m a := fun a ha => f1 a (by omega) (by omega) (by omega) (by omega) (by omega) (by omega) (by omega) (by omega) (by omega) (by omega)
    have e53 : m1' 536 = m 536 := by rw [e1 536 (by omega), hi1 536 (by omega)]
    have rc : ∀ a, 537 ≤ a → a ≠ 577 → a ≠ 578 → a ≠ 604 → m3 a = m a := fun a a0 a1 a2 a3 => by rw [r1 a (by omega) a1 a2, xu_c (by omega), xu_c (by omega), e1 a a3, hi1 a (by omega)]
    have q : ∀ k, k ≠ 1 → k ≠ 3 → k ≠ 51 → k ≠ 5 → k ≠ 6 → k ≠ 7 → k ≠ 32 → k ≠ 24 → m3 536 k = m 536 k := fun k h1 h2 h3 h4 h5 h6 h7 h8 => by rw [r3 k h3 h4 h5 h6 h7 h8, xu_ne (by omega), xu_ne (by omega), e53]
    have qR : ∀ k, k ≠ 1 → k ≠ 3 → k ≠ 51 → k ≠ 5 → k ≠ 6 → k ≠ 7 → k ≠ 32 → k ≠ 24 → xR m3 536 k = xR m 536 k := fun k h1 h2 h3 h4 h5 h6 h7 h8 => xR_fld (q k h1 h2 h3 h4 h5 h6 h7 h8)
    have q3 : xR m3 536 3 = 0 := by rw [xR_fld (r3 3 (by omega) (by omega) (by omega) (by omega) (by omega) (by omega)), xR_at (by decide)]
    have q1 : xR m3 536 1 = 0 := by rw [xR_fld (r3 1 (by omega) (by omega) (by omega) (by omega) (by omega) (by omega)), xR_ne (by omega), xR_at (by decide)]
    have q2 : xR m3 536 2 = 1 := by rw [qR 2 (by omega) (by omega) (by omega) (by omega) (by omega) (by omega) (by omega) (by omega)]; exact e
    rw [if_neg (by omega)]
    have q32 : xR m3 536 32 = 0 := r2.2.2.2.2.1
    refine ⟨_, _, rfl, ⟨h.bd, ⟨by have := h.cc.1; omega, by omega⟩, ptr_fr h.pt (fun k hk => q k (by omega) (by omega) (by omega) (by omega) (by omega) (by omega) (by omega) (by omega)) (fun k hk => by rw [cl 0 (by omega)]; exact f0 k (by omega)), tps_fr h.tp (by rw [cl 508 (by omega)]; exact f508 0 (by omega) (by omega) (by omega) (by omega) (by omega) (by omega)) (q 49 (by omega) (by omega) (by omega) (by omega) (by omega) (by omega) (by omega) (by omega)) (fun a ha => by rw [cl a (by omega)]; exact f1 a (by omega) (by omega) (by omega) (by omega) (by omega) (by omega) (by omega) (by omega) (by omega) (by omega)) (by
        obtain ⟨p, hp⟩ := frs
        exact ⟨p, rs_fr hp (cl 530 (by omega))⟩), ?_, ?_, ?_, ?_, fun h2 => by omega, fun _ => ?_⟩, Or.inr ⟨?_, r2.2.2.2.2.2⟩, by unfold ag0; rw [qR 38 (by omega) (by omega) (by omega) (by omega) (by omega) (by omega) (by omega) (by omega)]⟩
    · refine ⟨Or.inr q2, Or.inl q3, ?_⟩
      rw [q3, if_neg (by decide), q2, xR_cg (cl 0 (by omega))]; exact f14
    · unfold txt
      rw [xR_cg (cl 1 (by omega)), ft.1, ft.2.1, ft.2.2, r2.2.1, r2.2.2.1, r2.2.2.2.1, xR_cg (cl 2 (by omega)), xR_cg (f1 2 (by omega) (by omega) (by omega) (by omega) (by omega) (by omega) (by omega) (by omega) (by omega) (by omega))]
      exact ⟨⟨rfl, by omega, by omega⟩, fun i i0 i1 => by omega, h.tx.2.2.1, rfl, rfl⟩
    · unfold cnr
      rw [xR_fld (show m3 0 15 = m 0 15 by rw [cl 0 (by omega)]; exact f0 15 (by omega)), xR_fld (show m3 0 16 = m 0 16 by rw [cl 0 (by omega)]; exact f0 16 (by omega)), qR 33 (by omega) (by omega) (by omega) (by omega) (by omega) (by omega) (by omega) (by omega), qR 39 (by omega) (by omega) (by omega) (by omega) (by omega) (by omega) (by omega) (by omega), qR 50 (by omega) (by omega) (by omega) (by omega) (by omega) (by omega) (by omega) (by omega), qR 31 (by omega) (by omega) (by omega) (by omega) (by omega) (by omega) (by omega) (by omega), qR 38 (by omega) (by omega) (by omega) (by omega) (by omega) (by omega) (by omega) (by omega), q32, q3, r2.1, xR_cg (cl 508 (by omega)), xR_fld (f508 19 (by omega) (by omega) (by omega) (by omega) (by omega) (by omega)), xR_cg (cl 373 (by omega)), f373, f18]
      exact ⟨sg, h.cn.ch, ⟨hw.1, hw.2.1, by omega⟩, ⟨rfl, by omega, by omega⟩, ⟨fb.1, by omega⟩, ⟨hl.1, by omega⟩, fun _ => ⟨rfl, Or.inl rfl⟩, fun _ => rfl⟩
    · refine ⟨fun hn => absurd ⟨q2, q3⟩ hn, fun _ _ k k0 k1 => ?_⟩
      have a := fm k k0 k1
      have b := r4 k k0 k1
      rw [xR_cg (cl 417 (by omega)), xJ_cg (cl 418 (by omega)), a.1, a.2, b.1, b.2, qR 14 (by omega) (by omega) (by omega) (by omega) (by omega) (by omega) (by omega) (by omega), xR_cg (rc 539 (by omega) (by omega) (by omega) (by omega))]
      refine ⟨rfl, rfl, fun hk => ⟨Int.le_refl _, ?_⟩⟩
      have := F.dm.2.2 k k0 (by rw [← fcg.r14]; exact hk)
      omega
    · have w516 : m3 516 = m 516 := by rw [cl 516 (by omega)]; exact f1 516 (by omega) (by omega) (by omega) (by omega) (by omega) (by omega) (by omega) (by omega) (by omega) (by omega)
      refine ⟨D, M, tu, K, Rf, Rv, dsk_fr F ⟨rc 538 (by omega) (by omega) (by omega) (by omega), rc 539 (by omega) (by omega) (by omega) (by omega), rc 573 (by omega) (by omega) (by omega) (by omega), fun i _ _ => ⟨by rw [rc 575 (by omega) (by omega) (by omega) (by omega)], by rw [rc 576 (by omega) (by omega) (by omega) (by omega)]⟩⟩ (fun a ha => rc a (by omega) (by omega) (by omega) (by omega)) (fun k hk => q k (by omega) (by omega) (by omega) (by omega) (by omega) (by omega) (by omega) (by omega)) (fun x _ _ => by rw [w516]), by omega, fun _ => ?_, fun h3 => by omega⟩
      have A : ∀ a, 3 ≤ a → a < 223 → m3 a = m1 a := fun a a0 a1 => cl a (by omega)
      have R5 : xR m3 508 = xR m1 508 := xR_cg (cl 508 (by omega))
      refine ⟨cgr_m (q 14 (by omega) (by omega) (by omega) (by omega) (by omega) (by omega) (by omega) (by omega)) (q 19 (by omega) (by omega) (by omega) (by omega) (by omega) (by omega) (by omega) (by omega)) (rc 538 (by omega) (by omega) (by omega) (by omega)) (rc 539 (by omega) (by omega) (by omega) (by omega)) (rc 542 (by omega) (by omega) (by omega) (by omega)) (rc 543 (by omega) (by omega) (by omega) (by omega)) (cgr_w A fcg), vls_m (rc 540 (by omega) (by omega) (by omega) (by omega)) (vls_w hD.2 (fun d d0 d1 => (fcg.cn.2.2.2.2.1 d d0 d1).2.1.2) A fvl), fun d d0 d1 => ?_, by rw [R5]; exact fv.1, ?_, ?_, ?_, ?_, ?_, ?_, fun x x0 x1 => by omega⟩
      · rw [xR_cg (A (15 + 26 * d) (by omega) (by omega))]
        exact arrd_cg (far d d0 d1) (fcg.cn.2.2.2.2.1 d d0 d1).2.1.2 (fun a a0 a1 => A a (by omega) (by omega))
      · rw [R5, qR 38 (by omega) (by omega) (by omega) (by omega) (by omega) (by omega) (by omega) (by omega)]; exact fv.2.1
      · rw [R5, qR 31 (by omega) (by omega) (by omega) (by omega) (by omega) (by omega) (by omega) (by omega)]; exact fv.2.2.1
      · rw [R5, qR 40 (by omega) (by omega) (by omega) (by omega) (by omega) (by omega) (by omega) (by omega)]; exact fv.2.2.2.1
      · rw [R5, qR 52 (by omega) (by omega) (by omega) (by omega) (by omega) (by omega) (by omega) (by omega)]; exact fv.2.2.2.2
      · rw [qR 40 (by omega) (by omega) (by omega) (by omega) (by omega) (by omega) (by omega) (by omega), xR_cg (cl 511 (by omega)), xR_cg (cl 512 (by omega)), xR_cg (rc 579 (by omega) (by omega) (by omega) (by omega)), xR_cg (rc 580 (by omega) (by omega) (by omega) (by omega))]; exact fvw
      · rw [qR 52 (by omega) (by omega) (by omega) (by omega) (by omega) (by omega) (by omega) (by omega), xR_cg (cl 513 (by omega)), xR_cg (cl 514 (by omega)), xR_cg (cl 515 (by omega)), xR_cg (rc 587 (by omega) (by omega) (by omega) (by omega)), xR_cg (rc 588 (by omega) (by omega) (by omega) (by omega))]; exact fle
    · rw [show m3 0 12 = m 0 12 by rw [cl 0 (by omega)]; exact f0 12 (by omega), xR_cg (cl (m 0 12) (by omega))]; exact fa
end REC2
