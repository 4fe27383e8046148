/-! OPERATIONS: crash, recover -/
section REC
variable {B : Nat} {m w : xw_M} {c D M : Int}
theorem cgr_sdm {m' : xw_M} (h : cgr w m D M) (h31 : xR m' 3 1 = D) (h32 : xR m' 3 2 = M) (s : ∀ d, 0 ≤ d → d < D → sdm w m' d) (k : ∀ k, 0 ≤ k → k < M → xR m' 14 k = xR w 14 k ∧ ∀ i, 0 ≤ i → i < xR w 14 k → xR m' (6 + k) i = xR w (6 + k) i) : cgr m' m D M := by
  refine ⟨ctn_sdm h.cn h31 h32 s (fun j j0 j1 => (k j j0 j1).1), ⟨fun d d0 d1 => ?_, fun j i j0 j1 i0 i1 => ?_⟩, h.r14, h.r19, fun d d0 d1 => ?_, fun j j0 j1 => ?_⟩
  · obtain ⟨⟨a1, a2, a3⟩, b, e⟩ := s d d0 d1
    rw [a1, a2]
    refine ⟨fun i i0 i1 => by rw [b i i0 i1]; exact (h.b8.1 d d0 d1).1 i i0 i1, fun l i l0 l1 i0 i1 => ?_⟩
    obtain ⟨e1, e2, e3⟩ := e l l0 l1
    rw [e1] at i1
    rw [e2 i i0 i1]
    exact (h.b8.1 d d0 d1).2 l i l0 l1 i0 i1
  · rw [(k j j0 j1).1] at i1
    rw [(k j j0 j1).2 i i0 i1]
    exact h.b8.2 j i j0 j1 i0 i1
  · obtain ⟨⟨a1, a2, a3⟩, b, e⟩ := s d d0 d1
    obtain ⟨s1, s2, s3, s4, s5, s6⟩ := h.sz d d0 d1
    rw [a1, a2, a3]
    refine ⟨s1, s2, s3, s4, fun i i0 i1 => by rw [b i i0 i1]; exact s5 i i0 i1, fun l l0 l1 => ?_⟩
    obtain ⟨e1, e2, e3⟩ := e l l0 l1
    rw [e1]
    exact ⟨(s6 l l0 l1).1, fun i i0 i1 => by rw [e2 i i0 i1]; exact (s6 l l0 l1).2 i i0 i1⟩
  · rw [(k j j0 j1).1]
    exact ⟨(h.ms j j0 j1).1, fun i i0 i1 => by rw [(k j j0 j1).2 i i0 i1]; exact (h.ms j j0 j1).2 i i0 i1⟩
theorem vls_sdm {m' : xw_M} (hL : ∀ d, 0 ≤ d → d < D → 1 ≤ xR w (15 + 26 * d) 10) (h : vls w m D) (s : ∀ d, 0 ≤ d → d < D → sdm w m' d) : vls m' m D := fun d d0 d1 => by
  obtain ⟨⟨a1, a2, a3⟩, b, e⟩ := s d d0 d1
  obtain ⟨v1, v2⟩ := h d d0 d1
  have L := hL d d0 d1
  rw [a2, a3]
  refine ⟨fun l p l0 l1 p0 p1 => by rw [(e l l0 l1).2.2 p p0 p1]; exact v1 l p l0 l1 p0 p1, fun p p' p0 pp p1 => ?_⟩
  have e0 := (e 0 (Int.le_refl _) (by omega)).2.2
  rw [Int.add_zero] at e0
  rw [e0 p p0 (by omega), e0 p' (by omega) p1]
  exact v2 p p' p0 pp p1
/-- arranging what is in order already -/
theorem sdm_arr {m5 m6 : xw_M} {o : Int → Int} {d : Int} (hc : cgr w m D M) (hv : vls w m D) (d0 : 0 ≤ d) (d1 : d < D) (s : sdm w m5 d) (F : ∀ a, (∀ d, 0 ≤ d → d < D → a < 15 + 26 * d + 9 ∨ 15 + 26 * d + 25 < a) → m6 a = m5 a) (A : arrM m5 m6 d o) : sdm w m6 d ∧ arrd m6 d (xR m6 (15 + 26 * d) 10) (xR m6 (15 + 26 * d) 11) := by
  have hD := hc.cn.1
  obtain ⟨⟨a1, a2, a3⟩, b, e⟩ := s
  obtain ⟨A1, A2, A3⟩ := A
  have L1 := (hc.sz d d0 d1).1
  have L4 := (hc.cn.2.2.2.2.1 d d0 d1).2.1.2
  have e0 := (e 0 (Int.le_refl _) (by omega)).2.2
  rw [Int.add_zero] at e0
  rw [a3] at A1 A2 A3
  rw [a2] at A2 A3
  have oid := vsrt_id A1 (fun i j i0 ij j1 => by rw [e0 i i0 (by omega), e0 j (by omega) j1]; exact (hv d d0 d1).2 i j i0 ij j1)
  have R : ∀ a, 15 + 26 * d ≤ a → a < 15 + 26 * d + 9 → xR m6 a = xR m5 a := fun a a0 a1 => xR_cg (F a (fun d' _ _ => by omega))
  refine ⟨⟨by rw [R (15 + 26 * d) (by omega) (by omega)]; exact ⟨a1, a2, a3⟩, by rw [R (15 + 26 * d + 1) (by omega) (by omega)]; exact b, fun l l0 l1 => ?_⟩, ?_⟩
  · rw [R (15 + 26 * d + 7) (by omega) (by omega), R (15 + 26 * d + 3 + l) (by omega) (by omega)]
    obtain ⟨e1, e2, e3⟩ := e l l0 l1
    refine ⟨e1, e2, fun i i0 i1 => ?_⟩
    rw [A2 l i l0 l1 i0 i1, oid i i0 i1]
    exact e3 i i0 i1
  · rw [R (15 + 26 * d) (by omega) (by omega), a2, a3]
    exact A3
theorem crash_op {n : Int} (h : Inw B c m) (hc : c < 600) : opOk B c m (yf218 B n) (yf314 B n) ag2 := by
  obtain ⟨d1, d2, d3⟩ := sta_dn h.st
  unfold opOk yf218 yk218_16
  have bad : ∀ m1 : xw_M, (∀ a, a ≠ 604 → m1 a = m a) → (n < -1 ∨ 1000 < n) → ∃ v m2, yf314 B n m1 = some (.inl v, m2) ∧ Inw B (c + 1) m2 ∧ (anF m m2 ∨ anN m2) ∧ ag2 (.inr 15) (xR m2 536 1) v := by
    intro m1 e1 hn
    have I := Inw_1 (x := 1) h hc e1
    unfold yf314
    by_cases x1 : n < -1
    · rw [if_pos x1]; exact ⟨_, _, rfl, I.1, Or.inl I.2, Or.inr (Or.inl ⟨rfl, xR_at (by decide)⟩)⟩
    · rw [if_neg x1, if_pos (by omega)]; exact ⟨_, _, rfl, I.1, Or.inl I.2, Or.inr (Or.inl ⟨rfl, xR_at (by decide)⟩)⟩
  by_cases x1 : n < -1
  · rw [if_pos x1]; exact ⟨_, _, rfl, fun m1 e1 => bad m1 e1 (Or.inl x1)⟩
  rw [if_neg x1]
  by_cases x2 : 1000 < n
  · rw [if_pos x2]; exact ⟨_, _, rfl, fun m1 e1 => bad m1 e1 (Or.inr x2)⟩
  rw [if_neg x2]
  show ∃ r m1, (xB (yf38 B m) _ : xP) = _ ∧ _
  by_cases hd : xR m 536 3 = 1
  · rw [fdown (d1.mpr hd)]
    refine ⟨_, _, rfl, fun m1 e1 => ?_⟩
    have e3 : xR m1 536 3 = 1 := by rw [xR_cg (e1 536 (by omega))]; exact hd
    have I := Inw_1 (x := 2) h hc e1
    unfold yf314
    rw [if_neg x1, if_neg x2, if_neg (by omega)]
    exact ⟨_, _, rfl, I.1, Or.inl I.2, Or.inr (Or.inr ⟨rfl, xR_at (by decide)⟩)⟩
  have hd0 := sta_0 h.st hd
  rw [fup (by rw [Ne, d1]; exact hd), xB_ret]
  by_cases hz : n = 0
  · subst hz
    rw [if_pos rfl]
    have pt : ptr (xw_u m 508 18 0) := ptr_fr h.pt (fun k _ => by rw [xu_c (by omega)]) (fun k _ => by rw [xu_c (by omega)])
    have tp : tps B (xw_u m 508 18 0) := tps_fr h.tp (by rw [xu_ne (by omega)]) (by rw [xu_c (by omega)]) (fun a ha => by rw [xu_c (by omega)]) (by
      obtain ⟨p, hp⟩ := h.tp.2.2.2.2
      exact ⟨p, rs_fr hp (by rw [xu_c (by omega)])⟩)
    obtain ⟨a1, z, C⟩ := forget_cl (B := B) pt
    unfold yf163
    rw [z, xB_ret]
    show ∃ r m1, (xB (some (.inl (-3), xw_u a1 0 14 2)) _ : xP) = _ ∧ _
    rw [xB_ret]
    refine ⟨_, _, rfl, fun m1 e1 => ?_⟩
    have e53 : m1 536 = m 536 := by
      rw [e1 536 (by omega), xu_c (by omega), C.1 536 (by omega) (by omega) (by have := (ans_ob pt).2; omega) (by omega) (by omega), xu_c (by omega)]
    have eR : ∀ a, 537 ≤ a → a ≠ 604 → m1 a = m a := fun a a0 a1 => by
      rw [e1 a a1, xu_c (by omega), C.1 a (by omega) (by omega) (by have := (ans_ob pt).2; omega) (by omega) (by omega), xu_c (by omega)]
    unfold yf314
    rw [if_neg x1, if_neg x2, if_pos (by rw [xR_cg e53]; exact hd0), if_pos rfl]
    unfold yf312
    rw [if_neg (by rw [xR_at (by decide)]; decide)]
    obtain ⟨b1, y, R⟩ := forget_rf (B := B) (m := xw_u (xw_u (xw_u m1 536 1 0) 536 51 0) 536 3 1)
    rw [y, xB_ret]
    have g : ∀ k, k ≠ 1 → k ≠ 51 → k ≠ 3 → xw_u (xw_u (xw_u m1 536 1 0) 536 51 0) 536 3 1 536 k = m 536 k := fun k k1 k2 k3 => by rw [xu_ne (by omega), xu_ne (by omega), xu_ne (by omega), e53]
    have gR : ∀ k, k ≠ 1 → k ≠ 51 → k ≠ 3 → xR (xw_u (xw_u (xw_u m1 536 1 0) 536 51 0) 536 3 1) 536 k = xR m 536 k := fun k k1 k2 k3 => xR_fld (g k k1 k2 k3)
    have gc : ∀ a, 537 ≤ a → a ≠ 604 → xw_u (xw_u (xw_u m1 536 1 0) 536 51 0) 536 3 1 a = m a := fun a a0 a1 => by rw [xu_c (by omega), xu_c (by omega), xu_c (by omega)]; exact eR a a0 a1
    have hw := h.cn.wr
    have hl := h.cn.lo
    have I := Inw_dn (c := c + 1) (m := xw_u m 508 18 0) h.bd ⟨by have := h.cc.1; omega, by omega⟩ pt tp (by rw [xR_cg (xu_c (by omega))]; exact h.tx.2.2.1) C e1 (fun a ha => by rw [xu_c (by omega), xu_c (by omega), xu_c (by omega)]) R (fun k hk => by rw [g k (by omega) (by omega) (by omega), xu_c (by omega)]) (by
        obtain ⟨s, t, a, b, d⟩ := h.pt.1
        exact ⟨s, t, a, by rw [g 59 (by omega) (by omega) (by omega)]; exact b, by rw [g 60 (by omega) (by omega) (by omega)]; exact d⟩) (xR_at (by decide)) (by rw [gR 2 (by omega) (by omega) (by omega)]; exact h.st.1) (by rw [gR 33 (by omega) (by omega) (by omega), xR_cg (xu_c (by omega))]; exact h.cn.sg) (by rw [gR 39 (by omega) (by omega) (by omega), xR_cg (xu_c (by omega))]; exact h.cn.ch) (by rw [gR 50 (by omega) (by omega) (by omega), xR_ne (by omega)]; exact ⟨hw.1, hw.2.1, by omega⟩) (by rw [gR 31 (by omega) (by omega) (by omega), gR 33 (by omega) (by omega) (by omega)]; have := h.cn.fb; have := h.cn.ba; omega) (by rw [gR 38 (by omega) (by omega) (by omega)]; omega) (fun h2 => by
        rw [gR 2 (by omega) (by omega) (by omega)] at h2
        have n := h.nw h2
        rw [gR 31 (by omega) (by omega) (by omega), gR 38 (by omega) (by omega) (by omega), gR 40 (by omega) (by omega) (by omega), gR 52 (by omega) (by omega) (by omega), gR 14 (by omega) (by omega) (by omega), xu_c (by omega)]
        exact ⟨n.m0, n.m1, n.rf.1, n.rf.2.1, n.rf.2.2.1, n.rf.2.2.2.1, ((dims_eq h).2 hd0).2.2.1⟩) (fun h2 => by
        rw [gR 2 (by omega) (by omega) (by omega)] at h2
        obtain ⟨D, M, tu, K, Rf, Rv, F, ht, u, v⟩ := h.op h2
        refine ⟨D, M, tu, K, Rf, Rv, dsk_fr F ⟨gc 538 (by omega) (by omega), gc 539 (by omega) (by omega), gc 573 (by omega) (by omega), fun i _ _ => ⟨by rw [gc 575 (by omega) (by omega)], by rw [gc 576 (by omega) (by omega)]⟩⟩ (fun a ha => gc a (by omega) (by omega)) (fun k hk => g k (by omega) (by omega) (by omega)) (fun x _ _ => ?_), by omega⟩
        rw [xu_c (by omega), xu_c (by omega), xu_c (by omega), e1 516 (by omega), xu_c (by omega), C.1 516 (by omega) (by omega) (by have := (ans_ob pt).2; omega) (by omega) (by omega), xu_c (by omega)])
    refine ⟨_, _, rfl, I.1, Or.inr I.2, Or.inl ⟨rfl, ?_⟩⟩
    rw [xR_fld (R.2.2.1 1 (by omega) (by omega) (by omega) (by omega) (by omega) (by omega)), xR_ne (by omega), xR_ne (by omega), xR_at (by decide)]
  · rw [if_neg hz]
    refine ⟨_, _, rfl, fun m1 e1 => ?_⟩
    have e53 : m1 536 = m 536 := by rw [e1 536 (by omega), xu_c (by omega)]
    unfold yf314
    rw [if_neg x1, if_neg x2, if_pos (by rw [xR_cg e53]; exact hd0), if_neg hz]
    unfold yf312
    rw [if_pos (xR_at (by decide)), xB_ret]
    have eo : ∀ a, a ≠ 508 → a ≠ 536 → a ≠ 604 → xw_u (xw_u (xw_u m1 536 1 0) 536 51 n) 536 3 0 a = m a := fun a h1 h2 h3 => by rw [xu_c h2, xu_c h2, xu_c h2, e1 a h3, xu_c h1]
    have e3 : xR (xw_u (xw_u (xw_u m1 536 1 0) 536 51 n) 536 3 0) 536 3 = xR m 536 3 := by rw [xR_at (by decide), hd0]
    have ef : ∀ k, k ≠ 1 → k ≠ 3 → k ≠ 51 → xw_u (xw_u (xw_u m1 536 1 0) 536 51 n) 536 3 0 536 k = m 536 k := fun k h1 h2 h3 => by rw [xu_ne (by omega), xu_ne (by omega), xu_ne (by omega), e53]
    have e5 : ∀ k, k ≠ 18 → xw_u (xw_u (xw_u m1 536 1 0) 536 51 n) 536 3 0 508 k = m 508 k := fun k hk => by rw [xu_c (by omega), xu_c (by omega), xu_c (by omega), e1 508 (by omega), xu_ne (by omega)]
    have e18 : xR (xw_u (xw_u (xw_u m1 536 1 0) 536 51 n) 536 3 0) 508 18 = n := by rw [xR_cg (xu_c (by omega)), xR_cg (xu_c (by omega)), xR_cg (xu_c (by omega)), xR_cg (e1 508 (by omega)), xR_at (w32_id (by omega) (by omega))]
    have e51 : xR (xw_u (xw_u (xw_u m1 536 1 0) 536 51 n) 536 3 0) 536 51 = n := by rw [xR_ne (by omega), xR_at (w32_id (by omega) (by omega))]
    generalize hm2 : xw_u (xw_u (xw_u m1 536 1 0) 536 51 n) 536 3 0 = m2 at *
    have q : ∀ k, k ≠ 1 → k ≠ 3 → k ≠ 51 → xR m2 536 k = xR m 536 k := fun k h1 h2 h3 => xR_fld (ef k h1 h2 h3)
    have hw := h.cn.wr
    have hl := h.cn.lo
    refine ⟨_, _, rfl, ⟨h.bd, ⟨by have := h.cc.1; omega, by omega⟩, ptr_fr h.pt (fun k hk => ef k (by omega) (by omega) (by omega)) (fun k _ => by rw [eo 0 (by omega) (by omega) (by omega)]), tps_fr h.tp (e5 0 (by omega)) (ef 49 (by omega) (by omega) (by omega)) (fun a ha => eo a (by omega) (by omega) (by omega)) (by
      obtain ⟨p, hp⟩ := h.tp.2.2.2.2
      exact ⟨p, rs_fr hp (eo 530 (by omega) (by omega) (by omega))⟩), ?_, txt_fr h.tx (fun k _ => by rw [eo 1 (by omega) (by omega) (by omega)]) (eo 2 (by omega) (by omega) (by omega)) (fun k hk => ef k (by omega) (by omega) (by omega)) (eo 537 (by omega) (by omega) (by omega)), ?_, ?_, fun h2 => ?_, fun h2 => ?_⟩, Or.inl ⟨fun h3 => by omega, fun k _ => by rw [eo 0 (by omega) (by omega) (by omega)], fun a a0 a1 => eo a (by omega) (by omega) (by omega), fun k hk => ef k (by omega) (by omega) (by omega), fun a ha => eo a (by omega) (by omega) (by omega)⟩, Or.inl ⟨rfl, ?_⟩⟩
    · unfold sta
      rw [e3, q 2 (by omega) (by omega) (by omega), xR_cg (eo 0 (by omega) (by omega) (by omega))]; exact h.st
    · unfold cnr
      rw [xR_cg (eo 0 (by omega) (by omega) (by omega)), q 33 (by omega) (by omega) (by omega), q 39 (by omega) (by omega) (by omega), q 50 (by omega) (by omega) (by omega), q 32 (by omega) (by omega) (by omega), q 31 (by omega) (by omega) (by omega), q 38 (by omega) (by omega) (by omega), e3, e18, e51, xR_fld (e5 19 (by omega)), xR_cg (eo 373 (by omega) (by omega) (by omega))]
      exact ⟨h.cn.sg, h.cn.ch, ⟨hw.1, hw.2.1, by omega⟩, h.cn.ba, h.cn.fb, ⟨hl.1, by omega⟩, fun _ => ⟨rfl, by omega⟩, h.cn.dn⟩
    · unfold mak
      rw [e3, q 2 (by omega) (by omega) (by omega), q 14 (by omega) (by omega) (by omega), xR_cg (eo 577 (by omega) (by omega) (by omega)), xJ_cg (eo 578 (by omega) (by omega) (by omega)), xR_cg (eo 417 (by omega) (by omega) (by omega)), xJ_cg (eo 418 (by omega) (by omega) (by omega)), xR_cg (eo 539 (by omega) (by omega) (by omega))]
      exact h.mk
    · rw [q 2 (by omega) (by omega) (by omega)] at h2
      have N := h.nw h2
      refine ⟨by rw [eo 516 (by omega) (by omega) (by omega)]; exact N.m0, by rw [eo 516 (by omega) (by omega) (by omega)]; exact N.m1, ?_, ?_, ?_, fun h' => ?_⟩
      · rw [q 31 (by omega) (by omega) (by omega), q 38 (by omega) (by omega) (by omega), q 40 (by omega) (by omega) (by omega), q 52 (by omega) (by omega) (by omega), q 32 (by omega) (by omega) (by omega)]; exact N.rf
      · rw [xR_fld (e5 8 (by omega)), xR_fld (e5 9 (by omega)), xR_fld (e5 10 (by omega)), xR_fld (e5 11 (by omega)), xR_fld (e5 14 (by omega))]; exact N.cl
      · rw [e3, q 14 (by omega) (by omega) (by omega), xR_cg (eo 3 (by omega) (by omega) (by omega))]; exact N.dn
      · obtain ⟨D, M, F⟩ := N.up hd0
        exact ⟨D, M, catN_fr F (fun a a0 a1 => eo a (by omega) (by omega) (by omega)) (fun k hk => ef k (by omega) (by omega) (by omega)) (fun a ha => eo a (by omega) (by omega) (by omega))⟩
    · rw [q 2 (by omega) (by omega) (by omega)] at h2
      obtain ⟨D, M, tu, K, Rf, Rv, F, ht, u, v⟩ := h.op h2
      have r := u hd0
      refine ⟨D, M, tu, K, Rf, Rv, dsk_fr F ⟨eo 538 (by omega) (by omega) (by omega), eo 539 (by omega) (by omega) (by omega), eo 573 (by omega) (by omega) (by omega), fun i _ _ => ⟨by rw [eo 575 (by omega) (by omega) (by omega)], by rw [eo 576 (by omega) (by omega) (by omega)]⟩⟩ (fun a ha => eo a (by omega) (by omega) (by omega)) (fun k hk => ef k (by omega) (by omega) (by omega)) (fun x _ _ => by rw [eo 516 (by omega) (by omega) (by omega)]), by omega, fun _ => ?_, fun h3 => ?_⟩
      · exact ram_fr r (fun a a0 a1 => eo a (by omega) (by omega) (by omega)) (fun k hk => e5 k (by omega)) (fun a a0 a1 => eo a (by omega) (by omega) (by omega)) (fun k hk => ef k (by omega) (by omega) (by omega)) (fun a ha => eo a (by omega) (by omega) (by omega)) (bt_fr r (fun a a0 a1 => eo a (by omega) (by omega) (by omega)) (fun k hk => ef k (by omega) (by omega) (by omega)) (fun a ha => eo a (by omega) (by omega) (by omega)))
      · rw [e3] at h3; omega
    · rw [← hm2, xR_ne (by omega), xR_ne (by omega), xR_at (by decide)]
end REC
