/-! OPERATIONS: load -/
section LOP
variable {B : Nat} {m : xw_M} {c : Int}
/-- behind a change, the power still there -/
theorem Inw_A {mz : xw_M} (h : Inw B c m) (hc : c < 600) (ho : xR m 536 2 = 1 ∧ xR m 536 3 = 0) (e : ∀ a, (1 ≤ a ∧ a < 223) ∨ a = 417 ∨ a = 418 → mz a = m a) (rz : ∃ p, rs B mz p) (z : ∀ k, k = 12 ∨ k = 13 ∨ k = 14 → mz 0 k = m 0 k) (t0 : mz 508 0 = m 508 0) (t1 : tpz 518 517 (B * 512 : Nat) mz) (t2 : tpz 524 509 512 mz) (f : ∀ k, k = 2 ∨ k = 5 ∨ k = 6 ∨ k = 7 ∨ k = 14 ∨ k = 19 ∨ k = 22 ∨ k = 23 ∨ k = 49 ∨ k = 73 ∨ k = 74 → mz 536 k = m 536 k) (tw : ∃ s t, two s t ∧ mz 536 59 = s ∧ mz 536 60 = t) (f3 : xR mz 536 3 = 0) (r : ∀ a, a = 537 ∨ a = 539 ∨ a = 577 ∨ a = 578 → mz a = m a) (cn : cnr (c + 1) mz) (op : ∃ D M tu K Rf Rv, dsk B mz D M tu K Rf Rv ∧ tu ≤ c + 1 ∧ ram mz D M tu K) : Inw B (c + 1) mz := by
  have f2 : xR mz 536 2 = 1 := by rw [xR_fld (f 2 (by omega))]; exact ho.1
  refine ⟨h.bd, ⟨by have := h.cc.1; omega, by omega⟩, ?_, ⟨(xR_fld t0).trans h.tp.1, (xR_fld (f 49 (by omega))).trans h.tp.2.1, t1, t2, rz⟩, ?_, txt_fr h.tx (fun k _ => by rw [e 1 (by omega)]) (e 2 (by omega)) (fun k hk => f k (by omega)) (r 537 (by omega)), cn, ?_, fun h2 => by omega, fun _ => ?_⟩
  · obtain ⟨_, p2, p3, p4⟩ := h.pt
    refine ⟨tw, ?_, ?_, ?_⟩
    · rw [z 12 (by omega), z 13 (by omega)]; exact p2
    · rw [f 22 (by omega), f 23 (by omega)]; exact p3
    · rw [f 73 (by omega), f 74 (by omega)]; exact p4
  · unfold sta
    rw [f3, f2, xR_fld (z 14 (by omega))]
    have := h.st.2.2
    rw [ho.2, ho.1] at this
    exact ⟨Or.inr rfl, Or.inl rfl, this⟩
  · unfold mak
    rw [f3, f2, xR_fld (f 14 (by omega)), xR_cg (r 577 (by omega)), xJ_cg (r 578 (by omega)), xR_cg (e 417 (by omega)), xJ_cg (e 418 (by omega)), xR_cg (r 539 (by omega))]
    exact ⟨fun hn => absurd ⟨rfl, rfl⟩ hn, fun _ _ => h.mk.e ho.1 ho.2⟩
  · obtain ⟨D, M, tu, K, Rf, Rv, F, ht, u⟩ := op
    exact ⟨D, M, tu, K, Rf, Rv, F, ht, fun _ => u, fun h3 => by omega⟩
/-- the reference's memory is the one before the call, when the class has done its part -/
theorem rca_of {D M tu f n : Int} {K Rf : Int → Int} {Rv : Int → Int → Int} {m1 : xw_M} (F : dsk B m D M tu K Rf Rv) (hw : ∃ w, cgr w m D M) (pt : ptr m) (e : ∀ a, 536 ≤ a → a ≠ 604 → m1 a = m a) (hfn : 0 ≤ f ∧ 0 ≤ n ∧ f + n ≤ 20000) (hp : ∀ x d, 0 ≤ x → x < n → 0 ≤ d → d < D → 0 ≤ xR m 575 (8 * (f + x) + d) ∧ xR m 575 (8 * (f + x) + d) < xR m 539 d) : rca m1 D M f n := by
  obtain ⟨w, w1⟩ := hw
  have e5 : m1 536 = m 536 := e 536 (by omega) (by omega)
  refine ⟨w1.cn.1, w1.cn.2.1, by rw [xR_cg e5]; exact w1.r14, by rw [xR_cg e5]; exact w1.r19, fun d d0 d1 => ?_, hfn, fun x d x0 x1 d0 d1 => ?_, ?_⟩
  · rw [xR_cg (e 538 (by omega) (by omega)), (w1.sz d d0 d1).2.1]
    exact ⟨(w1.sz d d0 d1).1, (w1.cn.2.2.2.2.1 d d0 d1).2.1.2⟩
  · rw [xR_cg (e 575 (by omega) (by omega))]
    have q := hp x d x0 x1 d0 d1
    have q2 := (w1.cn.2.2.2.2.1 d d0 d1).2.2.1.2
    rw [(w1.sz d d0 d1).2.2.1] at q
    exact ⟨q.1, by omega⟩
  · obtain ⟨s, t, a, b, c⟩ := pt.1
    exact ⟨s, t, a, by rw [e5]; exact b, by rw [e5]; exact c⟩
/-- the disk behind a load's commit -/
theorem load_dsk {mL mc mz : xw_M} {D M tu Wt nb pl q1 lf wr : Int} {K Rf Rs : Int → Int} {Rv : Int → Int → Int} (F : dsk B m D M tu K Rf Rv) (r : ram m D M tu K) (tu1 : tu < 1000000000) (b0 : 0 ≤ xR m 536 32) (LD : ldm B m mL D M Wt nb pl q1 K Rs) (A : cmA B mL mc pl nb tu lf wr) (ro : isRoom (xR m 587) (xR m 588) (xR m 536 52) B nb pl) (pl2 : 2 ≤ pl) (nb1 : 1 ≤ nb) (hE : xR m 536 52 < 200) (bp : ∀ x d, 0 ≤ x → x < xR m 536 32 → 0 ≤ d → d < D → 0 ≤ xR m 575 (8 * (xR m 536 31 + x) + d) ∧ xR m 575 (8 * (xR m 536 31 + x) + d) < xR m 539 d) (Rb : ∀ i, 0 ≤ i → i < xR m 536 40 → 0 ≤ Rs i ∧ Rs i ≤ 20000) (fb : xR m 536 31 ≤ 20000) (w : mz 516 = mc 516) (k1 : ∀ a, 537 ≤ a → a ≠ 580 → a ≠ 582 → (a < 586 ∨ 594 < a) → a ≠ 603 → a ≠ 604 → mz a = m a) (kf : ∀ q, q = 14 ∨ q = 19 ∨ q = 40 → mz 536 q = m 536 q) (x31 : xR mz 536 31 = xR m 536 31 + xR m 536 32) (x38 : xR mz 536 38 = xR m 536 38 + 1) (x52 : xR mz 536 52 = xR m 536 52 + 1) (le : ∀ e, 0 ≤ e → e < xR m 536 52 → xR mz 586 e = xR m 586 e ∧ xR mz 587 e = xR m 587 e ∧ xR mz 588 e = xR m 588 e) (lE : xR mz 586 (xR m 536 52) = 1 ∧ xR mz 587 (xR m 536 52) = pl ∧ xR mz 588 (xR m 536 52) = nb) (h580 : ∀ i, 0 ≤ i → i < xR m 536 40 → xR mz 580 i = w32 (xR m 580 i + Rs i)) : dsk B mz D M (tu + 1) (fun e => if e = xR m 536 52 then 2 else K e) (fun e => if e = xR m 536 52 then xR m 536 32 else Rf e) (fun e => if e = xR m 536 52 then Rs else Rv e) ∧ ∀ i, 0 ≤ i → i < xR m 536 40 → xR mz 580 i = xR m 580 i + Rs i := by
  obtain ⟨d1, d2, d3, d4, d5, d6, d7, d8, d9, d10, d11, d12, d13⟩ := LD
  obtain ⟨a1, a2, a3, a4, a5, a6, a7, a8⟩ := A
  have E0 := F.ex.1
  have h5 : ∀ i, 0 ≤ i → i < xR m 536 40 → xR mz 580 i = xR m 580 i + Rs i := fun i i0 i1 => by
    have q := rws_b F i0 i1
    have q2 := Rb i i0 i1
    rw [h580 i i0 i1]
    exact w32_id (by omega) (by omega)
  have w5 : mL 516 = m 516 := d4 516 (by omega) (by omega) (by omega) (by omega) (by omega) (by omega) (by omega) (by omega) (by omega) (by omega) (by omega) (by omega)
  refine ⟨dsk_load (fw := mL 517) F rfl rfl rfl tu1 b0 ⟨k1 538 (by omega) (by omega) (by omega) (by omega) (by omega) (by omega), k1 539 (by omega) (by omega) (by omega) (by omega) (by omega) (by omega), k1 573 (by omega) (by omega) (by omega) (by omega) (by omega) (by omega), fun i _ _ => ⟨by rw [k1 575 (by omega) (by omega) (by omega) (by omega) (by omega) (by omega)], by rw [k1 576 (by omega) (by omega) (by omega) (by omega) (by omega) (by omega)]⟩⟩ (fun a ha => k1 a (by omega) (by omega) (by omega) (by omega) (by omega) (by omega)) kf x31 x52 le lE h5 (by rw [w, ← w5]; exact a8) ?_ ro pl2 nb1 hE d1 d2 d3 bp, h5⟩
  have mm := a7
  rw [d8, d9, xR_fld (d7 11 (by omega) (by omega) (by omega)), r.vi, d10] at mm
  rw [w, x38]
  refine Man_f mm (fun i i0 i1 => ⟨?_, ?_⟩) (fun e e0 e1 => ?_)
  · rw [xR_cg (d4 511 (by omega) (by omega) (by omega) (by omega) (by omega) (by omega) (by omega) (by omega) (by omega) (by omega) (by omega) (by omega)), (r.vw i i0 i1).1, xR_cg (k1 579 (by omega) (by omega) (by omega) (by omega) (by omega) (by omega))]
  · rw [d11 i i0 i1, h5 i i0 i1]
  · show xR mL 513 e = (if e = xR m 536 52 then 2 else K e) ∧ _
    by_cases he : e = xR m 536 52
    · rw [if_pos he, he, d13.1, d13.2.1, d13.2.2, lE.2.1, lE.2.2]
      exact ⟨rfl, rfl, rfl⟩
    · have q := d12 e e0 (by omega)
      have q2 := le e e0 (by omega)
      rw [if_neg he, q.1, q.2.1, q.2.2, q2.2.1, q2.2.2]
      exact ⟨rfl, rfl, rfl⟩
theorem load_op (h : Inw B c m) (hc : c < 600) : opOk B c m (yf178 B) (yf323 B) ag1 := by
  have fb := h.cn.fb
  have ba := h.cn.ba
  have sg := h.cn.sg
  have lo := h.cn.lo
  have hw := h.cn.wr
  have hbd := h.bd
  by_cases ho : xR m 536 2 = 1 ∧ xR m 536 3 = 0
  · by_cases hz : xR m 536 32 = 0
    · unfold opOk yf178
      rw [fopen ((op14 h).mpr ho), xB_ret, ba.1, if_pos hz]
      refine ⟨_, _, rfl, fun m1 e1 => ?_⟩
      have e53 := e1 536 (by omega)
      have I := Inw_1 (x := 1) h hc e1
      unfold yf323
      rw [isOpen_ok, xB_ret, xR_cg e53, isop ho, if_neg (by decide), if_neg (by omega)]
      exact ⟨_, _, rfl, I.1, Or.inl I.2, Or.inr ⟨rfl, xR_at (by decide)⟩⟩
    obtain ⟨D, M, tu, K, Rf, Rv, F, ht, u, v⟩ := h.op ho.1
    have r := u ho.2
    have hD := r.cg.cn.1
    have hM := r.cg.cn.2.1
    have tn := F.tn
    have E0 := F.ex.1
    have fu := h.cn.fu ho.2
    have bp : ∀ x d, 0 ≤ x → x < xR m 536 32 → 0 ≤ d → d < D → 0 ≤ xR m 575 (8 * (xR m 536 31 + x) + d) ∧ xR m 575 (8 * (xR m 536 31 + x) + d) < xR m 539 d := fun x d x0 x1 d0 d1 => by
      have q := (r.bt x x0 x1).1 d d0 d1
      rw [← q.1]
      exact q.2
    -- the reference, from any memory that the class leaves
    have LR : ∀ m1 : xw_M, (∀ a, 536 ≤ a → a ≠ 604 → m1 a = m a) → _ := fun m1 e => load_rf (B := B) (m := m1) (D := D) (M := M) (n := xR m 536 32) (f := xR m 536 31) (k := xR m 536 40) (E := xR m 536 52) (lf := xR m 536 51) (wr := xR m 536 50) (rca_of F ⟨m, r.cg⟩ h.pt e ⟨fb.1, ba.2.1, by omega⟩ bp) (by omega) (by rw [xR_cg (e 536 (by omega) (by omega))]; exact ho) (by rw [xR_cg (e 536 (by omega) (by omega))]) (by rw [xR_cg (e 536 (by omega) (by omega))]) (by rw [xR_cg (e 536 (by omega) (by omega))]) tn (by rw [xR_cg (e 579 (by omega) (by omega))]; exact F.vn) (by rw [xR_cg (e 536 (by omega) (by omega))]; exact h.tp.2.1) hbd.2 (by rw [xR_cg (e 536 (by omega) (by omega))]) (by rw [xR_cg (e 587 (by omega) (by omega)), xR_cg (e 588 (by omega) (by omega))]; exact F.ex) (by rw [xR_cg (e 536 (by omega) (by omega))]) (by omega) (by omega) (by rw [xR_cg (e 536 (by omega) (by omega))]) hw.2.1 (by omega) (by rw [xR_cg (e 536 (by omega) (by omega))]; omega)
    -- no room
    have FU : ∀ m7 : xw_M, (∀ a, (a < 302 ∨ 336 < a) → a ≠ 371 → a ≠ 372 → (a < 517 ∨ 523 < a) → a ≠ 374 → a ≠ 393 → a ≠ 394 → a ≠ 419 → a ≠ 510 → m7 a = m a) → tpz 518 517 (B * 512 : Nat) m7 → ∀ m1 : xw_M, (∀ a, a ≠ 604 → m1 a = m7 a) → ∀ mz, lrF m1 mz → (∀ q, q = 3 ∨ q = 31 ∨ q = 32 ∨ q = 38 ∨ q = 50 ∨ q = 51 ∨ q = 52 → mz 536 q = m1 536 q) → (∀ a, a = 580 ∨ a = 586 ∨ a = 587 ∨ a = 588 → mz a = m1 a) → Inw B (c + 1) mz ∧ anF m mz := by
      intro m7 f7 t7 m1 e1 mz L g1 g2
      have k : ∀ a, (a < 302 ∨ 336 < a) → a ≠ 371 → a ≠ 372 → (a < 517 ∨ 523 < a) → a ≠ 374 → a ≠ 393 → a ≠ 394 → a ≠ 419 → a ≠ 510 → a ≠ 536 → a ≠ 582 → (a < 589 ∨ 594 < a) → a ≠ 603 → a ≠ 604 → mz a = m a := fun a h1 h2 h3 h4 h5 h6 h7 h8 h9 h10 h11 h12 h13 h14 => by
        have q : mz a = m1 a := by
          by_cases h580 : a = 580 ∨ a = 586 ∨ a = 587 ∨ a = 588
          · exact g2 a h580
          · exact L.1 a h10 (by omega) h11 (by omega) h13
        rw [q, e1 a h14, f7 a h1 h2 h3 h4 h5 h6 h7 h8 h9]
      have e53 : m1 536 = m 536 := by rw [e1 536 (by omega), f7 536 (by omega) (by omega) (by omega) (by omega) (by omega) (by omega) (by omega) (by omega) (by omega)]
      have kf : ∀ q, q ≠ 1 → q ≠ 57 → q ≠ 58 → q ≠ 59 → q ≠ 60 → q ≠ 61 → mz 536 q = m 536 q := fun q q1 q2 q3 q4 q5 q6 => by
        rw [← e53]
        by_cases h3 : q = 3 ∨ q = 31 ∨ q = 32 ∨ q = 38 ∨ q = 50 ∨ q = 51 ∨ q = 52
        · exact g1 q h3
        · exact L.2.1 q q1 (by omega) (by omega) (by omega) (by omega) (by omega) (by omega) (by omega) q2 q3 q4 q5 q6
      refine ⟨Inw_fr h (by omega) (by omega) ⟨fun k' _ => by rw [k 0 (by omega) (by omega) (by omega) (by omega) (by omega) (by omega) (by omega) (by omega) (by omega) (by omega) (by omega) (by omega) (by omega) (by omega)], fun k' _ => by rw [k 1 (by omega) (by omega) (by omega) (by omega) (by omega) (by omega) (by omega) (by omega) (by omega) (by omega) (by omega) (by omega) (by omega) (by omega)], fun a a0 a1 => k a (by omega) (by omega) (by omega) (by omega) (by omega) (by omega) (by omega) (by omega) (by omega) (by omega) (by omega) (by omega) (by omega) (by omega), by rw [k 373 (by omega) (by omega) (by omega) (by omega) (by omega) (by omega) (by omega) (by omega) (by omega) (by omega) (by omega) (by omega) (by omega) (by omega)], fun a a0 a1 => k a (by omega) (by omega) (by omega) (by omega) (by omega) (by omega) (by omega) (by omega) (by omega) (by omega) (by omega) (by omega) (by omega) (by omega), fun a ha => k a (by omega) (by omega) (by omega) (by omega) (by omega) (by omega) (by omega) (by omega) (by omega) (by omega) (by omega) (by omega) (by omega) (by omega), fun q q1 q2 q3 q4 q5 q6 q7 => kf q q1 (by omega) (by omega) (by omega) (by omega) (by omega), fun a ha => k a (by omega) (by omega) (by omega) (by omega) (by omega) (by omega) (by omega) (by omega) (by omega) (by omega) (by omega) (by omega) (by omega) (by omega)⟩ ⟨?_, ?_, ?_, tpz_fr h.tp.2.2.2.1 (k 524 (by omega) (by omega) (by omega) (by omega) (by omega) (by omega) (by omega) (by omega) (by omega) (by omega) (by omega) (by omega) (by omega) (by omega)) (k 509 (by omega) (by omega) (by omega) (by omega) (by omega) (by omega) (by omega) (by omega) (by omega) (by omega) (by omega) (by omega) (by omega) (by omega)), ?_⟩ ⟨L.2.2.2, ?_, ?_, ?_⟩, fun h3 => by rw [xR_fld (kf 3 (by omega) (by omega) (by omega) (by omega) (by omega) (by omega))] at h3; exact h3, fun k' _ => by rw [k 0 (by omega) (by omega) (by omega) (by omega) (by omega) (by omega) (by omega) (by omega) (by omega) (by omega) (by omega) (by omega) (by omega) (by omega)], fun a a0 a1 => k a (by omega) (by omega) (by omega) (by omega) (by omega) (by omega) (by omega) (by omega) (by omega) (by omega) (by omega) (by omega) (by omega) (by omega), fun q hq => kf q (by omega) (by omega) (by omega) (by omega) (by omega) (by omega), fun a ha => k a (by omega) (by omega) (by omega) (by omega) (by omega) (by omega) (by omega) (by omega) (by omega) (by omega) (by omega) (by omega) (by omega) (by omega)⟩
      · rw [xR_cg (k 508 (by omega) (by omega) (by omega) (by omega) (by omega) (by omega) (by omega) (by omega) (by omega) (by omega) (by omega) (by omega) (by omega) (by omega))]; exact h.tp.1
      · rw [xR_fld (kf 49 (by omega) (by omega) (by omega) (by omega) (by omega) (by omega))]; exact h.tp.2.1
      · exact tpz_fr t7 (by rw [L.1 518 (by omega) (by omega) (by omega) (by omega) (by omega), e1 518 (by omega)]) (by rw [L.1 517 (by omega) (by omega) (by omega) (by omega) (by omega), e1 517 (by omega)])
      · obtain ⟨p, hp⟩ := h.tp.2.2.2.2
        exact ⟨p, rs_fr hp (k 530 (by omega) (by omega) (by omega) (by omega) (by omega) (by omega) (by omega) (by omega) (by omega) (by omega) (by omega) (by omega) (by omega) (by omega))⟩
      · rw [k 0 (by omega) (by omega) (by omega) (by omega) (by omega) (by omega) (by omega) (by omega) (by omega) (by omega) (by omega) (by omega) (by omega) (by omega)]; exact h.pt.2.1
      · rw [kf 22 (by omega) (by omega) (by omega) (by omega) (by omega) (by omega), kf 23 (by omega) (by omega) (by omega) (by omega) (by omega) (by omega)]; exact h.pt.2.2.1
      · rw [kf 73 (by omega) (by omega) (by omega) (by omega) (by omega) (by omega), kf 74 (by omega) (by omega) (by omega) (by omega) (by omega) (by omega)]; exact h.pt.2.2.2
    by_cases hE : xR m 536 52 < 200
    · obtain ⟨bF, b, Rs, Wt, nb, B0, V0, eW, en, HC⟩ := load_c h ho F r (by omega) hE hc
      have Rb : ∀ i, 0 ≤ i → i < xR m 536 40 → 0 ≤ Rs i ∧ Rs i ≤ 20000 := fun i i0 i1 => by have := vbt_b hD hM (by omega) (V0 i i0 i1); omega
      have same : ∀ m1 : xw_M, (∀ a, 536 ≤ a → a ≠ 604 → m1 a = m a) → ∀ (bF' : Int) (b' Rs' : Int → Int) (Wt' nb' : Int), fbt m1 D M (xR m 536 31) (xR m 536 32) bF' → (∀ i, 0 ≤ i → i < xR m 536 40 → vbt m1 D M (xR m1 579 i) (xR m 536 31) (xR m 536 32) (Rs' i) (b' i)) → Wt' = bF' + rsum b' (xR m 536 40).toNat → nb' = (8 + Wt' + 4095) / 4096 → nb' = nb ∧ ∀ i, 0 ≤ i → i < xR m 536 40 → Rs' i = Rs i := by
        intro m1 e bF' b' Rs' Wt' nb' hF' hV' eW' en'
        have rs : rsm m1 m (xR m 536 31 + xR m 536 32) := ⟨(e 538 (by omega) (by omega)).symm, (e 539 (by omega) (by omega)).symm, (e 573 (by omega) (by omega)).symm, fun i _ _ => ⟨by rw [e 575 (by omega) (by omega)], by rw [e 576 (by omega) (by omega)]⟩⟩
        have q1 := fbt_uniq ba.2.1 (fbt_m rs hD hM fb.1 ba.2.1 (Int.le_refl _) hF') B0
        have q2 : ∀ i, 0 ≤ i → i < xR m 536 40 → Rs' i = Rs i ∧ b' i = b i := fun i i0 i1 => by
          have := vbt_m rs hD hM fb.1 (Int.le_refl _) (hV' i i0 i1)
          rw [xR_cg (e 579 (by omega) (by omega))] at this
          exact vbt_uniq hD.1 hM this (V0 i i0 i1)
        have q3 : rsum b' (xR m 536 40).toNat = rsum b (xR m 536 40).toNat := rsum_cg _ (fun i i0 i1 => (q2 i i0 (by omega)).2)
        refine ⟨?_, fun i i0 i1 => (q2 i i0 i1).1⟩
        rw [en', en, eW', eW, q1, q3]
      rcases HC with ⟨m7, z7, Ro, f7, t7⟩ | ⟨pl, hv, ro, HQ⟩
      · refine ⟨_, _, z7, fun m1 e1 => ?_⟩
        have er : ∀ a, 536 ≤ a → a ≠ 604 → m1 a = m a := fun a a0 a1 => by rw [e1 a a1]; exact f7 a (by omega) (by omega) (by omega) (by omega) (by omega) (by omega) (by omega) (by omega) (by omega)
        obtain ⟨bF', b', Rs', Wt', nb', B1, V1, eW1, en1, H⟩ := LR m1 er
        obtain ⟨eN, eR⟩ := same m1 er bF' b' Rs' Wt' nb' B1 V1 eW1 en1
        rcases H with ⟨mz, z, fl, L, g1, g2⟩ | ⟨fi, mz, nf, h2, ro, hE', _⟩
        · have I := FU m7 f7 t7 m1 e1 mz L g1 g2
          exact ⟨_, _, z, I.1, Or.inl I.2, Or.inl ⟨rfl, L.2.2.1⟩⟩
        · have nbp : 0 < nb := by
            have := fbt_b hD hM (by omega) B0
            have rb := rsum_b (b := b) (lo := 4) (hi := 7000000) (xR m 536 40).toNat (fun i i0 i1 => by have := vbt_b hD hM (by omega) (V0 i i0 (by omega)); omega)
            omega
          refine absurd ⟨by omega, Or.inr ?_⟩ nf
          rw [eN, xR_cg (er 587 (by omega) (by omega)), xR_cg (er 588 (by omega) (by omega))]
          exact Ro
      · have pb : 2 ≤ pl ∧ pl + nb ≤ B := by
          rcases ro with ⟨q, _⟩ | ⟨q, _⟩
          · exact absurd q hv
          · exact q
        have nb1 : 1 ≤ nb := by
          have := fbt_b hD hM (by omega) B0
          have rb := rsum_b (b := b) (lo := 4) (hi := 7000000) (xR m 536 40).toNat (fun i i0 i1 => by have := vbt_b hD hM (by omega) (V0 i i0 (by omega)); omega)
          omega
        have goal := xH_ex (HQ (fun v m' => ∀ m1', (∀ a, a ≠ 604 → m1' a = m' a) → ∃ v' m2, yf323 B m1' = some (.inl v', m2) ∧ Inw B (c + 1) m2 ∧ (anF m m2 ∨ anN m2) ∧ ag1 (.inl v) (xR m2 536 1) v') (fun _ _ => False) (fun mL q1 LD => by
          obtain ⟨d1, d2, d3, d4, d5, d6, d7, d8, d9, d10, d11, d12, d13⟩ := id LD
          have cL : ∀ a, (a < 302 ∨ 336 < a) → a ≠ 371 → a ≠ 372 → (a < 517 ∨ 523 < a) → (a < 373 ∨ 374 < a) → (a < 393 ∨ 394 < a) → a ≠ 419 → a ≠ 508 → a ≠ 510 → (a < 512 ∨ 515 < a) → mL a = m a := fun a h1 h2 h3 h4 h5 h6 h7 h8 h9 h10 => d4 a h1 h2 h3 h4 (by omega) (by omega) (by omega) (by omega) h7 h8 h9 h10
          have ptL : ptr mL := ptr_fr h.pt (fun k _ => by rw [cL 536 (by omega) (by omega) (by omega) (by omega) (by omega) (by omega) (by omega) (by omega) (by omega) (by omega)]) (fun k _ => by rw [cL 0 (by omega) (by omega) (by omega) (by omega) (by omega) (by omega) (by omega) (by omega) (by omega) (by omega)])
          have ob := (ans_ob ptL).2
          have m0 := F.nm.1
          -- the reference's memory behind the class's part
          have rfe : ∀ (mc m1 m1' : xw_M), (∀ a, a ≠ 516 → a ≠ 508 → a ≠ 509 → a ≠ 524 → mc a = mL a) → fgC mc m1 → (∀ a, a ≠ 604 → m1' a = xw_u m1 0 14 2 a) → (∀ a, 536 ≤ a → a ≠ 604 → m1' a = m a) ∧ m1' 516 = mc 516 := by
            intro mc m1 m1' f1 g e1
            have o2 : mc 0 12 = mL 0 12 := by rw [f1 0 (by omega) (by omega) (by omega) (by omega)]
            refine ⟨fun a a0 a1 => ?_, ?_⟩
            · rw [e1 a a1, xu_c (by omega), g.1 a (by omega) (by omega) (by omega) (by omega) (by omega), f1 a (by omega) (by omega) (by omega) (by omega)]
              exact cL a (by omega) (by omega) (by omega) (by omega) (by omega) (by omega) (by omega) (by omega) (by omega) (by omega)
            · rw [e1 516 (by omega), xu_c (by omega), g.1 516 (by omega) (by omega) (by omega) (by omega) (by omega)]
          refine cm_all (pl := pl) (n := nb) (lf := xR m 536 51) (wr := xR m 536 50) (tu := tu) hbd.2 (by omega) (by omega) (Or.inl pb) (by omega) (by rw [xR_fld (d7 18 (by omega) (by omega) (by omega))]; exact fu.1) (by rw [xR_fld (d7 19 (by omega) (by omega) (by omega))]; exact hw.1) hw.2.1 (by omega) (by rw [xR_fld (d7 8 (by omega) (by omega) (by omega))]; exact r.tu) (by omega) (by omega) (by rw [xR_fld (d7 11 (by omega) (by omega) (by omega)), r.vi]; exact tn) (by rw [d10]; omega) (tpz_fr h.tp.2.2.2.1 (cL 524 (by omega) (by omega) (by omega) (by omega) (by omega) (by omega) (by omega) (by omega) (by omega) (by omega)) (cL 509 (by omega) (by omega) (by omega) (by omega) (by omega) (by omega) (by omega) (by omega) (by omega) (by omega))) ptL (fun mc A hl => ?_) (fun hl mc m1 A g m1' e1 => ?_) (fun hl1 hl2 mc m1 C g m1' e1 => ?_)
          · -- the power is still there
            rw [xH_ret]
            intro m1' e1
            obtain ⟨a1, a2, a3, a4, a5, a6, a7, a8⟩ := id A
            have er : ∀ a, 536 ≤ a → a ≠ 604 → m1' a = m a := fun a a0 a1' => by
              rw [e1 a a1', a1 a (by omega) (by omega) (by omega) (by omega)]
              exact cL a (by omega) (by omega) (by omega) (by omega) (by omega) (by omega) (by omega) (by omega) (by omega) (by omega)
            obtain ⟨bF', b', Rs', Wt', nb', B1, V1, eW1, en1, H⟩ := LR m1' er
            obtain ⟨eN, eR⟩ := same m1' er bF' b' Rs' Wt' nb' B1 V1 eW1 en1
            rw [eN, xR_cg (er 587 (by omega) (by omega)), xR_cg (er 588 (by omega) (by omega))] at H
            rcases H with ⟨mz, z, fl, L, g1, g2⟩ | ⟨fi, mz, nf, h2, ro', hE', L, x32, H⟩
            · exfalso
              rcases fl.2 with q | q
              · rw [cnt_true] at q; omega
              · exact hv (isRoom_uniq ro q)
            · have efi := isRoom_uniq ro' ro
              subst efi
              rcases H with ⟨hl', x31, x38, x50, x51, x52, xle, xlE, x580, H⟩ | ⟨hl', _⟩
              · rcases H with ⟨hne, x3, z⟩ | ⟨hne, _⟩
                · rw [xR_cg (er 536 (by omega) (by omega))] at x38 z
                  have k1 : ∀ a, 537 ≤ a → a ≠ 580 → a ≠ 582 → (a < 586 ∨ 594 < a) → a ≠ 603 → a ≠ 604 → mz a = m a := fun a h0 h1 h2 h3 h4 h5 => by rw [L.1 a (by omega) h1 h2 h3 h4]; exact er a (by omega) h5
                  have kf : ∀ q, q ≠ 1 → q ≠ 3 → q ≠ 31 → q ≠ 32 → q ≠ 38 → q ≠ 50 → q ≠ 51 → q ≠ 52 → q ≠ 57 → q ≠ 58 → q ≠ 59 → q ≠ 60 → q ≠ 61 → mz 536 q = m 536 q := fun q q1 q3 q31 q32 q38 q50 q51 q52 q57 q58 q59 q60 q61 => by rw [L.2.1 q q1 q3 q31 q32 q38 q50 q51 q52 q57 q58 q59 q60 q61, er 536 (by omega) (by omega)]
                  have cz : ∀ a, a < 536 → mz a = mc a := fun a ha => by rw [L.1 a (by omega) (by omega) (by omega) (by omega) (by omega), e1 a (by omega)]
                  have clz : ∀ a, a < 536 → a ≠ 516 → a ≠ 509 → a ≠ 524 → (a < 302 ∨ 336 < a) → a ≠ 371 → a ≠ 372 → (a < 517 ∨ 523 < a) → (a < 373 ∨ 374 < a) → (a < 393 ∨ 394 < a) → a ≠ 419 → a ≠ 508 → a ≠ 510 → (a < 512 ∨ 515 < a) → mz a = m a := fun a h0 h1 h2 h3 h4 h5 h6 h7 h8 h9 h10 h11 h12 h13 => by
                    rw [cz a h0, a1 a h1 h11 h2 h3]
                    exact cL a h4 h5 h6 h7 h8 h9 h10 h11 h12 h13
                  obtain ⟨DN, h5⟩ := load_dsk (mz := mz) F r (by omega) ba.2.1 LD A ro pb.1 nb1 hE bp Rb (by omega) (cz 516 (by omega)) k1 (fun q hq => kf q (by omega) (by omega) (by omega) (by omega) (by omega) (by omega) (by omega) (by omega) (by omega) (by omega) (by omega) (by omega) (by omega)) x31 x38 x52 (by rw [xR_cg (er 586 (by omega) (by omega))] at xle; exact xle) xlE (fun i i0 i1 => by rw [x580 i i0 i1, eR i i0 i1, xR_cg (er 580 (by omega) (by omega))])
                  have z508 : ∀ q, q ≠ 8 → q ≠ 18 → q ≠ 19 → q ≠ 9 → q ≠ 10 → q ≠ 14 → mz 508 q = m 508 q := fun q q1 q2 q3 q4 q5 q6 => by rw [cz 508 (by omega), a2 q q1 q2 q3, d7 q q4 q5 q6]
                  have w508 : ∀ q, q ≠ 8 → q ≠ 18 → q ≠ 19 → xR mz 508 q = xR mL 508 q := fun q q1 q2 q3 => by rw [xR_cg (cz 508 (by omega)), xR_fld (a2 q q1 q2 q3)]
                  have L51 : ∀ a, 511 ≤ a → a ≤ 515 → xR mz a = xR mL a := fun a a0 a1' => by rw [xR_cg (cz a (by omega)), xR_cg (a1 a (by omega) (by omega) (by omega) (by omega))]
                  have cat : ∀ a, 3 ≤ a → a < 223 → mz a = m a := fun a a0 a1' => clz a (by omega) (by omega) (by omega) (by omega) (by omega) (by omega) (by omega) (by omega) (by omega) (by omega) (by omega) (by omega) (by omega) (by omega)
                  have x50' : xR mz 536 50 = xR m 536 50 + nb + 1 := x50
                  refine ⟨_, _, z, Inw_A (mz := mz) h hc ho (fun a ha => clz a (by omega) (by omega) (by omega) (by omega) (by omega) (by omega) (by omega) (by omega) (by omega) (by omega) (by omega) (by omega) (by omega) (by omega)) (by
                    obtain ⟨p, hp⟩ := h.tp.2.2.2.2
                    exact ⟨p, rs_fr hp (clz 530 (by omega) (by omega) (by omega) (by omega) (by omega) (by omega) (by omega) (by omega) (by omega) (by omega) (by omega) (by omega) (by omega) (by omega))⟩) (fun k _ => by rw [clz 0 (by omega) (by omega) (by omega) (by omega) (by omega) (by omega) (by omega) (by omega) (by omega) (by omega) (by omega) (by omega) (by omega) (by omega)]) (z508 0 (by omega) (by omega) (by omega) (by omega) (by omega) (by omega)) (tpz_fr d5 (by rw [cz 518 (by omega), a1 518 (by omega) (by omega) (by omega) (by omega)]) (by rw [cz 517 (by omega), a1 517 (by omega) (by omega) (by omega) (by omega)])) (tpz_fr a6 (cz 524 (by omega)) (cz 509 (by omega))) (fun k hk => kf k (by omega) (by omega) (by omega) (by omega) (by omega) (by omega) (by omega) (by omega) (by omega) (by omega) (by omega) (by omega) (by omega)) L.2.2.2 x3 (fun a ha => k1 a (by omega) (by omega) (by omega) (by omega) (by omega) (by omega)) ?_ ⟨D, M, tu + 1, _, _, _, DN, by omega, ?_⟩, Or.inl ⟨fun h3 => by omega, fun k _ => by rw [clz 0 (by omega) (by omega) (by omega) (by omega) (by omega) (by omega) (by omega) (by omega) (by omega) (by omega) (by omega) (by omega) (by omega) (by omega)], fun a a0 a1' => clz a (by omega) (by omega) (by omega) (by omega) (by omega) (by omega) (by omega) (by omega) (by omega) (by omega) (by omega) (by omega) (by omega) (by omega), fun q hq => kf q (by omega) (by omega) (by omega) (by omega) (by omega) (by omega) (by omega) (by omega) (by omega) (by omega) (by omega) (by omega) (by omega), fun a ha => k1 a (by omega) (by omega) (by omega) (by omega) (by omega) (by omega)⟩, Or.inl ⟨?_, L.2.2.1⟩⟩
                  · unfold cnr
                    rw [x32, x31, x38, x50', x51, x3, xR_cg (clz 0 (by omega) (by omega) (by omega) (by omega) (by omega) (by omega) (by omega) (by omega) (by omega) (by omega) (by omega) (by omega) (by omega) (by omega)), xR_fld (kf 33 (by omega) (by omega) (by omega) (by omega) (by omega) (by omega) (by omega) (by omega) (by omega) (by omega) (by omega) (by omega) (by omega)), xR_fld (kf 39 (by omega) (by omega) (by omega) (by omega) (by omega) (by omega) (by omega) (by omega) (by omega) (by omega) (by omega) (by omega) (by omega)), xR_cg (cz 508 (by omega)), a5, a4, xR_cg (cz 373 (by omega)), xR_cg (a1 373 (by omega) (by omega) (by omega) (by omega)), d6]
                    refine ⟨sg, h.cn.ch, ⟨rfl, by omega, by omega⟩, ⟨rfl, by omega, by omega⟩, ⟨by omega, by omega⟩, ⟨by omega, by omega⟩, fun _ => ?_, fun h3 => by omega⟩
                    unfold fz
                    by_cases hneg : xR m 536 51 < 0
                    · rw [if_neg (by omega), if_pos hneg]; omega
                    · rw [if_pos (by omega), if_neg hneg]
                      exact ⟨rfl, by omega⟩
                  · refine ⟨cgr_m (kf 14 (by omega) (by omega) (by omega) (by omega) (by omega) (by omega) (by omega) (by omega) (by omega) (by omega) (by omega) (by omega) (by omega)) (kf 19 (by omega) (by omega) (by omega) (by omega) (by omega) (by omega) (by omega) (by omega) (by omega) (by omega) (by omega) (by omega) (by omega)) (k1 538 (by omega) (by omega) (by omega) (by omega) (by omega) (by omega)) (k1 539 (by omega) (by omega) (by omega) (by omega) (by omega) (by omega)) (k1 542 (by omega) (by omega) (by omega) (by omega) (by omega) (by omega)) (k1 543 (by omega) (by omega) (by omega) (by omega) (by omega) (by omega)) (cgr_w cat r.cg), vls_m (k1 540 (by omega) (by omega) (by omega) (by omega) (by omega) (by omega)) (vls_w hD.2 (fun d d0 d1 => (r.cg.cn.2.2.2.2.1 d d0 d1).2.1.2) cat r.vl), fun d d0 d1 => ?_, by rw [xR_cg (cz 508 (by omega))]; exact a3, ?_, ?_, ?_, ?_, fun i i0 i1 => ?_, fun e e0 e1' => ?_, fun x x0 x1 => by rw [x32] at x1; omega⟩
                    · rw [xR_cg (cat (15 + 26 * d) (by omega) (by omega))]
                      exact arrd_cg (r.ar d d0 d1) (r.cg.cn.2.2.2.2.1 d d0 d1).2.1.2 (fun a a0 a1' => cat a (by omega) (by omega))
                    · rw [w508 9 (by omega) (by omega) (by omega), d8, x38]
                    · rw [w508 10 (by omega) (by omega) (by omega), d9, x31]
                    · rw [xR_fld (z508 11 (by omega) (by omega) (by omega) (by omega) (by omega) (by omega)), xR_fld (kf 40 (by omega) (by omega) (by omega) (by omega) (by omega) (by omega) (by omega) (by omega) (by omega) (by omega) (by omega) (by omega) (by omega))]; exact r.vi
                    · rw [w508 14 (by omega) (by omega) (by omega), d10, x52]
                    · rw [xR_fld (kf 40 (by omega) (by omega) (by omega) (by omega) (by omega) (by omega) (by omega) (by omega) (by omega) (by omega) (by omega) (by omega) (by omega))] at i1
                      rw [L51 512 (by omega) (by omega), d11 i i0 i1, h5 i i0 i1, xR_cg (clz 511 (by omega) (by omega) (by omega) (by omega) (by omega) (by omega) (by omega) (by omega) (by omega) (by omega) (by omega) (by omega) (by omega) (by omega)), xR_cg (k1 579 (by omega) (by omega) (by omega) (by omega) (by omega) (by omega))]
                      exact ⟨(r.vw i i0 i1).1, rfl⟩
                    · rw [x52] at e1'
                      rw [L51 513 (by omega) (by omega), L51 514 (by omega) (by omega), L51 515 (by omega) (by omega)]
                      show xR mL 513 e = (if e = xR m 536 52 then 2 else K e) ∧ _
                      by_cases he : e = xR m 536 52
                      · rw [if_pos he, he, d13.1, d13.2.1, d13.2.2, xlE.2.1, xlE.2.2]
                        exact ⟨rfl, rfl, rfl⟩
                      · have q := d12 e e0 (by omega)
                        have q2 := xle e e0 (by omega)
                        rw [if_neg he, q.1, q.2.1, q.2.2, q2.2.1, q2.2.2]
                        exact ⟨rfl, rfl, rfl⟩
                  · rw [xR_fld (a2 9 (by omega) (by omega) (by omega)), d8]
                · omega
              · omega
          · -- done, and the power went
            obtain ⟨er, w516⟩ := rfe mc m1 m1' A.1 g e1
            obtain ⟨a1, a2, a3, a4, a5, a6, a7, a8⟩ := id A
            obtain ⟨bF', b', Rs', Wt', nb', B1, V1, eW1, en1, H⟩ := LR m1' er
            obtain ⟨eN, eR⟩ := same m1' er bF' b' Rs' Wt' nb' B1 V1 eW1 en1
            rw [eN, xR_cg (er 587 (by omega) (by omega)), xR_cg (er 588 (by omega) (by omega))] at H
            rcases H with ⟨mz, z, fl, L, g1, g2⟩ | ⟨fi, mz, nf, h2, ro', hE', L, x32, H⟩
            · exfalso
              rcases fl.2 with q | q
              · rw [cnt_true] at q; omega
              · exact hv (isRoom_uniq ro q)
            · have efi := isRoom_uniq ro' ro
              subst efi
              rcases H with ⟨hl', x31, x38, x50, x51, x52, xle, xlE, x580, H⟩ | ⟨hl', _⟩
              · rcases H with ⟨hne, _⟩ | ⟨hne, x3, m2, z, R⟩
                · omega
                · rw [xR_cg (er 536 (by omega) (by omega))] at x38
                  have k1 : ∀ a, 537 ≤ a → a ≠ 580 → a ≠ 582 → (a < 586 ∨ 594 < a) → a ≠ 603 → a ≠ 604 → mz a = m a := fun a h0 h1 h2 h3 h4 h5 => by rw [L.1 a (by omega) h1 h2 h3 h4]; exact er a (by omega) h5
                  have kf : ∀ q, q ≠ 1 → q ≠ 3 → q ≠ 31 → q ≠ 32 → q ≠ 38 → q ≠ 50 → q ≠ 51 → q ≠ 52 → q ≠ 57 → q ≠ 58 → q ≠ 59 → q ≠ 60 → q ≠ 61 → mz 536 q = m 536 q := fun q q1 q3 q31 q32 q38 q50 q51 q52 q57 q58 q59 q60 q61 => by rw [L.2.1 q q1 q3 q31 q32 q38 q50 q51 q52 q57 q58 q59 q60 q61, er 536 (by omega) (by omega)]
                  obtain ⟨DN, h5⟩ := load_dsk (mz := mz) F r (by omega) ba.2.1 LD A ro pb.1 nb1 hE bp Rb (by omega) (by rw [L.1 516 (by omega) (by omega) (by omega) (by omega) (by omega), w516]) k1 (fun q hq => kf q (by omega) (by omega) (by omega) (by omega) (by omega) (by omega) (by omega) (by omega) (by omega) (by omega) (by omega) (by omega) (by omega)) x31 x38 x52 (by rw [xR_cg (er 586 (by omega) (by omega))] at xle; exact xle) xlE (fun i i0 i1 => by rw [x580 i i0 i1, eR i i0 i1, xR_cg (er 580 (by omega) (by omega))])
                  have c536 : mc 536 = m 536 := by rw [a1 536 (by omega) (by omega) (by omega) (by omega)]; exact cL 536 (by omega) (by omega) (by omega) (by omega) (by omega) (by omega) (by omega) (by omega) (by omega) (by omega)
                  have c0 : mc 0 = m 0 := by rw [a1 0 (by omega) (by omega) (by omega) (by omega)]; exact cL 0 (by omega) (by omega) (by omega) (by omega) (by omega) (by omega) (by omega) (by omega) (by omega) (by omega)
                  have ptc : ptr mc := ptr_fr h.pt (fun k _ => by rw [c536]) (fun k _ => by rw [c0])
                  have tpc : tps B mc := by
                    refine ⟨?_, ?_, tpz_fr d5 (a1 518 (by omega) (by omega) (by omega) (by omega)) (a1 517 (by omega) (by omega) (by omega) (by omega)), a6, ?_⟩
                    · rw [xR_fld (a2 0 (by omega) (by omega) (by omega)), xR_fld (d7 0 (by omega) (by omega) (by omega))]; exact h.tp.1
                    · rw [xR_cg c536]; exact h.tp.2.1
                    · obtain ⟨p, hp⟩ := h.tp.2.2.2.2
                      exact ⟨p, rs_fr hp (by rw [a1 530 (by omega) (by omega) (by omega) (by omega)]; exact cL 530 (by omega) (by omega) (by omega) (by omega) (by omega) (by omega) (by omega) (by omega) (by omega) (by omega))⟩
                  have q2 : xR mz 536 2 = 1 := by rw [xR_fld (kf 2 (by omega) (by omega) (by omega) (by omega) (by omega) (by omega) (by omega) (by omega) (by omega) (by omega) (by omega) (by omega) (by omega))]; exact ho.1
                  have q33 : xR mz 536 33 = xR m 536 33 := xR_fld (kf 33 (by omega) (by omega) (by omega) (by omega) (by omega) (by omega) (by omega) (by omega) (by omega) (by omega) (by omega) (by omega) (by omega))
                  have q39 : xR mz 536 39 = xR m 536 39 := xR_fld (kf 39 (by omega) (by omega) (by omega) (by omega) (by omega) (by omega) (by omega) (by omega) (by omega) (by omega) (by omega) (by omega) (by omega))
                  have I := Inw_dn (B := B) (c := c + 1) (m := mc) hbd ⟨by have := h.cc.1; omega, by omega⟩ ptc tpc (by rw [xR_cg (a1 2 (by omega) (by omega) (by omega) (by omega)), xR_cg (cL 2 (by omega) (by omega) (by omega) (by omega) (by omega) (by omega) (by omega) (by omega) (by omega) (by omega))]; exact h.tx.2.2.1) g e1 (fun a ha => L.1 a (by omega) (by omega) (by omega) (by omega) (by omega)) R (fun k hk => by rw [kf k (by omega) (by omega) (by omega) (by omega) (by omega) (by omega) (by omega) (by omega) (by omega) (by omega) (by omega) (by omega) (by omega), c536]) L.2.2.2 x3 (Or.inr q2) (by rw [q33, xR_cg c0]; exact sg) (by rw [q39, xR_cg c0]; exact h.cn.ch) (by rw [x50, a5]; exact ⟨rfl, by omega, by omega⟩) (by rw [x31, q33]; omega) (by rw [x38]; omega) (fun h2 => by omega) (fun _ => ⟨D, M, tu + 1, _, _, _, DN, by omega⟩)
                  exact ⟨_, _, z, I.1, Or.inr I.2, Or.inl ⟨rfl, by rw [xR_fld (R.2.2.1 1 (by omega) (by omega) (by omega) (by omega) (by omega) (by omega))]; exact L.2.2.1⟩⟩
              · omega
          · -- cut
            obtain ⟨s1, s2, s3, s4, s5⟩ := id C
            obtain ⟨er, w516⟩ := rfe mc m1 m1' (fun a a1 a2 _ _ => s1 a a1 a2) g e1
            obtain ⟨bF', b', Rs', Wt', nb', B1, V1, eW1, en1, H⟩ := LR m1' er
            obtain ⟨eN, eR⟩ := same m1' er bF' b' Rs' Wt' nb' B1 V1 eW1 en1
            rw [eN, xR_cg (er 587 (by omega) (by omega)), xR_cg (er 588 (by omega) (by omega))] at H
            rcases H with ⟨mz, z, fl, L, g1, g2⟩ | ⟨fi, mz, nf, h2, ro', hE', L, x32, H⟩
            · exfalso
              rcases fl.2 with q | q
              · rw [cnt_true] at q; omega
              · exact hv (isRoom_uniq ro q)
            · rcases H with ⟨hl', _⟩ | ⟨hl', x31, x38, x50, x52, x3, xc, m2, z, R⟩
              · omega
              · rw [xR_cg (er 536 (by omega) (by omega))] at x38
                have k1 : ∀ a, 537 ≤ a → a ≠ 582 → (a < 589 ∨ 594 < a) → a ≠ 603 → a ≠ 604 → mz a = m a := fun a h0 h2 h3 h4 h5 => by
                  have q : mz a = m1' a := by
                    by_cases h580 : a = 580 ∨ a = 586 ∨ a = 587 ∨ a = 588
                    · exact xc a h580
                    · exact L.1 a (by omega) (by omega) h2 (by omega) h4
                  rw [q]; exact er a (by omega) h5
                have kf : ∀ q, q ≠ 1 → q ≠ 3 → q ≠ 31 → q ≠ 32 → q ≠ 38 → q ≠ 50 → q ≠ 51 → q ≠ 52 → q ≠ 57 → q ≠ 58 → q ≠ 59 → q ≠ 60 → q ≠ 61 → mz 536 q = m 536 q := fun q q1 q3 q31 q32 q38 q50 q51 q52 q57 q58 q59 q60 q61 => by rw [L.2.1 q q1 q3 q31 q32 q38 q50 q51 q52 q57 q58 q59 q60 q61, er 536 (by omega) (by omega)]
                have c536 : mc 536 = m 536 := by rw [s1 536 (by omega) (by omega)]; exact cL 536 (by omega) (by omega) (by omega) (by omega) (by omega) (by omega) (by omega) (by omega) (by omega) (by omega)
                have c0 : mc 0 = m 0 := by rw [s1 0 (by omega) (by omega)]; exact cL 0 (by omega) (by omega) (by omega) (by omega) (by omega) (by omega) (by omega) (by omega) (by omega) (by omega)
                have ptc : ptr mc := ptr_fr h.pt (fun k _ => by rw [c536]) (fun k _ => by rw [c0])
                have tpc : tps B mc := by
                  refine ⟨?_, ?_, tpz_fr d5 (s1 518 (by omega) (by omega)) (s1 517 (by omega) (by omega)), tpz_fr h.tp.2.2.2.1 (by rw [s1 524 (by omega) (by omega)]; exact cL 524 (by omega) (by omega) (by omega) (by omega) (by omega) (by omega) (by omega) (by omega) (by omega) (by omega)) (by rw [s1 509 (by omega) (by omega)]; exact cL 509 (by omega) (by omega) (by omega) (by omega) (by omega) (by omega) (by omega) (by omega) (by omega) (by omega)), ?_⟩
                  · rw [xR_fld (s2 0 (by omega) (by omega)), xR_fld (d7 0 (by omega) (by omega) (by omega))]; exact h.tp.1
                  · rw [xR_cg c536]; exact h.tp.2.1
                  · obtain ⟨p, hp⟩ := h.tp.2.2.2.2
                    exact ⟨p, rs_fr hp (by rw [s1 530 (by omega) (by omega)]; exact cL 530 (by omega) (by omega) (by omega) (by omega) (by omega) (by omega) (by omega) (by omega) (by omega) (by omega))⟩
                have q2 : xR mz 536 2 = 1 := by rw [xR_fld (kf 2 (by omega) (by omega) (by omega) (by omega) (by omega) (by omega) (by omega) (by omega) (by omega) (by omega) (by omega) (by omega) (by omega))]; exact ho.1
                have q33 : xR mz 536 33 = xR m 536 33 := xR_fld (kf 33 (by omega) (by omega) (by omega) (by omega) (by omega) (by omega) (by omega) (by omega) (by omega) (by omega) (by omega) (by omega) (by omega))
                have q39 : xR mz 536 39 = xR m 536 39 := xR_fld (kf 39 (by omega) (by omega) (by omega) (by omega) (by omega) (by omega) (by omega) (by omega) (by omega) (by omega) (by omega) (by omega) (by omega))
                have w5 : mL 516 = m 516 := cL 516 (by omega) (by omega) (by omega) (by omega) (by omega) (by omega) (by omega) (by omega) (by omega) (by omega)
                have DN : dsk B mz D M tu K Rf Rv := dsk_fr2 F ⟨k1 538 (by omega) (by omega) (by omega) (by omega) (by omega), k1 539 (by omega) (by omega) (by omega) (by omega) (by omega), k1 573 (by omega) (by omega) (by omega) (by omega) (by omega), fun i _ _ => ⟨by rw [k1 575 (by omega) (by omega) (by omega) (by omega) (by omega)], by rw [k1 576 (by omega) (by omega) (by omega) (by omega) (by omega)]⟩⟩ (fun a ha => k1 a (by omega) (by omega) (by omega) (by omega) (by omega)) (fun q hq => kf q (by omega) (by omega) (by omega) (by omega) (by omega) (by omega) (by omega) (by omega) (by omega) (by omega) (by omega) (by omega) (by omega)) (fun q hq => by
                    rcases hq with rfl | rfl | rfl | rfl
                    · exact x31
                    · exact x38
                    · exact xR_fld (kf 40 (by omega) (by omega) (by omega) (by omega) (by omega) (by omega) (by omega) (by omega) (by omega) (by omega) (by omega) (by omega) (by omega))
                    · exact x52) (fun x x0 hx => by
                    rw [L.1 516 (by omega) (by omega) (by omega) (by omega) (by omega), w516, cut_of (pl := pl) (n := xR m 536 51) s5 x ?_, w5]
                    rcases hx with hx | ⟨e, he, hx⟩
                    · omega
                    · have := old_ext F.ex ro hv he.1 he.2 hx.1 hx.2
                      omega)
                have I := Inw_dn (B := B) (c := c + 1) (m := mc) hbd ⟨by have := h.cc.1; omega, by omega⟩ ptc tpc (by rw [xR_cg (s1 2 (by omega) (by omega)), xR_cg (cL 2 (by omega) (by omega) (by omega) (by omega) (by omega) (by omega) (by omega) (by omega) (by omega) (by omega))]; exact h.tx.2.2.1) g e1 (fun a ha => L.1 a (by omega) (by omega) (by omega) (by omega) (by omega)) R (fun k hk => by rw [kf k (by omega) (by omega) (by omega) (by omega) (by omega) (by omega) (by omega) (by omega) (by omega) (by omega) (by omega) (by omega) (by omega), c536]) L.2.2.2 x3 (Or.inr q2) (by rw [q33, xR_cg c0]; exact sg) (by rw [q39, xR_cg c0]; exact h.cn.ch) (by rw [x50, s4]; exact ⟨rfl, by omega, by omega⟩) (by rw [x31, q33]; omega) (by rw [x38]; omega) (fun h2 => by omega) (fun _ => ⟨D, M, tu, K, Rf, Rv, DN, by omega⟩)
                exact ⟨_, _, z, I.1, Or.inr I.2, Or.inl ⟨rfl, by rw [xR_fld (R.2.2.1 1 (by omega) (by omega) (by omega) (by omega) (by omega) (by omega))]; exact L.2.2.1⟩⟩))
        obtain ⟨v', m', e', q'⟩ := goal
        exact ⟨_, _, e', q'⟩
    · -- too many extents
      unfold opOk yf178
      rw [fopen ((op14 h).mpr ho), xB_ret, ba.1, if_neg hz]
      show ∃ r m1, (xB (some (.inl 0, m)) _ : xP) = _ ∧ _
      rw [xB_ret, r.ex, if_neg hE]
      refine ⟨_, _, rfl, fun m1 e1 => ?_⟩
      obtain ⟨bF, b, Rs, Wt, nb, B1, V1, eW, en, H⟩ := LR m1 (fun a _ a1 => e1 a a1)
      rcases H with ⟨mz, z, fl, L, g1, g2⟩ | ⟨fi, mz, nf, h2, ro, hE', _⟩
      · have I := FU m (fun a _ _ _ _ _ _ _ _ _ => rfl) h.tp.2.2.1 m1 e1 mz L g1 g2
        exact ⟨_, _, z, I.1, Or.inl I.2, Or.inl ⟨rfl, L.2.2.1⟩⟩
      · omega
  · unfold opOk yf178
    rw [fnot (by rw [Ne, op14 h]; exact ho)]
    refine ⟨_, _, rfl, fun m1 e1 => ?_⟩
    have I := Inw_1 (x := 1) h hc e1
    unfold yf323
    rw [isOpen_ok, xB_ret, xR_cg (e1 536 (by omega)), notop h ho, if_pos rfl]
    exact ⟨_, _, rfl, I.1, Or.inl I.2, Or.inr ⟨rfl, xR_at (by decide)⟩⟩
end LOP
