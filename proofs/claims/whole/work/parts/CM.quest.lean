/-! A QUESTION in the open store, both sides, answered -/
section QAX
variable {B : Nat} {c r : xw_M} {D M tu q : Int} {Kx Rf : Int → Int} {Rv : Int → Int → Int}
theorem mny_no {k S A n0 : Int} {κ0 : Int → Int → Int} (h : MNY c k S) (n1 : 0 ≤ n0) (n4 : n0 ≤ 4000) (cov : ∀ κ, KVc c k S κ → ∃ b, (0 ≤ b ∧ b < n0) ∧ ∀ g, 0 ≤ g → g < k → κ0 b g = κ g) : False := by
  obtain ⟨κ, h1, h2⟩ := h
  have := key_pig (k := k) (A := 4001) (n := n0) (κ := κ) (κ' := κ0) (fun a a0 a1 => cov _ (h1 a a0 (by omega))) (fun a a' a0 a1 b0 b1 e => h2 a a' a0 (by omega) b0 (by omega) e) n1
  omega
theorem qans (hB : B ≤ 512) (O : OSx B D M tu Kx Rf Rv c r) (Q : QD c r q D M) (hq : r 536 23 = q) (pl : xR r 536 27 = xR c 223 1) : duo (yf93 B c) (yk270_272 B r) (fun _ c2 _ r2 => TK c2 r2 ∧ fCo c c2 ∧ fRo r r2 ∧ c2 1 = c 1 ∧ OSx B D M tu Kx Rf Rv c2 r2) (fun c2 _ r2 => fCo c c2 ∧ fRo r r2 ∧ OSx B D M tu Kx Rf Rv c2 r2) := by
  have O' := O
  obtain ⟨⟨dk, rm⟩, C, rc, vw, rs0, p1, p2, p3, p4, st, nn, _⟩ := O
  have P3 := fun _ : Unit => p3
  have P4 := fun _ : Unit => p4
  clear p3 p4
  obtain ⟨tk, it, k, tq, S, nc, p, ⟨hn, hn0, it0, it24⟩, I, G, gp, N⟩ := Q
  have q0 : q = 544 ∨ q = 558 := by omega
  have k8 := G.2.2.1
  have D8 := rm.cg.cn.1
  have tt : (c 0 12 = 420 ∧ c 0 13 = 464) ∨ (c 0 12 = 464 ∧ c 0 13 = 420) := p1
  obtain ⟨cc, fcc, ⟨dk', rm'⟩, out⟩ := cls93 (B := B) (t := c 0 13) (t0 := c 0 12) hB dk rm rfl rfl tt rs0 C hn it0 it24 I G gp N nn.2
  have t4 : c 0 13 = 420 ∨ c 0 13 = 464 := by omega
  have lo : ∀ a, a < 420 → cc a = c a := fun a ha => fcc a (by omega)
  have hi : ∀ a, 508 ≤ a → cc a = c a := fun a ha => fcc a (by omega)
  have lo3 : ∀ a, a < 302 → cc a = c a := fun a ha => lo a (by omega)
  -- spread
  obtain ⟨g1, g2, g3, g4, g5, g6, g7⟩ := gp
  obtain ⟨r1, e1, f1, f1q, Sb, mk1⟩ := spread_ok (B := B) (q := q) (m := r) (t := tq) (k := k) (M0 := xR c 228) (S0 := S) q0 G.2.1 k8.1 k8.2 g1 g2 g3 g4 g7 (by omega) (by omega)
  have r1o : ∀ a, ¬ (544 ≤ a ∧ a ≤ 572) → r1 a = r a := fun a ha => f1 a (by omega) (by omega)
  have x536 : r1 536 = r 536 := r1o 536 (by decide)
  have nf : xR r 536 6 = 0 := tk.nf
  have G1 : GC c r1 q D k := GC_ro G (f1q 4 (by decide)) (f1 (q + 4) (by omega) (by omega))
  have N1 : CDN c r1 q D nc k p := CDN_ro N (f1q 11 (by decide)) (f1q 13 (by decide)) (fun j j0 j1 => f1 _ (by omega) (by omega))
  have C1 : cgr c r1 D M := cgr_fr C (fun _ _ _ => rfl) (fun a ha => r1o a (by omega)) (by rw [x536]) (by rw [x536])
  have G' := GC_lo lo3 D8.2 G1
  have N' := CDN_lo C1 lo3 N1
  have C' : cgr cc r1 D M := cgr_fr C1 (fun a a0 a1 => lo a (by omega)) (fun _ _ => rfl) rfl rfl
  have I' : ∀ j, 0 ≤ j → j < it → rsi cc r1 q M k j := fun j j0 j1 => rsi_lo lo3 (rsi_ro (fun j j0 j1 => f1 _ (by omega) (by omega)) (I j j0 j1))
  have rc' : RC cc r1 := ⟨fun a ha => by rw [r1o a (by omega), hi a (by omega)]; exact rc.1 a ha, by rw [xR_cg x536, xR_cg (hi 536 (by decide))]; exact rc.2⟩
  have hc : MKs (xR cc 228) S (okm (xR r (q + 5)) (xR r (q + 6)) tq.toNat) := by rw [xR_cg (lo 228 (by decide))]; exact g7
  have H : HM (xR r1 (q + 7)) (xR r1 q 9) k := ⟨fun s s0 s1 => by
    have := okm_b (kd := xR r (q + 5)) (sz := xR r (q + 6)) tq.toNat _ (fun p p0 p1 => (g3 p p0 (by omega)).1) (by omega) (mk1.1 s s0 s1)
    rw [g4] at this
    exact this, mk1.2.1⟩
  have hq1 : r1 536 23 = q := by rw [x536]; exact hq
  have nn' : 0 ≤ xR cc 536 31 ∧ xR cc 536 31 ≤ 20000 := by rw [xR_cg (hi 536 (by decide))]; exact nn
  obtain ⟨r2, v, e2, f2, gs2, res⟩ := hroom_ok (B := B) (c := cc) (r := r1) (Sr := xR r1 q 9) dk' rm' G' N' rc' q0 hq1 nn'.1 nn'.2 H rfl Sb.1 Sb.2 (by rw [x536]; exact P4 ())
  have RES := fun _ : Unit => res
  clear res
  have nf1 : xR r1 536 6 = 0 := by rw [xR_cg x536]; exact nf
  have nf2 : xR r2 536 6 = 0 := by rw [xR_fld (f2.2 6 (by decide))]; exact nf1
  have pl2 : xR r2 536 27 = xR c 223 1 := by rw [xR_fld (f2.2 27 (by decide)), xR_cg x536]; exact pl
  have ref : yk270_272 B r = (xB (yf254 B v 12 (xR r2 536 27) r2) fun v2 m2 => if v2 = 0 then (some (.inl 0, m2)) else (xB (yf296 B (m2 536 23) m2) fun _ m3 => some (.inl 0, (xw_u (xw_u (xw_u m3 536 22 (m3 536 23)) 536 23 (m3 536 22)) 536 24 1)))) := by
    unfold yk270_272 yk270_287
    rw [if_pos nf, hq, e1, xB_ret, if_pos nf1, hq1, e2, xB_ret]
  have fr2 : fRo r r2 := fRo_tr ⟨fun a a1 a2 _ _ => r1o a a2, fun k _ _ _ _ _ _ _ => by rw [x536]⟩ (fRo_a (fRa_h f2))
  rw [ref]
  rcases out with ⟨many, m', e93, fq, m0, rs1⟩ | ⟨n, m2, e93, fq, m12, m13, m9, m7, m6, rs1, K⟩
  · -- too many rows
    have v0 : v = 0 := by
      rcases RES () with ⟨_, A, xs, ms, X, A4⟩ | ⟨h, _⟩
      · exact (mny_no (A := A) many X.1 A4 (RWX_cov (c := cc) k8 H hc mk1 X)).elim
      · exact h
    rw [v0, no254 nf2 (by decide) (by decide), xB_ret, if_pos rfl, e93]
    have X := flt (c := m') (r := r2) (f := 12) (p := xR c 223 1) (p' := xR r2 536 27) (by decide) (by decide) (w32_xR _ _ _) pl2
    unfold yf54
    rw [xB_thr]
    have fc : fCo c (xw_u (xw_u m' 1 6 12) 1 7 (xR c 223 1)) := fCo_tr (fCo_a t4 fq) (fCo_y X.2.1)
    have fr : fRo r (xw_u (xw_u r2 536 6 12) 536 7 (xR r2 536 27)) := fRo_tr fr2 (fRo_y X.2.2)
    refine duo_f X.1 ⟨fc, fr, OSx_fr O' fc fr ?_ ?_ ?_ ?_ ?_ ?_⟩
    · obtain ⟨pp, hp⟩ := rs1
      exact ⟨pp, rs_fr hp (X.2.1.1 530 (by decide))⟩
    · rw [X.2.1.1 0 (by decide), m0]; exact p1
    · rw [X.2.2.2 22 (by decide), X.2.2.2 23 (by decide), f2.2 22 (by decide), f2.2 23 (by decide), x536]; exact p2
    · rw [X.2.2.2 73 (by decide), X.2.2.2 74 (by decide), f2.2 73 (by decide), f2.2 74 (by decide), x536]; exact P3 ()
    · rw [X.2.2.2 59 (by decide), X.2.2.2 60 (by decide)]
      obtain ⟨g, s, t, n, ⟨h1, h2, h3⟩, _⟩ := gs2
      exact ⟨s, t, h1, h2, h3⟩
    · refine ans_st O' (by rw [X.2.1.1 0 (by decide), m0]) (fun a a0 a1 => ?_) (fun j hj => ?_) (fun a ha => ?_)
      · rw [X.2.1.1 a (by omega)]
        exact fq.1 a (by omega) (by omega) (by omega) (by omega) (by omega) (by omega) (by omega) (by omega)
      · rw [X.2.2.2 j (by omega), f2.2 j (by omega), x536]
      · rw [X.2.2.1 a (by omega), f2.1 a (by omega) (by omega) (by omega), f1 a (by omega) (by omega)]
  · -- the answer
    obtain ⟨K1, K2, K3, K4, K5, K6, K7⟩ := K
    have K : CAN m2 cc (c 0 13) k it S n := ⟨K1, K2, K3, K4, K5, K6, K7⟩
    have v1 : v = 1 := by
      rcases RES () with ⟨h, _⟩ | ⟨_, kx, A, xs, ms, kx1, X, A4⟩
      · exact h
      · have := RWX_le (c := cc) k8 H hc mk1 K2.1 (κ0 := fun r g => xR m2 (c 0 13 + 4 + g) r) K5 kx1 X
        omega
    have hq2 : r2 536 23 = q := by rw [f2.2 23 (by decide)]; exact hq1
    rw [v1, ok254 nf2, xB_ret, if_neg (by decide), hq2, e93]
    have v40 : xR r1 536 40 = xR c 536 40 := by rw [xR_cg x536]; exact vw.2.2
    have tn := dk.tn
    obtain ⟨m5, A, xs, ms, o, Ls, e5, f5, gs5, X, An, Y, oo, so, e66⟩ := r_ans (B := B) (c := cc) (r := r1) (m := r2) (S := S) (Sr := xR r1 q 9) (n0 := n) (κ0 := fun r g => xR m2 (c 0 13 + 4 + g) r) dk' rm' C' G' N' rc' q0 hq1 nn'.1 nn'.2 H rfl Sb.1 Sb.2 hc mk1 K2.1 K2.2 K5 f2 gs2 (by rw [x536]; exact P3 ()) (by rw [v40]; exact tn) (fun i i0 i1 => by
      rw [v40] at i1
      rw [xR_cg (r1o 579 (by decide)), xR_cg vw.1]
      exact dk.vn i i0 i1)
    rw [e5, xB_ret]
    obtain ⟨nA, rows⟩ := ord_same (c := cc) (m2 := m2) (t := c 0 13) (it := it) k8 H hc mk1 K X so
    obtain ⟨s, t', twa, h73, h74, hs⟩ := oo
    have sv : s = 601 ∨ s = 602 := by unfold twA at twa; omega
    have tb := tw2_b k8.1 k8.2
    have hm : ∀ a, 0 ≤ a → a < A → (0 ≤ ms a ∧ ms a < 256) ∧ (ms a ≠ 0 → 0 ≤ xs a ∧ xs a < xR cc 536 31) := fun a a0 a1 => by
      obtain ⟨s, s1, s2, s3⟩ := X.2.1 a a0 a1
      have b := H.1 s s1.1 s1.2
      rw [s2]
      exact ⟨⟨b.1, by omega⟩, fun z => (s3 z).1⟩
    have src : (btb (fun i => fitc c D (xR c 511 i)) (xR c 512) (xR c 508 10) (xR c 508 11).toNat).1 = (btb (fun i => fitr r1 q D k nc (xR r1 579 i)) (xR r1 580) (xR r1 536 31) (xR r1 536 40).toNat).1 := by
      have n31 : xR r1 536 31 = xR c 536 31 := by rw [xR_cg x536]; exact rc.2
      rw [rm.fa, rm.vi, n31, v40]
      refine congrArg Prod.fst (btb_cg _ (fun i i0 i1 => ?_))
      have iv := rm.vw i i0 (by omega)
      rw [iv.1, iv.2, xR_cg (r1o 579 (by decide)), xR_cg (r1o 580 (by decide)), xR_cg vw.1, xR_cg vw.2.1]
      exact ⟨fit_same C1 G1 N1, rfl⟩
    have z22 : m5 536 22 = r 536 22 := by rw [f5.2 22 (by decide) (by decide) (by decide) (by decide) (by decide), x536]
    have z23 : m5 536 23 = q := by rw [f5.2 23 (by decide) (by decide) (by decide) (by decide) (by decide)]; exact hq1
    have y22 : xw_u (xw_u (xw_u m5 536 22 (m5 536 23)) 536 23 (m5 536 22)) 536 24 1 536 22 = q := by
      rw [xu_ne (by decide), xu_ne (by decide)]; unfold xw_u; rw [if_pos ⟨rfl, rfl⟩]; exact z23
    have y23 : xw_u (xw_u (xw_u m5 536 22 (m5 536 23)) 536 23 (m5 536 22)) 536 24 1 536 23 = r 536 22 := by
      rw [xu_ne (by decide)]; unfold xw_u; rw [if_pos ⟨rfl, rfl⟩]; exact z22
    have y24 : xR (xw_u (xw_u (xw_u m5 536 22 (m5 536 23)) 536 23 (m5 536 22)) 536 24 1) 536 24 = 1 := xR_at (by decide)
    have yk : ∀ j, ¬ (22 ≤ j ∧ j ≤ 24) → xw_u (xw_u (xw_u m5 536 22 (m5 536 23)) 536 23 (m5 536 22)) 536 24 1 536 j = m5 536 j := fun j hj => by rw [xu_ne (by omega), xu_ne (by omega), xu_ne (by omega)]
    have yo : ∀ a, a ≠ 536 → xw_u (xw_u (xw_u m5 536 22 (m5 536 23)) 536 23 (m5 536 22)) 536 24 1 a = m5 a := fun a ha => by rw [xu_c ha, xu_c ha, xu_c ha]
    generalize xw_u (xw_u (xw_u m5 536 22 (m5 536 23)) 536 23 (m5 536 22)) 536 24 1 = rz at y22 y23 y24 yk yo ⊢
    have f5o := fRo_tr (fRo_tr ⟨fun a a1 a2 _ _ => r1o a a2, fun k _ _ _ _ _ _ _ => by rw [x536]⟩ (fRo_a f5)) (show fRo m5 rz from ⟨fun a a1 _ _ _ => yo a a1, fun j _ j2 _ _ _ _ _ => yk j (by omega)⟩)
    have fc := fCo_a t4 fq
    have m2lo : m2 1 = c 1 ∧ m2 2 = c 2 := ⟨fq.1 1 (by omega) (by omega) (by omega) (by omega) (by omega) (by omega) (by omega) (by omega), fq.1 2 (by omega) (by omega) (by omega) (by omega) (by omega) (by omega) (by omega) (by omega)⟩
    have rzk : ∀ j, j ≤ 21 → rz 536 j = r 536 j := fun j hj => by rw [yk j (by omega), f5.2 j (by omega) (by omega) (by omega) (by omega) (by omega), x536]
    refine duo_r ⟨TK_fr tk (fun j _ _ => by rw [m2lo.1]) m2lo.2 (fun j _ j1 => rzk j (by omega)) (by rw [yo 537 (by decide), f5.1 537 (by decide) (by decide) (by decide) (by decide), r1o 537 (by decide)]), fc, f5o, m2lo.1, OSx_fr O' fc f5o rs1 ?_ ?_ ?_ ?_ ?_⟩
    · rw [m12, m13]; omega
    · rw [y22, y23]; omega
    · exact ⟨s, t', twa, by rw [yk 73 (by decide)]; exact h73, by rw [yk 74 (by decide)]; exact h74⟩
    · rw [yk 59 (by decide), yk 60 (by decide)]
      obtain ⟨g, s, t, n, ⟨h1, h2, h3⟩, _⟩ := gs5
      exact ⟨s, t, h1, h2, h3⟩
    · have c0 : mix m2 rz 0 = m2 0 := mix_c (by decide)
      have c5 : mix m2 rz 536 = rz 536 := mix_r (by decide)
      have ct : ∀ a, c 0 13 ≤ a → a ≤ c 0 13 + 43 → mix m2 rz a = m2 a := fun a _ _ => mix_c (by omega)
      have cr : ∀ a, 537 ≤ a → mix m2 rz a = m5 a := fun a ha => by rw [mix_r (by omega)]; exact yo a (by omega)
      have qr : ∀ x, (x = q ∨ x = q + 1 ∨ x = q + 2 ∨ x = q + 4) → mix m2 rz x = r1 x := fun x hx => by rw [cr x (by omega)]; exact f5.1 x (by omega) (by omega) (by omega) (by omega)
      have z65 : xR (mix m2 rz) 536 65 = A := by rw [xR_cg c5, xR_fld (yk 65 (by decide))]; exact Y.1
      unfold ans
      rw [c0, m12, show mix m2 rz 536 22 = q from by rw [c5]; exact y22, show mix m2 rz 536 73 = s from by rw [c5, yk 73 (by decide)]; exact h73, z65, show xR (mix m2 rz) 536 24 = 1 from by rw [xR_cg c5]; exact y24]
      have t7 : xR (mix m2 rz) (c 0 13) 7 = 1 := by rw [xR_cg (ct _ (by omega) (by omega))]; unfold xR; rw [m7]; rfl
      rw [t7]
      refine ⟨⟨fun h => absurd h (by decide), fun h => absurd h (by decide)⟩, fun h3 => ?_, fun _ => ⟨⟨⟨X.1, by omega⟩, ?_⟩, ?_, ⟨?_, ?_⟩, ?_, fun i i0 i1 => ?_⟩⟩
      · exfalso
        rw [xR_cg c5, xR_fld (rzk 3 (by decide)), st.1] at h3
        exact absurd h3 (by decide)
      · rw [xR_cg (ct _ (by omega) (by omega)), K1, nA]
      · rw [xR_cg (ct _ (by omega) (by omega)), xR_cg c5, xR_fld (yk 66 (by decide)), e66, ← src]
        show w32 (m2 (c 0 13) 9) = _
        rw [m9, src, ← e66]
        exact w32_xR _ _ _
      · rw [xR_cg (qr q (by omega)), xR_fld (f1q 0 (by decide)), hn0]; exact ⟨it0, it24⟩
      · rw [xR_cg (ct _ (by omega) (by omega)), m6, xR_cg (qr q (by omega)), xR_fld (f1q 0 (by decide)), hn0]
      · rw [xR_cg (qr q (by omega)), G1.2.1]; exact k8
      · obtain ⟨w1, w2, w3⟩ := rows i i0 (by omega)
        have hsi : xR (mix m2 rz) s i = o i := by rw [xR_cg (cr s (by omega))]; exact hs i i0 i1
        rw [hsi, xR_cg (ct (c 0 13 + 37) (by omega) (by omega))]
        refine ⟨⟨w2.1, by omega⟩, ⟨w1.1, by omega⟩, fun p' p0 p1' => ?_⟩
        rw [xR_cg (qr q (by omega)), xR_fld (f1q 0 (by decide)), hn0] at p1'
        obtain ⟨y1, y2⟩ := Y.2 (o i) w2.1 w2.2
        exact anC_ok (B := B) (c := cc) (r := r1) (m2 := m2) (m' := m5) (z := mix m2 rz) (S := S) (n := n) (it := it) (k := k) dk' rm' G' t4 I' K w1.1 w1.2 y1 y2 (hm _ w2.1 w2.2) w3 it24 ct qr (fun x x0 x1 => cr x (by omega)) (by rw [xR_cg (ct (c 0 13 + 37) (by omega) (by omega))]) p' p0 p1'
end QAX
