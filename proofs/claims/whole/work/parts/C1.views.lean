/-! THE ANSWER, by the class: a view's rows of an extent come in -/
theorem vhas_cg {lv lv' : Int → Int} {D v : Int} (h : ∀ d, 0 ≤ d → d < D → lv d = lv' d) : ∀ d, 0 ≤ d → d < D → vhas lv D v d = vhas lv' D v d := fun d d0 d1 => by
  unfold vhas
  rw [vdg_cg d0 d1 h, h d d0 d1]
/-- the parts of an extent, the views' among them -/
def VE (B : Nat) (c : xw_M) (D M : Int) (Kx Rf Rs : Int → Int) (e f0 n0 : Int) (OO SS : Int → Int → Int) (QQ : Int → Int) : Prop := ∃ q, (hfx Kx e = true → fps (c 516) c D M (cfx Kx Rf e.toNat) (Rf e) (xR c 587 e * 32768 + 64) q) ∧ (hfx Kx e = false → q = xR c 587 e * 32768 + 64) ∧ QQ 0 = q ∧ QQ (xR c 536 40) ≤ 64 * (B * 512 : Nat) ∧ ∀ i, 0 ≤ i → i < xR c 536 40 → vrr c D (xR c 579 i) f0 n0 (OO i) (SS i) (Rs i) ∧ QQ (i + 1) = QQ i + 8 * partB (rV c D (xR c 579 i) f0 (OO i) (SS i)) (Rs i) (rP c D (xR c 579 i) + 1 + 3 * M).toNat ∧ Part (c 516) (QQ i) (Rs i) (rP c D (xR c 579 i) + 1 + 3 * M).toNat (rV c D (xR c 579 i) f0 (OO i) (SS i))
section KRB
variable {B : Nat} {c : xw_M} {D M tu : Int} {Kx Rf : Int → Int} {Rv : Int → Int → Int}
theorem kr_b {v d f0 x : Int} (dk : dsk B c D M tu Kx Rf Rv) (rm : ram c D M tu Kx) (d0 : 0 ≤ d) (d1 : d < D) (hv : vhas (xR c 538) D v d = true) (x0 : 0 ≤ f0 + x) (x1 : f0 + x < xR c 536 31) : (0 ≤ vdg (xR c 538) D v d ∧ vdg (xR c 538) D v d < xR c (15 + 26 * d) 10) ∧ (0 ≤ kr c D v f0 d x ∧ kr c D v f0 d x < 1000) ∧ (0 ≤ xR c (15 + 26 * d + 19 + vdg (xR c 538) D v d) (kr c D v f0 d x) ∧ xR c (15 + 26 * d + 19 + vdg (xR c 538) D v d) (kr c D v f0 d x) < xR c (15 + 26 * d) 11) ∧ xR c (15 + 26 * d + 9 + vdg (xR c 538) D v d) (xR c (15 + 26 * d + 19 + vdg (xR c 538) D v d) (kr c D v f0 d x)) = xR c (15 + 26 * d + 9 + vdg (xR c 538) D v d) (xR c 575 (8 * (f0 + x) + d)) ∧ kr c D v f0 d x = xR c (15 + 26 * d + 14 + vdg (xR c 538) D v d) (xR c 575 (8 * (f0 + x) + d)) := by
  have c2 := cat2_of rm.cg rm.vl rm.ar dk.rk
  have hl : ∀ d, 0 ≤ d → d < D → 0 ≤ xR c 538 d ∧ xR c 538 d ≤ 4 := fun d d0 d1 => by
    have a := (rm.cg.sz d d0 d1)
    have b := (rm.cg.cn.2.2.2.2.1 d d0 d1).2.1.2
    omega
  have vb := vdg_b (v := v) hl d0 d1
  have lt : vdg (xR c 538) D v d < xR c 538 d := of_decide_eq_true hv
  obtain ⟨s1, s2, s3, _⟩ := rm.cg.sz d d0 d1
  have pb := dk.pl (f0 + x) d x0 x1 d0 d1
  have n1 := (rm.cg.cn.2.2.2.2.1 d d0 d1).2.2.1
  have ek : kr c D v f0 d x = xR c (15 + 26 * d + 14 + vdg (xR c 538) D v d) (xR c 575 (8 * (f0 + x) + d)) := by
    unfold kr
    rw [if_pos hv]
    exact (c2.2.2.2 d d0 d1).2.2.1 _ _ vb.1 (by omega) pb.1 (by omega)
  obtain ⟨K, e, b, R⟩ := rm.ar d d0 d1 (vdg (xR c 538) D v d) vb.1 (by omega)
  obtain ⟨r1, r2⟩ := R.2.2.1 (xR c 575 (8 * (f0 + x) + d)) pb.1 (by omega)
  have k1 := R.1
  rw [ek]
  exact ⟨⟨vb.1, by omega⟩, ⟨r1.1, by omega⟩, b _ r1.1 r1.2, r2, rfl⟩
end KRB
/-- a view's rows of an extent -/
noncomputable def sgV (c : xw_M) (D v : Int) (f0 : Int → Int) (Os Ss : Int → Int → Int) (Rs : Int → Int) (e : Int) : List Srow := (List.range (Rs e).toNat).map (fun j : Nat => (lst (fun q => f0 e + Os e (Ss e j + q)) (Ss e (j + 1) - Ss e j).toNat, (fun d => xR c (15 + 26 * d + 19 + vdg (xR c 538) D v d) (kr c D v (f0 e) d (Os e (Ss e j)))), rV c D v (f0 e) (Os e) (Ss e) (rP c D v) j, fun i => if xR c 224 i = 211 then rV c D v (f0 e) (Os e) (Ss e) (rP c D v) j else rV c D v (f0 e) (Os e) (Ss e) (vco (rP c D v) (xR c 224 i) (xR c 225 i)) j))
section STV
variable {B : Nat} {t k it S : Int} {mk ls K : Int → Int} {c : xw_M} {D M tu nc p : Int} {Kx Rf : Int → Int} {Rv : Int → Int → Int}
theorem stepV {i : Int} {f0 n0 : Int → Int} {OO SS : Int → Int → Int → Int} {QQ : Int → Int → Int} {W : List Srow} {J0 : Nat} {e : Int} {m1 : xw_M} (R : Int → Int → Int → xw_M → xP) (hB : B ≤ 512) (dk : dsk B c D M tu Kx Rf Rv) (rm : ram c D M tu Kx) (A : ASK c D M k it nc p) (F : FX c t k it S mk ls K) (hn : xR c 223 2 = it) (i0 : 0 ≤ i) (i1 : i < xR c 536 40) (vb : ∀ j, 0 ≤ j → j < xR c 536 40 → 0 ≤ xR c 579 j ∧ xR c 579 j < 2147483648) (fit : fitc c D (xR c 579 i)) (lw : ∀ d, 0 ≤ d → d < D → xR c 292 d < 4 → xR c 292 d < xR c (15 + 26 * d) 10) (V : VE B c D M Kx Rf (Rv e) e (f0 e) (n0 e) (OO e) (SS e) (QQ e)) (fn : 0 ≤ f0 e ∧ f0 e + n0 e ≤ xR c 536 31) (e0 : 0 ≤ e) (e1 : e < xR c 536 52) (f : fLo t c m1) (r : ∃ p, rs B m1 p) (hJ : ∀ j, j < (sgV c D (xR c 579 i) f0 (fun e => OO e i) (fun e => SS e i) (fun e => Rv e i) e).length → W.getD (J0 + j) sr0 = (sgV c D (xR c 579 i) f0 (fun e => OO e i) (fun e => SS e i) (fun e => Rv e i) e).getD j sr0) (dd : ∀ j, j < (sgV c D (xR c 579 i) f0 (fun e => OO e i) (fun e => SS e i) (fun e => Rv e i) e).length → ∀ s s', 0 ≤ s → s < S → 0 ≤ s' → s' < S → (∀ g, 0 ≤ g → g < k → skey (rkR c W (J0 + j)) ls (mk s) g = skey (rkR c W (J0 + j)) ls (mk s') g) → s = s') (s : ST m1 t k it S mk ls K (hlR c W) (rkR c W) (cfR W) (moR W) J0) : ∃ m2, stp93 B R i t e m1 = R i t (e + 1) m2 ∧ fLo t c m2 ∧ (∃ p, rs B m2 p) ∧ ST m2 t k it S mk ls K (hlR c W) (rkR c W) (cfR W) (moR W) (J0 + (sgV c D (xR c 579 i) f0 (fun e => OO e i) (fun e => SS e i) (fun e => Rv e i) e).length) := by
  have tt := F.1
  have ex := dk.ex
  have E2 := ex.1.2
  have q := ex.2.1 e e0 e1
  have le := rm.le e e0 e1
  have cn := rm.cg.cn
  have D8 : 0 ≤ D ∧ D ≤ 8 := cn.1
  have M8 : 0 ≤ M ∧ M ≤ 8 := cn.2.1
  have tn := dk.tn
  obtain ⟨pr, rp⟩ := r
  have lo : ∀ a, a < 302 → m1 a = c a := fun a ha => f.1 a (by omega) (by omega) (by omega) (by omega) (by omega) (by omega) (by omega)
  have hi : ∀ a, 508 ≤ a → a < 530 → m1 a = c a := fun a _ _ => f.1 a (by omega) (by omega) (by omega) (by omega) (by omega) (by omega) (by omega)
  have we : w32 (e + 1) = e + 1 := w32_id (by omega) (by omega)
  have lv1 : ∀ d, 0 ≤ d → d < D → lvc m1 d = xR c 538 d := fun d d0 d1 => by
    unfold lvc
    rw [xR_cg (lo (15 + 26 * d) (by omega))]
    exact (rm.cg.sz d d0 d1).2.1.symm
  have lv4 : ∀ d, 0 ≤ d → d < D → 0 ≤ xR c 538 d ∧ xR c 538 d ≤ 4 := fun d d0 d1 => by
    have a := rm.cg.sz d d0 d1
    have b := (cn.2.2.2.2.1 d d0 d1).2.1.2
    omega
  have c511 : ∀ j, 0 ≤ j → j < xR c 536 40 → xR m1 511 j = xR c 579 j := fun j j0 j1 => by rw [xR_cg (hi 511 (by omega) (by omega))]; exact (rm.vw j j0 j1).1
  have hP : ∀ v, cnt (vhas (lvc m1) D v) D.toNat = rP c D v := fun v => cnt_cg _ (fun i hi => vhas_cg lv1 i (by omega) (by omega))
  obtain ⟨qq, v1, v2, v3, v4, v5⟩ := V
  have mono := vps_mono D8 M8 v5
  have VP : VPT B m1 D M i (QQ e) (Rv e) (fun j => (rP c D (xR c 579 j) + 1 + 3 * M).toNat) (fun j => rV c D (xR c 579 j) (f0 e) (OO e j) (SS e j)) := fun j j0 j1 => by
    obtain ⟨a1, a2, a3⟩ := v5 j j0 (by omega)
    have pb := rP_b c D8.1 (xR c 579 j)
    have mm := mono (xR c 536 40 - (j + 1)).toNat (j + 1) (by omega) (by omega)
    rw [show j + 1 + ((xR c 536 40 - (j + 1)).toNat : Int) = xR c 536 40 by omega] at mm
    rw [c511 j j0 (by omega), hP]
    exact ⟨vb j j0 (by omega), by rw [hi 516 (by omega) (by omega)]; exact a3, rV_w _ _ _ _ a1.2.2, by show (rP c D (xR c 579 j) + 1 + 3 * M).toNat ≤ 33; omega, by show ((rP c D (xR c 579 j) + 1 + 3 * M).toNat : Int) = _; omega, a2, by omega⟩
  obtain ⟨a1, a2, a3⟩ := v5 i i0 i1
  have x3 := xR_cg (lo 3 (by omega))
  obtain ⟨T0, hF, hN⟩ : ∃ T0 : Int → Int → Int, (hfx (xR m1 513) e = true → Part (m1 516) (xR c 587 e * 32768 + 64) (Rf e) (D + M).toNat T0 ∧ cwd T0 ∧ QQ e 0 = xR c 587 e * 32768 + 64 + 8 * partB T0 (Rf e) (D + M).toNat ∧ QQ e 0 ≤ 64 * (B * 512 : Nat)) ∧ (hfx (xR m1 513) e = false → QQ e 0 = xR c 587 e * 32768 + 64) := by
    have m0 := mono (xR c 536 40).toNat 0 (by omega) (by omega)
    rw [show (0 : Int) + ((xR c 536 40).toNat : Int) = xR c 536 40 by omega] at m0
    have eh : hfx (xR m1 513) e = hfx Kx e := by unfold hfx; rw [xR_cg (hi 513 (by omega) (by omega)), le.1]
    rw [eh, hi 516 (by omega) (by omega)]
    by_cases hf : hfx Kx e = true
    · obtain ⟨o, b1, b2, b3⟩ := v1 hf
      exact ⟨rT c D (cfx Kx Rf e.toNat) o, fun _ => ⟨b3, rT_w _ _ _ _, by rw [v3, b2], by omega⟩, fun z => absurd hf (by rw [z]; decide)⟩
    · exact ⟨fun _ _ => 0, fun z => absurd z hf, fun z => by rw [v3]; exact v2 z⟩
  obtain ⟨m2, e2, r2, g2, sh⟩ := goV_ok (B := B) (m := m1) (D := D) (M := M) (e := e) (s := xR c 587 e) (p := pr) (i := i) (R0 := Rf e) (Q := QQ e) (Rs := Rv e) (T0 := T0) hB D8 M8 (by rw [x3]; exact cn.2.2.1) (by rw [x3]; exact cn.2.2.2.1) (fun d d0 d1 => by rw [lv1 d d0 d1]; exact lv4 d d0 d1) i0 (by omega) VP e0 (by omega) (by rw [xR_cg (hi 514 (by omega) (by omega))]; exact le.2.1) (by omega) (by have := dk.ln e e0 e1; omega) rp hF hN
  rw [c511 i i0 i1] at sh
  have f2 := fLo_tr f (fLo_g tt g2)
  have lo2 : ∀ a, a < 302 → m2 a = c a := fun a ha => f2.1 a (by omega) (by omega) (by omega) (by omega) (by omega) (by omega) (by omega)
  have A2 := ASK_fr lo2 A
  have F2 := FX_lo F f2
  have s2 : ST m2 t k it S mk ls K (hlR c W) (rkR c W) (cfR W) (moR W) J0 := ST_fr F.2.1.2.2 F.2.2.1.2.2 (fun a a0 a1 => g2.1 a (by omega) (by omega) (by omega) (by omega)) s
  have x15 : ∀ d, 0 ≤ d → d < D → xR m2 (15 + 26 * d) = xR c (15 + 26 * d) := fun d d0 d1 => xR_cg (lo2 _ (by omega))
  have x292 := xR_cg (lo2 292 (by omega))
  have x224 := xR_cg (lo2 224 (by omega))
  have x225 := xR_cg (lo2 225 (by omega))
  obtain ⟨hs, h7, h71⟩ := sh
  unfold vsh at hs
  rw [hP] at hs
  obtain ⟨_, _, P1, _, _, h5, h6, h72, _⟩ := hs
  have dv : ∀ d, 0 ≤ d → d < D → xR m2 371 d = vdg (xR c 538) D (xR c 579 i) d := fun d d0 d1 => by rw [(h71 d d0 d1).1]; exact vdg_cg d0 d1 lv1
  have hvd : ∀ d, 0 ≤ d → d < D → xR c 292 d < 4 → vhas (xR c 538) D (xR c 579 i) d = true := fun d d0 d1 h4 => by
    have a := fit d d0 d1 h4
    have b := lw d d0 d1 h4
    rw [vdg_cg (lv' := xR c 538) d0 d1 (fun d d0 d1 => by unfold lvc; exact (rm.cg.sz d d0 d1).2.1.symm)] at a
    have s2 := (rm.cg.sz d d0 d1).2.1
    exact decide_eq_true (by omega)
  have h372 : ∀ d, 0 ≤ d → d < D → xR c 292 d < 4 → (0 ≤ xR m2 372 d ∧ xR m2 372 d < rP c D (xR c 579 i)) ∧ hdf (vhas (xR c 538) D (xR c 579 i)) D.toNat (xR m2 372 d) = d := fun d d0 d1 h4 => by
    have nz := (h71 d d0 d1).2.mp (by rw [vhas_cg lv1 d d0 d1]; exact hvd d d0 d1 h4)
    rcases h72 d d0 d1 with z | z
    · exact absurd z nz
    · refine ⟨z.1, ?_⟩
      rw [← hdf_uniq (f := vhas (lvc m1) D (xR c 579 i)) (g := vhas (xR c 538) D (xR c 579 i)) (fun i i0 i1 => vhas_cg lv1 i i0 (by omega)) z.1.1 (by rw [hP]; exact z.1.2)]
      exact z.2
  have R0 := a1.2.1.1
  have ln : (sgV c D (xR c 579 i) f0 (fun e => OO e i) (fun e => SS e i) (fun e => Rv e i) e).length = (Rv e i).toNat := by unfold sgV; rw [List.length_map, List.length_range]
  have gd : ∀ j : Int, 0 ≤ j → j < Rv e i → W.getD (J0 + j.toNat) sr0 = (lst (fun q => f0 e + OO e i (SS e i j + q)) (SS e i (j + 1) - SS e i j).toNat, (fun d => xR c (15 + 26 * d + 19 + vdg (xR c 538) D (xR c 579 i) d) (kr c D (xR c 579 i) (f0 e) d (OO e i (SS e i j)))), rV c D (xR c 579 i) (f0 e) (OO e i) (SS e i) (rP c D (xR c 579 i)) j, fun i' => if xR c 224 i' = 211 then rV c D (xR c 579 i) (f0 e) (OO e i) (SS e i) (rP c D (xR c 579 i)) j else rV c D (xR c 579 i) (f0 e) (OO e i) (SS e i) (vco (rP c D (xR c 579 i)) (xR c 224 i') (xR c 225 i')) j) := fun j j0 j1 => by
    rw [hJ j.toNat (by omega)]
    unfold sgV
    rw [mapr_g (show j.toNat < (Rv e i).toNat by omega), Int.toNat_of_nonneg j0]
  have xb : ∀ j, 0 ≤ j → j < Rv e i → 0 ≤ f0 e + OO e i (SS e i j) ∧ f0 e + OO e i (SS e i j) < xR c 536 31 := fun j j0 j1 => by
    have b1 := SR_in a1.2.1 j j0 (by omega)
    have b2 := SR_in a1.2.1 (j + 1) (by omega) (by omega)
    have b3 := (a1.2.1.2.2.2.2 j j0 j1).1
    have b4 := a1.1.1.1 (SS e i j) b1.1 (by omega)
    omega
  have Tk : ∀ d j, 0 ≤ d → d < D → xR c 292 d < 4 → rV c D (xR c 579 i) (f0 e) (OO e i) (SS e i) (xR m2 372 d) j = kr c D (xR c 579 i) (f0 e) d (OO e i (SS e i j)) := fun d j d0 d1 h4 => by
    obtain ⟨z1, z2⟩ := h372 d d0 d1 h4
    unfold rV Tvw Tvp
    rw [if_pos z1.2, z2]
  generalize hT : rV c D (xR c 579 i) (f0 e) (OO e i) (SS e i) = T at *
  generalize hPv : rP c D (xR c 579 i) = P at *
  have Q : ∀ w, WNT B m2 D it P w → SRC B m2 (Rv e i) w (P + 1 + 3 * M).toNat T J0 k it (hlR c W) (rkR c W) (cfR W) (moR W) := fun w hw => by
    refine SRC_cg (fun j j0 j1 => ?_) (src_v (B := B) (m := m2) (R := Rv e i) (T := T) (J0 := J0) (P := P) (hl := fun n => top (SC m2 (vmb m2 (fun d => xR m2 (15 + 26 * d + 19 + xR m2 371 d) (T (xR m2 372 d) ((n - J0 : Nat) : Int)))))) (rk := fun n => rmb m2 (fun d => xR m2 (15 + 26 * d + 19 + xR m2 371 d) (T (xR m2 372 d) ((n - J0 : Nat) : Int)))) (cf := fun n => T P ((n - J0 : Nat) : Int)) (mo := fun n i => if xR m2 224 i = 211 then T P ((n - J0 : Nat) : Int) else T (vco P (xR m2 224 i) (xR m2 225 i)) ((n - J0 : Nat) : Int)) A2 h7 h5 P1.1 (by omega) (fun d d0 d1 h4 => ?_) (fun d j d0 d1 h4 j0 j1 => ?_) (by rw [← hT]; exact rV_w _ _ _ _ a1.2.2) (fun j j0 j1 => ?_) w hw)
    · have ej : ((J0 + j.toNat - J0 : Nat) : Int) = j := by omega
      have mbe : ∀ d, 0 ≤ d → d < D → xR c 292 d < 4 → xR m2 (15 + 26 * d + 19 + xR m2 371 d) (T (xR m2 372 d) j) = xR c (15 + 26 * d + 19 + vdg (xR c 538) D (xR c 579 i) d) (kr c D (xR c 579 i) (f0 e) d (OO e i (SS e i j))) := fun d d0 d1 h4 => by
        have b := kr_b (v := xR c 579 i) (x := OO e i (SS e i j)) dk rm d0 d1 (hvd d d0 d1 h4) (xb j j0 j1).1 (xb j j0 j1).2
        have s4 := lv4 d d0 d1
        have s5 := (rm.cg.sz d d0 d1).2.1
        rw [Tk d j d0 d1 h4, dv d d0 d1, xR_cg (lo2 (15 + 26 * d + 19 + vdg (xR c 538) D (xR c 579 i) d) (by omega))]
      unfold hlR rkR cfR moR
      rw [gd j j0 j1]
      dsimp only
      rw [ej, x224, x225]
      exact ⟨(hl_fr A lo2 mbe).symm, fun g g0 g1 => (rk_fr A lo2 mbe g g0 g1).symm, rfl, fun _ _ _ => rfl⟩
    · rw [x292] at h4
      have b := (vdg_b (v := xR c 579 i) lv4 d0 d1)
      have lt : vdg (xR c 538) D (xR c 579 i) d < xR c 538 d := of_decide_eq_true (hvd d d0 d1 h4)
      have s4 := lv4 d d0 d1
      rw [dv d d0 d1]
      exact ⟨(h372 d d0 d1 h4).1, b.1, by omega⟩
    · rw [x292] at h4
      have b := kr_b (v := xR c 579 i) (x := OO e i (SS e i j)) dk rm d0 d1 (hvd d d0 d1 h4) (xb j j0 j1).1 (xb j j0 j1).2
      have s4 := lv4 d d0 d1
      have s5 := (rm.cg.sz d d0 d1).2.1
      rw [Tk d j d0 d1 h4, dv d d0 d1, xR_cg (lo2 (15 + 26 * d + 19 + vdg (xR c 538) D (xR c 579 i) d) (by omega)), x15 d d0 d1]
      exact ⟨b.2.1, b.2.2.1⟩
    · have ej : ((J0 + j.toNat - J0 : Nat) : Int) = j := by omega
      rw [ej]
      exact ⟨rfl, rfl, rfl, rfl⟩
  have mmi := mono (xR c 536 40 - (i + 1)).toNat (i + 1) (by omega) (by omega)
  rw [show i + 1 + ((xR c 536 40 - (i + 1)).toNat : Int) = xR c 536 40 by omega] at mmi
  obtain ⟨m3, e3, f3, s3, r3⟩ := addpart_ok (B := B) (m := m2) (R := Rv e i) (p := QQ e i) (D := D) (n := it) (P := P) (kk := (P + 1 + 3 * M).toNat) (T := T) (J0 := J0) hB (by rw [← hT]; exact rV_w _ _ _ _ a1.2.2) (by omega) (by rw [h6]; omega) (by rw [f2.1 516 (by omega) (by omega) (by omega) (by omega) (by omega) (by omega) (by omega)]; exact a3) r2 (by omega) F2 (by rw [xR_cg (lo2 3 (by omega))]; exact cn.2.2.1) D8.1 D8.2 (fun d d0 d1 => by
    rcases h72 d d0 d1 with z | z
    · exact Or.inl z
    · exact Or.inr (by omega)) (by rw [xR_cg (lo2 223 (by omega))]; exact hn) F.2.2.1.2.1 F.2.2.1.2.2 h5 P1.1 (by omega) (fun i' i0' i1' hi' => by
    obtain ⟨b0, b1⟩ := A2.2.2.2.2.2.2.2.2 i' i0' i1' hi'
    refine ⟨vco P (xR m2 224 i') (xR m2 225 i'), col_v h7 h5 P1.1 (by omega) b0 (by omega), ?_⟩
    unfold vco; split
    · omega
    · split <;> omega) Q (fun j j0 j1 => dd j.toNat (by omega)) s2
  unfold stp93 yk93_74
  rw [if_neg (by omega), e2, xB_ret, if_pos (an_f B tt).1, e3, xB_ret, we, ln]
  exact ⟨m3, rfl, fLo_tr f2 (fLo_p tt f3), r3, s3⟩
end STV
