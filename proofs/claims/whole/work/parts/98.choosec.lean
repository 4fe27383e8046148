/-! CHOOSE, by the class, whole; what is refused -/
section CHD
variable {B : Nat} {m : xw_M} {c D M tu : Int} {K Rf : Int → Int} {Rv : Int → Int → Int}
theorem choose_c {k : Int} (h : Inw B c m) (ho : xR m 536 2 = 1 ∧ xR m 536 3 = 0) (F : dsk B m D M tu K Rf Rv) (r : ram m D M tu K) (hk : 0 ≤ k ∧ k ≤ 16) (hV : mpw (xR m 538) D D.toNat ≤ 512) (h16 : xR m 536 39 < 100) : ∃ x, pkn (xR m 538) D (esf (xR m 538) D (fun d k => xR m 574 (4 * d + k)) (xR m 536 31)) (xR m 536 31) (mpw (xR m 538) D D.toNat).toNat k x ∧ ((∃ m7, yf200 B k m = some (.inl (-2), m7) ∧ 0 < x ∧ (cnt (fun e => decide (K e ≠ 3)) (xR m 536 52).toNat = 200 ∨ ∃ b Rs : Int → Int, (∀ i, 0 ≤ i → i < x → vbt m D M (pkf (xR m 538) D (esf (xR m 538) D (fun d k => xR m 574 (4 * d + k)) (xR m 536 31)) (xR m 536 31) (mpw (xR m 538) D D.toNat).toNat i.toNat) 0 (xR m 536 31) (Rs i) (b i)) ∧ isRoom (xR m 587) (xR m 588) (xR m 536 52) B ((8 + rsum b x.toNat + 4095) / 4096) (-1)) ∧ (∀ a, (a < 295 ∨ 336 < a) → a ≠ 371 → a ≠ 372 → (a < 395 ∨ 416 < a) → a ≠ 419 → a ≠ 510 → (a < 517 ∨ 523 < a) → a ≠ 530 → a ≠ 532 → m7 a = m a) ∧ tpz 518 517 (B * 512 : Nat) m7 ∧ ∃ p, rs B m7 p) ∨ (∃ (b Rs : Int → Int) (nb pl q2 : Int) (mL : xw_M), (∀ i, 0 ≤ i → i < x → vbt m D M (pkf (xR m 538) D (esf (xR m 538) D (fun d k => xR m 574 (4 * d + k)) (xR m 536 31)) (xR m 536 31) (mpw (xR m 538) D D.toNat).toNat i.toNat) 0 (xR m 536 31) (Rs i) (b i)) ∧ nb = (if x = 0 then 0 else (8 + rsum b x.toNat + 4095) / 4096) ∧ (0 < x → pl ≠ -1 ∧ isRoom (xR m 587) (xR m 588) (xR m 536 52) B nb pl ∧ cnt (fun e => decide (K e ≠ 3)) (xR m 536 52).toNat < 200) ∧ ctm B m mL D M x nb pl q2 K (fun i => pkf (xR m 538) D (esf (xR m 538) D (fun d k => xR m 574 (4 * d + k)) (xR m 536 31)) (xR m 536 31) (mpw (xR m 538) D D.toNat).toNat i.toNat) Rs ∧ yf200 B k m = xB (yf160 B pl nb mL) fun v12 m12 => if v12 = 0 then (xB (yf163 B m12) fun v13 m13 => some (.inl v13, m13)) else (some (.inl x, m12)))) := by
  have fb := h.cn.fb
  have ba := h.cn.ba
  have sg := h.cn.sg
  have ch := h.cn.ch
  have hD := r.cg.cn.1
  have hM := r.cg.cn.2.1
  have E0 := F.ex.1
  have hB2 := h.bd.2
  obtain ⟨p, hp⟩ := h.tp.2.2.2.2
  obtain ⟨c1, c2, c3, c4⟩ := chs_of F r
  obtain ⟨x, m2, z2, f2, pn, v2⟩ := pick_c (B := B) (m := m) (lv := xR m 538) (D := D) (F := xR m 536 31) (df := fun d k => xR m 574 (4 * d + k)) (k := k) ⟨c1, c2, c3, c4, hV⟩ (by omega) (df_eq F r) hk
  have xb := pn.1
  generalize hpk : (fun i : Int => pkf (xR m 538) D (esf (xR m 538) D (fun d k => xR m 574 (4 * d + k)) (xR m 536 31)) (xR m 536 31) (mpw (xR m 538) D D.toNat).toNat i.toNat) = pkv at *
  have epk : ∀ i : Int, pkf (xR m 538) D (esf (xR m 538) D (fun d k => xR m 574 (4 * d + k)) (xR m 536 31)) (xR m 536 31) (mpw (xR m 538) D D.toNat).toNat i.toNat = pkv i := fun i => by rw [← hpk]
  have g2 : ∀ a, a < 295 ∨ 301 < a → m2 a = m a := f2
  have start : yf200 B k m = (if 0 < x then (xB (yf209 B m2) fun v6 m6 => if v6 < 200 then (xB (yf210 B (xR m6 508 14) m6) fun _ m7 => xB (yf150 B 3 x m7) fun _ m8 => xB (yf192 B 395 296 x m8) fun _ m9 => xB (yf156 B m9) fun v10 m10 => xB (yf157 B v10 m10) fun v11 m11 => if v11 = (-1) then (some (.inl (-2), m11)) else (yk200_156 B x v10 v11 m11)) else (some (.inl (-2), m6))) else (yk200_156 B x 0 (-1) m2)) := by
    unfold yf200
    rw [if_neg (by omega), if_neg (by omega)]
    show xB (some (.inl 0, m)) _ = _
    rw [xB_ret, fopen ((op14 h).mpr ho), xB_ret, views_cl (lv := xR m 538) (by omega) c2 c3 c4, xB_ret, if_neg (by omega), ch.1, if_pos h16]
    show xB (some (.inl 0, m)) _ = _
    rw [xB_ret, r.fa, z2, xB_ret]
  refine ⟨x, pn, ?_⟩
  simp only [epk]
  have e508 : m2 508 = m 508 := g2 508 (by omega)
  have tz2 : tpz 518 517 (B * 512 : Nat) m2 := tpz_fr h.tp.2.2.1 (g2 518 (by omega)) (g2 517 (by omega))
  have rs2 : rs B m2 p := rs_fr hp (g2 530 (by omega))
  have cbb := cnt_b (fun e => decide (K e ≠ 3)) (xR m 536 52).toNat
  by_cases hx : 0 < x
  · rw [if_pos hx] at start
    have w1 := without_ok (B := B) (m := m2) (E := xR m 536 52) (by rw [xR_cg e508]; exact r.ex) E0.1 E0.2 (fun e e' e0 e1 e0' e1' h3 h3' => by
      rw [xR_cg (g2 513 (by omega)), (r.le e e0 e1).1] at h3
      rw [xR_cg (g2 513 (by omega)), (r.le e' e0' e1').1] at h3'
      exact F.one e e' e0 e1 e0' e1' h3 h3')
    have ce : cnt (fun e => decide (xR m2 513 e ≠ 3)) (xR m 536 52).toNat = cnt (fun e => decide (K e ≠ 3)) (xR m 536 52).toNat := cnt_cg _ (fun i hi => by show decide (xR m2 513 (i : Int) ≠ 3) = decide (K (i : Int) ≠ 3); rw [xR_cg (g2 513 (by omega)), (r.le i (by omega) (by omega)).1])
    rw [ce] at w1
    rw [w1, xB_ret] at start
    by_cases h200 : cnt (fun e => decide (K e ≠ 3)) (xR m 536 52).toNat < 200
    · rw [if_pos h200, xR_cg e508, r.ex] at start
      have F2 : dsk B m2 D M tu K Rf Rv := dsk_fr F ⟨g2 538 (by omega), g2 539 (by omega), g2 573 (by omega), fun i _ _ => ⟨by rw [g2 575 (by omega)], by rw [g2 576 (by omega)]⟩⟩ (fun a ha => g2 a (by omega)) (fun q _ => by rw [g2 536 (by omega)]) (fun q _ _ => by rw [g2 516 (by omega)])
      have r2 : ram m2 D M tu K := ram_fr r (fun a a0 a1 => g2 a (by omega)) (fun q _ => by rw [e508]) (fun a a0 a1 => g2 a (by omega)) (fun q _ => by rw [g2 536 (by omega)]) (fun a ha => g2 a (by omega)) (bt_fr r (fun a a0 a1 => g2 a (by omega)) (fun q _ => by rw [g2 536 (by omega)]) (fun a ha => g2 a (by omega)))
      have e536 : m2 536 = m 536 := g2 536 (by omega)
      obtain ⟨mg, pg, π, zg, fg, rg', hg5, Fg, kg, tg⟩ := gather_n (B := B) (m := m2) (E' := xR m 536 52) hB2 F2 r2 (by omega) (by rw [xR_cg e536]; exact Int.le_refl _) (by rw [xR_cg e536]; omega) rs2
      rw [F.sm] at hg5 Fg kg tg
      have G : ∀ a, a ≠ 530 → a ≠ 532 → (a < 302 ∨ 336 < a) → a ≠ 371 → a ≠ 372 → (a < 395 ∨ 414 < a) → mg a = m2 a := fg.1
      have c2' : cat2 mg D M := cat2_fr (cat2_of r2.cg r2.vl r2.ar F2.rk) (fun a ha => G a (by omega) (by omega) (by omega) (by omega) (by omega) (by omega)) (fun k hk => by rw [G 536 (by omega) (by omega) (by omega) (by omega) (by omega) (by omega)]) (fun a ha => G a (by omega) (by omega) (by omega) (by omega) (by omega) (by omega))
      have g508 : mg 508 = m 508 := by rw [G 508 (by omega) (by omega) (by omega) (by omega) (by omega) (by omega)]; exact e508
      have pkb : ∀ i, 0 ≤ i → i < x → 0 ≤ pkv i := fun i i0 i1 => by
        have q := pn.2.1 i i0 i1
        have q' := (bsf_b (fun v => bnf (xR m 538) D (esf (xR m 538) D (fun d k => xR m 574 (4 * d + k)) (xR m 536 31)) (cSf (xR m 538) D (esf (xR m 538) D (fun d k => xR m 574 (4 * d + k)) (xR m 536 31)) (xR m 536 31) (mpw (xR m 538) D D.toNat).toNat i.toNat) v (mpw (xR m 538) D D.toNat).toNat) (mpw (xR m 538) D D.toNat).toNat).1
        have q2 := epk i
        rw [q2] at q
        unfold pkf at q2
        rw [q2] at q'
        omega
      obtain ⟨m3, m5, b, Rs, z3, z5, f5, V5, t5, P5⟩ := wr_only (B := B) (m := mg) (r := 395) (cap := 20000) (n := xR m 536 31) (f := 0) (k := x) (kd := 3) (note := x) (tu := tu) (π := π) (vs := pkv) hB2 (by have := h.bd; omega) (Or.inr (Or.inl ⟨rfl, rfl, rfl⟩)) (tpz_fr tz2 (G 518 (by omega) (by omega) (by omega) (by omega) (by omega) (by omega)) (G 517 (by omega) (by omega) (by omega) (by omega) (by omega) (by omega))) (by rw [xR_cg g508]; exact r.tu) c2' ⟨fb.1, by omega⟩ ⟨Int.le_refl _, by omega⟩ hg5 kg Fg xb.1 (by omega) (fun i i0 i1 => ⟨by rw [xR_cg (G 296 (by omega) (by omega) (by omega) (by omega) (by omega) (by omega)), v2 i i0 i1]; exact epk i, pkb i i0 i1⟩)
      have gm : ∀ a, (a < 295 ∨ 336 < a) → a ≠ 530 → a ≠ 532 → a ≠ 371 → a ≠ 372 → (a < 395 ∨ 414 < a) → mg a = m a := fun a h1 h2 h3 h4 h5 h6 => by rw [G a h2 h3 (by omega) h4 h5 h6]; exact g2 a (by omega)
      have rsg : rsm mg m (0 + xR m 536 31) := ⟨(gm 538 (by omega) (by omega) (by omega) (by omega) (by omega) (by omega)).symm, (gm 539 (by omega) (by omega) (by omega) (by omega) (by omega) (by omega)).symm, (gm 573 (by omega) (by omega) (by omega) (by omega) (by omega) (by omega)).symm, fun i _ _ => ⟨by rw [gm 575 (by omega) (by omega) (by omega) (by omega) (by omega) (by omega)], by rw [gm 576 (by omega) (by omega) (by omega) (by omega) (by omega) (by omega)]⟩⟩
      have V0 := fun i i0 i1 => vbt_m rsg hD hM (Int.le_refl _) (Int.le_refl _) (V5 i i0 i1)
      have vb := fun i i0 i1 => vbt_b hD hM (show xR m 536 31 ≤ 20000 by omega) (V0 i i0 i1)
      have rb := rsum_b (b := b) (lo := 4) (hi := 7000000) x.toNat (fun i i0 i1 => by have := vb i i0 (by omega); omega)
      have g5 : ∀ a, (a < 295 ∨ 336 < a) → a ≠ 371 → a ≠ 372 → (a < 395 ∨ 416 < a) → a ≠ 419 → (a < 517 ∨ 523 < a) → a ≠ 530 → a ≠ 532 → m5 a = m a := fun a h1 h2 h3 h4 h5 h6 h7 h8 => by rw [f5 a (by omega) h2 h3 h6 (by omega) (by omega) (by omega) h5]; exact gm a h1 h7 h8 h2 h3 (by omega)
      have k508 : m5 508 = m 508 := g5 508 (by omega) (by omega) (by omega) (by omega) (by omega) (by omega) (by omega) (by omega)
      have k514 : m5 514 = m 514 := g5 514 (by omega) (by omega) (by omega) (by omega) (by omega) (by omega) (by omega) (by omega)
      have k515 : m5 515 = m 515 := g5 515 (by omega) (by omega) (by omega) (by omega) (by omega) (by omega) (by omega) (by omega)
      have rs5 : rs B m5 pg := rs_fr rg' (f5 530 (by omega) (by omega) (by omega) (by omega) (by omega) (by omega) (by omega) (by omega))
      obtain ⟨n, m7, v, z6, z7, f7, R7⟩ := room_tst (B := B) (m := m5) (Wt := rsum b x.toNat) (E := xR m 536 52) hB2 t5 (by omega) (by omega) (by rw [xR_cg k508]; exact r.ex) (by rw [xR_cg k508]; exact h.tp.1) (by rw [xR_cg k514, xR_cg k515]; exact exts_cg F.ex (fun e e0 e1 => (r.le e e0 e1).2))
      have leS : ∀ e, 0 ≤ e → e < xR m 536 52 → xR m 587 e = xR m5 514 e ∧ xR m 588 e = xR m5 515 e := fun e e0 e1 => by
        rw [xR_cg k514, xR_cg k515]
        exact ⟨(r.le e e0 e1).2.1.symm, (r.le e e0 e1).2.2.symm⟩
      rw [zg, xB_ret, z3, xB_ret, z5, xB_ret, z6, xB_ret, z7, xB_ret] at start
      have f7' : ∀ a, (a < 295 ∨ 336 < a) → a ≠ 371 → a ≠ 372 → (a < 395 ∨ 416 < a) → a ≠ 419 → a ≠ 510 → (a < 517 ∨ 523 < a) → a ≠ 530 → a ≠ 532 → m7 a = m a := fun a h1 h2 h3 h4 h5 h6 h7 h8 h9 => by rw [f7 a h6]; exact g5 a h1 h2 h3 h4 h5 h7 h8 h9
      have tz7 : tpz 518 517 (B * 512 : Nat) m7 := tpz_fr (tst_tpz t5) (f7 518 (by omega)) (f7 517 (by omega))
      rcases R7 with ⟨hv, Ro⟩ | ⟨hv, hn, Ro, wz, hl⟩
      · exact Or.inl ⟨m7, by rw [start, if_pos hv], hx, Or.inr ⟨b, Rs, V0, isRoom_cg leS Ro⟩, f7', tz7, pg, rs_fr rs5 (f7 530 (by omega))⟩
      · rw [if_neg hv] at start
        have pb : 2 ≤ v ∧ v + (8 + rsum b x.toNat + 4095) / 4096 ≤ B := by
          rcases Ro with ⟨q, _⟩ | ⟨q, _⟩
          · exact absurd q hv
          · exact q
        have P := P5 wz
        obtain ⟨mL, q2, C, zz⟩ := choose_t (B := B) (x := x) (nb := n) (pl := v) (m7 := m7) (pkv := pkv) (Rs := Rs) r E0 (by rw [ch.1]; exact h16) (by rw [ch.1]; exact ch.2.1) (by omega) (fun _ => h200) f7' tz7 ⟨pg, rs_fr rs5 (f7 530 (by omega))⟩ (fun _ => by omega) (fun i i0 i1 => ⟨by rw [xR_cg (f7 296 (by omega)), xR_cg (f5 296 (by omega) (by omega) (by omega) (by omega) (by omega) (by omega) (by omega) (by omega)), xR_cg (G 296 (by omega) (by omega) (by omega) (by omega) (by omega) (by omega)), v2 i i0 i1]; exact epk i, by rw [xR_cg (f7 419 (by omega))]; exact P.1 i i0 i1⟩) (fun _ => ⟨64 + 8 * rsum b x.toNat, by rw [f7 517 (by omega)]; exact vps_m rsg hD hM (Int.le_refl _) (Int.le_refl _) P.2, by omega⟩)
        rw [zz] at start
        exact Or.inr ⟨b, Rs, n, v, q2, mL, V0, by rw [if_neg (by omega)]; exact hn, fun _ => ⟨hv, by rw [hn]; exact isRoom_cg leS Ro, h200⟩, C, start⟩
    · rw [if_neg h200] at start
      exact Or.inl ⟨m2, start, hx, Or.inl (by omega), fun a h1 h2 h3 h4 h5 h6 h7 h8 h9 => g2 a (by omega), tz2, p, rs2⟩
  · rw [if_neg hx] at start
    obtain ⟨mL, q2, C, zz⟩ := choose_t (B := B) (x := x) (nb := 0) (pl := -1) (m7 := m2) (pkv := pkv) (Rs := fun _ => 0) r E0 (by rw [ch.1]; exact h16) (by rw [ch.1]; exact ch.2.1) (by omega) (fun hx' => absurd hx' hx) (fun a h1 h2 h3 h4 h5 h6 h7 h8 h9 => g2 a (by omega)) tz2 ⟨p, rs2⟩ (fun hx' => absurd hx' hx) (fun i i0 i1 => by omega) (fun hx' => absurd hx' hx)
    rw [zz] at start
    exact Or.inr ⟨fun _ => 0, fun _ => 0, 0, -1, q2, mL, fun i i0 i1 => by omega, by rw [if_pos (by omega)], fun hx' => absurd hx' hx, C, start⟩
end CHD
