/-! SETTLE, by the class; the disk behind it -/
/-- the class's memory before a settling's commit of nb blocks at pl -/
def stm (B : Nat) (m mL : xw_M) (D M Wt nb pl q1 : Int) (K Rs : Int → Int) : Prop := fps (mL 517) m D M 0 (xR m 536 31) 64 q1 ∧ vps (mL 517) m D M 0 (xR m 536 31) (xR m 536 40) (xR m 579) Rs q1 (64 + 8 * Wt) ∧ 64 + 8 * Wt ≤ nb * 32768 ∧ (∀ a, a ≠ 0 → (a < 302 ∨ 336 < a) → a ≠ 371 → a ≠ 372 → (a < 395 ∨ 416 < a) → a ≠ 419 → a ≠ 508 → (a < 510 ∨ 515 < a) → (a < 517 ∨ 523 < a) → a ≠ 530 → a ≠ 532 → mL a = m a) ∧ tpz 518 517 (B * 512 : Nat) mL ∧ (∃ p, rs B mL p) ∧ (∀ k, k ≠ 16 → mL 0 k = m 0 k) ∧ xR mL 0 16 = xR m 0 16 + 1 ∧ (∀ k, k ≠ 11 → k ≠ 14 → mL 508 k = m 508 k) ∧ xR mL 508 11 = xR m 536 40 ∧ xR mL 508 14 = 2 ∧ (∀ i, 0 ≤ i → i < xR m 536 40 → xR mL 511 i = xR m 579 i ∧ xR mL 512 i = Rs i) ∧ (xR mL 513 0 = K 0 ∧ xR mL 514 0 = xR m 587 0 ∧ xR mL 515 0 = xR m 588 0) ∧ xR mL 513 1 = 4 ∧ xR mL 514 1 = pl ∧ xR mL 515 1 = nb
section STC
variable {B : Nat} {m : xw_M} {c D M tu : Int} {K Rf : Int → Int} {Rv : Int → Int → Int}
theorem settle_c (h : Inw B c m) (ho : xR m 536 2 = 1 ∧ xR m 536 3 = 0) (F : dsk B m D M tu K Rf Rv) (r : ram m D M tu K) (h16 : xR m 536 39 < 100) : ∃ (bF : Int) (b Rs : Int → Int) (Wt nb : Int), fbt m D M 0 (xR m 536 31) bF ∧ (∀ i, 0 ≤ i → i < xR m 536 40 → vbt m D M (xR m 579 i) 0 (xR m 536 31) (Rs i) (b i)) ∧ Wt = bF + rsum b (xR m 536 40).toNat ∧ nb = (8 + Wt + 4095) / 4096 ∧ ((∃ m7, yf215 B m = some (.inl (-2), m7) ∧ isRoom (xR m 587) (xR m 588) (xR m 536 52) B nb (-1) ∧ (∀ a, (a < 302 ∨ 336 < a) → a ≠ 371 → a ≠ 372 → (a < 395 ∨ 416 < a) → a ≠ 419 → a ≠ 510 → (a < 517 ∨ 523 < a) → a ≠ 530 → a ≠ 532 → m7 a = m a) ∧ tpz 518 517 (B * 512 : Nat) m7 ∧ ∃ p, rs B m7 p) ∨ (∃ pl mL q1, pl ≠ -1 ∧ isRoom (xR m 587) (xR m 588) (xR m 536 52) B nb pl ∧ stm B m mL D M Wt nb pl q1 K Rs ∧ yf215 B m = xB (yf160 B pl nb mL) fun v12 m12 => if v12 = 0 then (xB (yf163 B m12) fun v13 m13 => some (.inl v13, m13)) else (some (.inl (nb + 1), m12)))) := by
  have fb := h.cn.fb
  have ba := h.cn.ba
  have sg := h.cn.sg
  have ch := h.cn.ch
  have hD := r.cg.cn.1
  have hM := r.cg.cn.2.1
  have E0 := F.ex.1
  have E1 := F.e1
  have tn := F.tn
  obtain ⟨p, hp⟩ := h.tp.2.2.2.2
  obtain ⟨mg, pg, π, zg, fg, rg', hg5, Fg, kg, tg⟩ := gather_n (B := B) (E' := xR m 536 52) h.bd.2 F r (by omega) (Int.le_refl _) (by omega) hp
  rw [F.sm] at hg5 Fg kg tg
  have G : ∀ a, a ≠ 530 → a ≠ 532 → (a < 302 ∨ 336 < a) → a ≠ 371 → a ≠ 372 → (a < 395 ∨ 414 < a) → mg a = m a := fg.1
  have c2 : cat2 mg D M := cat2_fr (cat2_of r.cg r.vl r.ar F.rk) (fun a ha => G a (by omega) (by omega) (by omega) (by omega) (by omega) (by omega)) (fun k hk => by rw [G 536 (by omega) (by omega) (by omega) (by omega) (by omega) (by omega)]) (fun a ha => G a (by omega) (by omega) (by omega) (by omega) (by omega) (by omega))
  have g508 : mg 508 = m 508 := G 508 (by omega) (by omega) (by omega) (by omega) (by omega) (by omega)
  obtain ⟨m3, m4, m5, bF, b, Rs, z3, z4, k4, z5, f5, B5, V5, t5, P5⟩ := wr_both (B := B) (m := mg) (r := 395) (cap := 20000) (n := xR m 536 31) (f := 0) (k := xR m 536 40) (kd := 4) (note := w32 (xR m 536 40 + 1)) (tu := tu) (π := π) (vs := xR m 579) h.bd.2 (by have := h.bd; omega) (Or.inr (Or.inl ⟨rfl, rfl, rfl⟩)) (tpz_fr h.tp.2.2.1 (G 518 (by omega) (by omega) (by omega) (by omega) (by omega) (by omega)) (G 517 (by omega) (by omega) (by omega) (by omega) (by omega) (by omega))) (by rw [xR_cg g508]; exact r.tu) c2 ⟨fb.1, by omega⟩ ⟨Int.le_refl _, by omega⟩ hg5 kg Fg tg tn.1 tn.2 (by rw [xR_cg g508]; exact r.vi) (fun i i0 i1 => ⟨by rw [xR_cg (G 511 (by omega) (by omega) (by omega) (by omega) (by omega) (by omega))]; exact (r.vw i i0 i1).1, F.vn i i0 i1⟩)
  have rsg : rsm mg m (0 + xR m 536 31) := ⟨(G 538 (by omega) (by omega) (by omega) (by omega) (by omega) (by omega)).symm, (G 539 (by omega) (by omega) (by omega) (by omega) (by omega) (by omega)).symm, (G 573 (by omega) (by omega) (by omega) (by omega) (by omega) (by omega)).symm, fun i _ _ => ⟨by rw [G 575 (by omega) (by omega) (by omega) (by omega) (by omega) (by omega)], by rw [G 576 (by omega) (by omega) (by omega) (by omega) (by omega) (by omega)]⟩⟩
  have B0 := fbt_m rsg hD hM (Int.le_refl _) fb.1 (Int.le_refl _) B5
  have V0 := fun i i0 i1 => vbt_m rsg hD hM (Int.le_refl _) (Int.le_refl _) (V5 i i0 i1)
  have bF0 := fbt_b hD hM (by omega) B0
  have vb := fun i i0 i1 => vbt_b hD hM (show xR m 536 31 ≤ 20000 by omega) (V0 i i0 i1)
  have rb := rsum_b (b := b) (lo := 4) (hi := 7000000) (xR m 536 40).toNat (fun i i0 i1 => by have := vb i i0 (by omega); omega)
  have g5 : ∀ a, (a < 302 ∨ 336 < a) → a ≠ 371 → a ≠ 372 → (a < 395 ∨ 416 < a) → a ≠ 419 → (a < 517 ∨ 523 < a) → a ≠ 530 → a ≠ 532 → m5 a = m a := fun a h1 h2 h3 h4 h5 h6 h7 h8 => by rw [f5 a h1 h2 h3 h6 (by omega) (by omega) (by omega) h5]; exact G a h7 h8 h1 h2 h3 (by omega)
  have e508 : m5 508 = m 508 := g5 508 (by omega) (by omega) (by omega) (by omega) (by omega) (by omega) (by omega) (by omega)
  have e514 : m5 514 = m 514 := g5 514 (by omega) (by omega) (by omega) (by omega) (by omega) (by omega) (by omega) (by omega)
  have e515 : m5 515 = m 515 := g5 515 (by omega) (by omega) (by omega) (by omega) (by omega) (by omega) (by omega) (by omega)
  have rs5 : rs B m5 pg := rs_fr rg' (f5 530 (by omega) (by omega) (by omega) (by omega) (by omega) (by omega) (by omega) (by omega))
  obtain ⟨n, m7, v, z6, z7, f7, R7⟩ := room_tst (B := B) (m := m5) (Wt := bF + rsum b (xR m 536 40).toNat) (E := xR m 536 52) h.bd.2 t5 (by omega) (by omega) (by rw [xR_cg e508]; exact r.ex) (by rw [xR_cg e508]; exact h.tp.1) (by rw [xR_cg e514, xR_cg e515]; exact exts_cg F.ex (fun e e0 e1 => (r.le e e0 e1).2))
  have leS : ∀ e, 0 ≤ e → e < xR m 536 52 → xR m 587 e = xR m5 514 e ∧ xR m 588 e = xR m5 515 e := fun e e0 e1 => by
    rw [xR_cg e514, xR_cg e515]
    exact ⟨(r.le e e0 e1).2.1.symm, (r.le e e0 e1).2.2.symm⟩
  have start : yf215 B m = xB (yf156 B m5) fun v7 m7 => xB (yf157 B v7 m7) fun v8 m8 => if v8 = (-1) then (some (.inl (-2), m8)) else (xB (yf216 B (xw_u m8 0 16 ((xR m8 0 16) + 1))) fun _ m9 => xB (yf159 B 4 v8 v7 m9) fun _ m10 => xB (yf213 B 511 419 (xR m10 508 11) m10) fun _ m11 => xB (yf160 B v8 v7 m11) fun v12 m12 => if v12 = 0 then (xB (yf163 B m12) fun v13 m13 => some (.inl v13, m13)) else (some (.inl (w32 (v7 + 1)), m12))) := by
    unfold yf215
    rw [fopen ((op14 h).mpr ho), xB_ret, ch.1, if_pos h16]
    show xB (some (.inl 0, m)) _ = _
    rw [xB_ret, r.ex, zg, xB_ret, xR_cg g508, r.vi, z3, xB_ret, z4, xB_ret, k4, z5, xB_ret]
  rw [z6, xB_ret, z7, xB_ret] at start
  refine ⟨bF, b, Rs, _, _, B0, V0, rfl, rfl, ?_⟩
  rcases R7 with ⟨hv, Ro⟩ | ⟨hv, hn, Ro, wz, hl⟩
  · refine Or.inl ⟨m7, by rw [start, if_pos hv], isRoom_cg leS Ro, fun a h1 h2 h3 h4 h5 h6 h7 h8 h9 => by rw [f7 a h6]; exact g5 a h1 h2 h3 h4 h5 h7 h8 h9, tpz_fr (tst_tpz t5) (f7 518 (by omega)) (f7 517 (by omega)), pg, rs_fr rs5 (f7 530 (by omega))⟩
  · rw [if_neg hv] at start
    generalize hnb : (8 + (bF + rsum b (xR m 536 40).toNat) + 4095) / 4096 = nb at *
    subst hn
    have Ro' := isRoom_cg leS Ro
    have hB2 := h.bd.2
    have pb : 2 ≤ v ∧ v + n ≤ B := by
      rcases Ro with ⟨q, _⟩ | ⟨q, _⟩
      · exact absurd q hv
      · exact q
    have c508 : m7 508 = m 508 := by rw [f7 508 (by omega), e508]
    have c0 : m7 0 = m 0 := by rw [f7 0 (by omega)]; exact g5 0 (by omega) (by omega) (by omega) (by omega) (by omega) (by omega) (by omega) (by omega)
    have q14 : xR (xw_u m7 0 16 (xR m7 0 16 + 1)) 508 14 = xR m 536 52 := by rw [xR_ne (by omega), xR_cg c508]; exact r.ex
    unfold yf216 at start
    rw [xB_ret, q14, show min (xR m 536 52) 1 = 1 by omega] at start
    generalize hm9 : xw_u (xw_u m7 0 16 (xR m7 0 16 + 1)) 508 14 1 = m9 at *
    have k9 : ∀ a, a ≠ 0 → a ≠ 508 → m9 a = m7 a := fun a h1 h2 => by rw [← hm9, xu_c h2, xu_c h1]
    have k90 : ∀ k, k ≠ 16 → m9 0 k = m 0 k := fun k hk => by rw [← hm9, xu_ne (by omega), xu_ne (by omega), c0]
    have k916 : xR m9 0 16 = xR m 0 16 + 1 := by rw [← hm9, xR_ne (by omega), xR_cg c0, xR_at (w32_id (by rw [ch.1]; omega) (by rw [ch.1]; omega))]
    have k9f : ∀ k, k ≠ 14 → m9 508 k = m 508 k := fun k hk => by rw [← hm9, xu_ne (by omega), xu_ne (by omega), c508]
    obtain ⟨m8, z8, a1, a2, a3, a4, a5, a6, a7⟩ := add_ext (B := B) (m := m9) (kd := 4) (st := v) (ln := n) (E := 1) (by rw [← hm9]; exact xR_at (by decide)) (by omega) (by omega)
    rw [z8, xB_ret] at start
    have b11 : xR m8 508 11 = xR m 536 40 := by rw [xR_fld (a2 11 (by omega)), xR_fld (k9f 11 (by omega))]; exact r.vi
    have l1 : xw_le B 511 = 16 := le_B B (by omega) (by omega) (by omega)
    have l2 : xw_le B 419 = 16 := le_B B (by omega) (by omega) (by omega)
    obtain ⟨mL, zL, t1, t2, t3, t4⟩ := take_views (B := B) (m := m8) (a := 511) (r := 419) (n := xR m 536 40) tn.1 tn.2 (by decide) (by decide) (by omega) (by omega) (by omega) (by omega) (by omega) (by omega) (by omega)
    rw [b11, zL, xB_ret, w32_id (show -2147483648 ≤ n + 1 by omega) (by omega)] at start
    have P := P5 wz
    have L8 : ∀ a, a ≠ 0 → a ≠ 508 → (a < 511 ∨ 515 < a) → mL a = m7 a := fun a h1 h2 h3 => by rw [t1 a h2 (by omega) (by omega), a1 a h2 (by omega) (by omega) (by omega), k9 a h1 h2]
    have L517 : mL 517 = m5 517 := by rw [L8 517 (by omega) (by omega) (by omega), f7 517 (by omega)]
    have L518 : mL 518 = m5 518 := by rw [L8 518 (by omega) (by omega) (by omega), f7 518 (by omega)]
    have L530 : mL 530 = m5 530 := by rw [L8 530 (by omega) (by omega) (by omega), f7 530 (by omega)]
    refine Or.inr ⟨v, mL, 64 + 8 * bF, hv, Ro', ?_, start⟩
    unfold stm
    rw [L517]
    have le0 := r.le 0 (Int.le_refl _) (by omega)
    refine ⟨fps_m rsg hD hM (Int.le_refl _) fb.1 (Int.le_refl _) P.2.1, vps_m rsg hD hM (Int.le_refl _) (Int.le_refl _) P.2.2, by omega, fun a h0 h1 h2 h3 h4 h5 h6 h7 h8 h9 h10 => by rw [L8 a h0 h6 (by omega), f7 a (by omega)]; exact g5 a h1 h2 h3 h4 h5 h8 h9 h10, tpz_fr (tst_tpz t5) L518 L517, ⟨pg, rs_fr rs5 L530⟩, fun k hk => ?_, ?_, fun k k1 k2 => ?_, t3, ?_, fun i i0 i1 => ?_, ?_, ?_, ?_, ?_⟩
    · rw [t1 0 (by omega) (by omega) (by omega), a1 0 (by omega) (by omega) (by omega) (by omega)]; exact k90 k hk
    · rw [xR_cg (t1 0 (by omega) (by omega) (by omega)), xR_cg (a1 0 (by omega) (by omega) (by omega) (by omega))]; exact k916
    · rw [t2 k k1, a2 k k2]; exact k9f k k2
    · rw [xR_fld (t2 14 (by omega)), a3]; rfl
    · obtain ⟨q1, q2⟩ := t4 i i0 i1
      rw [q1, q2, xR_cg (a1 511 (by omega) (by omega) (by omega) (by omega)), xR_cg (a1 419 (by omega) (by omega) (by omega) (by omega)), xR_cg (k9 511 (by omega) (by omega)), xR_cg (k9 419 (by omega) (by omega)), xR_cg (f7 511 (by omega)), xR_cg (f7 419 (by omega)), P.1 i i0 i1, xR_cg (g5 511 (by omega) (by omega) (by omega) (by omega) (by omega) (by omega) (by omega) (by omega))]
      exact ⟨(r.vw i i0 i1).1, rfl⟩
    · rw [xR_cg (t1 513 (by omega) (by omega) (by omega)), xR_cg (t1 514 (by omega) (by omega) (by omega)), xR_cg (t1 515 (by omega) (by omega) (by omega))]
      have q := a4 0 (by omega)
      rw [q.1, q.2.1, q.2.2, xR_cg (k9 513 (by omega) (by omega)), xR_cg (k9 514 (by omega) (by omega)), xR_cg (k9 515 (by omega) (by omega)), xR_cg (f7 513 (by omega)), xR_cg (f7 514 (by omega)), xR_cg (f7 515 (by omega)), xR_cg (g5 513 (by omega) (by omega) (by omega) (by omega) (by omega) (by omega) (by omega) (by omega)), xR_cg e514, xR_cg e515]
      exact le0
    · rw [xR_cg (t1 513 (by omega) (by omega) (by omega)), a5]; decide
    · rw [xR_cg (t1 514 (by omega) (by omega) (by omega)), a6]; exact w32_id (by omega) (by omega)
    · rw [xR_cg (t1 515 (by omega) (by omega) (by omega)), a7]; exact w32_id (by omega) (by omega)
/-- the disk behind a settling -/
theorem dsk_settle {m2 : xw_M} {pl nb q1 q2 : Int} {fw Rs : Int → Int} (F : dsk B m D M tu K Rf Rv) (tu1 : tu < 1000000000) (f0 : 0 ≤ xR m 536 31) (hr : rsm m m2 (xR m 536 31)) (hc : ∀ a, a = 540 ∨ a = 542 ∨ a = 543 ∨ a = 574 ∨ a = 579 → m2 a = m a) (hf : ∀ k, k = 14 ∨ k = 19 ∨ k = 31 ∨ k = 38 ∨ k = 40 → m2 536 k = m 536 k) (h52 : xR m2 536 52 = 2) (l0 : xR m2 586 0 = xR m 586 0 ∧ xR m2 587 0 = xR m 587 0 ∧ xR m2 588 0 = xR m 588 0) (l1 : xR m2 586 1 = 1 ∧ xR m2 587 1 = pl ∧ xR m2 588 1 = nb) (h580 : ∀ i, 0 ≤ i → i < xR m 536 40 → xR m2 580 i = Rs i) (C : cmt (m 516) (m2 516) fw pl nb tu) (Mn : Man (m2 516) ((tu + 1) % 2 * 32768) (tu + 1) (xR m2 536 38) (xR m2 536 31) (xR m2 536 40) 2 (xR m2 579) (xR m2 580) (fun e => if e = 0 then 1 else 4) (xR m2 587) (xR m2 588)) (ro : isRoom (xR m 587) (xR m 588) (xR m 536 52) B nb pl) (pl2 : 2 ≤ pl ∧ pl + nb ≤ B) (nb1 : 1 ≤ nb) (hF : fps fw m D M 0 (xR m 536 31) 64 q1) (hV : vps fw m D M 0 (xR m 536 31) (xR m 536 40) (xR m 579) Rs q1 q2) (hl : q2 ≤ nb * 32768) : dsk B m2 D M (tu + 1) (fun e => if e = 0 then 1 else 4) (fun _ => xR m 536 31) (fun _ => Rs) := by
  have hD : 0 ≤ D ∧ D ≤ 8 := by obtain ⟨w, w1, _⟩ := F.cat; exact w1.cn.1
  have hM : 0 ≤ M ∧ M ≤ 8 := by obtain ⟨w, w1, _⟩ := F.cat; exact w1.cn.2.1
  have E0 := F.ex.1
  have E1 := F.e1
  have m0 := F.nm.1
  have hv : pl ≠ -1 := by omega
  have k40 : xR m2 536 40 = xR m 536 40 := xR_fld (hf 40 (by omega))
  have k31 : xR m2 536 31 = xR m 536 31 := xR_fld (hf 31 (by omega))
  have x0 := F.ex.2.1 0 (Int.le_refl _) (by omega)
  have ln0 := F.ln 0 (Int.le_refl _) (by omega)
  have kd0 := F.kd 0 (Int.le_refl _) (by omega)
  have old : ∀ x, xR m 587 0 * 32768 ≤ x → x < (xR m 587 0 + xR m 588 0) * 32768 → bW (m2 516) x = bW (m 516) x := fun x x0' x1 => C.2 x (by omega) (old_ext F.ex ro hv (Int.le_refl _) (by omega) x0' x1) (by omega)
  have dis : xR m 587 0 + xR m 588 0 ≤ pl ∨ pl + nb ≤ xR m 587 0 := by
    rcases ro with ⟨q, _⟩ | ⟨_, c, _⟩
    · exact absurd q hv
    · by_cases hh : xR m 587 0 + xR m 588 0 ≤ pl ∨ pl + nb ≤ xR m 587 0
      · exact hh
      · exact absurd ⟨by omega, by omega⟩ (c (max (xR m 587 0) pl) (by omega) (by omega) 0 (Int.le_refl _) (by omega))
  have c1 : cfx (fun e => if e = 0 then 1 else 4) (fun _ => xR m 536 31) 1 = 0 := by
    show (0 : Int) + (if hfx (fun e => if e = 0 then 1 else 4) ((0 : Nat) : Int) = true then _ else 0) = 0
    rw [if_neg (by decide)]; rfl
  have c2 : cfx (fun e => if e = 0 then 1 else 4) (fun _ => xR m 536 31) 2 = xR m 536 31 := by
    show cfx (fun e => if e = 0 then 1 else 4) (fun _ => xR m 536 31) 1 + (if hfx (fun e => if e = 0 then 1 else 4) ((1 : Nat) : Int) = true then _ else 0) = _
    rw [c1, if_pos (by decide)]; exact Int.zero_add _
  have e01 : ∀ e : Int, 0 ≤ e → e < 2 → e = 0 ∨ e = 1 := fun e a b => by omega
  unfold dsk
  rw [h52]
  refine ⟨nman_cmt C (Or.inl pl2.1) (by omega) (by omega) tu1 F.nm.2.2.1 Mn, Mn, ⟨by omega, fun e e0 e1 => ?_, fun e e' e0 e1 e0' e1' hn => ?_⟩, by omega, fun e e0 e1 => ?_, fun e e' e0 e1 e0' e1' h3 h3' => ?_, by rw [k40]; exact F.tn, ?_, ⟨F.dm.1, F.dm.2.1, by rw [xR_cg hr.2.1]; exact F.dm.2.2⟩, cat_keep F ⟨hr.1, hr.2.1⟩ (fun a ha => hc a (by omega)) (fun k hk => hf k (by omega)) ⟨l0.2.1, l0.2.2⟩ old, rrk_m hr.1 hr.2.1 (hc 540 (by omega)) hr.2.2.1 (hc 574 (by omega)) F.rk, fun e => f0, by rw [k31]; exact c2, fun e e0 e1 => ?_, fun i i0 i1 => ?_, fun x d x0 x1 d0 d1 => ?_, fun e e0 e1 => ?_⟩
  · rcases e01 e e0 e1 with rfl | rfl
    · rw [l0.2.1, l0.2.2]; exact x0
    · rw [l1.2.1, l1.2.2]; omega
  · rcases e01 e e0 e1 with rfl | rfl
    · rcases e01 e' e0' e1' with rfl | rfl
      · omega
      · rw [l0.2.1, l0.2.2, l1.2.1, l1.2.2]; exact dis
    · rcases e01 e' e0' e1' with rfl | rfl
      · rw [l0.2.1, l0.2.2, l1.2.1, l1.2.2]; omega
      · omega
  · rcases e01 e e0 e1 with rfl | rfl
    · exact Or.inl ⟨by rw [l0.1]; omega, rfl, rfl⟩
    · exact Or.inr (Or.inl ⟨l1.1, Or.inr rfl, by decide⟩)
  · rcases e01 e e0 e1 with rfl | rfl
    · exact absurd h3 (by decide)
    · exact absurd h3 (by decide)
  · rw [k40, xR_cg (hc 579 (by omega))]; exact F.vn
  · have ee : e = 1 := by omega
    subst ee
    rw [l1.2.1, l1.2.2, k40, xR_cg (hc 579 (by omega)), show (1 : Int).toNat = 1 from rfl, c1]
    show xtn (m2 516) m2 D M 4 pl nb 0 (xR m 536 31) _ _ Rs _
    exact xtn_m hr hD hM (Int.le_refl _) f0 (fun _ => by omega) f0 (Or.inr (Or.inl rfl)) (xtn_new (W := m 516) hD hM C F.tn.1 (Or.inr (Or.inl rfl)) (fun _ => hF) (fun h => absurd (Or.inr rfl) h) (by rw [if_neg (by decide), if_neg (by decide)]; exact hV) hl)
  · rw [k40] at i1
    rw [h580 i i0 i1, show (2 : Int).toNat = 2 from rfl]
    show Rs i = (if (4 : Int) = 3 then 0 else (if (1 : Int) = 3 then 0 else 0) + (if (1 : Int) = 1 then 0 else Rs i)) + (if (4 : Int) = 1 then 0 else Rs i)
    rw [if_neg (by decide), if_neg (by decide), if_pos rfl, if_neg (by decide)]
    omega
  · rw [k31] at x1
    rw [xR_cg hr.2.1, rsm_R hr (by omega) (by omega)]; exact F.pl x d x0 x1 d0 d1
  · rcases e01 e e0 e1 with rfl | rfl
    · rw [l0.2.2]; exact ln0
    · rw [l1.2.2]; exact nb1
end STC
