/-! LOAD, by the class -/
section LDC
variable {B : Nat} {m : xw_M} {c D M tu : Int} {K Rf : Int → Int} {Rv : Int → Int → Int}
/-- viewRows += partRows -/
theorem add512 {x1 x2 k : Int} (h11 : xR m 508 11 = k) (hk : 0 ≤ k ∧ k ≤ 16) {Q : Int → xw_M → Prop} {X : Nat → xw_M → Prop} (fin : ∀ m', (∀ a, a ≠ 512 → m' a = m a) → (∀ i, 0 ≤ i → i < k → xR m' 512 i = w32 (xR m 512 i + xR m 419 i)) → xH (xB (yf160 B x2 x1 (xw_u m' 373 5 0)) fun v1 m1 => if v1 = 0 then (xB (yf163 B m1) fun v2 m2 => some (.inl v2, m2)) else (some (.inl (xR m1 508 9), m1))) Q X) : xH (xl3 (yl178_154 B) 1000000 x1 x2 0 m) Q X := by
  have gen : ∀ N : Nat, 100 < N → xH (xl3 (yl178_154 B) N x1 x2 0 m) Q X := by
    intro N hN
    refine xl3_rule (F := yl178_154 B) (fun y1 y2 x3 m' => y1 = x1 ∧ y2 = x2 ∧ (0 ≤ x3 ∧ x3 ≤ k) ∧ (∀ a, a ≠ 512 → m' a = m a) ∧ (∀ i, 0 ≤ i → i < x3 → xR m' 512 i = w32 (xR m 512 i + xR m 419 i)) ∧ ∀ i, x3 ≤ i → m' 512 i = m 512 i) (fun _ _ x3 _ => (k - x3).toNat) ?_ N x1 x2 0 m ⟨rfl, rfl, ⟨Int.le_refl _, hk.1⟩, fun _ _ => rfl, fun i i0 i1 => absurd i1 (Int.not_lt.mpr i0), fun _ _ => rfl⟩ (by omega)
    intro r y1 y2 x3 m' ⟨e1, e2, hx, f1, f2, f3⟩ ih
    subst e1 e2
    unfold yl178_154
    rw [xR_cg (f1 508 (by omega)), h11]
    by_cases h : x3 < k
    · rw [if_pos h, if_pos ⟨hx.1, by omega⟩, w32_id (by omega) (by omega)]
      refine ih _ _ _ _ ⟨rfl, rfl, ⟨by omega, by omega⟩, fun a ha => by rw [xu_c ha]; exact f1 a ha, fun i i0 i1 => ?_, fun i hi => by rw [xu_ne (by omega)]; exact f3 i (by omega)⟩ (by omega)
      rw [xR_u]
      by_cases ei : i = x3
      · rw [if_pos ⟨rfl, ei⟩, ei, xR_fld (f3 x3 (Int.le_refl _)), xR_cg (f1 419 (by omega))]
      · rw [if_neg (by omega)]; exact f2 i i0 (by omega)
    · rw [if_neg h]
      have ex : x3 = k := by omega
      subst ex
      exact fin m' f1 f2
  exact gen 1000000 (by decide)
/-- the class's memory before a load's commit of nb blocks at pl -/
def ldm (B : Nat) (m mL : xw_M) (D M Wt nb pl q1 : Int) (K Rs : Int → Int) : Prop := fps (mL 517) m D M (xR m 536 31) (xR m 536 32) 64 q1 ∧ vps (mL 517) m D M (xR m 536 31) (xR m 536 32) (xR m 536 40) (xR m 579) Rs q1 (64 + 8 * Wt) ∧ 64 + 8 * Wt ≤ nb * 32768 ∧ (∀ a, (a < 302 ∨ 336 < a) → a ≠ 371 → a ≠ 372 → (a < 517 ∨ 523 < a) → a ≠ 373 → a ≠ 374 → a ≠ 393 → a ≠ 394 → a ≠ 419 → a ≠ 508 → a ≠ 510 → (a < 512 ∨ 515 < a) → mL a = m a) ∧ tpz 518 517 (B * 512 : Nat) mL ∧ xR mL 373 5 = 0 ∧ (∀ k, k ≠ 9 → k ≠ 10 → k ≠ 14 → mL 508 k = m 508 k) ∧ xR mL 508 9 = xR m 536 38 + 1 ∧ xR mL 508 10 = xR m 536 31 + xR m 536 32 ∧ xR mL 508 14 = xR m 536 52 + 1 ∧ (∀ i, 0 ≤ i → i < xR m 536 40 → xR mL 512 i = xR m 580 i + Rs i) ∧ (∀ e, 0 ≤ e → e < xR m 536 52 → xR mL 513 e = K e ∧ xR mL 514 e = xR m 587 e ∧ xR mL 515 e = xR m 588 e) ∧ (xR mL 513 (xR m 536 52) = 2 ∧ xR mL 514 (xR m 536 52) = pl ∧ xR mL 515 (xR m 536 52) = nb)
theorem load_c (h : Inw B c m) (ho : xR m 536 2 = 1 ∧ xR m 536 3 = 0) (F : dsk B m D M tu K Rf Rv) (r : ram m D M tu K) (b1 : 1 ≤ xR m 536 32) (hE : xR m 536 52 < 200) (hc : c < 600) : ∃ (bF : Int) (b Rs : Int → Int) (Wt nb : Int), fbt m D M (xR m 536 31) (xR m 536 32) bF ∧ (∀ i, 0 ≤ i → i < xR m 536 40 → vbt m D M (xR m 579 i) (xR m 536 31) (xR m 536 32) (Rs i) (b i)) ∧ Wt = bF + rsum b (xR m 536 40).toNat ∧ nb = (8 + Wt + 4095) / 4096 ∧ ((∃ m7, yf178 B m = some (.inl (-2), m7) ∧ isRoom (xR m 587) (xR m 588) (xR m 536 52) B nb (-1) ∧ (∀ a, (a < 302 ∨ 336 < a) → a ≠ 371 → a ≠ 372 → (a < 517 ∨ 523 < a) → a ≠ 374 → a ≠ 393 → a ≠ 394 → a ≠ 419 → a ≠ 510 → m7 a = m a) ∧ tpz 518 517 (B * 512 : Nat) m7) ∨ (∃ pl, pl ≠ -1 ∧ isRoom (xR m 587) (xR m 588) (xR m 536 52) B nb pl ∧ ∀ (Q : Int → xw_M → Prop) (X : Nat → xw_M → Prop), (∀ mL q1, ldm B m mL D M Wt nb pl q1 K Rs → xH (xB (yf160 B pl nb mL) fun v1 m1 => if v1 = 0 then (xB (yf163 B m1) fun v2 m2 => some (.inl v2, m2)) else (some (.inl (xR m1 508 9), m1))) Q X) → xH (yf178 B m) Q X)) := by
  have fb := h.cn.fb
  have ba := h.cn.ba
  have sg := h.cn.sg
  have lo := h.cn.lo
  have hD := r.cg.cn.1
  have hM := r.cg.cn.2.1
  have E0 := F.ex.1
  have c2 := cat2_of r.cg r.vl r.ar F.rk
  have mem : ∀ d, 0 ≤ d → d < D → xR m 539 d = xR m (15 + 26 * d) 11 := fun d d0 d1 => (r.cg.sz d d0 d1).2.2.1
  obtain ⟨m3, m4, m5, bF, b, Rs, z3, z4, k4, z5, f5, B5, V5, t5, P5⟩ := wr_both (B := B) (m := m) (r := 373) (cap := 8192) (n := xR m 536 32) (f := xR m 536 31) (k := xR m 536 40) (kd := 2) (note := w32 (xR m 536 40 + 1)) (tu := tu) (π := fun x => x) (vs := xR m 579) h.bd.2 (by have := h.bd; omega) (Or.inl ⟨rfl, rfl, rfl⟩) h.tp.2.2.1 r.tu c2 ⟨ba.2.1, ba.2.2⟩ ⟨fb.1, by omega⟩ ba.1 (fun d i d0 d1 i0 i1 => by
      have := ((r.bt i i0 i1).1 d d0 d1).2
      rw [mem d d0 d1] at this
      exact this) ⟨⟨fun i i0 i1 => ⟨i0, i1⟩, fun i j _ _ _ _ e => e⟩, fun x x0 x1 => ⟨fun d d0 d1 => ((r.bt x x0 x1).1 d d0 d1).1, (r.bt x x0 x1).2⟩⟩ (fun x y _ xy _ _ => xy) F.tn.1 F.tn.2 r.vi (fun i i0 i1 => ⟨(r.vw i i0 i1).1, F.vn i i0 i1⟩)
  have bF0 := fbt_b hD hM (by omega) B5
  have vb := fun i i0 i1 => vbt_b hD hM (show xR m 536 32 ≤ 20000 by omega) (V5 i i0 i1)
  have rb := rsum_b (b := b) (lo := 4) (hi := 7000000) (xR m 536 40).toNat (fun i i0 i1 => by have := vb i i0 (by omega); omega)
  have tn := F.tn
  have g5 : ∀ a, (a < 302 ∨ 336 < a) → a ≠ 371 → a ≠ 372 → (a < 517 ∨ 523 < a) → a ≠ 374 → a ≠ 393 → a ≠ 394 → a ≠ 419 → m5 a = m a := fun a h1 h2 h3 h4 h5 h6 h7 h8 => f5 a h1 h2 h3 h4 (by omega) (by omega) (by omega) h8
  have e508 : m5 508 = m 508 := g5 508 (by omega) (by omega) (by omega) (by omega) (by omega) (by omega) (by omega) (by omega)
  have e514 : m5 514 = m 514 := g5 514 (by omega) (by omega) (by omega) (by omega) (by omega) (by omega) (by omega) (by omega)
  have e515 : m5 515 = m 515 := g5 515 (by omega) (by omega) (by omega) (by omega) (by omega) (by omega) (by omega) (by omega)
  obtain ⟨n, m7, v, z6, z7, f7, R7⟩ := room_tst (B := B) (m := m5) (Wt := bF + rsum b (xR m 536 40).toNat) (E := xR m 536 52) h.bd.2 t5 (by omega) (by omega) (by rw [xR_cg e508]; exact r.ex) (by rw [xR_cg e508]; exact h.tp.1) (by rw [xR_cg e514, xR_cg e515]; exact exts_cg F.ex (fun e e0 e1 => (r.le e e0 e1).2))
  have leS : ∀ e, 0 ≤ e → e < xR m 536 52 → xR m 587 e = xR m5 514 e ∧ xR m 588 e = xR m5 515 e := fun e e0 e1 => by
    rw [xR_cg e514, xR_cg e515]
    exact ⟨(r.le e e0 e1).2.1.symm, (r.le e e0 e1).2.2.symm⟩
  have start : yf178 B m = xB (yf156 B m5) fun v13 m13 => xB (yf157 B v13 m13) fun v14 m14 => if v14 = (-1) then (some (.inl (-2), m14)) else (xB (yf159 B 2 v14 v13 m14) fun _ m15 => xl3 (yl178_154 B) 1000000 v13 v14 0 (xw_u (xw_u m15 508 9 ((xR m15 508 9) + 1)) 508 10 ((xR m15 508 10) + (xR m15 373 5)))) := by
    unfold yf178
    rw [fopen ((op14 h).mpr ho), xB_ret, ba.1, if_neg (by omega)]
    show xB (some (.inl 0, m)) _ = _
    rw [xB_ret, r.ex, if_pos hE, r.vi, z3, xB_ret, z4, xB_ret, k4, z5, xB_ret]
  rw [z6, xB_ret, z7, xB_ret] at start
  refine ⟨bF, b, Rs, _, _, B5, V5, rfl, rfl, ?_⟩
  rcases R7 with ⟨hv, Ro⟩ | ⟨hv, hn, Ro, wz, hl⟩
  · refine Or.inl ⟨m7, by rw [start, if_pos hv], isRoom_cg leS Ro, fun a h1 h2 h3 h4 h5 h6 h7 h8 h9 => by rw [f7 a h9]; exact g5 a h1 h2 h3 h4 h5 h6 h7 h8, tpz_fr (tst_tpz t5) (f7 518 (by omega)) (f7 517 (by omega))⟩
  · rw [if_neg hv] at start
    generalize hnb : (8 + (bF + rsum b (xR m 536 40).toNat) + 4095) / 4096 = nb at *
    subst hn
    have Ro' := isRoom_cg leS Ro
    have pb : 2 ≤ v ∧ v + n ≤ B := by
      rcases Ro with ⟨q, _⟩ | ⟨q, _⟩
      · exact absurd q hv
      · exact q
    have c508 : m7 508 = m 508 := by rw [f7 508 (by omega), e508]
    obtain ⟨m8, z8, a1, a2, a3, a4, a5, a6, a7⟩ := add_ext (B := B) (m := m7) (kd := 2) (st := v) (ln := n) (E := xR m 536 52) (by rw [xR_cg c508]; exact r.ex) (by omega) hE
    rw [z8, xB_ret] at start
    have b9 : xR m8 508 9 = xR m 536 38 := by rw [xR_fld (a2 9 (by omega)), xR_cg c508]; exact r.lo
    have b10 : xR m8 508 10 = xR m 536 31 := by rw [xR_fld (a2 10 (by omega)), xR_cg c508]; exact r.fa
    have b5 : xR m8 373 5 = xR m 536 32 := by rw [xR_cg (a1 373 (by omega) (by omega) (by omega) (by omega)), xR_cg (f7 373 (by omega)), xR_cg (g5 373 (by omega) (by omega) (by omega) (by omega) (by omega) (by omega) (by omega) (by omega))]; exact ba.1
    rw [b9, b10, b5] at start
    generalize hm9 : xw_u (xw_u m8 508 9 (xR m 536 38 + 1)) 508 10 (xR m 536 31 + xR m 536 32) = m9 at *
    have k9 : ∀ a, a ≠ 508 → m9 a = m8 a := fun a ha => by rw [← hm9, xu_c ha, xu_c ha]
    have k9f : ∀ k, k ≠ 9 → k ≠ 10 → m9 508 k = m8 508 k := fun k h1 h2 => by rw [← hm9, xu_ne (by omega), xu_ne (by omega)]
    have P := P5 wz
    have c9 : ∀ a, (a < 302 ∨ 336 < a) → a ≠ 371 → a ≠ 372 → (a < 517 ∨ 523 < a) → a ≠ 374 → a ≠ 393 → a ≠ 394 → a ≠ 419 → a ≠ 508 → a ≠ 510 → a ≠ 513 → a ≠ 514 → a ≠ 515 → m9 a = m a := fun a h1 h2 h3 h4 h5 h6 h7 h8 h9 h10 h11 h12 h13 => by
      rw [k9 a h9, a1 a h9 h11 h12 h13, f7 a h10, g5 a h1 h2 h3 h4 h5 h6 h7 h8]
    have w517 : m9 517 = m5 517 := by rw [k9 517 (by omega), a1 517 (by omega) (by omega) (by omega) (by omega), f7 517 (by omega)]
    have w518 : m9 518 = m5 518 := by rw [k9 518 (by omega), a1 518 (by omega) (by omega) (by omega) (by omega), f7 518 (by omega)]
    refine Or.inr ⟨v, hv, Ro', fun Q X hq => ?_⟩
    rw [start]
    have e11 : xR m9 508 11 = xR m 536 40 := by rw [xR_fld (k9f 11 (by omega) (by omega)), xR_fld (a2 11 (by omega)), xR_cg c508]; exact r.vi
    refine add512 e11 tn (fun m10 f10 v10 => hq (xw_u m10 373 5 0) (64 + 8 * bF) ?_)
    have kL : ∀ a, a ≠ 373 → a ≠ 512 → xw_u m10 373 5 0 a = m9 a := fun a h1 h2 => by rw [xu_c h1, f10 a h2]
    have L517 : xw_u m10 373 5 0 517 = m5 517 := by rw [kL 517 (by omega) (by omega), w517]
    have L518 : xw_u m10 373 5 0 518 = m5 518 := by rw [kL 518 (by omega) (by omega), w518]
    have L508 : ∀ k, k ≠ 9 → k ≠ 10 → k ≠ 14 → xw_u m10 373 5 0 508 k = m 508 k := fun k h1 h2 h3 => by rw [kL 508 (by omega) (by omega), k9f k h1 h2, a2 k h3, c508]
    unfold ldm
    rw [L517]
    refine ⟨P.2.1, P.2.2, by omega, fun a h1 h2 h3 h4 h5 h6 h7 h8 h9 h10 h11 h12 => by rw [kL a h5 (by omega)]; exact c9 a h1 h2 h3 h4 h6 h7 h8 h9 h10 h11 (by omega) (by omega) (by omega), tpz_fr (tst_tpz t5) L518 L517, xR_at (by decide), L508, ?_, ?_, ?_, fun i i0 i1 => ?_, fun e e0 e1 => ?_, ?_⟩
    · rw [xR_cg (kL 508 (by omega) (by omega)), ← hm9, xR_ne (by omega), xR_at (w32_id (by omega) (by omega))]
    · rw [xR_cg (kL 508 (by omega) (by omega)), ← hm9, xR_at (w32_id (by omega) (by omega))]
    · rw [xR_cg (kL 508 (by omega) (by omega)), xR_fld (k9f 14 (by omega) (by omega)), a3]
    · have rbd := rws_b F i0 i1
      have Rb := vb i i0 i1
      rw [xR_cg (xu_c (by omega)), v10 i i0 i1, xR_cg (c9 512 (by omega) (by omega) (by omega) (by omega) (by omega) (by omega) (by omega) (by omega) (by omega) (by omega) (by omega) (by omega) (by omega)), (r.vw i i0 i1).2, xR_cg (k9 419 (by omega)), xR_cg (a1 419 (by omega) (by omega) (by omega) (by omega)), xR_cg (f7 419 (by omega)), P.1 i i0 i1]
      exact w32_id (by omega) (by omega)
    · rw [xR_cg (kL 513 (by omega) (by omega)), xR_cg (kL 514 (by omega) (by omega)), xR_cg (kL 515 (by omega) (by omega)), xR_cg (k9 513 (by omega)), xR_cg (k9 514 (by omega)), xR_cg (k9 515 (by omega))]
      have q := a4 e (by omega)
      rw [q.1, q.2.1, q.2.2, xR_cg (f7 513 (by omega)), xR_cg (f7 514 (by omega)), xR_cg (f7 515 (by omega)), xR_cg (g5 513 (by omega) (by omega) (by omega) (by omega) (by omega) (by omega) (by omega) (by omega)), xR_cg e514, xR_cg e515]
      exact r.le e e0 e1
    · rw [xR_cg (kL 513 (by omega) (by omega)), xR_cg (kL 514 (by omega) (by omega)), xR_cg (kL 515 (by omega) (by omega)), xR_cg (k9 513 (by omega)), xR_cg (k9 514 (by omega)), xR_cg (k9 515 (by omega)), a5, a6, a7]
      have hB2 := h.bd.2
      exact ⟨by decide, w32_id (by omega) (by omega), w32_id (by omega) (by omega)⟩
end LDC
