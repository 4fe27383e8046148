/-! LOAD, by the reference -/
/-- what a load of the reference may change, before it forgets -/
def lrF (m m' : xw_M) : Prop := (∀ a, a ≠ 536 → a ≠ 580 → a ≠ 582 → (a < 586 ∨ 594 < a) → a ≠ 603 → m' a = m a) ∧ (∀ k, k ≠ 1 → k ≠ 3 → k ≠ 31 → k ≠ 32 → k ≠ 38 → k ≠ 50 → k ≠ 51 → k ≠ 52 → k ≠ 57 → k ≠ 58 → k ≠ 59 → k ≠ 60 → k ≠ 61 → m' 536 k = m 536 k) ∧ xR m' 536 1 = 0 ∧ ∃ s t, two s t ∧ m' 536 59 = s ∧ m' 536 60 = t
section LDR
variable {B : Nat} {m : xw_M} {D M n f k E lf wr : Int}
theorem two_u {m : xw_M} {j v : Int} (h : ∃ s t, two s t ∧ m 536 59 = s ∧ m 536 60 = t) (h1 : j ≠ 59) (h2 : j ≠ 60) : ∃ s t, two s t ∧ xw_u m 536 j v 536 59 = s ∧ xw_u m 536 j v 536 60 = t := by
  obtain ⟨s, t, a, b, c⟩ := h
  exact ⟨s, t, a, by rw [xu_ne (by omega)]; exact b, by rw [xu_ne (by omega)]; exact c⟩
theorem two_m {m m' : xw_M} (h : ∃ s t, two s t ∧ m 536 59 = s ∧ m 536 60 = t) (h1 : m' 536 59 = m 536 59) (h2 : m' 536 60 = m 536 60) : ∃ s t, two s t ∧ m' 536 59 = s ∧ m' 536 60 = t := by
  obtain ⟨s, t, a, b, c⟩ := h
  exact ⟨s, t, a, h1.trans b, h2.trans c⟩
/-- rowsOf += newRows -/
theorem add580 {x2 : Int} (h40 : xR m 536 40 = k) (hk : 0 ≤ k ∧ k ≤ 16) {Q : Int → xw_M → Prop} {X : Nat → xw_M → Prop} (fin : ∀ m', (∀ a, a ≠ 580 → m' a = m a) → (∀ i, 0 ≤ i → i < k → xR m' 580 i = w32 (xR m 580 i + xR m 582 i)) → xH (yk323_185 B x2 m') Q X) : xH (xl2 (yl323_156 B) 1000000 x2 0 m) Q X := by
  have gen : ∀ N : Nat, 100 < N → xH (xl2 (yl323_156 B) N x2 0 m) Q X := by
    intro N hN
    refine xl2_rule (F := yl323_156 B) (fun y2 x3 m' => y2 = x2 ∧ (0 ≤ x3 ∧ x3 ≤ k) ∧ (∀ a, a ≠ 580 → m' a = m a) ∧ (∀ i, 0 ≤ i → i < x3 → xR m' 580 i = w32 (xR m 580 i + xR m 582 i)) ∧ ∀ i, x3 ≤ i → m' 580 i = m 580 i) (fun _ x3 _ => (k - x3).toNat) ?_ N x2 0 m ⟨rfl, ⟨Int.le_refl _, hk.1⟩, fun _ _ => rfl, fun i i0 i1 => absurd i1 (Int.not_lt.mpr i0), fun _ _ => rfl⟩ (by omega)
    intro r y2 x3 m' ⟨e, hx, f1, f2, f3⟩ ih
    subst e
    unfold yl323_156
    rw [xR_cg (f1 536 (by omega)), h40]
    by_cases h : x3 < k
    · rw [if_pos h, if_pos ⟨hx.1, by omega⟩, w32_id (by omega) (by omega)]
      refine ih _ _ _ ⟨rfl, ⟨by omega, by omega⟩, fun a ha => by rw [xu_c ha]; exact f1 a ha, fun i i0 i1 => ?_, fun i hi => by rw [xu_ne (by omega)]; exact f3 i (by omega)⟩ (by omega)
      rw [xR_u]
      by_cases ei : i = x3
      · rw [if_pos ⟨rfl, ei⟩, ei, xR_fld (f3 x3 (Int.le_refl _)), xR_cg (f1 582 (by omega))]
      · rw [if_neg (by omega)]; exact f2 i i0 (by omega)
    · rw [if_neg h]
      have ex : x3 = k := by omega
      subst ex
      exact fin m' f1 f2
  exact gen 1000000 (by decide)
/-- the end of a call: the answer, or what is left when the power went -/
theorem end312 {a : Int} : (xR m 536 3 = 0 → yf312 B a m = some (.inl a, m)) ∧ (xR m 536 3 ≠ 0 → ∃ m', yf312 B a m = some (.inl a, m') ∧ fgR m m') := by
  refine ⟨fun h => ?_, fun h => ?_⟩
  · unfold yf312
    rw [if_pos h]
  · obtain ⟨m', e, R⟩ := forget_rf (B := B) (m := m)
    refine ⟨m', ?_, R⟩
    unfold yf312
    rw [if_neg h, e, xB_ret]
theorem load_rf (h : rca m D M f n) (n1 : 1 ≤ n) (ho : xR m 536 2 = 1 ∧ xR m 536 3 = 0) (h31 : xR m 536 31 = f) (h32 : xR m 536 32 = n) (h40 : xR m 536 40 = k) (hk : 0 ≤ k ∧ k ≤ 16) (hv : ∀ i, 0 ≤ i → i < k → 0 ≤ xR m 579 i) (h49 : xR m 536 49 = (B : Int)) (hB : B ≤ 512) (hE : xR m 536 52 = E) (hx : exts (xR m 587) (xR m 588) E B) (hlf : xR m 536 51 = lf) (lf1 : lf ≤ 1000) (lf0 : lf = -1 ∨ 1 ≤ lf) (hwr : xR m 536 50 = wr) (wr0 : 0 ≤ wr) (wr1 : wr < 1000000000) (hlo : 0 ≤ xR m 536 38 ∧ xR m 536 38 ≤ 600) : ∃ (bF : Int) (b Rs : Int → Int) (Wt nb : Int), fbt m D M f n bF ∧ (∀ i, 0 ≤ i → i < k → vbt m D M (xR m 579 i) f n (Rs i) (b i)) ∧ Wt = bF + rsum b k.toNat ∧ nb = (8 + Wt + 4095) / 4096 ∧ ((∃ mz, yf323 B m = some (.inl (-2), mz) ∧ full (xR m 587) (xR m 588) E B (fun _ => true) nb ∧ lrF m mz ∧ (∀ q, q = 3 ∨ q = 31 ∨ q = 32 ∨ q = 38 ∨ q = 50 ∨ q = 51 ∨ q = 52 → mz 536 q = m 536 q) ∧ (∀ a, a = 580 ∨ a = 586 ∨ a = 587 ∨ a = 588 → mz a = m a)) ∨ (∃ fi mz, ¬ full (xR m 587) (xR m 588) E B (fun _ => true) nb ∧ 2 ≤ fi ∧ isRoom (xR m 587) (xR m 588) E B nb fi ∧ E < 200 ∧ lrF m mz ∧ xR mz 536 32 = 0 ∧ ((((lf < 0 ∨ nb + 1 ≤ lf) ∧ xR mz 536 31 = f + n ∧ xR mz 536 38 = xR m 536 38 + 1 ∧ xR mz 536 50 = wr + nb + 1 ∧ xR mz 536 51 = (if lf < 0 then -1 else lf - (nb + 1)) ∧ xR mz 536 52 = E + 1 ∧ (∀ e, 0 ≤ e → e < E → xR mz 586 e = xR m 586 e ∧ xR mz 587 e = xR m 587 e ∧ xR mz 588 e = xR m 588 e) ∧ (xR mz 586 E = 1 ∧ xR mz 587 E = fi ∧ xR mz 588 E = nb) ∧ (∀ i, 0 ≤ i → i < k → xR mz 580 i = w32 (xR m 580 i + Rs i)) ∧ ((lf ≠ nb + 1 ∧ xR mz 536 3 = 0 ∧ yf323 B m = some (.inl (xR m 536 38 + 1), mz)) ∨ (lf = nb + 1 ∧ xR mz 536 3 = 1 ∧ ∃ m2, yf323 B m = some (.inl (-3), m2) ∧ fgR mz m2))) ∨ ((1 ≤ lf ∧ lf ≤ nb) ∧ xR mz 536 31 = f ∧ xR mz 536 38 = xR m 536 38 ∧ xR mz 536 50 = wr + lf ∧ xR mz 536 52 = E ∧ xR mz 536 3 = 1 ∧ (∀ a, a = 580 ∨ a = 586 ∨ a = 587 ∨ a = 588 → mz a = m a) ∧ ∃ m2, yf323 B m = some (.inl (-3), m2) ∧ fgR mz m2))))) := by
  have hD := h.1
  have hM := h.2.1
  have hn := h.2.2.2.2.2.1
  have E0 := hx.1
  have nw : w32 (f + n) = f + n := w32_id (by omega) (by omega)
  have h' : rca (xw_u m 536 1 0) D M f n := by
    obtain ⟨q1, q2, q3, q4, q5, q6, q7, q8⟩ := h
    exact ⟨q1, q2, by rw [xR_ne (by omega)]; exact q3, by rw [xR_ne (by omega)]; exact q4, by rw [xR_cg (xu_c (by omega))]; exact q5, q6, by rw [xR_cg (xu_c (by omega))]; exact q7, two_u q8 (by omega) (by omega)⟩
  obtain ⟨m1, bF, e1, p1, t1, F1⟩ := rwF (B := B) h'
  have rs1 : rsm (xw_u m 536 1 0) m (f + n) := ⟨by rw [xu_c (by omega)], by rw [xu_c (by omega)], by rw [xu_c (by omega)], fun i _ _ => ⟨by rw [xu_c (by omega)], by rw [xu_c (by omega)]⟩⟩
  have F0 := fbt_m rs1 hD hM hn.1 hn.2.1 (Int.le_refl _) F1
  have bF0 := fbt_b hD hM (by omega) F0
  have c1 : ∀ a, a ≠ 536 → a ≠ 603 → (a < 590 ∨ 594 < a) → m1 a = m a := fun a a1 a2 a3 => by rw [p1.1 a a1 a2 a3, xu_c a1]
  have d1 : ∀ q, q ≠ 1 → q ≠ 58 → q ≠ 59 → q ≠ 60 → q ≠ 61 → m1 536 q = m 536 q := fun q q0 q1 q2 q3 q4 => by rw [p1.2 q q1 q2 q3 q4, xu_ne (by omega)]
  have x1 : xR m1 536 1 = 0 := by rw [xR_fld (p1.2 1 (by omega) (by omega) (by omega) (by omega)), xR_at (by decide)]
  have rc1 : rca m1 D M f n := rca_pf h' p1 t1
  have rsm1 : rsm m1 m (f + n) := ⟨(c1 538 (by omega) (by omega) (by omega)).symm, (c1 539 (by omega) (by omega) (by omega)).symm, (c1 573 (by omega) (by omega) (by omega)).symm, fun i _ _ => ⟨by rw [c1 575 (by omega) (by omega) (by omega)], by rw [c1 576 (by omega) (by omega) (by omega)]⟩⟩
  have start : yf323 B m = xl2 (yl323_56 B) 1000000 (8 + bF) 0 m1 := by
    unfold yf323
    rw [isOpen_ok, xB_ret, isop ho, if_neg (by decide), h32, if_pos (by omega), h31, nw, e1, xB_ret, w32_id (by omega) (by omega)]
  have goal := xH_ex (Q := fun v m2 => ∃ (b Rs : Int → Int) (Wt nb : Int), (∀ i, 0 ≤ i → i < k → vbt m D M (xR m 579 i) f n (Rs i) (b i)) ∧ Wt = bF + rsum b k.toNat ∧ nb = (8 + Wt + 4095) / 4096 ∧ ((v = -2 ∧ full (xR m 587) (xR m 588) E B (fun _ => true) nb ∧ lrF m m2 ∧ (∀ q, q = 3 ∨ q = 31 ∨ q = 32 ∨ q = 38 ∨ q = 50 ∨ q = 51 ∨ q = 52 → m2 536 q = m 536 q) ∧ (∀ a, a = 580 ∨ a = 586 ∨ a = 587 ∨ a = 588 → m2 a = m a)) ∨ (∃ fi mz, ¬ full (xR m 587) (xR m 588) E B (fun _ => true) nb ∧ 2 ≤ fi ∧ isRoom (xR m 587) (xR m 588) E B nb fi ∧ E < 200 ∧ lrF m mz ∧ xR mz 536 32 = 0 ∧ ((((lf < 0 ∨ nb + 1 ≤ lf) ∧ xR mz 536 31 = f + n ∧ xR mz 536 38 = xR m 536 38 + 1 ∧ xR mz 536 50 = wr + nb + 1 ∧ xR mz 536 51 = (if lf < 0 then -1 else lf - (nb + 1)) ∧ xR mz 536 52 = E + 1 ∧ (∀ e, 0 ≤ e → e < E → xR mz 586 e = xR m 586 e ∧ xR mz 587 e = xR m 587 e ∧ xR mz 588 e = xR m 588 e) ∧ (xR mz 586 E = 1 ∧ xR mz 587 E = fi ∧ xR mz 588 E = nb) ∧ (∀ i, 0 ≤ i → i < k → xR mz 580 i = w32 (xR m 580 i + Rs i)) ∧ ((lf ≠ nb + 1 ∧ xR mz 536 3 = 0 ∧ v = xR m 536 38 + 1 ∧ m2 = mz) ∨ (lf = nb + 1 ∧ xR mz 536 3 = 1 ∧ v = -3 ∧ fgR mz m2))) ∨ ((1 ≤ lf ∧ lf ≤ nb) ∧ xR mz 536 31 = f ∧ xR mz 536 38 = xR m 536 38 ∧ xR mz 536 50 = wr + lf ∧ xR mz 536 52 = E ∧ xR mz 536 3 = 1 ∧ (∀ a, a = 580 ∨ a = 586 ∨ a = 587 ∨ a = 588 → mz a = m a) ∧ v = -3 ∧ fgR mz m2)))))) (lv323 (B := B) (m := m1) (w0 := 8 + bF) (k := k) rc1 (by rw [xR_fld (d1 31 (by omega) (by omega) (by omega) (by omega) (by omega))]; exact h31) (by rw [xR_fld (d1 32 (by omega) (by omega) (by omega) (by omega) (by omega))]; exact h32) (by rw [xR_fld (d1 40 (by omega) (by omega) (by omega) (by omega) (by omega))]; exact h40) hk (by rw [xR_cg (c1 579 (by omega) (by omega) (by omega))]; exact hv) (by omega) (by omega) (fun m3 x1' L => by
    obtain ⟨b, eb, p3, t3, V3⟩ := L
    have V0 : ∀ i, 0 ≤ i → i < k → vbt m D M (xR m 579 i) f n (xR m3 582 i) (b i) := fun i i0 i1 => by
      have q := vbt_m rsm1 hD hM hn.1 (Int.le_refl _) (V3 i i0 i1)
      rw [xR_cg (c1 579 (by omega) (by omega) (by omega))] at q
      exact q
    have rb := rsum_b (b := b) (lo := 4) (hi := 7000000) k.toNat (fun i i0 i1 => by have := vbt_b hD hM (by omega) (V0 i i0 (by omega)); omega)
    have c3 : ∀ a, a ≠ 536 → a ≠ 603 → a ≠ 582 → (a < 590 ∨ 594 < a) → m3 a = m a := fun a a1 a2 a3 a4 => by rw [p3.1 a a1 a2 a3 a4, c1 a a1 a2 a4]
    have d3 : ∀ q, q ≠ 1 → q ≠ 58 → q ≠ 59 → q ≠ 60 → q ≠ 61 → m3 536 q = m 536 q := fun q q0 q1 q2 q3 q4 => by rw [p3.2 q q1 q2 q3 q4, d1 q q0 q1 q2 q3 q4]
    have x3 : xR m3 536 1 = 0 := by rw [xR_fld (p3.2 1 (by omega) (by omega) (by omega) (by omega))]; exact x1
    obtain ⟨m4, w, e4, C4, R4⟩ := change_ok (B := B) (m := m3) (E := E) (kd := 1) (f := 0) (v := 0) (wg := x1') (b := B) (lf := lf) (wr := wr) (by rw [xR_fld (d3 49 (by omega) (by omega) (by omega) (by omega) (by omega))]; exact h49) (by omega) (by rw [xR_fld (d3 52 (by omega) (by omega) (by omega) (by omega) (by omega))]; exact hE) (by rw [xR_cg (c3 587 (by omega) (by omega) (by omega) (by omega)), xR_cg (c3 588 (by omega) (by omega) (by omega) (by omega))]; exact hx) (by rw [xR_fld (d3 51 (by omega) (by omega) (by omega) (by omega) (by omega))]; exact hlf) lf1 (by omega) (by rw [xR_fld (d3 50 (by omega) (by omega) (by omega) (by omega) (by omega))]; exact hwr) wr0 wr1 (by omega) (by omega) (by decide)
    have gt : (fun e => !gz 0 0 (xR m3 586 e)) = fun _ => true := by
      funext e
      unfold gz
      simp
    rw [gt, xR_cg (c3 587 (by omega) (by omega) (by omega) (by omega)), xR_cg (c3 588 (by omega) (by omega) (by omega) (by omega))] at R4
    rw [e4, xB_ret]
    refine id ?_
    have eW : (x1' + 4095) / 4096 = (8 + (bF + rsum b k.toNat) + 4095) / 4096 := by rw [eb]; congr 2; omega
    generalize hnb : (8 + (bF + rsum b k.toNat) + 4095) / 4096 = nb at *
    rw [eW] at R4
    have nb1 : 1 ≤ nb := by omega
    have nb2 : nb ≤ 1000000 := by omega
    have C4c : ∀ a, a ≠ 536 → a ≠ 603 → a ≠ 582 → (a < 586 ∨ 594 < a) → m4 a = m a := fun a a1 a2 a3 a4 => by rw [C4.1 a a1 (by omega) (by omega) (by omega) (by omega), c3 a a1 a2 a3 (by omega)]
    have C4f : ∀ q, q ≠ 1 → q ≠ 3 → q ≠ 50 → q ≠ 51 → q ≠ 52 → q ≠ 57 → q ≠ 58 → q ≠ 59 → q ≠ 60 → q ≠ 61 → m4 536 q = m 536 q := fun q q0 q1 q2 q3 q4 q5 q6 q7 q8 q9 => by rw [C4.2 q q1 q2 q3 q4 q5, d3 q q0 q6 q7 q8 q9]
    have x4 : xR m4 536 1 = 0 := by rw [xR_fld (C4.2 1 (by omega) (by omega) (by omega) (by omega) (by omega))]; exact x3
    have t4 : ∃ s t, two s t ∧ m4 536 59 = s ∧ m4 536 60 = t := two_m t3 (C4.2 59 (by omega) (by omega) (by omega) (by omega) (by omega)) (C4.2 60 (by omega) (by omega) (by omega) (by omega) (by omega))
    have L4 : lrF m m4 := ⟨fun a a1 a2 a3 a4 a5 => C4c a a1 a5 a3 a4, fun q q1 q3 q31 q32 q38 q50 q51 q52 q57 q58 q59 q60 q61 => C4f q q1 q3 q50 q51 q52 q57 q58 q59 q60 q61, x4, t4⟩
    rcases R4 with ⟨fl, rfl, y57, yf, y6, y7, y8⟩ | ⟨fi, hfi, ch⟩
    · rw [if_pos rfl, xH_ret]
      refine ⟨b, fun i => xR m3 582 i, _, nb, V0, rfl, hnb.symm, Or.inl ⟨rfl, fl, L4, fun q hq => by rw [yf q (by omega), d3 q (by omega) (by omega) (by omega) (by omega) (by omega)], fun a ha => ?_⟩⟩
      rcases ha with rfl | rfl | rfl | rfl
      · exact C4c 580 (by omega) (by omega) (by omega) (by omega)
      · rw [y6, c3 586 (by omega) (by omega) (by omega) (by omega)]
      · rw [y7, c3 587 (by omega) (by omega) (by omega) (by omega)]
      · rw [y8, c3 588 (by omega) (by omega) (by omega) (by omega)]
    · rcases hfi with ⟨hz, _⟩ | ⟨hc, hroom, h2⟩
      · omega
      · have E200 : E < 200 := by rw [cnt_true] at hc; omega
        have nf : ¬ full (xR m 587) (xR m 588) E B (fun _ => true) nb := by
          rintro ⟨_, hq | hq⟩
          · omega
          · have := isRoom_uniq hroom hq; omega
        rcases ch with ⟨hl, ew, y57, y50, y51, y3, led1, led2, led3⟩ | ⟨hl, ew, y57, y50, y51, y3, y52, y6, y7, y8⟩
        · have wn : ¬ w = -2 := by rw [ew]; split <;> omega
          rw [if_neg wn, if_neg (by omega)]
          -- the ledger
          have ct : ∀ j : Nat, cnt (fun _ => true) j = j := fun j => cnt_true j
          have f31 : xR m4 536 31 = f := by rw [xR_fld (C4f 31 (by omega) (by omega) (by omega) (by omega) (by omega) (by omega) (by omega) (by omega) (by omega) (by omega))]; exact h31
          have f32 : xR m4 536 32 = n := by rw [xR_fld (C4f 32 (by omega) (by omega) (by omega) (by omega) (by omega) (by omega) (by omega) (by omega) (by omega) (by omega))]; exact h32
          have f38 : xR m4 536 38 = xR m 536 38 := xR_fld (C4f 38 (by omega) (by omega) (by omega) (by omega) (by omega) (by omega) (by omega) (by omega) (by omega) (by omega))
          rw [f31, f32, f38]
          have D5f : ∀ q, q ≠ 31 → q ≠ 38 → xw_u (xw_u m4 536 31 (f + n)) 536 38 (xR m 536 38 + 1) 536 q = m4 536 q := fun q q1 q2 => by rw [xu_ne (by omega), xu_ne (by omega)]
          have D5c : ∀ a, a ≠ 536 → xw_u (xw_u m4 536 31 (f + n)) 536 38 (xR m 536 38 + 1) a = m4 a := fun a a1 => by rw [xu_c a1, xu_c a1]
          refine add580 (k := k) (by rw [xR_fld (D5f 40 (by omega) (by omega)), xR_fld (C4f 40 (by omega) (by omega) (by omega) (by omega) (by omega) (by omega) (by omega) (by omega) (by omega) (by omega))]; exact h40) hk (fun m5 f5 a5 => ?_)
          -- mz
          have mzf : ∀ q, q ≠ 31 → q ≠ 32 → q ≠ 38 → xw_u m5 536 32 0 536 q = m4 536 q := fun q q1 q2 q3 => by rw [xu_ne (by omega), f5 536 (by omega), D5f q q1 q3]
          have mzc : ∀ a, a ≠ 536 → a ≠ 580 → xw_u m5 536 32 0 a = m4 a := fun a a1 a2 => by rw [xu_c a1, f5 a a2, D5c a a1]
          have z31 : xR (xw_u m5 536 32 0) 536 31 = f + n := by rw [xR_ne (by omega), xR_cg (f5 536 (by omega)), xR_ne (by omega), xR_at nw]
          have z38 : xR (xw_u m5 536 32 0) 536 38 = xR m 536 38 + 1 := by rw [xR_ne (by omega), xR_cg (f5 536 (by omega)), xR_at (w32_id (by omega) (by omega))]
          have z38' : xR m5 536 38 = xR m 536 38 + 1 := by rw [xR_cg (f5 536 (by omega)), xR_at (w32_id (by omega) (by omega))]
          have z580 : ∀ i, 0 ≤ i → i < k → xR (xw_u m5 536 32 0) 580 i = w32 (xR m 580 i + xR m3 582 i) := fun i i0 i1 => by
            rw [xR_cg (xu_c (by omega)), a5 i i0 i1, xR_cg (D5c 580 (by omega)), xR_cg (D5c 582 (by omega)), xR_cg (C4c 580 (by omega) (by omega) (by omega) (by omega)), xR_cg (C4.1 582 (by omega) (by omega) (by omega) (by omega) (by omega))]
          have z1 : xR (xw_u m5 536 32 0) 536 1 = 0 := by rw [xR_fld (mzf 1 (by omega) (by omega) (by omega))]; exact x4
          have Lz : lrF m (xw_u m5 536 32 0) := ⟨fun a a1 a2 a3 a4 a5 => by rw [mzc a a1 a2]; exact C4c a a1 a5 a3 a4, fun q q1 q3 q31 q32 q38 q50 q51 q52 q57 q58 q59 q60 q61 => by rw [mzf q q31 q32 q38]; exact C4f q q1 q3 q50 q51 q52 q57 q58 q59 q60 q61, z1, two_m t4 (mzf 59 (by omega) (by omega) (by omega)) (mzf 60 (by omega) (by omega) (by omega))⟩
          have z3 : xR (xw_u m5 536 32 0) 536 3 = (if lf = nb + 1 then 1 else 0) := by rw [xR_fld (mzf 3 (by omega) (by omega) (by omega))]; exact y3
          have body : (lf < 0 ∨ nb + 1 ≤ lf) ∧ xR (xw_u m5 536 32 0) 536 31 = f + n ∧ xR (xw_u m5 536 32 0) 536 38 = xR m 536 38 + 1 ∧ xR (xw_u m5 536 32 0) 536 50 = wr + nb + 1 ∧ xR (xw_u m5 536 32 0) 536 51 = (if lf < 0 then -1 else lf - (nb + 1)) ∧ xR (xw_u m5 536 32 0) 536 52 = E + 1 ∧ (∀ e, 0 ≤ e → e < E → xR (xw_u m5 536 32 0) 586 e = xR m 586 e ∧ xR (xw_u m5 536 32 0) 587 e = xR m 587 e ∧ xR (xw_u m5 536 32 0) 588 e = xR m 588 e) ∧ (xR (xw_u m5 536 32 0) 586 E = 1 ∧ xR (xw_u m5 536 32 0) 587 E = fi ∧ xR (xw_u m5 536 32 0) 588 E = nb) ∧ (∀ i, 0 ≤ i → i < k → xR (xw_u m5 536 32 0) 580 i = w32 (xR m 580 i + xR m3 582 i)) := by
            refine ⟨hl, z31, z38, by rw [xR_fld (mzf 50 (by omega) (by omega) (by omega))]; exact y50, by rw [xR_fld (mzf 51 (by omega) (by omega) (by omega))]; exact y51, ?_, fun e e0 e1 => ?_, ?_, z580⟩
            · rw [xR_fld (mzf 52 (by omega) (by omega) (by omega)), led1, if_pos (by omega), ct]
              omega
            · have q := led2 e e0 e1 rfl
              rw [ct, Int.toNat_of_nonneg e0] at q
              rw [xR_cg (mzc 586 (by omega) (by omega)), xR_cg (mzc 587 (by omega) (by omega)), xR_cg (mzc 588 (by omega) (by omega)), q.1, q.2.1, q.2.2, xR_cg (c3 586 (by omega) (by omega) (by omega) (by omega)), xR_cg (c3 587 (by omega) (by omega) (by omega) (by omega)), xR_cg (c3 588 (by omega) (by omega) (by omega) (by omega))]
              exact ⟨rfl, rfl, rfl⟩
            · have q := led3 (by omega)
              rw [ct, Int.toNat_of_nonneg E0.1] at q
              rw [xR_cg (mzc 586 (by omega) (by omega)), xR_cg (mzc 587 (by omega) (by omega)), xR_cg (mzc 588 (by omega) (by omega))]
              exact q
          obtain ⟨g1, g2, g3, g4, g5, g6, g7, g8, g9⟩ := body
          unfold yk323_185
          by_cases hcut : lf = nb + 1
          · rw [if_pos hcut] at z3
            rw [show w = -3 by rw [ew, if_pos hcut], if_pos rfl]
            obtain ⟨m6, e6, R6⟩ := (end312 (B := B) (m := xw_u m5 536 32 0) (a := -3)).2 (by omega)
            rw [e6, xB_ret, xH_ret]
            exact ⟨b, fun i => xR m3 582 i, _, nb, V0, rfl, hnb.symm, Or.inr ⟨fi, xw_u m5 536 32 0, nf, h2, hroom, E200, Lz, xR_at (by decide), Or.inl ⟨g1, g2, g3, g4, g5, g6, g7, g8, g9, Or.inr ⟨hcut, z3, rfl, R6⟩⟩⟩⟩
          · rw [if_neg hcut] at z3
            rw [if_neg (show ¬ w = -3 by rw [ew, if_neg hcut]; omega), (end312 (B := B) (m := xw_u m5 536 32 0) (a := xR m5 536 38)).1 z3, xB_ret, xH_ret]
            exact ⟨b, fun i => xR m3 582 i, _, nb, V0, rfl, hnb.symm, Or.inr ⟨fi, xw_u m5 536 32 0, nf, h2, hroom, E200, Lz, xR_at (by decide), Or.inl ⟨g1, g2, g3, g4, g5, g6, g7, g8, g9, Or.inl ⟨hcut, z3, z38', rfl⟩⟩⟩⟩
        · rw [if_neg (by omega), if_pos y57]
          have mzf : ∀ q, q ≠ 32 → xw_u m4 536 32 0 536 q = m4 536 q := fun q q1 => by rw [xu_ne (by omega)]
          have mzc : ∀ a, a ≠ 536 → xw_u m4 536 32 0 a = m4 a := fun a a1 => xu_c a1
          have Lz : lrF m (xw_u m4 536 32 0) := ⟨fun a a1 a2 a3 a4 a5 => by rw [mzc a a1]; exact C4c a a1 a5 a3 a4, fun q q1 q3 q31 q32 q38 q50 q51 q52 q57 q58 q59 q60 q61 => by rw [mzf q q32]; exact C4f q q1 q3 q50 q51 q52 q57 q58 q59 q60 q61, by rw [xR_fld (mzf 1 (by omega))]; exact x4, two_m t4 (mzf 59 (by omega)) (mzf 60 (by omega))⟩
          obtain ⟨m6, e6, R6⟩ := (end312 (B := B) (m := xw_u m4 536 32 0) (a := -3)).2 (by rw [xR_fld (mzf 3 (by omega)), y3]; decide)
          unfold yk323_185
          rw [if_pos ew, e6, xB_ret, xH_ret]
          refine ⟨b, fun i => xR m3 582 i, _, nb, V0, rfl, hnb.symm, Or.inr ⟨fi, xw_u m4 536 32 0, nf, h2, hroom, E200, Lz, xR_at (by decide), Or.inr ⟨⟨by omega, hl.2⟩, ?_, ?_, ?_, ?_, ?_, fun a ha => ?_, rfl, R6⟩⟩⟩
          · rw [xR_fld (mzf 31 (by omega)), xR_fld (C4f 31 (by omega) (by omega) (by omega) (by omega) (by omega) (by omega) (by omega) (by omega) (by omega) (by omega))]; exact h31
          · rw [xR_fld (mzf 38 (by omega)), xR_fld (C4f 38 (by omega) (by omega) (by omega) (by omega) (by omega) (by omega) (by omega) (by omega) (by omega) (by omega))]
          · rw [xR_fld (mzf 50 (by omega))]; exact y50
          · rw [xR_fld (mzf 52 (by omega))]; exact y52
          · rw [xR_fld (mzf 3 (by omega))]; exact y3
          · rw [mzc a (by omega)]
            rcases ha with rfl | rfl | rfl | rfl
            · exact C4c 580 (by omega) (by omega) (by omega) (by omega)
            · rw [y6, c3 586 (by omega) (by omega) (by omega) (by omega)]
            · rw [y7, c3 587 (by omega) (by omega) (by omega) (by omega)]
            · rw [y8, c3 588 (by omega) (by omega) (by omega) (by omega)]))
  obtain ⟨v, m2, e, b, Rs, Wt, nb, V, eW, en, H⟩ := goal
  rw [← start] at e
  refine ⟨bF, b, Rs, Wt, nb, F0, V, eW, en, ?_⟩
  rcases H with ⟨rfl, a⟩ | ⟨fi, mz, a1, a2, a3, a4, a5, a6, a7⟩
  · exact Or.inl ⟨m2, e, a⟩
  · refine Or.inr ⟨fi, mz, a1, a2, a3, a4, a5, a6, ?_⟩
    rcases a7 with ⟨b1, b2, b3, b4, b5, b6, b7, b8, b9, b10⟩ | ⟨b1, b2, b3, b4, b5, b6, b7, rfl, b9⟩
    · refine Or.inl ⟨b1, b2, b3, b4, b5, b6, b7, b8, b9, ?_⟩
      rcases b10 with ⟨c1, c2, rfl, rfl⟩ | ⟨c1, c2, rfl, c4⟩
      · exact Or.inl ⟨c1, c2, e⟩
      · exact Or.inr ⟨c1, c2, m2, e, c4⟩
    · exact Or.inr ⟨b1, b2, b3, b4, b5, b6, b7, m2, e, b9⟩
end LDR
