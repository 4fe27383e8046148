/-! SETTLE, by the reference -/
/-- what a settling of the reference may change, before it forgets -/
def srF (m m' : xw_M) : Prop := (∀ a, a ≠ 536 → a ≠ 580 → a ≠ 582 → (a < 586 ∨ 594 < a) → a ≠ 603 → m' a = m a) ∧ (∀ k, k ≠ 1 → k ≠ 3 → k ≠ 39 → k ≠ 50 → k ≠ 51 → k ≠ 52 → k ≠ 57 → k ≠ 58 → k ≠ 59 → k ≠ 60 → k ≠ 61 → m' 536 k = m 536 k) ∧ xR m' 536 1 = 0 ∧ ∃ s t, two s t ∧ m' 536 59 = s ∧ m' 536 60 = t
theorem cnt_first {P : Int → Bool} {n : Nat} (h0 : P 0 = true) (h1 : ∀ i : Nat, 1 ≤ i → i < n → P i = false) (hn : 1 ≤ n) : cnt P n = 1 := by
  induction n with
  | zero => omega
  | succ n ih =>
    show cnt P n + (if P n = true then 1 else 0) = 1
    by_cases hz : n = 0
    · subst hz
      show (0 : Int) + (if P ((0 : Nat) : Int) = true then 1 else 0) = 1
      rw [if_pos (show P ((0 : Nat) : Int) = true from h0)]
      omega
    · rw [ih (fun i i0 i1 => h1 i i0 (by omega)) (by omega), h1 n (by omega) (by omega), if_neg (by decide)]
      omega
section SDR
variable {B : Nat} {m : xw_M} {D M n k E lf wr : Int}
/-- rowsOf := newRows, where it happened -/
theorem set580 {x2 : Int} (h40 : xR m 536 40 = k) (hk : 0 ≤ k ∧ k ≤ 16) {Q : Int → xw_M → Prop} {X : Nat → xw_M → Prop} (fin : ∀ m', (∀ a, a ≠ 580 → m' a = m a) → (xR m 536 57 = 0 → m' = m) → (xR m 536 57 ≠ 0 → ∀ i, 0 ≤ i → i < k → xR m' 580 i = xR m 582 i) → xH (yk336_155 B x2 m') Q X) : xH (xl2 (yl336_122 B) 1000000 x2 0 m) Q X := by
  have gen : ∀ N : Nat, 100 < N → xH (xl2 (yl336_122 B) N x2 0 m) Q X := by
    intro N hN
    refine xl2_rule (F := yl336_122 B) (fun y2 x3 m' => y2 = x2 ∧ (0 ≤ x3 ∧ x3 ≤ k) ∧ (∀ a, a ≠ 580 → m' a = m a) ∧ (xR m 536 57 = 0 → m' = m) ∧ (∀ i, 0 ≤ i → i < x3 → xR m' 580 i = xR m 582 i)) (fun _ x3 _ => (k - x3).toNat) ?_ N x2 0 m ⟨rfl, ⟨Int.le_refl _, hk.1⟩, fun _ _ => rfl, fun _ => rfl, fun i i0 i1 => absurd i1 (Int.not_lt.mpr i0)⟩ (by omega)
    intro r y2 x3 m' ⟨e, hx, f1, f0, f2⟩ ih
    subst e
    unfold yl336_122
    rw [xR_cg (f1 536 (by omega)), h40]
    by_cases h : x3 < k
    · rw [if_pos h]
      by_cases h57 : xR m 536 57 = 0
      · rw [if_pos h57]
        exact fin m' f1 f0 (fun hn => absurd h57 hn)
      · rw [if_neg h57, if_pos ⟨hx.1, by omega⟩, w32_id (by omega) (by omega)]
        refine ih _ _ _ ⟨rfl, ⟨by omega, by omega⟩, fun a ha => by rw [xu_c ha]; exact f1 a ha, fun hz => absurd hz h57, fun i i0 i1 => ?_⟩ (by omega)
        rw [xR_u]
        by_cases ei : i = x3
        · rw [if_pos ⟨rfl, ei⟩, ei, w32_xR, xR_cg (f1 582 (by omega))]
        · rw [if_neg (by omega)]; exact f2 i i0 (by omega)
    · rw [if_neg h]
      have ex : x3 = k := by omega
      subst ex
      exact fin m' f1 f0 (fun _ => f2)
  exact gen 1000000 (by decide)
theorem settle_rf (h : rca m D M 0 n) (ho : xR m 536 2 = 1 ∧ xR m 536 3 = 0) (h31 : xR m 536 31 = n) (h39 : 0 ≤ xR m 536 39 ∧ xR m 536 39 < 100) (h40 : xR m 536 40 = k) (hk : 0 ≤ k ∧ k ≤ 16) (hv : ∀ i, 0 ≤ i → i < k → 0 ≤ xR m 579 i) (h49 : xR m 536 49 = (B : Int)) (hB : B ≤ 512) (hE : xR m 536 52 = E) (hx : exts (xR m 587) (xR m 588) E B) (E1 : 1 ≤ E) (k0 : xR m 586 0 = 0) (ke : ∀ e, 1 ≤ e → e < E → xR m 586 e = 1 ∨ xR m 586 e = 2) (hlf : xR m 536 51 = lf) (lf1 : lf ≤ 1000) (lf0 : lf = -1 ∨ 1 ≤ lf) (hwr : xR m 536 50 = wr) (wr0 : 0 ≤ wr) (wr1 : wr < 1000000000) : ∃ (bF : Int) (b Rs : Int → Int) (Wt nb : Int), fbt m D M 0 n bF ∧ (∀ i, 0 ≤ i → i < k → vbt m D M (xR m 579 i) 0 n (Rs i) (b i)) ∧ Wt = bF + rsum b k.toNat ∧ nb = (8 + Wt + 4095) / 4096 ∧ ((∃ mz, yf336 B m = some (.inl (-2), mz) ∧ isRoom (xR m 587) (xR m 588) E B nb (-1) ∧ srF m mz ∧ (∀ q, q = 3 ∨ q = 39 ∨ q = 50 ∨ q = 51 ∨ q = 52 → mz 536 q = m 536 q) ∧ (∀ a, a = 580 ∨ a = 586 ∨ a = 587 ∨ a = 588 → mz a = m a)) ∨ (∃ fi mz, 2 ≤ fi ∧ isRoom (xR m 587) (xR m 588) E B nb fi ∧ srF m mz ∧ xR mz 536 39 = xR m 536 39 + 1 ∧ ((((lf < 0 ∨ nb + 1 ≤ lf) ∧ xR mz 536 50 = wr + nb + 1 ∧ xR mz 536 51 = (if lf < 0 then -1 else lf - (nb + 1)) ∧ xR mz 536 52 = 2 ∧ (xR mz 586 0 = xR m 586 0 ∧ xR mz 587 0 = xR m 587 0 ∧ xR mz 588 0 = xR m 588 0) ∧ (xR mz 586 1 = 1 ∧ xR mz 587 1 = fi ∧ xR mz 588 1 = nb) ∧ (∀ i, 0 ≤ i → i < k → xR mz 580 i = Rs i) ∧ ((lf ≠ nb + 1 ∧ xR mz 536 3 = 0 ∧ yf336 B m = some (.inl (nb + 1), mz)) ∨ (lf = nb + 1 ∧ xR mz 536 3 = 1 ∧ ∃ m2, yf336 B m = some (.inl (-3), m2) ∧ fgR mz m2))) ∨ ((1 ≤ lf ∧ lf ≤ nb) ∧ xR mz 536 50 = wr + lf ∧ xR mz 536 52 = E ∧ xR mz 536 3 = 1 ∧ (∀ a, a = 580 ∨ a = 586 ∨ a = 587 ∨ a = 588 → mz a = m a) ∧ ∃ m2, yf336 B m = some (.inl (-3), m2) ∧ fgR mz m2))))) := by
  have hD := h.1
  have hM := h.2.1
  have hn := h.2.2.2.2.2.1
  have E0 := hx.1
  have h' : rca (xw_u m 536 1 0) D M 0 n := by
    obtain ⟨q1, q2, q3, q4, q5, q6, q7, q8⟩ := h
    exact ⟨q1, q2, by rw [xR_ne (by omega)]; exact q3, by rw [xR_ne (by omega)]; exact q4, by rw [xR_cg (xu_c (by omega))]; exact q5, q6, by rw [xR_cg (xu_c (by omega))]; exact q7, two_u q8 (by omega) (by omega)⟩
  obtain ⟨m1, bF, e1, p1, t1, F1⟩ := rwF (B := B) h'
  rw [Int.zero_add] at e1
  have rs1 : rsm (xw_u m 536 1 0) m (0 + n) := ⟨by rw [xu_c (by omega)], by rw [xu_c (by omega)], by rw [xu_c (by omega)], fun i _ _ => ⟨by rw [xu_c (by omega)], by rw [xu_c (by omega)]⟩⟩
  have F0 := fbt_m rs1 hD hM hn.1 hn.2.1 (Int.le_refl _) F1
  have bF0 := fbt_b hD hM (by omega) F0
  have c1 : ∀ a, a ≠ 536 → a ≠ 603 → (a < 590 ∨ 594 < a) → m1 a = m a := fun a a1 a2 a3 => by rw [p1.1 a a1 a2 a3, xu_c a1]
  have d1 : ∀ q, q ≠ 1 → q ≠ 58 → q ≠ 59 → q ≠ 60 → q ≠ 61 → m1 536 q = m 536 q := fun q q0 q1 q2 q3 q4 => by rw [p1.2 q q1 q2 q3 q4, xu_ne (by omega)]
  have x1 : xR m1 536 1 = 0 := by rw [xR_fld (p1.2 1 (by omega) (by omega) (by omega) (by omega)), xR_at (by decide)]
  have rc1 : rca m1 D M 0 n := rca_pf h' p1 t1
  have rsm1 : rsm m1 m (0 + n) := ⟨(c1 538 (by omega) (by omega) (by omega)).symm, (c1 539 (by omega) (by omega) (by omega)).symm, (c1 573 (by omega) (by omega) (by omega)).symm, fun i _ _ => ⟨by rw [c1 575 (by omega) (by omega) (by omega)], by rw [c1 576 (by omega) (by omega) (by omega)]⟩⟩
  have start : yf336 B m = xl2 (yl336_50 B) 1000000 (8 + bF) 0 m1 := by
    unfold yf336
    rw [isOpen_ok, xB_ret, isop ho, if_neg (by decide), if_pos h39.2, h31, e1, xB_ret, w32_id (by omega) (by omega)]
  have goal := xH_ex (Q := fun v m2 => ∃ (b Rs : Int → Int) (Wt nb : Int), (∀ i, 0 ≤ i → i < k → vbt m D M (xR m 579 i) 0 n (Rs i) (b i)) ∧ Wt = bF + rsum b k.toNat ∧ nb = (8 + Wt + 4095) / 4096 ∧ ((v = -2 ∧ isRoom (xR m 587) (xR m 588) E B nb (-1) ∧ srF m m2 ∧ (∀ q, q = 3 ∨ q = 39 ∨ q = 50 ∨ q = 51 ∨ q = 52 → m2 536 q = m 536 q) ∧ (∀ a, a = 580 ∨ a = 586 ∨ a = 587 ∨ a = 588 → m2 a = m a)) ∨ (∃ fi mz, 2 ≤ fi ∧ isRoom (xR m 587) (xR m 588) E B nb fi ∧ srF m mz ∧ xR mz 536 39 = xR m 536 39 + 1 ∧ ((((lf < 0 ∨ nb + 1 ≤ lf) ∧ xR mz 536 50 = wr + nb + 1 ∧ xR mz 536 51 = (if lf < 0 then -1 else lf - (nb + 1)) ∧ xR mz 536 52 = 2 ∧ (xR mz 586 0 = xR m 586 0 ∧ xR mz 587 0 = xR m 587 0 ∧ xR mz 588 0 = xR m 588 0) ∧ (xR mz 586 1 = 1 ∧ xR mz 587 1 = fi ∧ xR mz 588 1 = nb) ∧ (∀ i, 0 ≤ i → i < k → xR mz 580 i = Rs i) ∧ ((lf ≠ nb + 1 ∧ xR mz 536 3 = 0 ∧ v = nb + 1 ∧ m2 = mz) ∨ (lf = nb + 1 ∧ xR mz 536 3 = 1 ∧ v = -3 ∧ fgR mz m2))) ∨ ((1 ≤ lf ∧ lf ≤ nb) ∧ xR mz 536 50 = wr + lf ∧ xR mz 536 52 = E ∧ xR mz 536 3 = 1 ∧ (∀ a, a = 580 ∨ a = 586 ∨ a = 587 ∨ a = 588 → mz a = m a) ∧ v = -3 ∧ fgR mz m2)))))) (lv336 (B := B) (m := m1) (w0 := 8 + bF) (k := k) rc1 (by rw [xR_fld (d1 31 (by omega) (by omega) (by omega) (by omega) (by omega))]; exact h31) (by rw [xR_fld (d1 40 (by omega) (by omega) (by omega) (by omega) (by omega))]; exact h40) hk (by rw [xR_cg (c1 579 (by omega) (by omega) (by omega))]; exact hv) (by omega) (by omega) (fun m3 x1' L => by
    obtain ⟨b, eb, p3, t3, V3⟩ := L
    have V0 : ∀ i, 0 ≤ i → i < k → vbt m D M (xR m 579 i) 0 n (xR m3 582 i) (b i) := fun i i0 i1 => by
      have q := vbt_m rsm1 hD hM hn.1 (Int.le_refl _) (V3 i i0 i1)
      rw [xR_cg (c1 579 (by omega) (by omega) (by omega))] at q
      exact q
    have rb := rsum_b (b := b) (lo := 4) (hi := 7000000) k.toNat (fun i i0 i1 => by have := vbt_b hD hM (by omega) (V0 i i0 (by omega)); omega)
    have c3 : ∀ a, a ≠ 536 → a ≠ 603 → a ≠ 582 → (a < 590 ∨ 594 < a) → m3 a = m a := fun a a1 a2 a3 a4 => by rw [p3.1 a a1 a2 a3 a4, c1 a a1 a2 a4]
    have d3 : ∀ q, q ≠ 1 → q ≠ 58 → q ≠ 59 → q ≠ 60 → q ≠ 61 → m3 536 q = m 536 q := fun q q0 q1 q2 q3 q4 => by rw [p3.2 q q1 q2 q3 q4, d1 q q0 q1 q2 q3 q4]
    have x3 : xR m3 536 1 = 0 := by rw [xR_fld (p3.2 1 (by omega) (by omega) (by omega) (by omega))]; exact x1
    obtain ⟨m4, w, e4, C4, R4⟩ := change_ok (B := B) (m := m3) (E := E) (kd := 1) (f := 1) (v := 1) (wg := x1') (b := B) (lf := lf) (wr := wr) (by rw [xR_fld (d3 49 (by omega) (by omega) (by omega) (by omega) (by omega))]; exact h49) (by omega) (by rw [xR_fld (d3 52 (by omega) (by omega) (by omega) (by omega) (by omega))]; exact hE) (by rw [xR_cg (c3 587 (by omega) (by omega) (by omega) (by omega)), xR_cg (c3 588 (by omega) (by omega) (by omega) (by omega))]; exact hx) (by rw [xR_fld (d3 51 (by omega) (by omega) (by omega) (by omega) (by omega))]; exact hlf) lf1 (by omega) (by rw [xR_fld (d3 50 (by omega) (by omega) (by omega) (by omega) (by omega))]; exact hwr) wr0 wr1 (by omega) (by omega) (by decide)
    have e86 : xR m3 586 = xR m 586 := xR_cg (c3 586 (by omega) (by omega) (by omega) (by omega))
    rw [e86, xR_cg (c3 587 (by omega) (by omega) (by omega) (by omega)), xR_cg (c3 588 (by omega) (by omega) (by omega) (by omega))] at R4
    have P0 : (fun e => !gz 1 1 (xR m 586 e)) 0 = true := by show (!gz 1 1 (xR m 586 0)) = true; rw [k0]; decide
    have Pn : ∀ e, 1 ≤ e → e < E → (fun e => !gz 1 1 (xR m 586 e)) e = false := fun e e0 e1 => by
      show (!gz 1 1 (xR m 586 e)) = false
      rcases ke e e0 e1 with q | q
      · rw [q]; decide
      · rw [q]; decide
    have ct : cnt (fun e => !gz 1 1 (xR m 586 e)) E.toNat = 1 := cnt_first P0 (fun i i0 i1 => Pn i (by omega) (by omega)) (by omega)
    rw [e4, xB_ret]
    have eW : (x1' + 4095) / 4096 = (8 + (bF + rsum b k.toNat) + 4095) / 4096 := by rw [eb]; congr 2; omega
    generalize hnb : (8 + (bF + rsum b k.toNat) + 4095) / 4096 = nb at *
    rw [eW] at R4
    have nb1 : 1 ≤ nb := by omega
    have nb2 : nb ≤ 1000000 := by omega
    have C4c : ∀ a, a ≠ 536 → a ≠ 603 → a ≠ 582 → (a < 586 ∨ 594 < a) → m4 a = m a := fun a a1 a2 a3 a4 => by rw [C4.1 a a1 (by omega) (by omega) (by omega) (by omega), c3 a a1 a2 a3 (by omega)]
    have C4f : ∀ q, q ≠ 1 → q ≠ 3 → q ≠ 50 → q ≠ 51 → q ≠ 52 → q ≠ 57 → q ≠ 58 → q ≠ 59 → q ≠ 60 → q ≠ 61 → m4 536 q = m 536 q := fun q q0 q1 q2 q3 q4 q5 q6 q7 q8 q9 => by rw [C4.2 q q1 q2 q3 q4 q5, d3 q q0 q6 q7 q8 q9]
    have x4 : xR m4 536 1 = 0 := by rw [xR_fld (C4.2 1 (by omega) (by omega) (by omega) (by omega) (by omega))]; exact x3
    have t4 : ∃ s t, two s t ∧ m4 536 59 = s ∧ m4 536 60 = t := two_m t3 (C4.2 59 (by omega) (by omega) (by omega) (by omega) (by omega)) (C4.2 60 (by omega) (by omega) (by omega) (by omega) (by omega))
    have L4 : srF m m4 := ⟨fun a a1 a2 a3 a4 a5 => C4c a a1 a5 a3 a4, fun q q1 q3 q39 q50 q51 q52 q57 q58 q59 q60 q61 => C4f q q1 q3 q50 q51 q52 q57 q58 q59 q60 q61, x4, t4⟩
    have f39 : xR m4 536 39 = xR m 536 39 := xR_fld (C4f 39 (by omega) (by omega) (by omega) (by omega) (by omega) (by omega) (by omega) (by omega) (by omega) (by omega))
    rcases R4 with ⟨fl, rfl, y57, yf, y6, y7, y8⟩ | ⟨fi, hfi, ch⟩
    · rw [if_pos rfl, xH_ret]
      have fl' : isRoom (xR m 587) (xR m 588) E B nb (-1) := by
        rcases fl.2 with q | q
        · rw [ct] at q; omega
        · exact q
      refine ⟨b, fun i => xR m3 582 i, _, nb, V0, rfl, hnb.symm, Or.inl ⟨rfl, fl', L4, fun q hq => by rw [yf q (by omega), d3 q (by omega) (by omega) (by omega) (by omega) (by omega)], fun a ha => ?_⟩⟩
      rcases ha with rfl | rfl | rfl | rfl
      · exact C4c 580 (by omega) (by omega) (by omega) (by omega)
      · rw [y6, c3 586 (by omega) (by omega) (by omega) (by omega)]
      · rw [y7, c3 587 (by omega) (by omega) (by omega) (by omega)]
      · rw [y8, c3 588 (by omega) (by omega) (by omega) (by omega)]
    · rcases hfi with ⟨hz, _⟩ | ⟨hc, hroom, h2⟩
      · omega
      · have D5f : ∀ q, q ≠ 39 → xw_u m4 536 39 (xR m 536 39 + 1) 536 q = m4 536 q := fun q q1 => by rw [xu_ne (by omega)]
        have D5c : ∀ a, a ≠ 536 → xw_u m4 536 39 (xR m 536 39 + 1) a = m4 a := fun a a1 => xu_c a1
        have z39 : xR (xw_u m4 536 39 (xR m 536 39 + 1)) 536 39 = xR m 536 39 + 1 := xR_at (w32_id (by omega) (by omega))
        have h40' : xR (xw_u m4 536 39 (xR m 536 39 + 1)) 536 40 = k := by rw [xR_fld (D5f 40 (by omega)), xR_fld (C4f 40 (by omega) (by omega) (by omega) (by omega) (by omega) (by omega) (by omega) (by omega) (by omega) (by omega))]; exact h40
        rcases ch with ⟨hl, ew, y57, y50, y51, y3, led1, led2, led3⟩ | ⟨hl, ew, y57, y50, y51, y3, y52, y6, y7, y8⟩
        · have wn : ¬ w = -2 := by rw [ew]; split <;> omega
          rw [if_neg wn, f39]
          refine set580 (k := k) h40' hk (fun m5 f5 _ a5 => ?_)
          have a5' := a5 (by rw [xR_fld (D5f 57 (by omega)), y57]; decide)
          have mzf : ∀ q, q ≠ 39 → m5 536 q = m4 536 q := fun q q1 => by rw [f5 536 (by omega), D5f q q1]
          have mzc : ∀ a, a ≠ 536 → a ≠ 580 → m5 a = m4 a := fun a a1 a2 => by rw [f5 a a2, D5c a a1]
          have z580 : ∀ i, 0 ≤ i → i < k → xR m5 580 i = xR m3 582 i := fun i i0 i1 => by
            rw [a5' i i0 i1, xR_cg (D5c 582 (by omega)), xR_cg (C4.1 582 (by omega) (by omega) (by omega) (by omega) (by omega))]
          have Lz : srF m m5 := ⟨fun a a1 a2 a3 a4 a5 => by rw [mzc a a1 a2]; exact C4c a a1 a5 a3 a4, fun q q1 q3 q39 q50 q51 q52 q57 q58 q59 q60 q61 => by rw [mzf q q39]; exact C4f q q1 q3 q50 q51 q52 q57 q58 q59 q60 q61, by rw [xR_fld (mzf 1 (by omega))]; exact x4, two_m t4 (mzf 59 (by omega)) (mzf 60 (by omega))⟩
          have z3 : xR m5 536 3 = (if lf = nb + 1 then 1 else 0) := by rw [xR_fld (mzf 3 (by omega))]; exact y3
          have g39 : xR m5 536 39 = xR m 536 39 + 1 := by rw [xR_cg (f5 536 (by omega))]; exact z39
          have g50 : xR m5 536 50 = wr + nb + 1 := by rw [xR_fld (mzf 50 (by omega))]; exact y50
          have g51 : xR m5 536 51 = (if lf < 0 then -1 else lf - (nb + 1)) := by rw [xR_fld (mzf 51 (by omega))]; exact y51
          have g52 : xR m5 536 52 = 2 := by rw [xR_fld (mzf 52 (by omega)), led1, if_pos (by omega), ct]; rfl
          have q0 := led2 0 (Int.le_refl _) (by omega) P0
          rw [show cnt (fun e => !gz 1 1 (xR m 586 e)) (Int.toNat 0) = 0 from rfl] at q0
          have q1 := led3 (by omega)
          rw [ct] at q1
          have gA : xR m5 586 0 = xR m 586 0 ∧ xR m5 587 0 = xR m 587 0 ∧ xR m5 588 0 = xR m 588 0 := by
            rw [xR_cg (mzc 586 (by omega) (by omega)), xR_cg (mzc 587 (by omega) (by omega)), xR_cg (mzc 588 (by omega) (by omega)), q0.1, q0.2.1, q0.2.2, e86, xR_cg (c3 587 (by omega) (by omega) (by omega) (by omega)), xR_cg (c3 588 (by omega) (by omega) (by omega) (by omega))]
            exact ⟨rfl, rfl, rfl⟩
          have gB : xR m5 586 1 = 1 ∧ xR m5 587 1 = fi ∧ xR m5 588 1 = nb := by
            rw [xR_cg (mzc 586 (by omega) (by omega)), xR_cg (mzc 587 (by omega) (by omega)), xR_cg (mzc 588 (by omega) (by omega))]
            exact q1
          unfold yk336_155
          by_cases hcut : lf = nb + 1
          · rw [if_pos hcut] at z3
            have ew' : w = -3 := by rw [ew, if_pos hcut]
            obtain ⟨m6, e6, R6⟩ := (end312 (B := B) (m := m5) (a := w)).2 (by omega)
            rw [e6, xB_ret, xH_ret]
            exact ⟨b, fun i => xR m3 582 i, _, nb, V0, rfl, hnb.symm, Or.inr ⟨fi, m5, h2, hroom, Lz, g39, Or.inl ⟨hl, g50, g51, g52, gA, gB, z580, Or.inr ⟨hcut, z3, ew', R6⟩⟩⟩⟩
          · rw [if_neg hcut] at z3
            have ew' : w = nb + 1 := by rw [ew, if_neg hcut]
            rw [(end312 (B := B) (m := m5) (a := w)).1 z3, xB_ret, xH_ret]
            exact ⟨b, fun i => xR m3 582 i, _, nb, V0, rfl, hnb.symm, Or.inr ⟨fi, m5, h2, hroom, Lz, g39, Or.inl ⟨hl, g50, g51, g52, gA, gB, z580, Or.inl ⟨hcut, z3, ew', rfl⟩⟩⟩⟩
        · rw [if_neg (by omega), f39]
          refine set580 (k := k) h40' hk (fun m5 f5 f0 _ => ?_)
          have e5 := f0 (by rw [xR_fld (D5f 57 (by omega)), y57])
          subst e5
          have Lz : srF m (xw_u m4 536 39 (xR m 536 39 + 1)) := ⟨fun a a1 a2 a3 a4 a5 => by rw [D5c a a1]; exact C4c a a1 a5 a3 a4, fun q q1 q3 q39 q50 q51 q52 q57 q58 q59 q60 q61 => by rw [D5f q q39]; exact C4f q q1 q3 q50 q51 q52 q57 q58 q59 q60 q61, by rw [xR_fld (D5f 1 (by omega))]; exact x4, two_m t4 (D5f 59 (by omega)) (D5f 60 (by omega))⟩
          obtain ⟨m6, e6, R6⟩ := (end312 (B := B) (m := xw_u m4 536 39 (xR m 536 39 + 1)) (a := w)).2 (by rw [xR_fld (D5f 3 (by omega)), y3]; decide)
          unfold yk336_155
          rw [e6, xB_ret, xH_ret]
          refine ⟨b, fun i => xR m3 582 i, _, nb, V0, rfl, hnb.symm, Or.inr ⟨fi, xw_u m4 536 39 (xR m 536 39 + 1), h2, hroom, Lz, z39, Or.inr ⟨⟨by omega, hl.2⟩, ?_, ?_, ?_, fun a ha => ?_, ew, R6⟩⟩⟩
          · rw [xR_fld (D5f 50 (by omega))]; exact y50
          · rw [xR_fld (D5f 52 (by omega))]; exact y52
          · rw [xR_fld (D5f 3 (by omega))]; exact y3
          · rw [D5c a (by omega)]
            rcases ha with rfl | rfl | rfl | rfl
            · exact C4c 580 (by omega) (by omega) (by omega) (by omega)
            · rw [y6, c3 586 (by omega) (by omega) (by omega) (by omega)]
            · rw [y7, c3 587 (by omega) (by omega) (by omega) (by omega)]
            · rw [y8, c3 588 (by omega) (by omega) (by omega) (by omega)]))
  obtain ⟨v, m2, e, b, Rs, Wt, nb, V, eW, en, H⟩ := goal
  rw [← start] at e
  refine ⟨bF, b, Rs, Wt, nb, F0, V, eW, en, ?_⟩
  rcases H with ⟨rfl, a⟩ | ⟨fi, mz, a2, a3, a5, a6, a7⟩
  · exact Or.inl ⟨m2, e, a⟩
  · refine Or.inr ⟨fi, mz, a2, a3, a5, a6, ?_⟩
    rcases a7 with ⟨b1, b2, b3, b4, b5, b6, b7, b8⟩ | ⟨b1, b2, b3, b4, b5, rfl, b7⟩
    · refine Or.inl ⟨b1, b2, b3, b4, b5, b6, b7, ?_⟩
      rcases b8 with ⟨c1, c2, rfl, rfl⟩ | ⟨c1, c2, rfl, c4⟩
      · exact Or.inl ⟨c1, c2, e⟩
      · exact Or.inr ⟨c1, c2, m2, e, c4⟩
    · exact Or.inr ⟨b1, b2, b3, b4, b5, m2, e, b7⟩
end SDR
