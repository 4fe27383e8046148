/-! CHOOSE, by the reference -/
/-- what a choice of the reference may change, before it forgets -/
def crF (m m' : xw_M) : Prop := (∀ a, a ≠ 536 → (a < 579 ∨ 594 < a) → a ≠ 603 → m' a = m a) ∧ (∀ k, k ≠ 1 → k ≠ 3 → k ≠ 39 → k ≠ 40 → k ≠ 43 → k ≠ 50 → k ≠ 51 → k ≠ 52 → k ≠ 57 → k ≠ 58 → k ≠ 59 → k ≠ 60 → k ≠ 61 → m' 536 k = m 536 k) ∧ xR m' 536 1 = 0 ∧ ∃ s t, two s t ∧ m' 536 59 = s ∧ m' 536 60 = t
section CHR
variable {B : Nat} {m : xw_M} {D M n k E lf wr : Int}
/-- chosen and rowsOf take over what was picked -/
theorem set579 {x2 : Int} (h40 : xR m 536 40 = k) (hk : 0 ≤ k ∧ k ≤ 16) {Q : Int → xw_M → Prop} {X : Nat → xw_M → Prop} (fin : ∀ m', (∀ a, a ≠ 579 → a ≠ 580 → m' a = m a) → (∀ i, 0 ≤ i → i < k → xR m' 579 i = xR m 581 i ∧ xR m' 580 i = xR m 582 i) → xH (yk330_210 B x2 m') Q X) : xH (xl2 (yl330_167 B) 1000000 x2 0 m) Q X := by
  have gen : ∀ N : Nat, 100 < N → xH (xl2 (yl330_167 B) N x2 0 m) Q X := by
    intro N hN
    refine xl2_rule (F := yl330_167 B) (fun y2 x3 m' => y2 = x2 ∧ (0 ≤ x3 ∧ x3 ≤ k) ∧ (∀ a, a ≠ 579 → a ≠ 580 → m' a = m a) ∧ (∀ i, 0 ≤ i → i < x3 → xR m' 579 i = xR m 581 i ∧ xR m' 580 i = xR m 582 i)) (fun _ x3 _ => (k - x3).toNat) ?_ N x2 0 m ⟨rfl, ⟨Int.le_refl _, hk.1⟩, fun _ _ _ => rfl, fun i i0 i1 => absurd i1 (Int.not_lt.mpr i0)⟩ (by omega)
    intro r y2 x3 m' ⟨e, hx, f1, f2⟩ ih
    subst e
    unfold yl330_167
    rw [xR_cg (f1 536 (by omega) (by omega)), h40]
    by_cases h : x3 < k
    · rw [if_pos h, if_pos ⟨hx.1, by omega⟩, w32_id (by omega) (by omega)]
      refine ih _ _ _ ⟨rfl, ⟨by omega, by omega⟩, fun a a1 a2 => by rw [xu_c a2, xu_c a1]; exact f1 a a1 a2, fun i i0 i1 => ⟨?_, ?_⟩⟩ (by omega)
      · rw [xR_cg (xu_c (show (579 : Int) ≠ 580 by omega)), xR_u]
        by_cases ei : i = x3
        · rw [if_pos ⟨rfl, ei⟩, ei, w32_xR, xR_cg (f1 581 (by omega) (by omega))]
        · rw [if_neg (by omega)]; exact (f2 i i0 (by omega)).1
      · rw [xR_u]
        by_cases ei : i = x3
        · rw [if_pos ⟨rfl, ei⟩, ei, w32_xR, xR_cg (f1 582 (by omega) (by omega))]
        · rw [if_neg (by omega), xR_cg (xu_c (show (580 : Int) ≠ 579 by omega))]; exact (f2 i i0 (by omega)).2
    · rw [if_neg h]
      have ex : x3 = k := by omega
      subst ex
      exact fin m' f1 f2
  exact gen 1000000 (by decide)
/-- behind pick: x views, their numbers in 581 -/
theorem choose_rf {x : Int} {pk : Int → Int} (h : rca m D M 0 n) (h1 : xR m 536 1 = 0) (h3 : xR m 536 3 = 0) (h31 : xR m 536 31 = n) (h39 : 0 ≤ xR m 536 39 ∧ xR m 536 39 < 100) (h43 : xR m 536 43 = x) (hx16 : 0 ≤ x ∧ x ≤ 16) (hv : ∀ i, 0 ≤ i → i < x → xR m 581 i = pk i ∧ 0 ≤ pk i) (h49 : xR m 536 49 = (B : Int)) (hB : B ≤ 512) (hE : xR m 536 52 = E) (hx : exts (xR m 587) (xR m 588) E B) (hlf : xR m 536 51 = lf) (lf1 : lf ≤ 1000) (lf0 : lf = -1 ∨ 1 ≤ lf) (hwr : xR m 536 50 = wr) (wr0 : 0 ≤ wr) (wr1 : wr < 1000000000) : ∃ (b Rs : Int → Int) (nb : Int), (∀ i, 0 ≤ i → i < x → vbt m D M (pk i) 0 n (Rs i) (b i)) ∧ nb = (if x = 0 then 0 else (8 + rsum b x.toNat + 4095) / 4096) ∧ ((∃ mz, xl2 (yl330_79 B) 1000000 (if x = 0 then 0 else 8) 0 m = some (.inl (-2), mz) ∧ full (xR m 587) (xR m 588) E B (fun e => !gz 0 1 (xR m 586 e)) nb ∧ crF m mz ∧ (∀ q, q = 3 ∨ q = 39 ∨ q = 40 ∨ q = 50 ∨ q = 51 ∨ q = 52 → mz 536 q = m 536 q) ∧ (∀ a, a = 579 ∨ a = 580 ∨ a = 586 ∨ a = 587 ∨ a = 588 → mz a = m a)) ∨ (∃ fi mz, ¬ full (xR m 587) (xR m 588) E B (fun e => !gz 0 1 (xR m 586 e)) nb ∧ 2 ≤ fi ∧ (0 < nb → isRoom (xR m 587) (xR m 588) E B nb fi ∧ cnt (fun e => !gz 0 1 (xR m 586 e)) E.toNat < 200) ∧ crF m mz ∧ xR mz 536 39 = xR m 536 39 + 1 ∧ ((((lf < 0 ∨ nb + 1 ≤ lf) ∧ xR mz 536 40 = x ∧ xR mz 536 50 = wr + nb + 1 ∧ xR mz 536 51 = (if lf < 0 then -1 else lf - (nb + 1)) ∧ led (xR m 586) (xR m 587) (xR m 588) E (fun e => !gz 0 1 (xR m 586 e)) nb 2 fi (xR mz 586) (xR mz 587) (xR mz 588) (xR mz 536 52) ∧ (∀ i, 0 ≤ i → i < x → xR mz 579 i = pk i ∧ xR mz 580 i = Rs i) ∧ ((lf ≠ nb + 1 ∧ xR mz 536 3 = 0 ∧ xl2 (yl330_79 B) 1000000 (if x = 0 then 0 else 8) 0 m = some (.inl x, mz)) ∨ (lf = nb + 1 ∧ xR mz 536 3 = 1 ∧ ∃ m2, xl2 (yl330_79 B) 1000000 (if x = 0 then 0 else 8) 0 m = some (.inl (-3), m2) ∧ fgR mz m2))) ∨ ((1 ≤ lf ∧ lf ≤ nb) ∧ xR mz 536 40 = xR m 536 40 ∧ xR mz 536 50 = wr + lf ∧ xR mz 536 52 = E ∧ xR mz 536 3 = 1 ∧ (∀ a, a = 579 ∨ a = 580 ∨ a = 586 ∨ a = 587 ∨ a = 588 → mz a = m a) ∧ ∃ m2, xl2 (yl330_79 B) 1000000 (if x = 0 then 0 else 8) 0 m = some (.inl (-3), m2) ∧ fgR mz m2))))) := by
  have hD := h.1
  have hM := h.2.1
  have hn := h.2.2.2.2.2.1
  have E0 := hx.1
  have w0b : (0 : Int) ≤ (if x = 0 then 0 else 8) ∧ (if x = 0 then 0 else 8 : Int) ≤ 8 := by split <;> omega
  have goal := xH_ex (Q := fun v m2 => ∃ (b Rs : Int → Int) (nb : Int), (∀ i, 0 ≤ i → i < x → vbt m D M (pk i) 0 n (Rs i) (b i)) ∧ nb = (if x = 0 then 0 else (8 + rsum b x.toNat + 4095) / 4096) ∧ ((v = -2 ∧ full (xR m 587) (xR m 588) E B (fun e => !gz 0 1 (xR m 586 e)) nb ∧ crF m m2 ∧ (∀ q, q = 3 ∨ q = 39 ∨ q = 40 ∨ q = 50 ∨ q = 51 ∨ q = 52 → m2 536 q = m 536 q) ∧ (∀ a, a = 579 ∨ a = 580 ∨ a = 586 ∨ a = 587 ∨ a = 588 → m2 a = m a)) ∨ (∃ fi mz, ¬ full (xR m 587) (xR m 588) E B (fun e => !gz 0 1 (xR m 586 e)) nb ∧ 2 ≤ fi ∧ (0 < nb → isRoom (xR m 587) (xR m 588) E B nb fi ∧ cnt (fun e => !gz 0 1 (xR m 586 e)) E.toNat < 200) ∧ crF m mz ∧ xR mz 536 39 = xR m 536 39 + 1 ∧ ((((lf < 0 ∨ nb + 1 ≤ lf) ∧ xR mz 536 40 = x ∧ xR mz 536 50 = wr + nb + 1 ∧ xR mz 536 51 = (if lf < 0 then -1 else lf - (nb + 1)) ∧ led (xR m 586) (xR m 587) (xR m 588) E (fun e => !gz 0 1 (xR m 586 e)) nb 2 fi (xR mz 586) (xR mz 587) (xR mz 588) (xR mz 536 52) ∧ (∀ i, 0 ≤ i → i < x → xR mz 579 i = pk i ∧ xR mz 580 i = Rs i) ∧ ((lf ≠ nb + 1 ∧ xR mz 536 3 = 0 ∧ v = x ∧ m2 = mz) ∨ (lf = nb + 1 ∧ xR mz 536 3 = 1 ∧ v = -3 ∧ fgR mz m2))) ∨ ((1 ≤ lf ∧ lf ≤ nb) ∧ xR mz 536 40 = xR m 536 40 ∧ xR mz 536 50 = wr + lf ∧ xR mz 536 52 = E ∧ xR mz 536 3 = 1 ∧ (∀ a, a = 579 ∨ a = 580 ∨ a = 586 ∨ a = 587 ∨ a = 588 → mz a = m a) ∧ v = -3 ∧ fgR mz m2)))))) (lv330 (B := B) (m := m) (w0 := if x = 0 then 0 else 8) (k := x) h h31 h43 hx16 (fun i i0 i1 => by rw [(hv i i0 i1).1]; exact (hv i i0 i1).2) w0b.1 (by omega) (fun m3 x1' L => by
    obtain ⟨b, eb, p3, t3, V3⟩ := L
    have V0 : ∀ i, 0 ≤ i → i < x → vbt m D M (pk i) 0 n (xR m3 582 i) (b i) := fun i i0 i1 => by
      have q := V3 i i0 i1
      rw [(hv i i0 i1).1] at q
      exact q
    have rb := rsum_b (b := b) (lo := 4) (hi := 7000000) x.toNat (fun i i0 i1 => by have := vbt_b hD hM (by omega) (V0 i i0 (by omega)); omega)
    have c3 : ∀ a, a ≠ 536 → a ≠ 603 → a ≠ 582 → (a < 590 ∨ 594 < a) → m3 a = m a := p3.1
    have d3 : ∀ q, q ≠ 58 → q ≠ 59 → q ≠ 60 → q ≠ 61 → m3 536 q = m 536 q := p3.2
    obtain ⟨m4, w, e4, C4, R4⟩ := change_ok (B := B) (m := m3) (E := E) (kd := 2) (f := 0) (v := 1) (wg := x1') (b := B) (lf := lf) (wr := wr) (by rw [xR_fld (d3 49 (by omega) (by omega) (by omega) (by omega))]; exact h49) (by omega) (by rw [xR_fld (d3 52 (by omega) (by omega) (by omega) (by omega))]; exact hE) (by rw [xR_cg (c3 587 (by omega) (by omega) (by omega) (by omega)), xR_cg (c3 588 (by omega) (by omega) (by omega) (by omega))]; exact hx) (by rw [xR_fld (d3 51 (by omega) (by omega) (by omega) (by omega))]; exact hlf) lf1 (by omega) (by rw [xR_fld (d3 50 (by omega) (by omega) (by omega) (by omega))]; exact hwr) wr0 wr1 (by omega) (by omega) (by decide)
    have e86 : xR m3 586 = xR m 586 := xR_cg (c3 586 (by omega) (by omega) (by omega) (by omega))
    have eW : (x1' + 4095) / 4096 = (if x = 0 then 0 else (8 + rsum b x.toNat + 4095) / 4096) := by
      rw [eb]
      by_cases h0 : x = 0
      · rw [if_pos h0, if_pos h0, h0]
        show (0 + (0 : Int) + 4095) / 4096 = 0
        decide
      · rw [if_neg h0, if_neg h0]
    rw [eW, e86, xR_cg (c3 587 (by omega) (by omega) (by omega) (by omega)), xR_cg (c3 588 (by omega) (by omega) (by omega) (by omega))] at R4
    rw [e4, xB_ret]
    have nbb : 0 ≤ (if x = 0 then 0 else (8 + rsum b x.toNat + 4095) / 4096 : Int) ∧ (if x = 0 then 0 else (8 + rsum b x.toNat + 4095) / 4096 : Int) ≤ 1000000 := by split <;> omega
    generalize hnb : (if x = 0 then 0 else (8 + rsum b x.toNat + 4095) / 4096 : Int) = nb at *
    have C4c : ∀ a, a ≠ 536 → a ≠ 603 → a ≠ 582 → (a < 586 ∨ 594 < a) → m4 a = m a := fun a a1 a2 a3 a4 => by rw [C4.1 a a1 (by omega) (by omega) (by omega) (by omega), c3 a a1 a2 a3 (by omega)]
    have C4f : ∀ q, q ≠ 3 → q ≠ 50 → q ≠ 51 → q ≠ 52 → q ≠ 57 → q ≠ 58 → q ≠ 59 → q ≠ 60 → q ≠ 61 → m4 536 q = m 536 q := fun q q1 q2 q3 q4 q5 q6 q7 q8 q9 => by rw [C4.2 q q1 q2 q3 q4 q5, d3 q q6 q7 q8 q9]
    have x4 : xR m4 536 1 = 0 := by rw [xR_fld (C4f 1 (by omega) (by omega) (by omega) (by omega) (by omega) (by omega) (by omega) (by omega) (by omega))]; exact h1
    have t4 : ∃ s t, two s t ∧ m4 536 59 = s ∧ m4 536 60 = t := two_m t3 (C4.2 59 (by omega) (by omega) (by omega) (by omega) (by omega)) (C4.2 60 (by omega) (by omega) (by omega) (by omega) (by omega))
    have L4 : crF m m4 := ⟨fun a a1 a2 a3 => C4c a a1 a3 (by omega) (by omega), fun q q1 q3 q39 q40 q43 q50 q51 q52 q57 q58 q59 q60 q61 => C4f q q3 q50 q51 q52 q57 q58 q59 q60 q61, x4, t4⟩
    have f39 : xR m4 536 39 = xR m 536 39 := xR_fld (C4f 39 (by omega) (by omega) (by omega) (by omega) (by omega) (by omega) (by omega) (by omega) (by omega))
    have f43 : xR m4 536 43 = x := by rw [xR_fld (C4f 43 (by omega) (by omega) (by omega) (by omega) (by omega) (by omega) (by omega) (by omega) (by omega))]; exact h43
    rcases R4 with ⟨fl, rfl, y57, yf, y6, y7, y8⟩ | ⟨fi, hfi, ch⟩
    · rw [if_pos rfl, xH_ret]
      refine ⟨b, fun i => xR m3 582 i, nb, V0, hnb.symm, Or.inl ⟨rfl, fl, L4, fun q hq => by rw [yf q (by omega), d3 q (by omega) (by omega) (by omega) (by omega)], fun a ha => ?_⟩⟩
      rcases ha with rfl | rfl | rfl | rfl | rfl
      · exact C4c 579 (by omega) (by omega) (by omega) (by omega)
      · exact C4c 580 (by omega) (by omega) (by omega) (by omega)
      · rw [y6, c3 586 (by omega) (by omega) (by omega) (by omega)]
      · rw [y7, c3 587 (by omega) (by omega) (by omega) (by omega)]
      · rw [y8, c3 588 (by omega) (by omega) (by omega) (by omega)]
    · have fi2 : 2 ≤ fi := by
        rcases hfi with ⟨_, q⟩ | ⟨_, _, q⟩
        · omega
        · exact q
      have room : 0 < nb → isRoom (xR m 587) (xR m 588) E B nb fi ∧ cnt (fun e => !gz 0 1 (xR m 586 e)) E.toNat < 200 := fun hp => by
        rcases hfi with ⟨q, _⟩ | ⟨q1, q2, _⟩
        · omega
        · exact ⟨q2, q1⟩
      have nf : ¬ full (xR m 587) (xR m 588) E B (fun e => !gz 0 1 (xR m 586 e)) nb := by
        rintro ⟨hp, hq | hq⟩
        · have := (room hp).2; omega
        · have := isRoom_uniq (room hp).1 hq; omega
      rcases ch with ⟨hl, ew, y57, y50, y51, y3, led0⟩ | ⟨hl, ew, y57, y50, y51, y3, y52, y6, y7, y8⟩
      · have wn : ¬ w = -2 := by rw [ew]; split <;> omega
        rw [if_neg wn, if_neg (by omega), f39, f43]
        have D5f : ∀ q, q ≠ 39 → q ≠ 40 → xw_u (xw_u m4 536 39 (xR m 536 39 + 1)) 536 40 x 536 q = m4 536 q := fun q q1 q2 => by rw [xu_ne (by omega), xu_ne (by omega)]
        have D5c : ∀ a, a ≠ 536 → xw_u (xw_u m4 536 39 (xR m 536 39 + 1)) 536 40 x a = m4 a := fun a a1 => by rw [xu_c a1, xu_c a1]
        have z39 : xR (xw_u (xw_u m4 536 39 (xR m 536 39 + 1)) 536 40 x) 536 39 = xR m 536 39 + 1 := by rw [xR_ne (by omega), xR_at (w32_id (by omega) (by omega))]
        have z40 : xR (xw_u (xw_u m4 536 39 (xR m 536 39 + 1)) 536 40 x) 536 40 = x := xR_at (w32_id (by omega) (by omega))
        refine set579 (k := x) z40 hx16 (fun m5 f5 a5 => ?_)
        have mzf : ∀ q, q ≠ 39 → q ≠ 40 → m5 536 q = m4 536 q := fun q q1 q2 => by rw [f5 536 (by omega) (by omega), D5f q q1 q2]
        have mzc : ∀ a, a ≠ 536 → a ≠ 579 → a ≠ 580 → m5 a = m4 a := fun a a1 a2 a3 => by rw [f5 a a2 a3, D5c a a1]
        have z579 : ∀ i, 0 ≤ i → i < x → xR m5 579 i = pk i ∧ xR m5 580 i = xR m3 582 i := fun i i0 i1 => by
          have q := a5 i i0 i1
          rw [q.1, q.2, xR_cg (D5c 581 (by omega)), xR_cg (D5c 582 (by omega)), xR_cg (C4c 581 (by omega) (by omega) (by omega) (by omega)), xR_cg (C4.1 582 (by omega) (by omega) (by omega) (by omega) (by omega)), (hv i i0 i1).1]
          exact ⟨rfl, rfl⟩
        have Lz : crF m m5 := ⟨fun a a1 a2 a3 => by rw [mzc a a1 (by omega) (by omega)]; exact C4c a a1 a3 (by omega) (by omega), fun q q1 q3 q39 q40 q43 q50 q51 q52 q57 q58 q59 q60 q61 => by rw [mzf q q39 q40]; exact C4f q q3 q50 q51 q52 q57 q58 q59 q60 q61, by rw [xR_fld (mzf 1 (by omega) (by omega))]; exact x4, two_m t4 (mzf 59 (by omega) (by omega)) (mzf 60 (by omega) (by omega))⟩
        have z3 : xR m5 536 3 = (if lf = nb + 1 then 1 else 0) := by rw [xR_fld (mzf 3 (by omega) (by omega))]; exact y3
        have g39 : xR m5 536 39 = xR m 536 39 + 1 := by rw [xR_cg (f5 536 (by omega) (by omega))]; exact z39
        have g40 : xR m5 536 40 = x := by rw [xR_cg (f5 536 (by omega) (by omega))]; exact z40
        have g50 : xR m5 536 50 = wr + nb + 1 := by rw [xR_fld (mzf 50 (by omega) (by omega))]; exact y50
        have g51 : xR m5 536 51 = (if lf < 0 then -1 else lf - (nb + 1)) := by rw [xR_fld (mzf 51 (by omega) (by omega))]; exact y51
        have gl : led (xR m 586) (xR m 587) (xR m 588) E (fun e => !gz 0 1 (xR m 586 e)) nb 2 fi (xR m5 586) (xR m5 587) (xR m5 588) (xR m5 536 52) := by
          rw [xR_cg (mzc 586 (by omega) (by omega) (by omega)), xR_cg (mzc 587 (by omega) (by omega) (by omega)), xR_cg (mzc 588 (by omega) (by omega) (by omega)), xR_fld (mzf 52 (by omega) (by omega))]
          rw [e86, xR_cg (c3 587 (by omega) (by omega) (by omega) (by omega)), xR_cg (c3 588 (by omega) (by omega) (by omega) (by omega))] at led0
          exact led0
        unfold yk330_210
        by_cases hcut : lf = nb + 1
        · rw [if_pos hcut] at z3
          rw [if_pos (show w = -3 by rw [ew, if_pos hcut])]
          obtain ⟨m6, e6, R6⟩ := (end312 (B := B) (m := m5) (a := -3)).2 (by omega)
          rw [e6, xB_ret, xH_ret]
          exact ⟨b, fun i => xR m3 582 i, nb, V0, hnb.symm, Or.inr ⟨fi, m5, nf, fi2, room, Lz, g39, Or.inl ⟨hl, g40, g50, g51, gl, z579, Or.inr ⟨hcut, z3, rfl, R6⟩⟩⟩⟩
        · rw [if_neg hcut] at z3
          rw [if_neg (show ¬ w = -3 by rw [ew, if_neg hcut]; omega), (end312 (B := B) (m := m5) (a := xR m5 536 40)).1 z3, xB_ret, xH_ret]
          exact ⟨b, fun i => xR m3 582 i, nb, V0, hnb.symm, Or.inr ⟨fi, m5, nf, fi2, room, Lz, g39, Or.inl ⟨hl, g40, g50, g51, gl, z579, Or.inl ⟨hcut, z3, g40, rfl⟩⟩⟩⟩
      · rw [if_neg (by omega), if_pos y57, f39]
        have D5f : ∀ q, q ≠ 39 → xw_u m4 536 39 (xR m 536 39 + 1) 536 q = m4 536 q := fun q q1 => by rw [xu_ne (by omega)]
        have D5c : ∀ a, a ≠ 536 → xw_u m4 536 39 (xR m 536 39 + 1) a = m4 a := fun a a1 => xu_c a1
        have z39 : xR (xw_u m4 536 39 (xR m 536 39 + 1)) 536 39 = xR m 536 39 + 1 := xR_at (w32_id (by omega) (by omega))
        have Lz : crF m (xw_u m4 536 39 (xR m 536 39 + 1)) := ⟨fun a a1 a2 a3 => by rw [D5c a a1]; exact C4c a a1 a3 (by omega) (by omega), fun q q1 q3 q39 q40 q43 q50 q51 q52 q57 q58 q59 q60 q61 => by rw [D5f q q39]; exact C4f q q3 q50 q51 q52 q57 q58 q59 q60 q61, by rw [xR_fld (D5f 1 (by omega))]; exact x4, two_m t4 (D5f 59 (by omega)) (D5f 60 (by omega))⟩
        obtain ⟨m6, e6, R6⟩ := (end312 (B := B) (m := xw_u m4 536 39 (xR m 536 39 + 1)) (a := -3)).2 (by rw [xR_fld (D5f 3 (by omega)), y3]; decide)
        unfold yk330_210
        rw [if_pos ew, e6, xB_ret, xH_ret]
        refine ⟨b, fun i => xR m3 582 i, nb, V0, hnb.symm, Or.inr ⟨fi, xw_u m4 536 39 (xR m 536 39 + 1), nf, fi2, room, Lz, z39, Or.inr ⟨⟨by omega, hl.2⟩, ?_, ?_, ?_, ?_, fun a ha => ?_, rfl, R6⟩⟩⟩
        · rw [xR_fld (D5f 40 (by omega)), xR_fld (C4f 40 (by omega) (by omega) (by omega) (by omega) (by omega) (by omega) (by omega) (by omega) (by omega))]
        · rw [xR_fld (D5f 50 (by omega))]; exact y50
        · rw [xR_fld (D5f 52 (by omega))]; exact y52
        · rw [xR_fld (D5f 3 (by omega))]; exact y3
        · rw [D5c a (by omega)]
          rcases ha with rfl | rfl | rfl | rfl | rfl
          · exact C4c 579 (by omega) (by omega) (by omega) (by omega)
          · exact C4c 580 (by omega) (by omega) (by omega) (by omega)
          · rw [y6, c3 586 (by omega) (by omega) (by omega) (by omega)]
          · rw [y7, c3 587 (by omega) (by omega) (by omega) (by omega)]
          · rw [y8, c3 588 (by omega) (by omega) (by omega) (by omega)]))
  obtain ⟨v, m2, e, b, Rs, nb, V, en, H⟩ := goal
  refine ⟨b, Rs, nb, V, en, ?_⟩
  rcases H with ⟨rfl, a⟩ | ⟨fi, mz, a1, a2, a3, a5, a6, a7⟩
  · exact Or.inl ⟨m2, e, a⟩
  · refine Or.inr ⟨fi, mz, a1, a2, a3, a5, a6, ?_⟩
    rcases a7 with ⟨b1, b2, b3, b4, b5, b6, b7⟩ | ⟨b1, b2, b3, b4, b5, b6, rfl, b7⟩
    · refine Or.inl ⟨b1, b2, b3, b4, b5, b6, ?_⟩
      rcases b7 with ⟨c1, c2, rfl, rfl⟩ | ⟨c1, c2, rfl, c4⟩
      · exact Or.inl ⟨c1, c2, e⟩
      · exact Or.inr ⟨c1, c2, m2, e, c4⟩
    · exact Or.inr ⟨b1, b2, b3, b4, b5, b6, m2, e, b7⟩
end CHR
