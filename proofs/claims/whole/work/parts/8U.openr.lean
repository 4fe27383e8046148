/-! OPEN, by the reference: what it leaves -/
section OPR
variable {B : Nat} {m w : xw_M} {D M lf wr : Int}
theorem open_rf (hc : ctn w D M) (hs : nm2 w m D M) (e2 : xR m 536 2 = 0) (e3 : xR m 536 3 = 0) (hD1 : 0 < D) (hM1 : 0 < M) (hmem : ∀ d, 0 ≤ d → d < D → 0 < xR m 539 d) (h49 : xR m 536 49 = (B : Int)) (hB : B ≤ 512) (h52 : xR m 536 52 = 0) (hlf : xR m 536 51 = lf) (lf1 : lf ≤ 1000) (lf0 : lf = -1 ∨ 1 ≤ lf) (hwr : xR m 536 50 = wr) (wr0 : 0 ≤ wr) (wr1 : wr < 1000000000) : ∃ Wt nb, Wt = dsm w D.toNat + msm w M.toNat ∧ nb = (8 + Wt + 4095) / 4096 ∧ ((∃ mz, yf303 B m = some (.inl (-2), mz) ∧ isRoom (xR m 587) (xR m 588) 0 B nb (-1) ∧ orF m mz ∧ (∀ q, q = 2 ∨ q = 3 ∨ q = 50 ∨ q = 51 ∨ q = 52 → mz 536 q = m 536 q) ∧ (∀ a, a = 540 ∨ a = 573 ∨ a = 574 ∨ a = 586 ∨ a = 587 ∨ a = 588 → mz a = m a)) ∨ (∃ fi mz, 2 ≤ fi ∧ isRoom (xR m 587) (xR m 588) 0 B nb fi ∧ orF m mz ∧ ((((lf < 0 ∨ nb + 1 ≤ lf) ∧ xR mz 536 2 = 1 ∧ xR mz 536 50 = wr + nb + 1 ∧ xR mz 536 51 = (if lf < 0 then -1 else lf - (nb + 1)) ∧ xR mz 536 52 = 1 ∧ (xR mz 586 0 = 0 ∧ xR mz 587 0 = fi ∧ xR mz 588 0 = nb) ∧ (∀ d, 0 ≤ d → d < D → rarr m mz d) ∧ ((lf ≠ nb + 1 ∧ xR mz 536 3 = 0 ∧ yf303 B m = some (.inl (nb + 1), mz)) ∨ (lf = nb + 1 ∧ xR mz 536 3 = 1 ∧ ∃ m2, yf303 B m = some (.inl (-3), m2) ∧ fgR mz m2))) ∨ ((1 ≤ lf ∧ lf ≤ nb) ∧ xR mz 536 2 = 0 ∧ xR mz 536 50 = wr + lf ∧ xR mz 536 52 = 0 ∧ xR mz 536 3 = 1 ∧ (∀ a, a = 540 ∨ a = 573 ∨ a = 574 ∨ a = 586 ∨ a = 587 ∨ a = 588 → mz a = m a) ∧ ∃ m2, yf303 B m = some (.inl (-3), m2) ∧ fgR mz m2))))) := by
  have hD := hc.1
  have hM := hc.2.1
  have h14 := hs.1
  have h19 := hs.2.1
  have ed := dm_end hc
  have dl := dsm_le hc D.toNat (by omega)
  have ml := msm_le hc M.toNat (by omega)
  have eDN : (D.toNat : Int) ≤ 8 := by omega
  have eMN : (M.toNat : Int) ≤ 8 := by omega
  have start : yf303 B m = xl2 (yl303_36 B) 1000000 1 0 m := by
    unfold yf303
    rw [if_pos e3, if_pos e2, h14, if_pos hD1, h19, if_pos hM1]
  have wgt : yf304 B (xw_u m 536 1 0) = some (.inl (8 + dsm w D.toNat + msm w M.toNat), xw_u m 536 1 0) := cweight_w hc (by
    obtain ⟨s1, s2, s3, s4⟩ := hs
    refine ⟨by rw [xR_ne (by omega)]; exact s1, by rw [xR_ne (by omega)]; exact s2, ?_, ?_⟩
    · rw [xR_cg (xu_c (show (538 : Int) ≠ 536 by omega)), xR_cg (xu_c (show (539 : Int) ≠ 536 by omega)), xR_cg (xu_c (show (543 : Int) ≠ 536 by omega))]; exact s3
    · rw [xR_cg (xu_c (show (543 : Int) ≠ 536 by omega))]; exact s4)
  have n0 : ∀ d, 0 ≤ d → d < D → (0 ≤ xR m 539 d ∧ xR m 539 d ≤ 1000) ∧ 0 ≤ xR m 538 d ∧ xR m 538 d ≤ 4 := fun d d0 d1 => by
    have q := hs.2.2.1 d d0 d1
    have q2 := hc.2.2.2.2.1 d d0 d1
    rw [q.1, q.2.1]
    exact ⟨q2.2.2.1, q2.2.1⟩
  refine ⟨_, _, rfl, rfl, ?_⟩
  generalize hnb : (8 + (dsm w D.toNat + msm w M.toNat) + 4095) / 4096 = nb
  have nb1 : 1 ≤ nb := by omega
  have nb2 : nb ≤ 1000000 := by omega
  have goal := xH_ex (Q := fun v m2 => (v = -2 ∧ isRoom (xR m 587) (xR m 588) 0 B nb (-1) ∧ orF m m2 ∧ (∀ q, q = 2 ∨ q = 3 ∨ q = 50 ∨ q = 51 ∨ q = 52 → m2 536 q = m 536 q) ∧ (∀ a, a = 540 ∨ a = 573 ∨ a = 574 ∨ a = 586 ∨ a = 587 ∨ a = 588 → m2 a = m a)) ∨ (∃ fi mz, 2 ≤ fi ∧ isRoom (xR m 587) (xR m 588) 0 B nb fi ∧ orF m mz ∧ ((((lf < 0 ∨ nb + 1 ≤ lf) ∧ xR mz 536 2 = 1 ∧ xR mz 536 50 = wr + nb + 1 ∧ xR mz 536 51 = (if lf < 0 then -1 else lf - (nb + 1)) ∧ xR mz 536 52 = 1 ∧ (xR mz 586 0 = 0 ∧ xR mz 587 0 = fi ∧ xR mz 588 0 = nb) ∧ (∀ d, 0 ≤ d → d < D → rarr m mz d) ∧ ((lf ≠ nb + 1 ∧ xR mz 536 3 = 0 ∧ v = nb + 1 ∧ m2 = mz) ∨ (lf = nb + 1 ∧ xR mz 536 3 = 1 ∧ v = -3 ∧ fgR mz m2))) ∨ ((1 ≤ lf ∧ lf ≤ nb) ∧ xR mz 536 2 = 0 ∧ xR mz 536 50 = wr + lf ∧ xR mz 536 52 = 0 ∧ xR mz 536 3 = 1 ∧ (∀ a, a = 540 ∨ a = 573 ∨ a = 574 ∨ a = 586 ∨ a = 587 ∨ a = 588 → mz a = m a) ∧ v = -3 ∧ fgR mz m2))))) (open_ready (B := B) (m := m) (x1 := 1) (by rw [h14]; exact hD) (Or.inr rfl) (fun hq => absurd ⟨rfl, by rw [h14]; exact hmem⟩ hq) (fun _ => by
    rw [wgt, xB_ret]
    have d3 : ∀ q, q ≠ 1 → xw_u m 536 1 0 536 q = m 536 q := fun q h => by rw [xu_ne (by omega)]
    have c3 : ∀ a, a ≠ 536 → xw_u m 536 1 0 a = m a := fun a h => xu_c h
    obtain ⟨m4, w4, e4, C4, R4⟩ := change_ok (B := B) (m := xw_u m 536 1 0) (E := 0) (kd := 0) (f := 0) (v := 0) (wg := 8 + dsm w D.toNat + msm w M.toNat) (b := B) (lf := lf) (wr := wr) (by rw [xR_fld (d3 49 (by omega))]; exact h49) (by omega) (by rw [xR_fld (d3 52 (by omega))]; exact h52) (exts_0 _ _ _) (by rw [xR_fld (d3 51 (by omega))]; exact hlf) lf1 (by omega) (by rw [xR_fld (d3 50 (by omega))]; exact hwr) wr0 wr1 (by omega) (by omega) (by decide)
    rw [xR_cg (c3 587 (by omega)), xR_cg (c3 588 (by omega)), show (8 + dsm w D.toNat + msm w M.toNat + 4095) / 4096 = nb by rw [← hnb]; congr 2; omega] at R4
    rw [e4, xB_ret]
    have c0 : ∀ P : Int → Bool, cnt P (Int.toNat 0) = 0 := fun P => rfl
    have C4c : ∀ a, a ≠ 536 → (a < 586 ∨ 589 < a) → m4 a = m a := fun a a1 a2 => by rw [C4.1 a a1 (by omega) (by omega) (by omega) (by omega), c3 a a1]
    have C4f : ∀ q, q ≠ 1 → q ≠ 3 → q ≠ 50 → q ≠ 51 → q ≠ 52 → q ≠ 57 → m4 536 q = m 536 q := fun q q0 q1 q2 q3 q4 q5 => by rw [C4.2 q q1 q2 q3 q4 q5, d3 q q0]
    have x4 : xR m4 536 1 = 0 := by rw [xR_fld (C4.2 1 (by omega) (by omega) (by omega) (by omega) (by omega)), xR_at (by decide)]
    have L4 : orF m m4 := ⟨fun a a1 a2 a3 a4 a5 a6 => C4c a a1 a5, fun q q1 q2 q3 q50 q51 q52 q57 => C4f q q1 q3 q50 q51 q52 q57, x4⟩
    have f2 : xR m4 536 2 = 0 := by rw [xR_fld (C4f 2 (by omega) (by omega) (by omega) (by omega) (by omega) (by omega))]; exact e2
    rcases R4 with ⟨fl, rfl, y57, yf, y6, y7, y8⟩ | ⟨fi, hfi, ch⟩
    · rw [if_pos y57]
      have fl' : isRoom (xR m 587) (xR m 588) 0 B nb (-1) := by
        rcases fl.2 with q | q
        · rw [c0] at q; omega
        · exact q
      have yq : ∀ q, q ≠ 1 → q ≠ 57 → m4 536 q = m 536 q := fun q h1 h2 => by rw [yf q h2, d3 q h1]
      unfold yk303_136
      rw [(end312 (B := B) (m := m4) (a := -2)).1 (by rw [xR_fld (yq 3 (by omega) (by omega))]; exact e3), xB_ret, xH_ret]
      refine Or.inl ⟨rfl, fl', L4, fun q hq => yq q (by omega) (by omega), fun a ha => ?_⟩
      rcases ha with rfl | rfl | rfl | rfl | rfl | rfl
      · exact C4c 540 (by omega) (by omega)
      · exact C4c 573 (by omega) (by omega)
      · exact C4c 574 (by omega) (by omega)
      · rw [y6, c3 586 (by omega)]
      · rw [y7, c3 587 (by omega)]
      · rw [y8, c3 588 (by omega)]
    · rcases hfi with ⟨hz, _⟩ | ⟨hc', hroom, h2⟩
      · omega
      · rcases ch with ⟨hl, ew, y57, y50, y51, y3, led1, led2, led3⟩ | ⟨hl, ew, y57, y50, y51, y3, y52, y6, y7, y8⟩
        · rw [if_neg (by omega)]
          have D5f : ∀ q, q ≠ 2 → xw_u m4 536 2 1 536 q = m4 536 q := fun q h => by rw [xu_ne (by omega)]
          have D5c : ∀ a, a ≠ 536 → xw_u m4 536 2 1 a = m4 a := fun a h => xu_c h
          have q8 : xR (xw_u m4 536 2 1) 538 = xR m 538 := by rw [xR_cg (D5c 538 (by omega)), xR_cg (C4c 538 (by omega) (by omega))]
          have q9 : xR (xw_u m4 536 2 1) 539 = xR m 539 := by rw [xR_cg (D5c 539 (by omega)), xR_cg (C4c 539 (by omega) (by omega))]
          have q40 : xR (xw_u m4 536 2 1) 540 = xR m 540 := by rw [xR_cg (D5c 540 (by omega)), xR_cg (C4c 540 (by omega) (by omega))]
          refine rsettle_all (D := D) hD (by rw [xR_fld (D5f 14 (by omega)), xR_fld (C4f 14 (by omega) (by omega) (by omega) (by omega) (by omega) (by omega))]; exact h14) (by rw [q8, q9]; exact n0) (fun m5 f5 a5 => ?_)
          have mzf : ∀ q, q ≠ 2 → m5 536 q = m4 536 q := fun q h => by rw [f5 536 (by omega) (by omega) (by omega) (by omega), D5f q h]
          have mzc : ∀ a, a ≠ 536 → a ≠ 540 → a ≠ 573 → a ≠ 574 → a ≠ 594 → m5 a = m4 a := fun a h1 h2 h3 h4 h5 => by rw [f5 a h2 h3 h4 h5, D5c a h1]
          have RA : ∀ d, 0 ≤ d → d < D → rarr m m5 d := fun d d0 d1 => by
            have q := a5 d d0 d1
            unfold rarr at q ⊢
            rw [q8, q9, q40] at q
            exact q
          have Lz : orF m m5 := ⟨fun a a1 a2 a3 a4 a5 a6 => by rw [mzc a a1 a2 a3 a4 a6]; exact C4c a a1 a5, fun q q1 q2 q3 q50 q51 q52 q57 => by rw [mzf q q2]; exact C4f q q1 q3 q50 q51 q52 q57, by rw [xR_fld (mzf 1 (by omega))]; exact x4⟩
          have z2 : xR m5 536 2 = 1 := by rw [xR_cg (f5 536 (by omega) (by omega) (by omega) (by omega)), xR_at (by decide)]
          have z3 : xR m5 536 3 = (if lf = nb + 1 then 1 else 0) := by rw [xR_fld (mzf 3 (by omega))]; exact y3
          have g50 : xR m5 536 50 = wr + nb + 1 := by rw [xR_fld (mzf 50 (by omega))]; exact y50
          have g51 : xR m5 536 51 = (if lf < 0 then -1 else lf - (nb + 1)) := by rw [xR_fld (mzf 51 (by omega))]; exact y51
          have g52 : xR m5 536 52 = 1 := by rw [xR_fld (mzf 52 (by omega)), led1, c0, if_pos (by omega)]; rfl
          have q1 := led3 (by omega)
          rw [c0] at q1
          have gB : xR m5 586 0 = 0 ∧ xR m5 587 0 = fi ∧ xR m5 588 0 = nb := by
            rw [xR_cg (mzc 586 (by omega) (by omega) (by omega) (by omega) (by omega)), xR_cg (mzc 587 (by omega) (by omega) (by omega) (by omega) (by omega)), xR_cg (mzc 588 (by omega) (by omega) (by omega) (by omega) (by omega))]
            exact q1
          unfold yk303_136
          by_cases hcut : lf = nb + 1
          · rw [if_pos hcut] at z3
            have ew' : w4 = -3 := by rw [ew, if_pos hcut]
            obtain ⟨m6, e6, R6⟩ := (end312 (B := B) (m := m5) (a := w4)).2 (by omega)
            rw [e6, xB_ret, xH_ret]
            exact Or.inr ⟨fi, m5, h2, hroom, Lz, Or.inl ⟨hl, z2, g50, g51, g52, gB, RA, Or.inr ⟨hcut, z3, ew', R6⟩⟩⟩
          · rw [if_neg hcut] at z3
            have ew' : w4 = nb + 1 := by rw [ew, if_neg hcut]
            rw [(end312 (B := B) (m := m5) (a := w4)).1 z3, xB_ret, xH_ret]
            exact Or.inr ⟨fi, m5, h2, hroom, Lz, Or.inl ⟨hl, z2, g50, g51, g52, gB, RA, Or.inl ⟨hcut, z3, ew', rfl⟩⟩⟩
        · rw [if_pos y57]
          obtain ⟨m6, e6, R6⟩ := (end312 (B := B) (m := m4) (a := w4)).2 (by rw [y3]; decide)
          unfold yk303_136
          rw [e6, xB_ret, xH_ret]
          refine Or.inr ⟨fi, m4, h2, hroom, L4, Or.inr ⟨⟨by omega, hl.2⟩, f2, y50, y52, y3, fun a ha => ?_, ew, R6⟩⟩
          rcases ha with rfl | rfl | rfl | rfl | rfl | rfl
          · exact C4c 540 (by omega) (by omega)
          · exact C4c 573 (by omega) (by omega)
          · exact C4c 574 (by omega) (by omega)
          · rw [y6, c3 586 (by omega)]
          · rw [y7, c3 587 (by omega)]
          · rw [y8, c3 588 (by omega)]))
  obtain ⟨v, m2, e, H⟩ := goal
  rw [← start] at e
  rcases H with ⟨rfl, a⟩ | ⟨fi, mz, a2, a3, a5, a7⟩
  · exact Or.inl ⟨m2, e, a⟩
  · refine Or.inr ⟨fi, mz, a2, a3, a5, ?_⟩
    rcases a7 with ⟨b1, b2, b3, b4, b5, b6, b7, b8⟩ | ⟨b1, b2, b3, b4, b5, b6, rfl, b7⟩
    · refine Or.inl ⟨b1, b2, b3, b4, b5, b6, b7, ?_⟩
      rcases b8 with ⟨c1, c2, rfl, rfl⟩ | ⟨c1, c2, rfl, c4⟩
      · exact Or.inl ⟨c1, c2, e⟩
      · exact Or.inr ⟨c1, c2, m2, e, c4⟩
    · exact Or.inr ⟨b1, b2, b3, b4, b5, b6, m2, e, b7⟩
end OPR
