/-! OPEN, by the class and by the reference -/
section OPC
variable {B : Nat} {m : xw_M} {c D M : Int}
theorem open_no (h : Inw B c m) (hn : ¬ (xR m 536 2 = 0 ∧ xR m 536 3 = 0 ∧ 0 < xR m 536 14 ∧ 0 < xR m 536 19 ∧ ∀ d, 0 ≤ d → d < xR m 536 14 → 0 < xR m 539 d)) : yf147 B m = some (.inr 14, m) := by
  obtain ⟨d1, d2, d3⟩ := sta_dn h.st
  have bad : ∀ m : xw_M, yk147_17 B m = some (.inr 14, m) := fun m => rfl
  unfold yf147
  by_cases hs : xR m 0 14 = 0
  · obtain ⟨e3, e2⟩ := d3.mp hs
    obtain ⟨D, M, F⟩ := (h.nw e2).up e3
    obtain ⟨v, z, v01, vi⟩ := complete_ok (B := B) (m := m) (D := D) (M := M) F.cg.cn.1 F.cg.cn.2.2.1 F.cg.cn.2.2.2.1
    rw [if_pos hs, z, xB_ret]
    have v0 : v = 0 := by
      rcases v01 with q | q
      · exact q
      · exfalso
        obtain ⟨a, b, e⟩ := vi.mp q
        refine hn ⟨e2, e3, by rw [F.cg.r14]; exact a, by rw [F.cg.r19]; exact b, fun d q0 q1 => ?_⟩
        rw [F.cg.r14] at q1
        have := e d q0 q1
        have := (F.cg.cn.2.2.2.2.1 d q0 q1).2.2.1
        rw [(F.cg.sz d q0 q1).2.2.1]
        omega
    rw [if_pos v0]
    exact bad m
  · rw [if_neg hs]
    exact bad m
/-- the class's memory before open's commit -/
def opm (B : Nat) (ma mL w : xw_M) (D M Wt nb pl : Int) : Prop := Ctl w (mL 517) 64 D M ∧ tk (mL 517) 32 32 = msk (D + 256 * M) 32 ∧ 64 + 8 * Wt ≤ nb * 32768 ∧ (∀ a, a ≠ 508 → (a < 510 ∨ 510 < a) → (a < 513 ∨ 515 < a) → (a < 517 ∨ 523 < a) → mL a = ma a) ∧ tpz 518 517 (B * 512 : Nat) mL ∧ (∀ k, k ≠ 14 → mL 508 k = ma 508 k) ∧ xR mL 508 14 = 1 ∧ xR mL 513 0 = 1 ∧ xR mL 514 0 = pl ∧ xR mL 515 0 = nb
theorem open_c (h : Inw B c m) (e2 : xR m 536 2 = 0) (e3 : xR m 536 3 = 0) (F : catN m D M) (hD1 : 0 < D) (hM1 : 0 < M) (hmem : ∀ d, 0 ≤ d → d < D → xR m (15 + 26 * d) 11 ≠ 0) : ∃ (ma w : xw_M) (os : Int → Int → Int) (Wt nb : Int), (∀ a, (∀ d, 0 ≤ d → d < D → a < 15 + 26 * d + 9 ∨ 15 + 26 * d + 25 < a) → ma a = m a) ∧ (∀ d, 0 ≤ d → d < D → arrM m ma d (os d)) ∧ (∀ a, a < 517 ∨ 518 < a → w a = ma a) ∧ Wt = dsm w D.toNat + msm w M.toNat ∧ nb = (8 + Wt + 4095) / 4096 ∧ 1 ≤ nb ∧ nb ≤ 100 ∧ ((∃ m7, yf147 B m = some (.inl (-2), m7) ∧ isRoom (xR m 587) (xR m 588) 0 B nb (-1) ∧ (∀ a, a ≠ 510 → (a < 517 ∨ 523 < a) → m7 a = ma a) ∧ tpz 518 517 (B * 512 : Nat) m7) ∨ (∃ pl mL, pl ≠ -1 ∧ isRoom (xR m 587) (xR m 588) 0 B nb pl ∧ opm B ma mL w D M Wt nb pl ∧ yf147 B m = xB (yf160 B pl nb mL) fun v10 m10 => if v10 = 0 then (xB (yf163 B m10) fun v11 m11 => some (.inl v11, m11)) else (xB (yf30 B (xw_u m10 0 14 1)) fun _ m12 => some (.inl (nb + 1), m12)))) := by
  obtain ⟨d1, d2, d3⟩ := sta_dn h.st
  have hs : xR m 0 14 = 0 := d3.mpr ⟨e3, e2⟩
  have cn := F.cg.cn
  have hD := cn.1
  have hM := cn.2.1
  have N := h.nw e2
  obtain ⟨v, z, v01, vi⟩ := complete_ok (B := B) (m := m) (D := D) (M := M) hD cn.2.2.1 cn.2.2.2.1
  have v1 : v = 1 := vi.mpr ⟨hD1, hM1, hmem⟩
  obtain ⟨ma, os, za, fa, Aa⟩ := arr_all (B := B) cn
  have ha : ∀ a, a < 15 ∨ 222 < a → ma a = m a := fun a h1 => fa a (fun d d0 d1 => by omega)
  have hb : ∀ a d, 0 ≤ d → d < D → 15 + 26 * d ≤ a → a < 15 + 26 * d + 9 → ma a = m a := fun a d d0 d1 a0 a1 => fa a (fun d' _ _ => by omega)
  have cna : ctn ma D M := by
    refine ⟨hD, hM, by rw [xR_cg (ha 3 (by omega))]; exact cn.2.2.1, by rw [xR_cg (ha 3 (by omega))]; exact cn.2.2.2.1, fun d d0 d1 => ?_, by rw [xR_cg (ha 14 (by omega))]; exact cn.2.2.2.2.2⟩
    rw [xR_cg (hb (15 + 26 * d) d d0 d1 (by omega) (by omega)), xR_cg (hb (15 + 26 * d + 7) d d0 d1 (by omega) (by omega))]
    exact cn.2.2.2.2.1 d d0 d1
  have zs := sizes_eq (B := B) (m := ma) hD hM cna.2.2.1 cna.2.2.2.1
  obtain ⟨t1, p, t2, t3, t4, t5⟩ := tpz_fr h.tp.2.2.1 (ha 518 (by omega)) (ha 517 (by omega))
  have hB2 : 2 ≤ B := by have := h.bd; omega
  obtain ⟨w, zw, ww, fw', gw, _, _, nw⟩ := begin_ext (B := B) (m := ma) (kd := 1) (note := D + 256 * M) (tu := 0) h.bd.2 hB2 t1 t2 t3 t4 t5 (by rw [xR_cg (ha 508 (by omega))]; exact N.cl.1)
  have Aw : ∀ a, a < 517 ∨ 518 < a → w a = ma a := fun a h1 => fw' a (by omega) (by omega)
  have cnw : ctn w D M := ctn_cg cna (fun a h1 => Aw a (by omega))
  have ws64 : (64 : Int) ≤ 64 * (B * 512 : Nat) := by omega
  obtain ⟨m5, z5, t5', f5, P5⟩ := wr_cat (B := B) (m := w) (p := 64) h.bd.2 cnw (Or.inl ⟨ww, ws64⟩)
  have ed := dm_end cnw
  have dl := dsm_le cnw D.toNat (by omega)
  have ml := msm_le cnw M.toNat (by omega)
  rw [show 64 + 8 * dsm w D.toNat + 8 * msm w M.toNat = 64 + 8 * (dsm w D.toNat + msm w M.toNat) by omega] at t5' P5
  have g5 : ∀ a, a < 517 ∨ 523 < a → m5 a = ma a := fun a h1 => by rw [f5.1 a h1]; exact Aw a (by omega)
  have e508 : m5 508 = m 508 := by rw [g5 508 (by omega), ha 508 (by omega)]
  obtain ⟨n, m7, v7, z6, z7, f7, R7⟩ := room_tst (B := B) (m := m5) (Wt := dsm w D.toNat + msm w M.toNat) (E := 0) h.bd.2 t5' (by omega) (by omega) (by rw [xR_cg e508]; exact N.cl.2.2.2.2) (by rw [xR_cg e508]; exact h.tp.1) (exts_0 _ _ _)
  have start : yf147 B m = xB (yf156 B m5) fun v7 m7 => xB (yf157 B v7 m7) fun v8 m8 => if v8 = (-1) then (some (.inl (-2), m8)) else (xB (yf159 B 1 v8 v7 m8) fun _ m9 => xB (yf160 B v8 v7 m9) fun v10 m10 => if v10 = 0 then (xB (yf163 B m10) fun v11 m11 => some (.inl v11, m11)) else (xB (yf30 B (xw_u m10 0 14 1)) fun _ m12 => some (.inl (w32 (v7 + 1)), m12))) := by
    unfold yf147
    rw [if_pos hs, z, xB_ret, if_neg (by omega)]
    show xB (some (.inl 0, m)) _ = _
    rw [xB_ret, za, xB_ret, zs, xB_ret, zw, xB_ret, z5, xB_ret]
  rw [z6, xB_ret, z7, xB_ret] at start
  have le0 : ∀ e, 0 ≤ e → e < (0 : Int) → xR m 587 e = xR m5 514 e ∧ xR m 588 e = xR m5 515 e := fun e a b => by omega
  have nb1 : 1 ≤ (8 + (dsm w D.toNat + msm w M.toNat) + 4095) / 4096 ∧ (8 + (dsm w D.toNat + msm w M.toNat) + 4095) / 4096 ≤ 100 := by
    have : (D.toNat : Int) ≤ 8 := by omega
    have : (M.toNat : Int) ≤ 8 := by omega
    omega
  refine ⟨ma, w, os, _, _, fa, Aa, Aw, rfl, rfl, nb1.1, nb1.2, ?_⟩
  rcases R7 with ⟨hv, Ro⟩ | ⟨hv, hn, Ro, wz, hl⟩
  · exact Or.inl ⟨m7, by rw [start, if_pos hv], isRoom_cg le0 Ro, fun a h1 h2 => by rw [f7 a h1]; exact g5 a h2, tpz_fr (tst_tpz t5') (f7 518 (by omega)) (f7 517 (by omega))⟩
  · rw [if_neg hv] at start
    generalize hnb : (8 + (dsm w D.toNat + msm w M.toNat) + 4095) / 4096 = nb at *
    subst hn
    have hB2 := h.bd.2
    have pb : 2 ≤ v7 ∧ v7 + n ≤ B := by
      rcases Ro with ⟨q, _⟩ | ⟨q, _⟩
      · exact absurd q hv
      · exact q
    have c508 : m7 508 = m 508 := by rw [f7 508 (by omega), e508]
    obtain ⟨m8, z8, a1, a2, a3, a4, a5, a6, a7⟩ := add_ext (B := B) (m := m7) (kd := 1) (st := v7) (ln := n) (E := 0) (by rw [xR_cg c508]; exact N.cl.2.2.2.2) (by omega) (by omega)
    rw [z8, xB_ret, w32_id (show -2147483648 ≤ n + 1 by omega) (by omega)] at start
    have L8 : ∀ a, a ≠ 508 → (a < 513 ∨ 515 < a) → m8 a = m7 a := fun a h1 h2 => a1 a h1 (by omega) (by omega) (by omega)
    have w517 : m8 517 = m5 517 := by rw [L8 517 (by omega) (by omega), f7 517 (by omega)]
    have w518 : m8 518 = m5 518 := by rw [L8 518 (by omega) (by omega), f7 518 (by omega)]
    refine Or.inr ⟨v7, m8, hv, isRoom_cg le0 Ro, ?_, start⟩
    unfold opm
    rw [w517]
    refine ⟨(P5 wz).2, ?_, by omega, fun a h1 h2 h3 h4 => by rw [L8 a h1 h3, f7 a (by omega)]; exact g5 a h4, tpz_fr (tst_tpz t5') w518 w517, fun k hk => by rw [a2 k hk, f7 508 (by omega)]; rw [g5 508 (by omega)], by rw [a3]; rfl, ?_, ?_, ?_⟩
    · rw [fw_tk f5 (by omega) (by omega)]; exact nw
    · rw [a5]; decide
    · rw [a6]; exact w32_id (by omega) (by omega)
    · rw [a7]; exact w32_id (by omega) (by omega)
/-- what open of the reference may change, before it forgets -/
def orF (m m' : xw_M) : Prop := (∀ a, a ≠ 536 → a ≠ 540 → a ≠ 573 → a ≠ 574 → (a < 586 ∨ 589 < a) → a ≠ 594 → m' a = m a) ∧ (∀ k, k ≠ 1 → k ≠ 2 → k ≠ 3 → k ≠ 50 → k ≠ 51 → k ≠ 52 → k ≠ 57 → m' 536 k = m 536 k) ∧ xR m' 536 1 = 0
theorem open_ready {x1 : Int} (hD : 0 ≤ xR m 536 14 ∧ xR m 536 14 ≤ 8) (hx : x1 = 0 ∨ x1 = 1) {Q : Int → xw_M → Prop} {X : Nat → xw_M → Prop} (no : ¬ (x1 = 1 ∧ ∀ d, 0 ≤ d → d < xR m 536 14 → 0 < xR m 539 d) → Q 0 (xw_u m 536 1 1)) (yes : (x1 = 1 ∧ ∀ d, 0 ≤ d → d < xR m 536 14 → 0 < xR m 539 d) → xH (xB (yf304 B (xw_u m 536 1 0)) fun v1 m1 => xB (yf305 B v1 0 0 0 m1) fun v2 m2 => if (xR m2 536 57) = 0 then (yk303_136 B v2 m2) else (xl2 (yl303_117 B) 1000000 v2 0 (xw_u m2 536 2 1))) Q X) : xH (xl2 (yl303_36 B) 1000000 x1 0 m) Q X := by
  have gen : ∀ N : Nat, 100 < N → xH (xl2 (yl303_36 B) N x1 0 m) Q X := by
    intro N hN
    refine xl2_rule (F := yl303_36 B) (fun y1 x m' => m' = m ∧ (0 ≤ x ∧ x ≤ xR m 536 14) ∧ (y1 = 0 ∨ y1 = 1) ∧ (y1 = 1 ↔ x1 = 1 ∧ ∀ d, 0 ≤ d → d < x → 0 < xR m 539 d)) (fun _ x _ => (xR m 536 14 - x).toNat) ?_ N x1 0 m ⟨rfl, ⟨Int.le_refl _, hD.1⟩, hx, ⟨fun h => ⟨h, fun d d0 d1 => absurd d1 (Int.not_lt.mpr d0)⟩, fun h => h.1⟩⟩ (by omega)
    intro r y1 x m' ⟨e, hx', y01, yi⟩ ih
    subst e
    unfold yl303_36
    by_cases h : x < xR m' 536 14
    · rw [if_pos h]
      by_cases y0 : y1 = 0
      · rw [if_pos y0, w32_id (by omega) (by omega)]
        refine ih _ _ _ ⟨rfl, ⟨by omega, by omega⟩, Or.inl rfl, ⟨fun h => absurd h (by decide), fun h => ?_⟩⟩ (by omega)
        have := yi.mpr ⟨h.1, fun d d0 d1 => h.2 d d0 (by omega)⟩
        omega
      · rw [if_neg y0, if_pos ⟨hx'.1, by omega⟩]
        by_cases hm : 0 < xR m' 539 x
        · rw [if_pos hm, w32_id (by omega) (by omega)]
          refine ih _ _ _ ⟨rfl, ⟨by omega, by omega⟩, Or.inr rfl, ⟨fun _ => ?_, fun _ => rfl⟩⟩ (by omega)
          obtain ⟨a, b⟩ := yi.mp (by omega)
          refine ⟨a, fun d d0 d1 => ?_⟩
          by_cases ed : d = x
          · rw [ed]; exact hm
          · exact b d d0 (by omega)
        · rw [if_neg hm, w32_id (by omega) (by omega)]
          exact ih _ _ _ ⟨rfl, ⟨by omega, by omega⟩, Or.inl rfl, ⟨fun h => absurd h (by decide), fun h => absurd (h.2 x hx'.1 (by omega)) hm⟩⟩ (by omega)
    · rw [if_neg h]
      have ex : x = xR m' 536 14 := by omega
      subst ex
      by_cases y0 : y1 = 0
      · rw [if_pos y0, xH_ret]
        exact no (fun q => by have := yi.mpr q; omega)
      · rw [if_neg y0]
        exact yes (yi.mp (by omega))
  exact gen 1000000 (by decide)
theorem open_rno (hD : 0 ≤ xR m 536 14 ∧ xR m 536 14 ≤ 8) (hn : ¬ (xR m 536 2 = 0 ∧ xR m 536 3 = 0 ∧ 0 < xR m 536 14 ∧ 0 < xR m 536 19 ∧ ∀ d, 0 ≤ d → d < xR m 536 14 → 0 < xR m 539 d)) : yf303 B m = some (.inl 0, xw_u m 536 1 1) := by
  have go : ∀ x1 : Int, (x1 = 0 ∨ x1 = 1) → ¬ (x1 = 1 ∧ ∀ d, 0 ≤ d → d < xR m 536 14 → 0 < xR m 539 d) → xl2 (yl303_36 B) 1000000 x1 0 m = some (.inl 0, xw_u m 536 1 1) := fun x1 hx hq => by
    obtain ⟨v, m', e, rfl, rfl⟩ := xH_ex (open_ready (B := B) (m := m) hD hx (Q := fun v m' => v = 0 ∧ m' = xw_u m 536 1 1) (fun _ => ⟨rfl, rfl⟩) (fun h => absurd h hq))
    exact e
  unfold yf303
  by_cases h3 : xR m 536 3 = 0
  · rw [if_pos h3]
    by_cases h2 : xR m 536 2 = 0
    · rw [if_pos h2]
      by_cases h14 : 0 < xR m 536 14
      · rw [if_pos h14]
        by_cases h19 : 0 < xR m 536 19
        · rw [if_pos h19]
          exact go 1 (Or.inr rfl) (fun q => hn ⟨h2, h3, h14, h19, q.2⟩)
        · rw [if_neg h19]; exact go 0 (Or.inl rfl) (fun q => absurd q.1 (by decide))
      · rw [if_neg h14]; exact go 0 (Or.inl rfl) (fun q => absurd q.1 (by decide))
    · rw [if_neg h2]; exact go 0 (Or.inl rfl) (fun q => absurd q.1 (by decide))
  · rw [if_neg h3]; exact go 0 (Or.inl rfl) (fun q => absurd q.1 (by decide))
end OPC
