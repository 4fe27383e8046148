/-! READING THE FACTS' PART (readFacts) into the rows 395 -/
/-- what reading facts changes: the reading tape's place and list, the cells, the rows 395 from n on -/
def fRd (m m' : xw_M) (n : Int) : Prop := (∀ a, a ≠ 530 → a ≠ 532 → (a < 304 ∨ 336 < a) → (a < 395 ∨ 414 < a) → m' a = m a) ∧ (∀ k, k ≠ 2 → m' 530 k = m 530 k) ∧ (∀ k, k ≠ 5 → m' 395 k = m 395 k) ∧ (∀ a i, 396 ≤ a → a ≤ 414 → i < n → m' a i = m a i) ∧ m' 396 = m 396
theorem fRd_trans {m m1 m2 : xw_M} {n n1 : Int} (h : fRd m m1 n) (h2 : fRd m1 m2 n1) (hn : n ≤ n1) : fRd m m2 n := ⟨fun a a1 a2 a3 a4 => (h2.1 a a1 a2 a3 a4).trans (h.1 a a1 a2 a3 a4), fun k hk => (h2.2.1 k hk).trans (h.2.1 k hk), fun k hk => (h2.2.2.1 k hk).trans (h.2.2.1 k hk), fun a i a0 a1 hi => (h2.2.2.2.1 a i a0 a1 (by omega)).trans (h.2.2.2.1 a i a0 a1 hi), h2.2.2.2.2.trans h.2.2.2.2⟩
section RF
variable {B : Nat} {m : xw_M} {D M R n0 p : Int} {T : Int → Int → Int}
theorem rd_facts (hB : B ≤ 512) (hD : 0 ≤ D ∧ D ≤ 8) (hM : 0 ≤ M ∧ M ≤ 8) (hT : cwd T) (h302 : xR m 302 5 = D) (h6 : xR m 302 6 = (D + M).toNat) (h32 : xR m 3 2 = M) (h5 : xR m 395 5 = n0) (hn0 : 0 ≤ n0) (hnR : n0 + R ≤ 20000) (hTp : ∀ c j, 0 ≤ c → c < D → 0 ≤ j → j < R → xw_rg (T c j)) (h : rs B m p) (hP : Part (m 516) p R (D + M).toNat T) (hf : p + 8 * partB T R (D + M).toNat ≤ 64 * (B * 512 : Nat)) :
    ∃ m', yf211 B 530 395 m = some (.inl 0, m') ∧ rs B m' (p + 8 * partB T R (D + M).toNat) ∧ fRd m m' n0 ∧ xR m' 395 5 = n0 + R ∧ (∀ c j, 0 ≤ c → c < D → 0 ≤ j → j < R → xR m' (398 + c) (n0 + j) = T c j) ∧ ∀ k j, 0 ≤ k → k < M → 0 ≤ j → j < R → xJ m' (407 + k) (n0 + j) = T (D + k) j := by
  have hr : rwo 395 8 20000 := Or.inr (Or.inl ⟨rfl, rfl, rfl⟩)
  obtain ⟨f1, ⟨f2, f3, f4, f5, f6⟩, ⟨f7, f8, f9, f10, f11⟩, ⟨f12, f13, f14, f15, f16⟩⟩ := rw_f B hr
  obtain ⟨t1, b1, b2⟩ := hP
  have hp := h.2.2
  have hk : (D + M).toNat ≤ 33 := by omega
  generalize hkf : (D + M).toNat = k at *
  unfold partB at hf
  have hnn := ssum_nn hT hk (R := R) (s := nseg R) (by unfold nseg; omega)
  obtain ⟨m1, e1, R1, G1⟩ := take_b (b := 32) hB h (by decide) (by decide) (by omega)
  rw [show (32 : Int).toNat = 32 from rfl, t1] at e1
  unfold yf211 yf107 yf20
  rw [if_pos (by decide), if_pos (by decide), e1, xB_ret, xB_ret, xB_ret, show min R 20000 = R from by omega, w32_id (x := R) (by omega) (by omega)]
  have goal := xH_ex (Q := fun v m' => v = 0 ∧ rs B m' (p + 8 * partB T R k) ∧ fRd m m' n0 ∧ xR m' 395 5 = n0 + R ∧ (∀ c j, 0 ≤ c → c < D → 0 ≤ j → j < R → xR m' (398 + c) (n0 + j) = T c j) ∧ ∀ k j, 0 ≤ k → k < M → 0 ≤ j → j < R → xJ m' (407 + k) (n0 + j) = T (D + k) j) (xl3_rule (F := yl211_6 B) (fun x0 x1 x2 m' => x0 = 530 ∧ x1 = 395 ∧ ∃ s : Nat, x2 = R - 1024 * (s : Int) ∧ 1024 * (s : Int) < R + 1024 ∧ rs B m' (p + 32 + 8 * ssum T R k s) ∧ fRd m m' n0 ∧ xR m' 395 5 = n0 + min R (1024 * (s : Int)) ∧ (∀ c j, 0 ≤ c → c < D → 0 ≤ j → j < min R (1024 * (s : Int)) → xR m' (398 + c) (n0 + j) = T c j) ∧ ∀ k j, 0 ≤ k → k < M → 0 ≤ j → j < min R (1024 * (s : Int)) → xJ m' (407 + k) (n0 + j) = T (D + k) j) (fun _ _ x2 _ => x2.toNat) ?_ 1000000 530 395 R m1 ⟨rfl, rfl, 0, by omega, by omega, by rw [show ssum T R k 0 = 0 from rfl, Int.mul_zero, Int.add_zero]; exact R1, ⟨fun a a1 _ _ _ => G1.1 a a1, G1.2, fun k _ => by rw [G1.1 395 (by decide)], fun a i a0 a1 _ => by rw [G1.1 a (by omega)], G1.1 396 (by decide)⟩, by rw [xR_cg (G1.1 395 (by decide)), h5]; omega, fun c j _ _ j0 j1 => by omega, fun k j _ _ j0 j1 => by omega⟩ (by omega))
  · obtain ⟨v, m', e, rfl, h⟩ := goal
    exact ⟨m', e, h⟩
  · intro q x0 x1 x2 m2 ⟨a0, a1, s, a2, a3, R2, F2, z2, P2, A2⟩ ih
    subst a0 a1 a2
    unfold yl211_6
    by_cases hx : 0 < R - 1024 * (s : Int)
    · have hS := b2 s (by omega)
      have es : ssum T R k (s + 1) = ssum T R k s + (2 + csum (Tseg T s) (nrow R s) k) := rfl
      have mono := ssum_mono hT hk (R := R) (s + 1) (nseg R - (s + 1)) (by unfold nseg; omega)
      rw [show s + 1 + (nseg R - (s + 1)) = nseg R from by unfold nseg; omega] at mono
      have snn := ssum_nn hT hk (R := R) (s := s) (by omega)
      have hnr : 1 ≤ nrow R s ∧ nrow R s ≤ 1024 ∧ 1024 * (s : Int) + nrow R s ≤ R := by unfold nrow; omega
      have q6 : xR m2 302 6 = k := by rw [xR_cg (F2.1 302 (by decide) (by decide) (by omega) (by omega))]; exact h6
      rw [← F2.1 516 (by decide) (by decide) (by omega) (by omega)] at hS
      obtain ⟨m3, e3, R3, F3, V3⟩ := rd_seg (w := -1) (a := 303) (b := 304) hB (Tseg_w hT s) (Or.inl ⟨rfl, rfl⟩) hk hnr.1 hnr.2.1 q6 R2 hS (by omega)
      have V3' : ∀ c i : Int, 0 ≤ c → c < (k : Nat) → 0 ≤ i → i < nrow R s → xJ m3 (304 + c) i = T c (1024 * (s : Int) + i) := fun c i c0 c1 i0 i1 => by
        have := V3 c.toNat (by omega) (bt_m1 (by omega)) i i0 i1
        rw [Int.toNat_of_nonneg c0] at this
        exact this
      have z3 : xR m3 395 5 = n0 + min R (1024 * (s : Int)) := by rw [xR_cg (F3.1 395 (by decide) (by decide) (by omega))]; exact z2
      have hms : min R (1024 * (s : Int)) = 1024 * (s : Int) := by omega
      rw [hms] at z3 P2 A2
      have G3 : fRd m m3 n0 := ⟨fun a c1 c2 c3 c4 => by rw [F3.1 a c1 c2 (by omega)]; exact F2.1 a c1 c2 c3 c4, fun j hj => by rw [F3.2 j hj]; exact F2.2.1 j hj, fun j hj => by rw [F3.1 395 (by decide) (by decide) (by omega)]; exact F2.2.2.1 j hj, fun a i c0 c1 hi => by rw [F3.1 a (by omega) (by omega) (by omega)]; exact F2.2.2.2.1 a i c0 c1 hi, by rw [F3.1 396 (by decide) (by decide) (by omega)]; exact F2.2.2.2.2⟩
      rw [if_pos hx, e3, xB_ret, if_pos f1, z3, w32_id (x := 20000 - (n0 + 1024 * (s : Int))) (by omega) (by omega), show min (nrow R s) (20000 - (n0 + 1024 * (s : Int))) = nrow R s from by omega]
      -- what holds while the segment is copied: dimensions before u, and of u the first i
      have meas : ∀ m4, rs B m4 (p + 32 + 8 * ssum T R k (s + 1)) → fRd m m4 n0 → xR m4 395 5 = n0 + 1024 * (s : Int) → (∀ c i : Int, 0 ≤ c → c < (k : Nat) → 0 ≤ i → i < nrow R s → xJ m4 (304 + c) i = T c (1024 * (s : Int) + i)) → (∀ c j, 0 ≤ c → c < D → 0 ≤ j → j < 1024 * (s : Int) + nrow R s → xR m4 (398 + c) (n0 + j) = T c j) → (∀ k j, 0 ≤ k → k < M → 0 ≤ j → j < 1024 * (s : Int) → xJ m4 (407 + k) (n0 + j) = T (D + k) j) → xH (xl5 (yl211_98 B q) 1000000 530 395 (R - 1024 * (s : Int)) (nrow R s) 0 m4) (fun v m' => v = 0 ∧ rs B m' (p + 8 * partB T R k) ∧ fRd m m' n0 ∧ xR m' 395 5 = n0 + R ∧ (∀ c j, 0 ≤ c → c < D → 0 ≤ j → j < R → xR m' (398 + c) (n0 + j) = T c j) ∧ ∀ k j, 0 ≤ k → k < M → 0 ≤ j → j < R → xJ m' (407 + k) (n0 + j) = T (D + k) j) (fun _ _ => False) := by
        intro m4 R4 G4 z4 V4 P4 A4
        refine xl5_rule (F := yl211_98 B q) (fun y0 y1 y2 y3 y4 m' => y0 = 530 ∧ y1 = 395 ∧ y2 = R - 1024 * (s : Int) ∧ y3 = nrow R s ∧ 0 ≤ y4 ∧ y4 ≤ M ∧ rs B m' (p + 32 + 8 * ssum T R k (s + 1)) ∧ fRd m m' n0 ∧ xR m' 395 5 = n0 + 1024 * (s : Int) ∧ (∀ c i : Int, 0 ≤ c → c < (k : Nat) → 0 ≤ i → i < nrow R s → xJ m' (304 + c) i = T c (1024 * (s : Int) + i)) ∧ (∀ c j, 0 ≤ c → c < D → 0 ≤ j → j < 1024 * (s : Int) + nrow R s → xR m' (398 + c) (n0 + j) = T c j) ∧ ∀ k j, 0 ≤ k → k < M → 0 ≤ j → j < 1024 * (s : Int) + (if k < y4 then nrow R s else 0) → xJ m' (407 + k) (n0 + j) = T (D + k) j) (fun _ _ _ _ y4 _ => (M - y4).toNat) ?_ 1000000 530 395 (R - 1024 * (s : Int)) (nrow R s) 0 m4 ⟨rfl, rfl, rfl, rfl, by omega, by omega, R4, G4, z4, V4, P4, fun k j k0 k1 j0 j1 => A4 k j k0 k1 j0 (by rw [if_neg (by omega)] at j1; omega)⟩ (by omega)
        intro q' y0 y1 y2 y3 y4 m5 ⟨b0, b1, b2, b3, b4, b5, R5, G5, z5, V5, P5, A5⟩ ih'
        subst b0 b1 b2 b3
        have q32 : xR m5 3 2 = M := by rw [xR_cg (G5.1 3 (by decide) (by decide) (by omega) (by omega))]; exact h32
        have q5 : xR m5 302 5 = D := by rw [xR_cg (G5.1 302 (by decide) (by decide) (by omega) (by omega))]; exact h302
        unfold yl211_98
        rw [q32, q5, z5]
        by_cases hm : y4 < M
        · obtain ⟨g1, g2, g3, g4⟩ := rw_a B hr (d := y4) b4 (by omega)
          obtain ⟨ob1, ob2⟩ := ce_ob (B := B) (c := D + y4) (by omega) (by omega)
          rw [if_pos hm, if_pos ⟨by omega, by omega⟩, if_pos f1, f3, f16, if_pos ⟨b4, by omega⟩, if_pos g1, if_pos f11, g2, g4, ob2, if_pos ⟨by omega, by omega, by omega, by omega, by omega⟩, if_pos ob1, if_pos g3, w32_id (by omega) (by omega)]
          have cp : ∀ a i, (xw_cp m5 (304 + (D + y4)) 0 (395 + 12 + y4) (n0 + 1024 * (s : Int)) (nrow R s)) a i = if a = 395 + 12 + y4 ∧ n0 + 1024 * (s : Int) ≤ i ∧ i < n0 + 1024 * (s : Int) + nrow R s then m5 (304 + (D + y4)) (i - (n0 + 1024 * (s : Int)) + 0) else m5 a i := fun a i => rfl
          have cpn : ∀ a, a ≠ 395 + 12 + y4 → (xw_cp m5 (304 + (D + y4)) 0 (395 + 12 + y4) (n0 + 1024 * (s : Int)) (nrow R s)) a = m5 a := fun a ha => by
            funext i
            rw [cp, if_neg (fun e => ha e.1)]
          refine ih' _ _ _ _ _ _ ⟨rfl, rfl, rfl, rfl, by omega, by omega, ?_, ?_, by rw [xR_cg (cpn 395 (by omega))]; exact z5, fun c i c0 c1 i0 i1 => by rw [xJ_cg (cpn (304 + c) (by omega))]; exact V5 c i c0 c1 i0 i1, fun c j c0 c1 j0 j1 => by rw [xR_cg (cpn (398 + c) (by omega))]; exact P5 c j c0 c1 j0 j1, fun k2 j k0 k1 j0 j1 => ?_⟩ (by omega)
          · exact ⟨by rw [xR_cg (cpn 530 (by omega))]; exact R5.1, by rw [xR_cg (cpn 530 (by omega))]; exact R5.2.1, R5.2.2⟩
          · exact ⟨fun a c1 c2 c3 c4 => by rw [cpn a (by omega)]; exact G5.1 a c1 c2 c3 c4, fun j hj => by rw [cpn 530 (by omega)]; exact G5.2.1 j hj, fun j hj => by rw [cpn 395 (by omega)]; exact G5.2.2.1 j hj, fun a i c0 c1 hi => by rw [cp, if_neg (by omega)]; exact G5.2.2.2.1 a i c0 c1 hi, by rw [cpn 396 (by omega)]; exact G5.2.2.2.2⟩
          · by_cases e : k2 = y4
            · subst e
              rw [if_pos (by omega)] at j1
              by_cases hj : j < 1024 * (s : Int)
              · have : xJ (xw_cp m5 (304 + (D + k2)) 0 (395 + 12 + k2) (n0 + 1024 * (s : Int)) (nrow R s)) (407 + k2) (n0 + j) = xJ m5 (407 + k2) (n0 + j) := by
                  unfold xJ
                  rw [cp, if_neg (by omega)]
                rw [this]
                exact A5 k2 j k0 k1 j0 (by rw [if_neg (by omega)]; omega)
              · have : xJ (xw_cp m5 (304 + (D + k2)) 0 (395 + 12 + k2) (n0 + 1024 * (s : Int)) (nrow R s)) (407 + k2) (n0 + j) = xJ m5 (304 + (D + k2)) (j - 1024 * (s : Int)) := by
                  unfold xJ
                  rw [cp, if_pos ⟨by omega, by omega, by omega⟩, show n0 + j - (n0 + 1024 * (s : Int)) + 0 = j - 1024 * (s : Int) from by omega]
                rw [this, V5 (D + k2) (j - 1024 * (s : Int)) (by omega) (by omega) (by omega) (by omega), show 1024 * (s : Int) + (j - 1024 * (s : Int)) = j from by omega]
            · rw [xJ_cg (cpn (407 + k2) (by omega))]
              refine A5 k2 j k0 k1 j0 ?_
              by_cases hk2 : k2 < y4
              · rw [if_pos hk2]
                rw [if_pos (by omega)] at j1
                exact j1
              · rw [if_neg hk2]
                rw [if_neg (by omega)] at j1
                exact j1
        · rw [if_neg hm, if_pos f1, w32_id (by omega) (by omega)]
          have hmin : min R (1024 * ((s + 1 : Nat) : Int)) = 1024 * (s : Int) + nrow R s := by unfold nrow; omega
          refine ih _ _ _ _ ⟨rfl, rfl, s + 1, by omega, by omega, rs_u R5 (by decide), ?_, ?_, fun c j c0 c1 j0 j1 => ?_, fun k2 j k0 k1 j0 j1 => ?_⟩ (by omega)
          · exact ⟨fun a c1 c2 c3 c4 => by rw [xu_c (by omega)]; exact G5.1 a c1 c2 c3 c4, fun j hj => by rw [xu_c (by decide)]; exact G5.2.1 j hj, fun j hj => by unfold xw_u; rw [if_neg (fun e => hj e.2)]; exact G5.2.2.1 j hj, fun a i c0 c1 hi => by rw [xu_c (by omega)]; exact G5.2.2.2.1 a i c0 c1 hi, by rw [xu_c (by decide)]; exact G5.2.2.2.2⟩
          · rw [xR_u, if_pos ⟨rfl, rfl⟩, hmin, w32_id (by omega) (by omega)]
            omega
          · rw [xR_cg (xu_c (by omega))]
            exact P5 c j c0 c1 j0 (by omega)
          · rw [xJ_cg (xu_c (by omega))]
            exact A5 k2 j k0 k1 j0 (by rw [if_pos (by omega)]; omega)
      have R3' : rs B m3 (p + 32 + 8 * ssum T R k (s + 1)) := by
        rw [es, show p + 32 + 8 * (ssum T R k s + (2 + csum (Tseg T s) (nrow R s) k)) = p + 32 + 8 * ssum T R k s + 16 + 8 * csum (Tseg T s) (nrow R s) k from by omega]
        exact R3
      refine xl5_rule (F := yl211_38 B q) (fun y0 y1 y2 y3 y4 m' => y0 = 530 ∧ y1 = 395 ∧ y2 = R - 1024 * (s : Int) ∧ y3 = nrow R s ∧ 0 ≤ y4 ∧ y4 ≤ D ∧ rs B m' (p + 32 + 8 * ssum T R k (s + 1)) ∧ fRd m m' n0 ∧ xR m' 395 5 = n0 + 1024 * (s : Int) ∧ (∀ c i : Int, 0 ≤ c → c < (k : Nat) → 0 ≤ i → i < nrow R s → xJ m' (304 + c) i = T c (1024 * (s : Int) + i)) ∧ (∀ c j, 0 ≤ c → c < D → 0 ≤ j → j < 1024 * (s : Int) + (if c < y4 then nrow R s else 0) → xR m' (398 + c) (n0 + j) = T c j) ∧ ∀ k j, 0 ≤ k → k < M → 0 ≤ j → j < 1024 * (s : Int) → xJ m' (407 + k) (n0 + j) = T (D + k) j) (fun _ _ _ _ y4 _ => (D - y4).toNat) ?_ 1000000 530 395 (R - 1024 * (s : Int)) (nrow R s) 0 m3 ⟨rfl, rfl, rfl, rfl, by omega, by omega, R3', G3, z3, V3', fun c j c0 c1 j0 j1 => by rw [if_neg (by omega)] at j1; rw [xR_cg (F3.1 (398 + c) (by omega) (by omega) (by omega))]; exact P2 c j c0 c1 j0 (by omega), fun k2 j k0 k1 j0 j1 => by rw [xJ_cg (F3.1 (407 + k2) (by omega) (by omega) (by omega))]; exact A2 k2 j k0 k1 j0 j1⟩ (by omega)
      intro q' y0 y1 y2 y3 y4 m5 ⟨b0, b1, b2, b3, b4, b5, R5, G5, z5, V5, P5, A5⟩ ih'
      subst b0 b1 b2 b3
      have q5 : xR m5 302 5 = D := by rw [xR_cg (G5.1 302 (by decide) (by decide) (by omega) (by omega))]; exact h302
      unfold yl211_38
      rw [q5]
      by_cases hd : y4 < D
      · obtain ⟨g1, g2, g3, g4⟩ := rw_p B hr (d := y4) b4 (by omega)
        obtain ⟨ob1, ob2⟩ := ce_ob (B := B) (c := y4) b4 (by omega)
        rw [if_pos hd]
        refine xl6_rule (F := yl211_50 B q q') (fun w0 w1 w2 w3 w4 w5 m' => w0 = 530 ∧ w1 = 395 ∧ w2 = R - 1024 * (s : Int) ∧ w3 = nrow R s ∧ w4 = y4 ∧ 0 ≤ w5 ∧ w5 ≤ nrow R s ∧ rs B m' (p + 32 + 8 * ssum T R k (s + 1)) ∧ fRd m m' n0 ∧ xR m' 395 5 = n0 + 1024 * (s : Int) ∧ (∀ c i : Int, 0 ≤ c → c < (k : Nat) → 0 ≤ i → i < nrow R s → xJ m' (304 + c) i = T c (1024 * (s : Int) + i)) ∧ (∀ c j, 0 ≤ c → c < D → 0 ≤ j → j < 1024 * (s : Int) + (if c < y4 then nrow R s else if c = y4 then w5 else 0) → xR m' (398 + c) (n0 + j) = T c j) ∧ ∀ k j, 0 ≤ k → k < M → 0 ≤ j → j < 1024 * (s : Int) → xJ m' (407 + k) (n0 + j) = T (D + k) j) (fun _ _ _ _ _ w5 _ => (nrow R s - w5).toNat) ?_ 1000000 530 395 (R - 1024 * (s : Int)) (nrow R s) y4 0 m5 ⟨rfl, rfl, rfl, rfl, rfl, by omega, by omega, R5, G5, z5, V5, fun c j c0 c1 j0 j1 => P5 c j c0 c1 j0 (by split at j1 <;> (try split at j1) <;> (try rw [if_pos (by omega)]) <;> (try rw [if_neg (by omega)]) <;> omega), A5⟩ (by omega)
        intro q'' w0 w1 w2 w3 w4 w5 m6 ⟨d0, d1, d2, d3, d4, d5, d6, R6, G6, z6, V6, P6, A6⟩ ih''
        subst d0 d1 d2 d3 d4
        unfold yl211_50
        by_cases hw : w5 < nrow R s
        · rw [if_pos hw, if_pos f1, f2, f15, if_pos ⟨b4, by omega⟩, if_pos g1, if_pos f10, if_pos ⟨b4, by omega⟩, ob2, if_pos ⟨d5, by omega⟩, if_pos ob1, g2, g4, z6, if_pos ⟨by omega, by omega⟩, if_pos g3, w32_id (by omega) (by omega), V6 w4 w5 b4 (by omega) d5 hw]
          refine ih'' _ _ _ _ _ _ _ ⟨rfl, rfl, rfl, rfl, rfl, by omega, by omega, rs_u R6 (by omega), ?_, by rw [xR_cg (xu_c (by omega))]; exact z6, fun c i c0 c1 i0 i1 => by rw [xJ_cg (xu_c (by omega))]; exact V6 c i c0 c1 i0 i1, fun c j c0 c1 j0 j1 => ?_, fun k2 j k0 k1 j0 j1 => by rw [xJ_cg (xu_c (by omega))]; exact A6 k2 j k0 k1 j0 j1⟩ (by omega)
          · exact ⟨fun a c1 c2 c3 c4 => by rw [xu_c (by omega)]; exact G6.1 a c1 c2 c3 c4, fun j hj => by rw [xu_c (by omega)]; exact G6.2.1 j hj, fun j hj => by rw [xu_c (by omega)]; exact G6.2.2.1 j hj, fun a i c0 c1 hi => by unfold xw_u; rw [if_neg (by omega)]; exact G6.2.2.2.1 a i c0 c1 hi, by rw [xu_c (by omega)]; exact G6.2.2.2.2⟩
          · rw [xR_u]
            by_cases e : c = w4 ∧ j = 1024 * (s : Int) + w5
            · rw [if_pos ⟨by omega, by omega⟩, e.1, e.2]
              exact w32_of (hTp w4 _ b4 hd (by omega) (by omega))
            · rw [if_neg (by omega)]
              refine P6 c j c0 c1 j0 ?_
              by_cases hc : c < w4
              · rw [if_pos hc] at j1 ⊢
                exact j1
              · rw [if_neg hc] at j1 ⊢
                by_cases hc2 : c = w4
                · rw [if_pos hc2] at j1 ⊢
                  omega
                · rw [if_neg hc2] at j1 ⊢
                  exact j1
        · have ew : w5 = nrow R s := by omega
          rw [if_neg hw, w32_id (by omega) (by omega)]
          refine ih' _ _ _ _ _ _ ⟨rfl, rfl, rfl, rfl, by omega, by omega, R6, G6, z6, V6, fun c j c0 c1 j0 j1 => P6 c j c0 c1 j0 ?_, A6⟩ (by omega)
          by_cases hc : c < w4
          · rw [if_pos (by omega)] at j1
            rw [if_pos hc]
            exact j1
          · rw [if_neg hc]
            by_cases hc2 : c = w4
            · rw [if_pos (by omega)] at j1
              rw [if_pos hc2, ew]
              exact j1
            · rw [if_neg (by omega)] at j1
              rw [if_neg hc2]
              exact j1
      · rw [if_neg hd]
        exact meas m5 R5 G5 z5 V5 (fun c j c0 c1 j0 j1 => P5 c j c0 c1 j0 (by rw [if_pos (by omega)]; exact j1)) A5
    · have es : s = nseg R := by unfold nseg; omega
      have hms : min R (1024 * (s : Int)) = R := by omega
      rw [hms] at z2 P2 A2
      rw [if_neg hx, xH_ret]
      refine ⟨rfl, ?_, F2, z2, P2, A2⟩
      unfold partB
      rw [← es, show p + 8 * (4 + ssum T R k s) = p + 32 + 8 * ssum T R k s from by omega]
      exact R2
end RF
