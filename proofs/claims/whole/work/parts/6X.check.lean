/-! CHECKING A VIEW'S PART (checkView): nothing is wrong where it is what the facts give -/
def fC (m m' : xw_M) : Prop := (∀ a, a ≠ 530 → a ≠ 532 → (a < 302 ∨ 370 < a) → m' a = m a) ∧ (∀ k, k ≠ 2 → m' 530 k = m 530 k) ∧ (∀ k, k ≠ 8 → m' 302 k = m 302 k)
theorem fC_trans {m m1 m2 : xw_M} (h : fC m m1) (h2 : fC m1 m2) : fC m m2 := ⟨fun a a1 a2 a3 => (h2.1 a a1 a2 a3).trans (h.1 a a1 a2 a3), fun k hk => (h2.2.1 k hk).trans (h.2.1 k hk), fun k hk => (h2.2.2 k hk).trans (h.2.2 k hk)⟩
theorem ce_ob2 {B : Nat} {c : Int} (h0 : 0 ≤ c) (h1 : c < 33) : xw_obb 17 (338 + c) = true ∧ xw_le B (338 + c) = 1024 := by
  obtain ⟨_, _, _, _, q1, q2, _⟩ := into_f (B := B) (a := 337) (b := 338) (Or.inr ⟨rfl, rfl⟩) h0 h1
  exact ⟨q1, q2⟩
theorem wrong_0 {B : Nat} {m : xw_M} {sz : Int} {k : Nat} (hk : k ≤ 33) (h8 : xR m 302 8 = sz) (h6 : xR m 302 6 = k) (hs : 0 ≤ sz ∧ sz ≤ 1024) (he : ∀ c i : Int, 0 ≤ c → c < (k : Nat) → 0 ≤ i → i < sz → xJ m (304 + c) i = xJ m (338 + c) i) : yf240 B sz m = some (.inl 0, m) := by
  unfold yf240
  refine xl3_eq (F := yl240_4 B) (fun _ _ _ _ => some (.inl 0, m)) (fun x0 x1 x2 m' => x0 = sz ∧ x1 = 0 ∧ 0 ≤ x2 ∧ x2 ≤ sz ∧ m' = m) (fun _ _ x2 _ => (sz - x2).toNat) ?_ 1000000 sz 0 0 m ⟨rfl, rfl, by omega, by omega, rfl⟩ (by omega)
  intro r x0 x1 x2 m' ⟨a0, a1, a2, a3, a4⟩ ih
  subst a0 a1 a4
  unfold yl240_4
  rw [h8]
  by_cases hx : x2 < x0
  · rw [if_pos hx, if_pos hx]
    refine xl5_eq (F := yl240_27 B r) (fun _ _ _ _ _ _ => some (.inl 0, m')) (fun y0 y1 y2 y3 y4 m2 => y0 = x0 ∧ y1 = 0 ∧ y2 = x2 ∧ y3 = 1 ∧ 0 ≤ y4 ∧ y4 ≤ (k : Int) ∧ m2 = m') (fun _ _ _ _ y4 _ => ((k : Int) - y4).toNat) ?_ 1000000 x0 0 x2 1 0 m' ⟨rfl, rfl, rfl, rfl, by omega, by omega, rfl⟩ (by omega)
    intro r' y0 y1 y2 y3 y4 m2 ⟨b0, b1, b2, b3, b4, b5, b6⟩ ih'
    subst b0 b1 b2 b3 b6
    unfold yl240_27 yk240_76
    rw [h6]
    by_cases hy : y4 < (k : Int)
    · obtain ⟨q1, q2⟩ := ce_ob (B := B) (c := y4) b4 (by omega)
      obtain ⟨q3, q4⟩ := ce_ob2 (B := B) (c := y4) b4 (by omega)
      rw [if_pos hy, if_neg (by decide), if_pos ⟨b4, by omega⟩, q2, if_pos ⟨a2, by omega⟩, if_pos q1, q4, if_pos ⟨a2, by omega⟩, if_pos q3, if_pos (he y4 y2 b4 hy a2 hx), w32_id (by omega) (by omega), ih' _ _ _ _ _ _ ⟨rfl, rfl, rfl, rfl, by omega, by omega, rfl⟩ (by omega)]
    · rw [if_neg hy, if_neg (by decide), w32_id (x := y2 + 1) (by omega) (by omega), w32_id (by decide) (by decide), Int.add_zero, ih _ _ _ _ ⟨rfl, rfl, by omega, by omega, rfl⟩ (by omega)]
  · rw [if_neg hx]
section CHK
variable {B : Nat} {m : xw_M} {r W cap D M P n R : Int} {hd st : Int → Int}
theorem chk_view (hB : B ≤ 512) (hr : rwo r W cap) (hv : vsh m D M P hd) (ht : tsok m r D n) (hn : 0 ≤ n ∧ n ≤ cap) (h5 : xR m r 5 = n) (ho : prm (xR m (r + 12 + W)) n) (hS : SR 0 D (tkey m r) (xR m (r + 12 + W)) st n R) (hst : ∀ j, xw_rg (st j)) {p : Int} {T : Int → Int → Int} (hT : cwd T) (hTe : ∀ c j, 0 ≤ c → c < P + 1 + 3 * M → 0 ≤ j → j < R → T c j = Tvw (tkey m r) (fun k => xJ m (r + 12 + k)) P hd (xR m (r + 12 + W)) st c j) (h : rs B m p) (hP : Part (m 516) p R (P + 1 + 3 * M).toNat T) (hf : p + 8 * partB T R (P + 1 + 3 * M).toNat ≤ 64 * (B * 512 : Nat)) :
    ∃ m', yf239 B r 530 m = some (.inl 0, m') ∧ rs B m' (p + 8 * partB T R (P + 1 + 3 * M).toNat) ∧ fC m m' := by
  have hb := rw_b hr
  obtain ⟨f1, _⟩ := rw_f B hr
  obtain ⟨⟨hD0, hD8⟩, ⟨hM0, hM8⟩, ⟨hP0, hPD⟩, hvr⟩ := hv
  have hv : vsh m D M P hd := ⟨⟨hD0, hD8⟩, ⟨hM0, hM8⟩, ⟨hP0, hPD⟩, hvr⟩
  obtain ⟨s1, s2, s3, s4, s5⟩ := hS
  have hS : SR 0 D (tkey m r) (xR m (r + 12 + W)) st n R := ⟨s1, s2, s3, s4, s5⟩
  have mono' := SR_mono hS
  obtain ⟨t1, b1, b2⟩ := hP
  have hp := h.2.2
  have hkc : ((P + 1 + 3 * M).toNat : Int) = P + 1 + 3 * M := by omega
  have hk : (P + 1 + 3 * M).toNat ≤ 33 := by omega
  generalize hkf : (P + 1 + 3 * M).toNat = k at *
  unfold partB at hf
  have hnn := ssum_nn hT hk (R := R) (s := nseg R) (by unfold nseg; omega)
  obtain ⟨m1, e1, R1, G1⟩ := take_b (b := 32) hB h (by decide) (by decide) (by omega)
  rw [show (32 : Int).toNat = 32 from rfl, t1] at e1
  unfold yf239 yf107 yf20
  rw [if_pos (by decide), if_pos (by decide), e1, xB_ret, xB_ret, xB_ret, show min R 20000 = R from by omega, w32_id (x := R) (by omega) (by omega)]
  have goal := xH_ex (Q := fun v m' => v = 0 ∧ rs B m' (p + 8 * partB T R k) ∧ fC m m') (xl7_rule (F := yl239_18 B) (fun x0 x1 x2 x3 x4 x5 x6 m' => x0 = r ∧ x1 = 530 ∧ x2 = R ∧ x4 = 0 ∧ ∃ s : Nat, x6 = (s : Int) ∧ 1024 * (s : Int) < R + 1024 ∧ x3 = min R (1024 * (s : Int)) ∧ x5 = st (min R (1024 * (s : Int))) ∧ rs B m' (p + 32 + 8 * ssum T R k s) ∧ fC m m') (fun _ _ _ _ _ _ x6 _ => (20000 - x6).toNat) ?_ 1000000 r 530 R 0 0 0 0 m1 ⟨rfl, rfl, rfl, rfl, 0, by omega, by omega, by omega, ?_, by rw [show ssum T R k 0 = 0 from rfl, Int.mul_zero, Int.add_zero]; exact R1, ⟨fun a a1 _ _ => G1.1 a a1, G1.2, fun j _ => by rw [G1.1 302 (by decide)]⟩⟩ (by omega))
  · obtain ⟨v, m', e, rfl, h⟩ := goal
    exact ⟨m', e, h⟩
  · intro q x0 x1 x2 x3 x4 x5 x6 m2 ⟨a0, a1, a2, a3, s, a4, a5, a6, a7, R2, F2⟩ ih
    subst a0 a1 a2 a3 a4 a6 a7
    have r5 : xR m2 x0 5 = n := by rw [xR_cg (F2.1 x0 (by omega) (by omega) (by omega))]; exact h5
    unfold yl239_18 yk239_90
    rw [if_pos (by omega), if_pos f1, r5]
    by_cases hx : st (min x2 (1024 * (s : Int))) < n
    · have hsR : 1024 * (s : Int) < x2 := by
        refine Classical.byContradiction (fun hc => ?_)
        rw [show min x2 (1024 * (s : Int)) = x2 from by omega, s4] at hx
        omega
      have hms : min x2 (1024 * (s : Int)) = 1024 * (s : Int) := by omega
      have hnr : 1 ≤ nrow x2 s ∧ nrow x2 s ≤ 1024 := by unfold nrow; omega
      have es : ssum T x2 k (s + 1) = ssum T x2 k s + (2 + csum (Tseg T s) (nrow x2 s) k) := rfl
      have mono := ssum_mono hT hk (R := x2) (s + 1) (nseg x2 - (s + 1)) (by unfold nseg; omega)
      rw [show s + 1 + (nseg x2 - (s + 1)) = nseg x2 from by unfold nseg; omega] at mono
      have snn := ssum_nn hT hk (R := x2) (s := s) (by omega)
      have FA : ∀ a, a < 302 ∨ 370 < a → a < 530 → m2 a = m a := fun a h1 h2 => F2.1 a (by omega) (by omega) h1
      have hv2 : vsh m2 D M P hd := vsh_cg hv (FA 3 (by omega) (by omega)) (F2.2.2 5 (by decide)) (F2.2.2 6 (by decide)) (FA 372 (by omega) (by omega))
      have hk2 : ∀ d x, 0 ≤ d → d < D → tkey m2 x0 d x = tkey m x0 d x := fun d x d0 d1 => tkey_cg (D := D) (fun a ha => FA a (by omega) (by omega)) (FA 371 (by omega) (by omega)) (FA 372 (by omega) (by omega)) (fun a h1 h2 => FA a (by omega) (by omega)) hr ⟨d0, d1⟩ hD8 (fun hp2 => (ht d d0 d1 hp2).1)
      have ht2 : tsok m2 x0 D n := fun d d0 d1 hp2 => by
        rw [xR_cg (FA 372 (by omega) (by omega))] at hp2
        obtain ⟨t1, t2, t3⟩ := ht d d0 d1 hp2
        rw [xR_cg (FA 371 (by omega) (by omega)), xR_cg (FA (15 + 26 * d + 23) (by omega) (by omega)), xR_cg (FA (x0 + 3 + d) (by omega) (by omega))]
        exact ⟨t1, t2, fun i i0 i1 => by rw [hk2 d i d0 d1]; exact t3 i i0 i1⟩
      have ro : xR m2 (x0 + 12 + W) = xR m (x0 + 12 + W) := xR_cg (FA _ (by omega) (by omega))
      have hS2 : SR 0 D (tkey m2 x0) (xR m2 (x0 + 12 + W)) st n x2 := by
        rw [ro]
        have ec : ∀ a b, eqv 0 D (tkey m x0) (xR m (x0 + 12 + W)) a b ↔ eqv 0 D (tkey m2 x0) (xR m (x0 + 12 + W)) a b := fun a b => ⟨fun h => ⟨h.1, fun i i0 i1 => by rw [hk2 i _ i0 i1, hk2 i _ i0 i1]; exact h.2 i i0 i1⟩, fun h => ⟨h.1, fun i i0 i1 => by rw [← hk2 i _ i0 i1, ← hk2 i _ i0 i1]; exact h.2 i i0 i1⟩⟩
        exact ⟨s1, s2, s3, s4, fun j j0 j1 => ⟨(s5 j j0 j1).1, fun q0 h1 h2 => (ec _ _).mp ((s5 j j0 j1).2.1 q0 h1 h2), fun h1 h2 => (s5 j j0 j1).2.2 h1 ((ec _ _).mpr h2)⟩⟩
      obtain ⟨m3, e3, H1, H2, H3, H4⟩ := sumup_ok (B := B) (m := m2) hr hv2 ht2 hn r5 (by rw [ro]; exact ho) hS2 hsR
      have hC : ∀ c i : Int, 0 ≤ c → c < (k : Nat) → 0 ≤ i → i < nrow x2 s → xJ m3 (304 + c) i = Tseg T s c i := fun c i q1 q2 q3 q4 => by
        rw [H4 c i q1 (by omega) q3 q4, ro]
        show _ = T c (1024 * (s : Int) + i)
        rw [hTe c (1024 * (s : Int) + i) q1 (by omega) (by omega) (by unfold nrow at q4; omega)]
        unfold Tvw Tvp
        by_cases h1 : c < P
        · rw [if_pos h1, if_pos h1]
          obtain ⟨_, _, _, _, _, hhd⟩ := hvr
          exact hk2 _ _ (hhd c q1 h1).1.1 (hhd c q1 h1).1.2
        · rw [if_neg h1, if_neg h1]
          by_cases h2 : c = P
          · rw [if_pos h2, if_pos h2]
          · rw [if_neg h2, if_neg h2]
            have : (xJ m2 (x0 + 12 + (c - P - 1) / 3)) = xJ m (x0 + 12 + (c - P - 1) / 3) := xJ_cg (FA _ (by omega) (by omega))
            show ga _ (xJ m2 (x0 + 12 + (c - P - 1) / 3)) _ _ _ = _
            rw [this]
      have R3 : rs B m3 (p + 32 + 8 * ssum T x2 k s) := ⟨by rw [xR_cg (H1 530 (by omega))]; exact R2.1, by rw [xR_cg (H1 530 (by omega))]; exact R2.2.1, R2.2.2⟩
      have hSg := b2 s hsR
      rw [← F2.1 516 (by decide) (by decide) (by omega), ← H1 516 (by omega)] at hSg
      have s6 : xR m3 302 6 = k := by
        unfold xR
        rw [H2 6 (by decide), F2.2.2 6 (by decide)]
        have := hvr.2.2.2.1
        unfold xR at this
        rw [this, ← hkc]
      obtain ⟨m4, e4, R4, F4, V4⟩ := rd_seg (w := -1) (a := 337) (b := 338) hB (Tseg_w hT s) (Or.inr ⟨rfl, rfl⟩) hk hnr.1 hnr.2 s6 R3 hSg (by omega)
      have q8 : xR m4 302 8 = nrow x2 s := by rw [xR_cg (F4.1 302 (by decide) (by decide) (by omega))]; exact H3
      have q6 : xR m4 302 6 = k := by rw [xR_cg (F4.1 302 (by decide) (by decide) (by omega))]; exact s6
      have ew := wrong_0 (B := B) (m := m4) hk q8 q6 ⟨by omega, by omega⟩ (fun c i c0 c1 i0 i1 => by
        rw [xJ_cg (F4.1 (304 + c) (by omega) (by omega) (by omega)), hC c i c0 c1 i0 i1]
        have := V4 c.toNat (by omega) (bt_m1 (by omega)) i i0 i1
        rw [Int.toNat_of_nonneg c0] at this
        exact this.symm)
      have hx3n : 1024 * (s : Int) + nrow x2 s = min x2 (1024 * ((s + 1 : Nat) : Int)) := by unfold nrow; omega
      have ecast : ((s + 1 : Nat) : Int) = (s : Int) + 1 := Int.natCast_succ s
      rw [if_pos hx, hms, e3, xB_ret, if_pos hsR, e4, xB_ret, ew, xB_ret, q8, w32_id (x := 1024 * (s : Int) + nrow x2 s) (by omega) (by omega), w32_id (x := 0 + 0) (by decide) (by decide), w32_id (x := (s : Int) + 1) (by omega) (by omega)]
      refine ih _ _ _ _ _ _ _ _ ⟨rfl, rfl, rfl, rfl, s + 1, ecast.symm, by omega, hx3n, by rw [ecast], ?_, ?_⟩ (mu_lt (show (s : Int) < 20000 by omega))
      · rw [es, show p + 32 + 8 * (ssum T x2 k s + (2 + csum (Tseg T s) (nrow x2 s) k)) = p + 32 + 8 * ssum T x2 k s + 16 + 8 * csum (Tseg T s) (nrow x2 s) k from by omega]
        exact R4
      · exact fC_trans F2 (fC_trans ⟨fun a c1 c2 c3 => H1 a (by omega), fun j _ => by rw [H1 530 (by omega)], H2⟩ ⟨fun a c1 c2 c3 => F4.1 a c1 c2 (by omega), F4.2, fun j _ => by rw [F4.1 302 (by decide) (by decide) (by omega)]⟩)
    · have hsR : x2 ≤ 1024 * (s : Int) := by
        refine Classical.byContradiction (fun hc => ?_)
        have := mono' (x2 - 1024 * (s : Int)).toNat (1024 * (s : Int)) (by omega) (by omega)
        rw [show 1024 * (s : Int) + ((x2 - 1024 * (s : Int)).toNat : Nat) = x2 from by omega, s4] at this
        rw [show min x2 (1024 * (s : Int)) = 1024 * (s : Int) from by omega] at hx
        omega
      have es : s = nseg x2 := by unfold nseg; omega
      rw [if_neg hx, xH_ret, show min x2 (1024 * (s : Int)) = x2 from by omega, show x2 - x2 = 0 from by omega]
      refine ⟨by decide, ?_, F2⟩
      unfold partB
      rw [← es, show p + 8 * (4 + ssum T x2 k s) = p + 32 + 8 * ssum T x2 k s from by omega]
      exact R2
  · by_cases h0 : 0 < n
    · rw [show min R (1024 * ((0 : Nat) : Int)) = 0 from by omega, (s3 h0).2]
    · rw [show min R (1024 * ((0 : Nat) : Int)) = R from by omega, s4]
      omega
end CHK
