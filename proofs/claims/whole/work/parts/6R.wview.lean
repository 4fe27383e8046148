/-! WRITING A VIEW'S PART (writeView) -/
theorem tkey_w (m : xw_M) (r d x : Int) : w64 (tkey m r d x) = tkey m r d x := by
  unfold tkey
  split
  · decide
  · exact w64_xR _ _ _
theorem mu_lt {x : Int} (h : x < 20000) : (20000 - (x + 1)).toNat < (20000 - x).toNat := by omega
section WV
variable {B : Nat} {m : xw_M} {r W cap D M P n R : Int} {hd st : Int → Int}
theorem fill_in (hB : B ≤ 512) {p pe v : Int} (hp : 0 ≤ p) (hpe : p + 32 ≤ pe) (hv : 0 ≤ v ∧ v ≤ 20000) (hw : ws B m pe) (hl : pe ≤ 64 * (B * 512 : Nat)) (hz : ∀ q, p ≤ q → q < p + 32 → bW (m 517) q = false) : ∃ m', yf198 B 518 p v 32 m = some (.inl 0, m') ∧ ws B m' pe ∧ tk (m' 517) p 32 = v ∧ (∀ a, a ≠ 517 → a ≠ 518 → m' a = m a) ∧ ∀ q, 0 ≤ q → (q < p ∨ p + 32 ≤ q) → bW (m' 517) q = bW (m 517) q := by
  obtain ⟨h1, h2, h3, h4, h5⟩ := hw
  unfold yf198
  have e1 : xR (xw_u m 518 2 p) 518 1 = 64 * (B * 512 : Nat) := by rw [xR_u, if_neg (by decide)]; exact h1
  have e2 : xR (xw_u m 518 2 p) 518 2 = p := by rw [xR_u, if_pos ⟨rfl, rfl⟩]; exact w32_id (by omega) (by omega)
  have e3 : xR (xw_u m 518 2 p) 518 3 = 0 := by rw [xR_u, if_neg (by decide)]; exact h3
  obtain ⟨m1, q0, q1, q2, q3, q4⟩ := put_ok (v := v) (n := 32) (tp518 hB) hp e2 e1 e3 (by decide) (by decide) (by omega)
  rw [if_pos (by decide), q0, xB_ret, h2]
  have w17 : (xw_u m 518 2 p) 517 = m 517 := xu_c (by decide)
  rw [w17] at q4
  have hbit : ∀ q, 0 ≤ q → (q < p ∨ p + 32 ≤ q) → bW ((xw_u m1 518 2 pe) 517) q = bW (m 517) q := by
    intro q g0 g1
    rw [xu_c (by decide), q4 q g0, decide_eq_false (by omega), Bool.false_and, Bool.or_false]
  refine ⟨_, rfl, ⟨?_, ?_, ?_, by omega, fun q g0 g1 => ?_⟩, ?_, fun a a1 a2 => by rw [xu_c a2, q3 a a2 a1, xu_c a2], hbit⟩
  · rw [xR_u, if_neg (by decide)]
    unfold xR at e1 ⊢
    rw [q2 1 (by decide)]
    exact e1
  · rw [xR_u, if_pos ⟨rfl, rfl⟩]
    exact w32_id (by omega) (by omega)
  · rw [xR_u, if_neg (by decide)]
    unfold xR at e3 ⊢
    rw [q2 3 (by decide)]
    exact e3
  · rw [hbit q (by omega) (by omega)]
    exact h5 q g0 g1
  · rw [xu_c (by decide)]
    have := tk_put (W := m1 517) (p := p) (v := v) (n := 32) (fun i hi => by
      rw [q4 _ (by omega), hz _ (by omega) (by omega), decide_eq_true (by omega), Bool.false_or, Bool.true_and]
      congr 1
      omega)
    rw [this]
    exact msk_nn hv.1 (by show _ < (4294967296 : Int); omega) (by decide)
theorem fill_ov (hB : B ≤ 512) {p v : Int} (h : ov B m) : ∃ m', yf198 B 518 p v 32 m = some (.inl 0, m') ∧ ov B m' ∧ ∀ a, a ≠ 518 → m' a = m a := by
  unfold yf198
  obtain ⟨⟨h1, a, z1, z2, z3, z4⟩, h3⟩ := h
  obtain ⟨m1, e1, q1, q2, q3⟩ := put_over (v := v) (n := 32) (m := xw_u m 518 2 p) (tp518 hB) (Or.inl (by rw [xR_u, if_neg (by decide)]; exact h3))
  rw [if_pos (by decide), e1, xB_ret]
  refine ⟨_, rfl, ⟨⟨?_, a, ?_, z2, z3, ?_⟩, ?_⟩, fun a ha => by rw [xu_c ha, q3 a ha, xu_c ha]⟩
  · rw [xR_u, if_neg (by decide)]
    unfold xR
    rw [q2 1 (by decide)]
    show xR (xw_u m 518 2 p) 518 1 = _
    rw [xR_u, if_neg (by decide)]
    exact h1
  · rw [xR_u, if_pos ⟨rfl, rfl⟩, w32_xR]
    exact z1
  · rw [xu_c (by decide), q3 517 (by decide), xu_c (by decide)]
    exact z4
  · rw [xR_u, if_neg (by decide)]
    exact q1
theorem wr_view (hB : B ≤ 512) (hr : rwo r W cap) (hv : vsh m D M P hd) (ht : tsok m r D n) (hn : 0 ≤ n ∧ n ≤ cap) (h5 : xR m r 5 = n) (ho : prm (xR m (r + 12 + W)) n) (hS : SR 0 D (tkey m r) (xR m (r + 12 + W)) st n R) (hst : ∀ j, xw_rg (st j)) {p : Int} (hp : 0 ≤ p) (hw : tst B m p) :
    ∃ v m', yf193 B r 518 m = some (.inl v, m') ∧ fT m m' p ∧ tst B m' (p + 8 * partB (Tvw (tkey m r) (fun k => xJ m (r + 12 + k)) P hd (xR m (r + 12 + W)) st) R (P + 1 + 3 * M).toNat) ∧ (ws B m' (p + 8 * partB (Tvw (tkey m r) (fun k => xJ m (r + 12 + k)) P hd (xR m (r + 12 + W)) st) R (P + 1 + 3 * M).toNat) → v = R ∧ Part (m' 517) p R (P + 1 + 3 * M).toNat (Tvw (tkey m r) (fun k => xJ m (r + 12 + k)) P hd (xR m (r + 12 + W)) st)) := by
  have hb := rw_b hr
  obtain ⟨f1, _⟩ := rw_f B hr
  obtain ⟨⟨hD0, hD8⟩, ⟨hM0, hM8⟩, ⟨hP0, hPD⟩, hvr⟩ := hv
  obtain ⟨s1, s2, s3, s4, s5⟩ := hS
  have hS : SR 0 D (tkey m r) (xR m (r + 12 + W)) st n R := ⟨s1, s2, s3, s4, s5⟩
  have hv : vsh m D M P hd := ⟨⟨hD0, hD8⟩, ⟨hM0, hM8⟩, ⟨hP0, hPD⟩, hvr⟩
  have hT : cwd (Tvw (tkey m r) (fun k => xJ m (r + 12 + k)) P hd (xR m (r + 12 + W)) st) := Tvw_w (tkey_w m r) (fun k x => w64_xJ _ _ _) hst
  generalize hTf : Tvw (tkey m r) (fun k => xJ m (r + 12 + k)) P hd (xR m (r + 12 + W)) st = T at *
  have hk : (P + 1 + 3 * M).toNat ≤ 33 := by omega
  generalize hkf : (P + 1 + 3 * M).toNat = k at *
  have hss := ssum_nn hT hk (R := R) (s := nseg R) (by unfold nseg; omega)
  have mono' := SR_mono hS
  have first : ∃ m1, yf152 B 518 0 32 m = some (.inl 0, m1) ∧ fT m m1 p ∧ ((ws B m1 (p + 32) ∧ p + 32 ≤ 64 * (B * 512 : Nat) ∧ ∀ q, p ≤ q → q < p + 32 → bW (m1 517) q = false) ∨ (ov B m1 ∧ 64 * (B * 512 : Nat) < p + 32)) := by
    by_cases hfit : (ws B m p ∧ p ≤ 64 * (B * 512 : Nat)) ∧ p + 32 ≤ 64 * (B * 512 : Nat)
    · obtain ⟨g1, g2, g3, g4, g5⟩ := hfit.1.1
      obtain ⟨m1, q0, q1, q2, q3, q4⟩ := put_ok (v := 0) (n := 32) (tp518 hB) hp g2 g1 g3 (by decide) (by decide) hfit.2
      have hz0 : ∀ i, bt 0 i = false := fun i => by rw [bt_nn (by decide), show (0 : Int).toNat = 0 from rfl, Nat.zero_testBit, Bool.and_false]
      have q5 : ∀ q, 0 ≤ q → bW (m1 517) q = bW (m 517) q := fun q h0 => by rw [q4 q h0, hz0, Bool.and_false, Bool.or_false]
      refine ⟨m1, q0, ⟨fun a h1 h2 => q3 a (by omega) (by omega), fun k2 _ => by rw [q3 302 (by decide) (by decide)], fun q h0 _ => q5 q h0⟩, Or.inl ⟨⟨?_, q1, ?_, by omega, fun q h0 h1 => ?_⟩, hfit.2, fun q h0 h1 => ?_⟩⟩
      · unfold xR at g1 ⊢
        rw [q2 1 (by decide)]
        exact g1
      · unfold xR at g3 ⊢
        rw [q2 3 (by decide)]
        exact g3
      · rw [q5 q (by omega)]
        exact g5 q (by omega) h1
      · rw [q5 q (by omega)]
        exact g5 q h0 (by omega)
    · obtain ⟨m1, e1, o1, g1⟩ := put_ov (v := 0) (n := 32) (p := p) hB (m := m) (by
        rcases hw with h | h
        · exact Or.inr ⟨h.1, h.2, by
            have : ¬ p + 32 ≤ 64 * ((B * 512 : Nat) : Int) := fun q => hfit ⟨h, q⟩
            omega⟩
        · exact Or.inl h.1)
      refine ⟨m1, e1, ⟨fun a h1 h2 => g1 a (by omega), fun k2 _ => by rw [g1 302 (by decide)], fun q _ _ => by rw [g1 517 (by decide)]⟩, Or.inr ⟨o1, ?_⟩⟩
      rcases hw with h | h
      · have : ¬ p + 32 ≤ 64 * ((B * 512 : Nat) : Int) := fun q => hfit ⟨h, q⟩
        omega
      · omega
  obtain ⟨m1, e1, F1, S1⟩ := first
  unfold yf193
  rw [if_pos (by decide), e1, xB_ret]
  have goal := xH_ex (Q := fun v m' => fT m m' p ∧ tst B m' (p + 8 * partB T R k) ∧ (ws B m' (p + 8 * partB T R k) → v = R ∧ Part (m' 517) p R k T)) (xl6_rule (F := yl193_21 B) (fun x0 x1 x2 x3 x4 x5 m' => x0 = r ∧ x1 = 518 ∧ x2 = xR m 518 2 ∧ ∃ s : Nat, x5 = (s : Int) ∧ 1024 * (s : Int) < R + 1024 ∧ x4 = st (min R (1024 * (s : Int))) ∧ 0 ≤ x3 ∧ x3 ≤ 20000 ∧ fT m m' p ∧ ((ws B m' (p + 32 + 8 * ssum T R k s) ∧ p + 32 + 8 * ssum T R k s ≤ 64 * (B * 512 : Nat) ∧ x3 = min R (1024 * (s : Int)) ∧ (∀ q, p ≤ q → q < p + 32 → bW (m' 517) q = false) ∧ ∀ j : Nat, j < s → Seg (m' 517) (p + 32 + 8 * ssum T R k j) (nrow R j) k (Tseg T j)) ∨ (ov B m' ∧ x3 = min R (1024 * (s : Int)) ∧ 64 * (B * 512 : Nat) < p + 8 * partB T R k))) (fun _ _ _ _ _ x5 _ => (20000 - x5).toNat) ?_ 1000000 r 518 (xR m 518 2) 0 0 0 m1 ⟨rfl, rfl, rfl, 0, by omega, by omega, ?_, by omega, by omega, F1, ?_⟩ (by omega))
  · obtain ⟨v, m', e, h⟩ := goal
    exact ⟨v, m', e, h⟩
  · intro q x0 x1 x2 x3 x4 x5 m2 ⟨a0, a1, a2, s, a5, a6, a7, a8, a9, F2, S2⟩ ih
    subst a0 a1 a2 a5 a7
    have r5 : xR m2 x0 5 = n := by rw [xR_cg (F2.1 x0 (by omega) (by omega))]; exact h5
    -- the end
    have fin : (¬ st (min R (1024 * (s : Int))) < n ∨ ov B m2) → xH (yk193_74 B 518 (xR m 518 2) x3 m2) (fun v m' => fT m m' p ∧ tst B m' (p + 8 * partB T R k) ∧ (ws B m' (p + 8 * partB T R k) → v = R ∧ Part (m' 517) p R k T)) (fun _ _ => False) := by
      intro hend
      unfold yk193_74
      rw [if_pos (by decide)]
      rcases S2 with ⟨w, hl, hx3, hz, sg⟩ | ⟨o, hx3, hl⟩
      · have hnl : ¬ st (min R (1024 * (s : Int))) < n := by
          rcases hend with h | h
          · exact h
          · exact absurd (w.2.2.1.symm.trans h.2) (by decide)
        have hsR : R ≤ 1024 * (s : Int) := by
          refine Classical.byContradiction (fun hc => ?_)
          have := mono' (R - 1024 * (s : Int)).toNat (1024 * (s : Int)) (by omega) (by omega)
          rw [show 1024 * (s : Int) + ((R - 1024 * (s : Int)).toNat : Nat) = R from by omega, s4] at this
          rw [show min R (1024 * (s : Int)) = 1024 * (s : Int) from by omega] at hnl
          omega
        have es : s = nseg R := by unfold nseg; omega
        have hx3R : x3 = R := by omega
        -- the place of the rows' number: where the tape stood
        have hpm : xR m 518 2 = p := by
          rcases hw with h | h
          · exact h.1.2.1
          · exfalso
            have := ssum_nn hT hk (R := R) (s := s) (by omega)
            omega
        have hsn := ssum_nn hT hk (R := R) (s := s) (by omega)
        obtain ⟨m3, e3, w3, t3, g3, b3⟩ := fill_in (m := m2) hB hp (show p + 32 ≤ p + 32 + 8 * ssum T R k s by omega) (v := x3) ⟨by omega, by omega⟩ w hl hz
        rw [hpm, e3, xB_ret, xH_ret]
        have hpos : p + 8 * partB T R k = p + 32 + 8 * ssum T R k s := by unfold partB; rw [← es]; omega
        rw [hpos]
        refine ⟨⟨fun a h1 h2 => by rw [g3 a (by omega) (by omega)]; exact F2.1 a h1 h2, fun j hj => by rw [g3 302 (by decide) (by decide)]; exact F2.2.1 j hj, fun q0 h0 h1 => by rw [b3 q0 h0 (by omega)]; exact F2.2.2 q0 h0 h1⟩, Or.inl ⟨w3, hl⟩, fun _ => ⟨hx3R, by rw [t3]; exact hx3R, ⟨s1, by omega⟩, fun j hj => ?_⟩⟩
        have hj2 := sg j (by rw [es]; unfold nseg; omega)
        have snj := ssum_nn hT hk (R := R) (s := j) (by omega)
        exact Seg_cg (Tseg_w hT j) (by unfold nrow; omega) (by unfold nrow; omega) hk (fun z h1 h2 => b3 _ (by omega) (by omega)) hj2
      · obtain ⟨m3, e3, o3, g3⟩ := fill_ov (m := m2) (p := xR m 518 2) (v := x3) hB o
        rw [e3, xB_ret, xH_ret]
        exact ⟨⟨fun a h1 h2 => by rw [g3 a (by omega)]; exact F2.1 a h1 h2, fun j hj => by rw [g3 302 (by decide)]; exact F2.2.1 j hj, fun q0 h0 h1 => by rw [g3 517 (by decide)]; exact F2.2.2 q0 h0 h1⟩, Or.inr ⟨o3, hl⟩, fun h => absurd (h.2.2.1.symm.trans o3.2) (by decide)⟩
    unfold yl193_21
    rw [if_pos (by omega), if_pos f1, r5]
    by_cases hx : st (min R (1024 * (s : Int))) < n
    · have hsR : 1024 * (s : Int) < R := by
        refine Classical.byContradiction (fun hc => ?_)
        rw [show min R (1024 * (s : Int)) = R from by omega, s4] at hx
        omega
      rw [if_pos hx, if_pos (by decide)]
      have S2' := S2
      rcases S2 with ⟨w, hl, hx3, hz, sg⟩ | ⟨o, hx3, hl⟩
      · have hsn := ssum_nn hT hk (R := R) (s := s) (by omega)
        have es : ssum T R k (s + 1) = ssum T R k s + (2 + csum (Tseg T s) (nrow R s) k) := rfl
        have mono := ssum_mono hT hk (R := R) (s + 1) (nseg R - (s + 1)) (by unfold nseg; omega)
        rw [show s + 1 + (nseg R - (s + 1)) = nseg R from by unfold nseg; omega] at mono
        have hnr : 1 ≤ nrow R s ∧ nrow R s ≤ 1024 := by unfold nrow; omega
        have FA : ∀ a, a < 302 ∨ 336 < a → a < 517 ∨ 523 < a → m2 a = m a := fun a h1 h2 => F2.1 a h1 h2
        have hv2 : vsh m2 D M P hd := vsh_cg hv (FA 3 (by omega) (by omega)) (F2.2.1 5 (by decide)) (F2.2.1 6 (by decide)) (FA 372 (by omega) (by omega))
        have hk2 : ∀ d x, 0 ≤ d → d < D → tkey m2 x0 d x = tkey m x0 d x := fun d x d0 d1 => tkey_cg (D := D) (fun a ha => FA a (by omega) (by omega)) (FA 371 (by omega) (by omega)) (FA 372 (by omega) (by omega)) (fun a h1 h2 => FA a (by omega) (by omega)) hr ⟨d0, d1⟩ hD8 (fun hp2 => (ht d d0 d1 hp2).1)
        have ht2 : tsok m2 x0 D n := fun d d0 d1 hp2 => by
          rw [xR_cg (FA 372 (by omega) (by omega))] at hp2
          obtain ⟨t1, t2, t3⟩ := ht d d0 d1 hp2
          rw [xR_cg (FA 371 (by omega) (by omega)), xR_cg (FA (15 + 26 * d + 23) (by omega) (by omega)), xR_cg (FA (x0 + 3 + d) (by omega) (by omega))]
          exact ⟨t1, t2, fun i i0 i1 => by rw [hk2 d i d0 d1]; exact t3 i i0 i1⟩
        have ro : xR m2 (x0 + 12 + W) = xR m (x0 + 12 + W) := xR_cg (FA _ (by omega) (by omega))
        have hS2 : SR 0 D (tkey m2 x0) (xR m2 (x0 + 12 + W)) st n R := by
          rw [ro]
          have ec : ∀ a b, eqv 0 D (tkey m x0) (xR m (x0 + 12 + W)) a b ↔ eqv 0 D (tkey m2 x0) (xR m (x0 + 12 + W)) a b := fun a b => ⟨fun h => ⟨h.1, fun i i0 i1 => by rw [hk2 i _ i0 i1, hk2 i _ i0 i1]; exact h.2 i i0 i1⟩, fun h => ⟨h.1, fun i i0 i1 => by rw [← hk2 i _ i0 i1, ← hk2 i _ i0 i1]; exact h.2 i i0 i1⟩⟩
          exact ⟨s1, s2, s3, s4, fun j j0 j1 => ⟨(s5 j j0 j1).1, fun q0 h1 h2 => (ec _ _).mp ((s5 j j0 j1).2.1 q0 h1 h2), fun h1 h2 => (s5 j j0 j1).2.2 h1 ((ec _ _).mpr h2)⟩⟩
        obtain ⟨m3, e3, G1, G2, G3, G4⟩ := sumup_ok (B := B) (m := m2) hr hv2 ht2 hn r5 (by rw [ro]; exact ho) hS2 hsR
        rw [show min R (1024 * (s : Int)) = 1024 * (s : Int) from by omega, w.2.2.1, if_pos rfl, e3, xB_ret]
        have hC : ∀ c i : Int, 0 ≤ c → c < (k : Nat) → 0 ≤ i → i < nrow R s → xJ m3 (304 + c) i = Tseg T s c i := fun c i q1 q2 q3 q4 => by
          rw [G4 c i q1 (by omega) q3 q4, ro]
          show _ = T c (1024 * (s : Int) + i)
          rw [← hTf]
          unfold Tvw Tvp
          by_cases h1 : c < P
          · rw [if_pos h1, if_pos h1]
            obtain ⟨_, _, _, _, _, hhd⟩ := hvr
            exact hk2 _ _ (hhd c q1 h1).1.1 (hhd c q1 h1).1.2
          · rw [if_neg h1, if_neg h1]
            by_cases h2 : c = P
            · rw [if_pos h2, if_pos h2]
            · rw [if_neg h2, if_neg h2]
              have : (xJ m2 (x0 + 12 + (c - P - 1) / 3)) = xJ m (x0 + 12 + (c - P - 1) / 3) := xJ_cg (FA _ (by omega) (by omega))
              show ga _ (xJ m2 (x0 + 12 + (c - P - 1) / 3)) _ _ _ = _
              rw [this]
        have w3 : ws B m3 (p + 32 + 8 * ssum T R k s) := by
          obtain ⟨q1, q2, q3, q4, q5⟩ := w
          refine ⟨?_, ?_, ?_, q4, ?_⟩
          · rw [xR_cg (G1 518 (by omega))]; exact q1
          · rw [xR_cg (G1 518 (by omega))]; exact q2
          · rw [xR_cg (G1 518 (by omega))]; exact q3
          · rw [G1 517 (by omega)]; exact q5
        have s6 : xR m3 302 6 = k := by
          unfold xR
          rw [G2 6 (by decide), F2.2.1 6 (by decide)]
          have := hvr.2.2.2.1
          unfold xR at this
          rw [this]
          omega
        obtain ⟨m4, e4, F4, S4⟩ := wr_seg hB hk hnr.1 hnr.2 G3 s6 (Or.inl ⟨w3, hl⟩) (show 0 ≤ p + 32 + 8 * ssum T R k s by omega)
        have ecs : csum (fun c => xJ m3 (304 + c)) (nrow R s) k = csum (Tseg T s) (nrow R s) k := csum_cg hnr.1 _ hC
        rw [ecs] at S4
        have H4 : fT m m4 p := by
          have f3 : fT m2 m3 (p + 32 + 8 * ssum T R k s) := ⟨fun a h1 h2 => G1 a h1, G2, fun q0 _ _ => by rw [G1 517 (by omega)]⟩
          exact fT_trans F2 (fT_trans f3 (fw_fT F4) (Int.le_refl _)) (by omega)
        have s8 : xR m4 302 8 = nrow R s := by rw [xR_cg (F4.1 302 (by omega))]; exact G3
        have hx3n : x3 + nrow R s = min R (1024 * ((s + 1 : Nat) : Int)) := by unfold nrow; omega
        rw [e4, xB_ret, s8, w32_id (x := x3 + nrow R s) (by omega) (by omega), w32_id (by omega) (by omega)]
        have ecast : ((s + 1 : Nat) : Int) = (s : Int) + 1 := Int.natCast_succ s
        refine ih _ _ _ _ _ _ _ ⟨rfl, rfl, rfl, s + 1, ecast.symm, by omega, by rw [ecast], by omega, by omega, H4, ?_⟩ (mu_lt (show (s : Int) < 20000 by omega))
        rcases S4 with ⟨q1, q2, q3⟩ | ⟨q1, q2⟩
        · refine Or.inl ⟨?_, ?_, hx3n, fun q0 h0 h1 => ?_, fun j hj => ?_⟩
          · rw [es, show p + 32 + 8 * (ssum T R k s + (2 + csum (Tseg T s) (nrow R s) k)) = p + 32 + 8 * ssum T R k s + 16 + 8 * csum (Tseg T s) (nrow R s) k from by omega]
            exact q1
          · rw [es]
            omega
          · rw [F4.2 q0 (by omega) (by omega), G1 517 (by omega)]
            exact hz q0 h0 h1
          · by_cases ej : j = s
            · rw [ej]
              refine ⟨q3.1, fun c hc => ?_⟩
              have hcc := q3.2 c hc
              have ec1 : csum (fun c => xJ m3 (304 + c)) (nrow R s) c = csum (Tseg T s) (nrow R s) c := csum_cg hnr.1 _ (fun c i q1 q2 q3 q4 => hC c i q1 (by omega) q3 q4)
              have ec2 : colB (xJ m3 (304 + (c : Int))) (nrow R s) = colB (Tseg T s c) (nrow R s) := colB_cg hnr.1 (fun i q1 q2 => hC c i (by omega) (by omega) q1 q2)
              rw [ec1, ec2] at hcc
              exact Col_f hnr.1 (fun i q1 q2 => hC c i (by omega) (by omega) q1 q2) hcc
            · have hj2 := sg j (by omega)
              have ej1 : ssum T R k (j + 1) = ssum T R k j + (2 + csum (Tseg T j) (nrow R j) k) := rfl
              have mj := ssum_mono hT hk (R := R) (j + 1) (s - (j + 1)) (by omega)
              rw [show j + 1 + (s - (j + 1)) = s from by omega] at mj
              have snj := ssum_nn hT hk (R := R) (s := j) (by omega)
              refine Seg_cg (Tseg_w hT j) (by unfold nrow; omega) (by unfold nrow; omega) hk (fun z h1 h2 => ?_) hj2
              rw [F4.2 _ (by omega) (by omega), G1 517 (by omega)]
        · exact Or.inr ⟨q1, hx3n, by unfold partB; omega⟩
      · rw [o.2, if_neg (by decide)]
        exact fin (Or.inr o)
    · rw [if_neg hx]
      exact fin (Or.inl hx)
  · by_cases h0 : 0 < n
    · rw [show min R (1024 * ((0 : Nat) : Int)) = 0 from by omega, (s3 h0).2]
    · rw [show min R (1024 * ((0 : Nat) : Int)) = R from by omega, s4]
      omega
  · rcases S1 with ⟨q1, q2, q3⟩ | ⟨q1, q2⟩
    · refine Or.inl ⟨?_, ?_, by omega, q3, fun j hj => by omega⟩
      · rw [show ssum T R k 0 = 0 from rfl, Int.mul_zero, Int.add_zero]
        exact q1
      · rw [show ssum T R k 0 = 0 from rfl, Int.mul_zero, Int.add_zero]
        exact q2
    · exact Or.inr ⟨q1, by omega, by unfold partB; omega⟩
end WV
