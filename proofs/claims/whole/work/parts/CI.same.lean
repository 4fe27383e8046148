/-! THE ANSWER: a row of either side with the same key has the same items -/
theorem gix_eq {G : Int → Int} {o j : Int} : ∀ n : Nat, 0 ≤ j → j < n → G j = o → (∀ i : Int, 0 ≤ i → i < n → G i = o → i = j) → gix G o n = j
  | 0, h0, h1, _, _ => by omega
  | n + 1, h0, h1, e, u => by
    unfold gix
    by_cases c : G n = o
    · rw [if_pos c]; exact u n (by omega) (by omega) c
    · rw [if_neg c]
      have ne : j ≠ n := fun z => c (by rw [← z]; exact e)
      exact gix_eq n h0 (by omega) e (fun i i0 i1 => u i i0 (by omega))
section SAM
variable {B : Nat} {k S Sr it t n : Int} {c r m2 m' z : xw_M} {q D M tu nc p : Int} {Kx Rf : Int → Int} {Rv : Int → Int → Int}
theorem anC_ok {xs ms : Int → Int} {Ls : Int → List Int} {a rc i : Int} (dk : dsk B c D M tu Kx Rf Rv) (rm : ram c D M tu Kx) (G : GC c r q D k) (tt : t = 420 ∨ t = 464) (I : ∀ j, 0 ≤ j → j < it → rsi c r q M k j) (K : CAN m2 c t k it S n) (rc0 : 0 ≤ rc) (rc1 : rc < n) (Y : AW c m' k M a (ms a) (xs a) (Ls a)) (Pm : (Ls a).Perm (kfs c k S (fun g => skey (fRF c (xs a)) (lsf c) (ms a) g))) (hm : (0 ≤ ms a ∧ ms a < 256) ∧ (ms a ≠ 0 → 0 ≤ xs a ∧ xs a < xR c 536 31)) (ky : ∀ g, 0 ≤ g → g < k → xR m2 (t + 4 + g) rc = skey (fRF c (xs a)) (lsf c) (ms a) g) (it24 : it ≤ 24) (zc : ∀ x, t ≤ x → x ≤ t + 43 → z x = m2 x) (zq : ∀ x, (x = q ∨ x = q + 1 ∨ x = q + 2 ∨ x = q + 4) → z x = r x) (zr : ∀ x, 595 ≤ x → x ≤ 600 → z x = m' x) (hi : xR z (t + 37) i = rc) : ∀ p, 0 ≤ p → p < it → anC z t q a i p := fun p p0 p1 => by
  have k8 := G.2.2.1
  have D8 := rm.cg.cn.1
  have M8 := rm.cg.cn.2.1
  obtain ⟨b, bb, T1, T2, T3⟩ := K.2.2.2.2.2.2 rc p rc0 rc1 p0 p1
  obtain ⟨i1, i2, i3, i4, i5, i6⟩ := I p p0 p1
  obtain ⟨y1, y2, y3, y4⟩ := Y
  have kb0 : xR c 224 p ≠ 1 → xR c 224 p ≠ 209 → 210 ≤ xR c 224 p ∧ xR c 224 p ≤ 213 := fun h1 h2 => by omega
  have kf : kfs c k S (fun g => xR m2 (t + 4 + g) rc) = kfs c k S (fun g => skey (fRF c (xs a)) (lsf c) (ms a) g) := by
    unfold kfs
    congr 1
    funext x
    unfold okf
    rw [mtc2_cg (κ := fun g => skey (fRF c (xs a)) (lsf c) (ms a) g) (fun g g0 g1 => ky g g0 g1)]
  rw [kf] at T3
  have q1 : xR z (q + 1) p = kmp (xR c 224 p) := by rw [xR_cg (zq (q + 1) (by omega))]; exact i2
  have q2 : xR z (q + 2) p = xR r (q + 2) p := by rw [xR_cg (zq (q + 2) (by omega))]
  have z595 : xR z 595 a = ms a := by rw [xR_cg (zr 595 (by omega) (by omega))]; exact y1
  have z597 : xJ z 597 a = ((Ls a).length : Int) := by rw [xJ_cg (zr 597 (by omega) (by omega))]; exact y2
  have cv : xJ z (t + 13 + p) (xR z (t + 37) i) = xJ m2 (t + 13 + p) rc := by rw [hi, xJ_cg (zc (t + 13 + p) (by omega) (by omega))]
  have cb : xR z (t + 40) (xR z (t + 37) i) = xR m2 (t + 40) rc := by rw [hi, xR_cg (zc (t + 40) (by omega) (by omega))]
  have bv : (if xw_iandf (xw_ishrf (xR m2 (t + 40) rc) p) 1 = 0 then (0 : Int) else 1) = if b = true then 1 else 0 := by
    by_cases e : b = true
    · rw [if_pos e, if_neg (fun w => by rw [bb.mp w] at e; exact absurd e (by decide))]
    · rw [if_neg e, if_pos (bb.mpr (Bool.eq_false_iff.mpr e))]
  have len : ((Ls a).length : Int) = 0 ↔ kfs c k S (fun g => skey (fRF c (xs a)) (lsf c) (ms a) g) = [] := by
    rw [Pm.length_eq]
    constructor
    · intro h; exact List.eq_nil_of_length_eq_zero (by omega)
    · intro h; rw [h]; rfl
  have lsn : Ls a = [] ↔ ((Ls a).length : Int) = 0 := ⟨fun h => by rw [h]; rfl, fun h => List.eq_nil_of_length_eq_zero (by omega)⟩
  -- groups
  have grp : (xR c 224 p = 1 ∨ xR c 224 p = 209) → rgi z q p = xR c 225 p ∧ (0 ≤ xR c 225 p ∧ xR c 225 p < k) ∧ rtk z q a p = (if bin (ms a) (xR c 225 p) = true then 0 else 1) := fun h => by
    obtain ⟨g1, g2, g3⟩ := i4 h
    have e : rgi z q p = xR c 225 p := by
      unfold rgi
      rw [xR_cg (zq q (by omega)), G.2.1, xR_cg (zq (q + 4) (by omega)), q2]
      refine gix_eq k.toNat g1 (by omega) ?_ (fun j j0 j1 ej => ?_)
      · rw [(G.2.2.2.1 _ g1 g2).1]; exact g3
      · rw [(G.2.2.2.1 j j0 (by omega)).1, ← g3] at ej
        exact G.2.2.2.2 j _ j0 (by omega) g1 g2 ej
    refine ⟨e, ⟨g1, g2⟩, ?_⟩
    unfold rtk
    rw [e, z595]
    have mb := mbit_i hm.1.1 hm.1.2 g1 (show xR c 225 p < 8 by omega)
    unfold bin
    by_cases w : xw_iandf (xw_ishrf (ms a) (xR c 225 p)) 1 = 0
    · rw [if_pos w, w, if_neg (by decide)]
    · have w1 : xw_iandf (xw_ishrf (ms a) (xR c 225 p)) 1 = 1 := by
        have := Nat.mod_lt ((ms a).toNat / 2 ^ (xR c 225 p).toNat) (show 0 < 2 by decide)
        omega
      rw [if_neg w, w1, if_pos (by decide)]
  have kg : ∀ g, 0 ≤ g → g < k → xR m2 (t + 4 + g) rc = if bin (ms a) g = true then fRF c (xs a) g else lsf c g := fun g g0 g1 => by
    rw [ky g g0 g1]; exact skey_b hm.1.1 hm.1.2 g0 (by omega)
  -- amounts
  have rms : ∀ _ : Unit, (xR c 224 p = 210 ∨ xR c 224 p = 212 ∨ xR c 224 p = 213) → (0 ≤ xR r (q + 2) p ∧ xR r (q + 2) p < M) ∧ ∃ s lo hi, SLG (fA c p) (Ls a) s lo hi ∧ xJ z 598 (8 * a + xR r (q + 2) p) = s ∧ xJ z 599 (8 * a + xR r (q + 2) p) = lo ∧ xJ z 600 (8 * a + xR r (q + 2) p) = hi := fun _ h => by
    have e5 := i5 (by omega)
    have e6 := i6 h
    obtain ⟨s, lo, hi, h1, h2, h3, h4⟩ := y4 (xR r (q + 2) p) i3.1 e6
    refine ⟨⟨i3.1, e6⟩, s, lo, hi, ?_, by rw [xJ_cg (zr 598 (by omega) (by omega))]; exact h2, by rw [xJ_cg (zr 599 (by omega) (by omega))]; exact h3, by rw [xJ_cg (zr 600 (by omega) (by omega))]; exact h4⟩
    rw [← e5] at h1
    exact h1
  unfold anC rvl rbk
  rw [q1, q2, z597, cv, cb, bv]
  obtain ⟨w0, hw⟩ : ∃ w0 : Int, (if b = true then (1 : Int) else 0) = w0 := ⟨_, rfl⟩
  have wt : b = true → w0 = 1 := fun e => by rw [← hw, if_pos e]
  have wf : ¬ b = true → w0 = 0 := fun e => by rw [← hw, if_neg e]
  rw [hw]
  by_cases k1 : xR c 224 p = 1
  · obtain ⟨e1, e2, e3⟩ := grp (Or.inl k1)
    have kz : kmp 1 = 0 := by decide
    rw [k1, kz, if_pos rfl, if_pos rfl, e3, e1]
    refine ⟨fun _ => e2.1, fun h => absurd h.1 (by decide), ?_⟩
    obtain ⟨t1, t2⟩ := T1 k1
    have kk := kg _ e2.1 e2.2
    by_cases w : bin (ms a) (xR c 225 p) = true
    · rw [if_pos w] at kk
      have nz : ms a ≠ 0 := fun y => by rw [y, bin_0 e2.1 (by omega)] at w; exact absurd w (by decide)
      have xv := hm.2 nz
      have rb := rf_b dk rm G xv.1 xv.2 _ e2.1 e2.2
      obtain ⟨v1, v2⟩ := t2 (by show xR m2 (t + 4 + xR c 225 p) rc ≠ _; rw [kk]; omega)
      have v1 : xJ m2 (t + 13 + p) rc = xR c (15 + 26 * (xR c 227 (xR c 225 p) / 4) + 9 + xR c 227 (xR c 225 p) % 4) (xR c (15 + 26 * (xR c 227 (xR c 225 p) / 4) + 19 + xR c 227 (xR c 225 p) % 4) (xR m2 (t + 4 + xR c 225 p) rc)) := v1
      rw [if_pos w, if_pos rfl, wf (by rw [v2]; decide), v1, kk, xR_cg (zr 596 (by omega) (by omega)), y3 _ e2.1 e2.2, if_pos w]
      refine ⟨?_, rfl⟩
      obtain ⟨_, d, l, a1, a2, a3, a4, a5⟩ := G.2.2.2.1 _ e2.1 e2.2
      have L4 := (rm.cg.cn.2.2.2.2.1 d a2 a3).2.1.2
      have pb := dk.pl (xs a) d xv.1 xv.2 a2 a3
      have s3 := (rm.cg.sz d a2 a3).2.2.1
      obtain ⟨K', ek, bk, R⟩ := rm.ar d a2 a3 l a4 a5
      have uu := (R.2.2.1 (xR c 575 (8 * xs a + d)) pb.1 (by omega)).2
      have vl := (rm.vl d a2 a3).1 l (xR c 575 (8 * xs a + d)) a4 a5 pb.1 (by omega)
      unfold fRF rmb fV
      dsimp only
      rw [a1, show (4 * d + l) / 4 = d by omega, show (4 * d + l) % 4 = l by omega]
      exact uu.trans vl
    · rw [if_neg w] at kk
      obtain ⟨v1, v2⟩ := t1 kk
      rw [if_neg w, if_neg (by decide), wt v2, v1]
      exact ⟨rfl, rfl⟩
  by_cases k9 : xR c 224 p = 209
  · obtain ⟨e1, e2, e3⟩ := grp (Or.inr k9)
    have kz : kmp 209 = 5 := by decide
    rw [k9, kz, if_neg (by decide), if_neg (by decide), if_neg (by decide), if_neg (by decide), if_neg (by decide), if_neg (by decide), if_neg (by decide), e3]
    refine ⟨fun h => absurd h (by decide), fun h => absurd h.2 (by decide), ?_⟩
    obtain ⟨v1, v2⟩ := T2 k9
    have v1 : xJ m2 (t + 13 + p) rc = if xR m2 (t + 4 + xR c 225 p) rc = lsf c (xR c 225 p) then 1 else 0 := v1
    have kk := kg _ e2.1 e2.2
    rw [wf (by rw [v2]; decide), v1, kk]
    by_cases w : bin (ms a) (xR c 225 p) = true
    · have nz : ms a ≠ 0 := fun y => by rw [y, bin_0 e2.1 (by omega)] at w; exact absurd w (by decide)
      have xv := hm.2 nz
      have rb := rf_b dk rm G xv.1 xv.2 _ e2.1 e2.2
      rw [if_pos w, if_pos w, if_neg (by omega)]
      exact ⟨rfl, rfl⟩
    · rw [if_neg w, if_neg w, if_pos rfl]
      exact ⟨rfl, rfl⟩
  have kb := kb0 k1 k9
  obtain ⟨t1, t2, t3⟩ := T3 kb.1 kb.2
  have t1' := Agg_perm Pm.symm t1
  by_cases ka : xR c 224 p = 210
  · have kz : kmp 210 = 1 := by decide
    obtain ⟨e1, s, lo, hi', h1, h2, h3, h4⟩ := rms () (Or.inl ka)
    have bf : ¬ b = true := fun w => by have := t3.mp w; omega
    rw [ka, kz, if_neg (by decide), if_pos rfl, if_neg (by decide), if_neg (by decide), wf bf, h2, h1.1]
    exact ⟨fun h => absurd h (by decide), fun _ => ⟨e1.1, by omega⟩, t1'.1 ka, rfl⟩
  by_cases kc : xR c 224 p = 211
  · have kz : kmp 211 = 4 := by decide
    have bf : ¬ b = true := fun w => by have := t3.mp w; omega
    rw [kc, kz, if_neg (by decide), if_neg (by decide), if_neg (by decide), if_neg (by decide), if_pos rfl, if_neg (by decide), if_neg (by decide), wf bf]
    exact ⟨fun h => absurd h (by decide), fun h => absurd h.2 (by decide), t1'.2.1 kc, rfl⟩
  by_cases kd : xR c 224 p = 212
  · have kz : kmp 212 = 2 := by decide
    obtain ⟨e1, s, lo, hi', h1, h2, h3, h4⟩ := rms () (Or.inr (Or.inl kd))
    rw [kd, kz, if_neg (show ¬ ((2 : Int) = 0) by decide), if_neg (show ¬ ((2 : Int) = 1) by decide), if_pos (show (2 : Int) = 2 from rfl), if_neg (show ¬ ((2 : Int) = 0) by decide), if_pos (show (2 : Int) = 2 ∨ (2 : Int) = 3 from Or.inl rfl), h3]
    refine ⟨fun h => absurd h (by decide), fun _ => ⟨e1.1, by omega⟩, ?_⟩
    by_cases e : ((Ls a).length : Int) = 0
    · have e' := len.mp e
      rw [if_pos e, if_pos e, t2 e', wt (t3.mpr ⟨Or.inl kd, e'⟩)]
      exact ⟨rfl, rfl⟩
    · have e' : Ls a ≠ [] := fun w => e (lsn.mp w)
      rw [if_neg e, if_neg e, wf (fun w => e (len.mpr (t3.mp w).2))]
      refine ⟨Agg_uniq kb (fun _ => e') t1' ?_, rfl⟩
      exact ⟨fun w => absurd w ka, fun w => absurd w kc, fun _ _ => ⟨h1.2.1.2.1 e', h1.2.1.2.2⟩, fun w => absurd w (by omega)⟩
  · have ke : xR c 224 p = 213 := by omega
    have kz : kmp 213 = 3 := by decide
    obtain ⟨e1, s, lo, hi', h1, h2, h3, h4⟩ := rms () (Or.inr (Or.inr ke))
    rw [ke, kz, if_neg (show ¬ ((3 : Int) = 0) by decide), if_neg (show ¬ ((3 : Int) = 1) by decide), if_neg (show ¬ ((3 : Int) = 2) by decide), if_pos (show (3 : Int) = 3 from rfl), if_neg (show ¬ ((3 : Int) = 0) by decide), if_pos (show (3 : Int) = 2 ∨ (3 : Int) = 3 from Or.inr rfl), h4]
    refine ⟨fun h => absurd h (by decide), fun _ => ⟨e1.1, by omega⟩, ?_⟩
    by_cases e : ((Ls a).length : Int) = 0
    · have e' := len.mp e
      rw [if_pos e, if_pos e, t2 e', wt (t3.mpr ⟨Or.inr ke, e'⟩)]
      exact ⟨rfl, rfl⟩
    · have e' : Ls a ≠ [] := fun w => e (lsn.mp w)
      rw [if_neg e, if_neg e, wf (fun w => e (len.mpr (t3.mp w).2))]
      refine ⟨Agg_uniq kb (fun _ => e') t1' ?_, rfl⟩
      exact ⟨fun w => absurd w ka, fun w => absurd w kc, fun w => absurd w kd, fun _ _ => ⟨h1.2.2.2.1 e', h1.2.2.2.2⟩⟩
end SAM
