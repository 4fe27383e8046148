/-! THE DISK BEHIND A CHANGE: what stays, a new extent, load -/
section DLD
variable {B : Nat} {m m2 : xw_M} {D M tu : Int} {K Rf : Int → Int} {Rv : Int → Int → Int}
/-- rows of a view in an extent: no more than the facts it is of -/
theorem vps_R {W : Int → Int} {f n k q qe : Int} {vs Rs : Int → Int} (F : vps W m D M f n k vs Rs q qe) {i : Int} (i0 : 0 ≤ i) (i1 : i < k) : 0 ≤ Rs i ∧ Rs i ≤ n := by
  obtain ⟨Os, Ss, Q, _, _, A⟩ := F
  have := (A i i0 i1).1.2.1
  exact ⟨this.1, this.2.1⟩
theorem rws_b (F : dsk B m D M tu K Rf Rv) {i : Int} (i0 : 0 ≤ i) (i1 : i < xR m 536 40) : 0 ≤ xR m 580 i ∧ xR m 580 i ≤ xR m 536 31 := by
  have E0 := F.ex.1
  have gen : ∀ j : Nat, (j : Int) ≤ xR m 536 52 → (∀ e : Int, 0 ≤ e → e < j → (∀ e', e < e' → e' < (j : Int) → K e' ≠ 3) → K e ≠ 1 → 0 ≤ Rv e i ∧ Rv e i ≤ (if K e = 3 then cfx K Rf e.toNat else Rf e)) → 0 ≤ rws K Rv i j ∧ rws K Rv i j ≤ cfx K Rf j := by
    intro j
    induction j with
    | zero => intro _ _; exact ⟨Int.le_refl _, Int.le_refl _⟩
    | succ j ih =>
      intro hj h
      have kd := F.kd j (by omega) (by omega)
      have cs : cfx K Rf (j + 1) = cfx K Rf j + (if hfx K j = true then Rf j else 0) := rfl
      show 0 ≤ (if K j = 3 then 0 else rws K Rv i j) + (if K j = 1 then 0 else Rv j i) ∧ (if K j = 3 then 0 else rws K Rv i j) + (if K j = 1 then 0 else Rv j i) ≤ cfx K Rf (j + 1)
      rw [cs]
      have c0 := cfx_nn (K := K) F.rf j 0
      rw [Nat.zero_add] at c0
      have z : cfx K Rf 0 = 0 := rfl
      by_cases k3 : K j = 3
      · have q := h j (by omega) (by omega) (fun e' h1 h2 => by omega) (by omega)
        rw [if_pos k3, Int.toNat_natCast] at q
        rw [if_pos k3, if_neg (by omega)]
        have hn : ¬ hfx K j = true := by unfold hfx; rw [decide_eq_true_eq]; omega
        rw [if_neg hn]
        omega
      · have a := ih (by omega) (fun e e0 e1 hv k1 => h e e0 (by omega) (fun e' h1 h2 => by
          by_cases ee : e' = j
          · rw [ee]; exact k3
          · exact hv e' h1 (by omega)) k1)
        rw [if_neg k3]
        by_cases k1 : K j = 1
        · rw [if_pos k1]
          have hn : ¬ hfx K j = true := by unfold hfx; rw [decide_eq_true_eq]; omega
          rw [if_neg hn]
          omega
        · have q := h j (by omega) (by omega) (fun e' h1 h2 => by omega) k1
          rw [if_neg k3] at q
          have hn : hfx K j = true := by unfold hfx; rw [decide_eq_true_eq]; omega
          rw [if_neg k1, if_pos hn]
          omega
  rw [F.rw i i0 i1, ← F.sm]
  refine gen _ (by omega) (fun e e0 e1 hv k1 => ?_)
  have kd := F.kd e e0 (by omega)
  obtain ⟨q, a, b, c, d⟩ := F.xt e (by omega) (by omega)
  obtain ⟨qe, V, _⟩ := d (fun e' h1 h2 => hv e' h1 (by omega))
  have := vps_R V i0 i1
  by_cases k3 : K e = 3
  · rw [if_pos k3] at this ⊢; exact this
  · rw [if_neg k3] at this ⊢; exact this
/-- the catalog's extent stays -/
theorem cat_keep (F : dsk B m D M tu K Rf Rv) (hr : m2 538 = m 538 ∧ m2 539 = m 539) (hc : ∀ a, a = 540 ∨ a = 542 ∨ a = 543 → m2 a = m a) (hf : ∀ k, k = 14 ∨ k = 19 → m2 536 k = m 536 k) (e0 : xR m2 587 0 = xR m 587 0 ∧ xR m2 588 0 = xR m 588 0) (hb : ∀ x, xR m 587 0 * 32768 ≤ x → x < (xR m 587 0 + xR m 588 0) * 32768 → bW (m2 516) x = bW (m 516) x) : ∃ w, cgr w m2 D M ∧ vls w m2 D ∧ tk (m2 516) (xR m2 587 0 * 32768 + 32) 32 = msk (D + 256 * M) 32 ∧ Ctl w (m2 516) (xR m2 587 0 * 32768 + 64) D M ∧ xR m2 587 0 * 32768 + 64 + 8 * dsm w D.toNat + 8 * msm w M.toNat ≤ (xR m2 587 0 + xR m2 588 0) * 32768 := by
  obtain ⟨w, w1, w2, w3, w4, w5⟩ := F.cat
  have ed := dm_end w1.cn
  rw [e0.1, e0.2]
  refine ⟨w, cgr_m (hf 14 (by omega)) (hf 19 (by omega)) hr.1 hr.2 (hc 542 (by omega)) (hc 543 (by omega)) w1, vls_m (hc 540 (by omega)) w2, ?_, ?_, w5⟩
  · rw [tk_same hb (by omega) (by omega)]
    exact w3
  · have := Ctl_W (δ := 0) (W' := m2 516) w1.cn (fun x x0 x1 => by rw [Int.add_zero]; exact hb x (by omega) x1) w5 w4
    rw [Int.add_zero] at this
    exact this
/-- a new extent on the disk -/
theorem xtn_new {W' fw : Int → Int} {Kn pl nb f n k q1 q2 tu' : Int} {W : Int → Int} {vs Rs : Int → Int} {v : Prop} (hD : 0 ≤ D ∧ D ≤ 8) (hM : 0 ≤ M ∧ M ≤ 8) (C : cmt W W' fw pl nb tu') (hk : 0 ≤ k) (Kb : Kn = 2 ∨ Kn = 4 ∨ Kn = 3) (hF : (Kn = 2 ∨ Kn = 4) → fps fw m D M f n 64 q1) (hq : ¬ (Kn = 2 ∨ Kn = 4) → q1 = 64) (hV : vps fw m D M (if Kn = 3 then 0 else f) (if Kn = 3 then f else n) k vs Rs q1 q2) (hl : q2 ≤ nb * 32768) : xtn W' m D M Kn pl nb f n k vs Rs v := by
  have le := vps_le hD hM hk hV
  have q0 : 64 ≤ q1 := by
    by_cases h : Kn = 2 ∨ Kn = 4
    · have := fps_le hD hM (hF h); omega
    · rw [hq h]; exact Int.le_refl _
  refine ⟨q1 + pl * 32768, fun h => ?_, fun h => by rw [hq h]; omega, by omega, fun _ => ⟨q2 + pl * 32768, ?_, by omega⟩⟩
  · have := fps_W (δ := pl * 32768) (W' := W') hD hM (fun x x0 x1 => by
      rw [C.1 (x + pl * 32768) (by omega) (by omega), show x + pl * 32768 - pl * 32768 = x by omega]) (hF h)
    rw [show pl * 32768 + 64 = 64 + pl * 32768 by omega]
    exact this
  · exact vps_W (δ := pl * 32768) (W' := W') hD hM (fun x x0 x1 => by
      rw [C.1 (x + pl * 32768) (by omega) (by omega), show x + pl * 32768 - pl * 32768 = x by omega]) hV
/-- extents, one more -/
theorem exts_add {S L S' L' : Int → Int} {E b n v : Int} (hx : exts S L E b) (R : isRoom S L E b n v) (hv : v ≠ -1) (n0 : 1 ≤ n) (l1 : ∀ e, 0 ≤ e → e < E → 1 ≤ L e) (E1 : E < 200) (hs : ∀ e, 0 ≤ e → e < E → S' e = S e ∧ L' e = L e) (hE : S' E = v ∧ L' E = n) : exts S' L' (E + 1) b := by
  rcases R with ⟨a, _⟩ | ⟨a, c, _⟩
  · exact absurd a hv
  · obtain ⟨x1, x2, x3⟩ := hx
    have dis : ∀ e, 0 ≤ e → e < E → S e + L e ≤ v ∨ v + n ≤ S e := fun e e0 e1 => by
      have q := x2 e e0 e1
      have q1 := l1 e e0 e1
      by_cases h : S e + L e ≤ v ∨ v + n ≤ S e
      · exact h
      · exfalso
        exact c (max (S e) v) (by omega) (by omega) e e0 e1 (by omega)
    refine ⟨by omega, fun e e0 e1 => ?_, fun e e' e0 e1 e0' e1' hn => ?_⟩
    · by_cases h : e = E
      · rw [h, hE.1, hE.2]; omega
      · rw [(hs e e0 (by omega)).1, (hs e e0 (by omega)).2]; exact x2 e e0 (by omega)
    · by_cases h : e = E
      · have h' : e' < E := by omega
        rw [h, hE.1, hE.2, (hs e' e0' h').1, (hs e' e0' h').2]
        have q := x2 e' e0' h'
        have d := dis e' e0' h'
        omega
      · by_cases h' : e' = E
        · have h2 : e < E := by omega
          rw [h', hE.1, hE.2, (hs e e0 h2).1, (hs e e0 h2).2]
          have q := x2 e e0 h2
          have d := dis e e0 h2
          omega
        · rw [(hs e e0 (by omega)).1, (hs e e0 (by omega)).2, (hs e' e0' (by omega)).1, (hs e' e0' (by omega)).2]
          exact x3 e e' e0 (by omega) e0' (by omega) hn
/-- the disk behind a load -/
theorem dsk_load {pl nb n q1 q2 E f k : Int} {fw Rs : Int → Int} (F : dsk B m D M tu K Rf Rv) (hE : xR m 536 52 = E) (hf31 : xR m 536 31 = f) (hk : xR m 536 40 = k) (tu1 : tu < 1000000000) (n0 : 0 ≤ n) (hr : rsm m m2 (f + n)) (hc : ∀ a, a = 540 ∨ a = 542 ∨ a = 543 ∨ a = 574 ∨ a = 579 → m2 a = m a) (hf : ∀ k, k = 14 ∨ k = 19 ∨ k = 40 → m2 536 k = m 536 k) (h31 : xR m2 536 31 = f + n) (h52 : xR m2 536 52 = E + 1) (le : ∀ e, 0 ≤ e → e < E → xR m2 586 e = xR m 586 e ∧ xR m2 587 e = xR m 587 e ∧ xR m2 588 e = xR m 588 e) (lE : xR m2 586 E = 1 ∧ xR m2 587 E = pl ∧ xR m2 588 E = nb) (h580 : ∀ i, 0 ≤ i → i < k → xR m2 580 i = xR m 580 i + Rs i) (C : cmt (m 516) (m2 516) fw pl nb tu) (Mn : Man (m2 516) ((tu + 1) % 2 * 32768) (tu + 1) (xR m2 536 38) (f + n) k (E + 1) (xR m2 579) (xR m2 580) (fun e => if e = E then 2 else K e) (xR m2 587) (xR m2 588)) (ro : isRoom (xR m 587) (xR m 588) E B nb pl) (pl2 : 2 ≤ pl) (nb1 : 1 ≤ nb) (E2 : E < 200) (hF : fps fw m D M f n 64 q1) (hV : vps fw m D M f n k (xR m 579) Rs q1 q2) (hl : q2 ≤ nb * 32768) (bp : ∀ x d, 0 ≤ x → x < n → 0 ≤ d → d < D → 0 ≤ xR m 575 (8 * (f + x) + d) ∧ xR m 575 (8 * (f + x) + d) < xR m 539 d) : dsk B m2 D M (tu + 1) (fun e => if e = E then 2 else K e) (fun e => if e = E then n else Rf e) (fun e => if e = E then Rs else Rv e) := by
  subst hE hf31 hk
  have hD : 0 ≤ D ∧ D ≤ 8 := by obtain ⟨w, w1, _⟩ := F.cat; exact w1.cn.1
  have hM : 0 ≤ M ∧ M ≤ 8 := by obtain ⟨w, w1, _⟩ := F.cat; exact w1.cn.2.1
  have E0 := F.ex.1
  have E1 := F.e1
  have m0 := F.nm.1
  have hv : pl ≠ -1 := by omega
  have k40 : xR m2 536 40 = xR m 536 40 := xR_fld (hf 40 (by omega))
  have old : ∀ e, 0 ≤ e → e < xR m 536 52 → ∀ x, xR m 587 e * 32768 ≤ x → x < (xR m 587 e + xR m 588 e) * 32768 → bW (m2 516) x = bW (m 516) x := fun e e0 e1 x x0 x1 => by
    have q := F.ex.2.1 e e0 e1
    exact C.2 x (by omega) (old_ext F.ex ro hv e0 e1 x0 x1) (by omega)
  have Kl : ∀ e, e < xR m 536 52 → (fun e => if e = xR m 536 52 then 2 else K e) e = K e := fun e he => by show (if e = xR m 536 52 then 2 else K e) = K e; rw [if_neg (by omega)]
  have Rl : ∀ e, e < xR m 536 52 → (fun e => if e = xR m 536 52 then n else Rf e) e = Rf e := fun e he => by show (if e = xR m 536 52 then n else Rf e) = Rf e; rw [if_neg (by omega)]
  have cf : ∀ j : Nat, (j : Int) ≤ xR m 536 52 → cfx (fun e => if e = xR m 536 52 then 2 else K e) (fun e => if e = xR m 536 52 then n else Rf e) j = cfx K Rf j := fun j hj => cfx_cg j (fun e e0 e1 => ⟨Kl e (by omega), Rl e (by omega)⟩)
  unfold dsk
  rw [h31, h52, k40]
  refine ⟨nman_cmt C (Or.inl pl2) (by omega) (by omega) tu1 F.nm.2.2.1 Mn, Mn, exts_add F.ex ro hv nb1 F.ln E2 (fun e e0 e1 => (le e e0 e1).2) lE.2, by omega, fun e e0 e1 => ?_, fun e e' e0 e1 e0' e1' h3 h3' => ?_, F.tn, ?_, ⟨F.dm.1, F.dm.2.1, ?_⟩, cat_keep F ⟨hr.1, hr.2.1⟩ (fun a ha => hc a (by omega)) (fun k hk => hf k (by omega)) ⟨(le 0 (Int.le_refl _) (by omega)).2.1, (le 0 (Int.le_refl _) (by omega)).2.2⟩ (old 0 (Int.le_refl _) (by omega)), rrk_m hr.1 hr.2.1 (hc 540 (by omega)) hr.2.2.1 (hc 574 (by omega)) F.rk, fun e => ?_, ?_, fun e e0 e1 => ?_, fun i i0 i1 => ?_, fun x d x0 x1 d0 d1 => ?_, fun e e0 e1 => ?_⟩
  · by_cases h : e = xR m 536 52
    · refine Or.inr (Or.inl ⟨by rw [h]; exact lE.1, Or.inl (by show (if e = xR m 536 52 then 2 else K e) = 2; rw [if_pos h]), by omega⟩)
    · rw [Kl e (by omega), (le e e0 (by omega)).1]; exact F.kd e e0 (by omega)
  · have n3 : ∀ e, 0 ≤ e → e < xR m 536 52 + 1 → (fun e => if e = xR m 536 52 then 2 else K e) e = 3 → e < xR m 536 52 ∧ K e = 3 := fun e e0 e1 h => by
      by_cases he : e = xR m 536 52
      · have : (if e = xR m 536 52 then (2 : Int) else K e) = 3 := h
        rw [if_pos he] at this; omega
      · exact ⟨by omega, by rw [Kl e (by omega)] at h; exact h⟩
    obtain ⟨a1, a2⟩ := n3 e e0 e1 h3
    obtain ⟨b1, b2⟩ := n3 e' e0' e1' h3'
    exact F.one e e' e0 a1 e0' b1 a2 b2
  · rw [xR_cg (hc 579 (by omega))]; exact F.vn
  · rw [xR_cg hr.2.1]; exact F.dm.2.2
  · show 0 ≤ (if e = xR m 536 52 then n else Rf e)
    split
    · exact n0
    · exact F.rf e
  · rw [show (xR m 536 52 + 1).toNat = (xR m 536 52).toNat + 1 by omega]
    show cfx _ _ (xR m 536 52).toNat + (if hfx (fun e => if e = xR m 536 52 then 2 else K e) (((xR m 536 52).toNat : Nat) : Int) = true then (if (((xR m 536 52).toNat : Nat) : Int) = xR m 536 52 then n else _) else 0) = _
    rw [cf _ (by omega), F.sm, Int.toNat_of_nonneg (by omega), if_pos (by unfold hfx; rw [decide_eq_true_eq]; exact Or.inl (if_pos rfl)), if_pos rfl]
  · rw [xR_cg (hc 579 (by omega)), cf e.toNat (by omega)]
    by_cases h : e = xR m 536 52
    · rw [h, lE.2.1, lE.2.2, F.sm]
      show xtn (m2 516) m2 D M (if xR m 536 52 = xR m 536 52 then 2 else _) pl nb (xR m 536 31) (if xR m 536 52 = xR m 536 52 then n else _) _ _ (if xR m 536 52 = xR m 536 52 then Rs else _) _
      rw [if_pos rfl, if_pos rfl, if_pos rfl]
      have a31 : 0 ≤ xR m 536 31 := by
        have := cfx_nn (K := K) F.rf (xR m 536 52).toNat 0
        rw [Nat.zero_add, F.sm] at this
        exact this
      exact xtn_m hr hD hM a31 n0 (fun _ => Int.le_refl _) (by omega) (Or.inl rfl) (xtn_new (W := m 516) hD hM C F.tn.1 (Or.inl rfl) (fun _ => hF) (fun h => absurd (Or.inl rfl) h) (by rw [if_neg (by decide), if_neg (by decide)]; exact hV) hl)
    · rw [Kl e (by omega), Rl e (by omega), (le e (by omega) (by omega)).2.1, (le e (by omega) (by omega)).2.2]
      show xtn (m2 516) m2 D M (K e) (xR m 587 e) (xR m 588 e) (cfx K Rf e.toNat) (Rf e) (xR m 536 40) (xR m 579) (if e = xR m 536 52 then Rs else Rv e) _
      rw [if_neg h]
      have ci := cfx_in (K := K) (E := xR m 536 52) F.rf (show 0 ≤ e by omega) (by omega)
      rw [F.sm] at ci
      have kb : K e = 2 ∨ K e = 4 ∨ K e = 3 := by
        have := F.kd e (by omega) (by omega)
        omega
      refine xtn_v (v := ∀ e', e < e' → e' < xR m 536 52 → K e' ≠ 3) (fun hv' e' h1 h2 => ?_) (xtn_m hr hD hM ci.1 (F.rf e) (fun hk => by have := ci.2.2 hk; omega) (by omega) kb (xtn_W hD hM F.tn.1 (old e (by omega) (by omega)) (F.xt e e0 (by omega))))
      have := hv' e' h1 (by omega)
      rw [Kl e' h2] at this
      exact this
  · rw [h580 i i0 i1, F.rw i i0 i1, show (xR m 536 52 + 1).toNat = (xR m 536 52).toNat + 1 by omega]
    show rws K Rv i (xR m 536 52).toNat + Rs i = (if (if (((xR m 536 52).toNat : Nat) : Int) = xR m 536 52 then 2 else K _) = 3 then 0 else rws _ _ i (xR m 536 52).toNat) + (if (if (((xR m 536 52).toNat : Nat) : Int) = xR m 536 52 then 2 else K _) = 1 then 0 else (if (((xR m 536 52).toNat : Nat) : Int) = xR m 536 52 then Rs else Rv _) i)
    have ee : (((xR m 536 52).toNat : Nat) : Int) = xR m 536 52 := by omega
    rw [if_pos ee, if_pos ee, if_neg (by decide), if_neg (by decide), rws_cg (K' := fun e => if e = xR m 536 52 then 2 else K e) (Rv' := fun e => if e = xR m 536 52 then Rs else Rv e) (xR m 536 52).toNat (fun e e0 e1 => ⟨(Kl e (by omega)).symm, by show Rv e i = (if e = xR m 536 52 then Rs else Rv e) i; rw [if_neg (by omega)]⟩)]
  · rw [xR_cg hr.2.1]
    by_cases h : x < xR m 536 31
    · rw [rsm_R hr (by omega) (by omega)]; exact F.pl x d x0 h d0 d1
    · have q := bp (x - xR m 536 31) d (by omega) (by omega) d0 d1
      rw [show xR m 536 31 + (x - xR m 536 31) = x by omega] at q
      rw [rsm_R hr (by omega) (by omega)]; exact q
  · by_cases h : e = xR m 536 52
    · rw [h, lE.2.2]; exact nb1
    · rw [(le e e0 (by omega)).2.2]; exact F.ln e e0 (by omega)
end DLD
