/-! THE DISK BEHIND A CHOICE -/
/-- the extents that a choice keeps -/
def kpP (K : Int → Int) (e : Int) : Bool := decide (K e ≠ 3)
/-- the n-th of them, and behind them the new one -/
noncomputable def kpK {α : Type} (K : Int → Int) (E : Int) (z : α) (f : Int → α) (j : Int) : α := if j = cnt (kpP K) E.toNat then z else f (hdf (kpP K) E.toNat j)
theorem vps_vs {W : Int → Int} {m : xw_M} {D M f n k q qe : Int} {vs vs' Rs Rs' : Int → Int} (h : ∀ i, 0 ≤ i → i < k → vs i = vs' i ∧ Rs i = Rs' i) (F : vps W m D M f n k vs Rs q qe) : vps W m D M f n k vs' Rs' q qe := by
  obtain ⟨Os, Ss, Q, q0, qk, A⟩ := F
  refine ⟨Os, Ss, Q, q0, qk, fun i i0 i1 => ?_⟩
  have a := A i i0 i1
  rw [(h i i0 i1).1, (h i i0 i1).2] at a
  exact a
section KP
variable {K Rf : Int → Int} {E : Int}
theorem kp_old {α : Type} {z : α} {f : Int → α} {e : Int} (e0 : 0 ≤ e) (e1 : e < E) (h3 : K e ≠ 3) : cnt (kpP K) e.toNat < cnt (kpP K) E.toNat ∧ kpK K E z f (cnt (kpP K) e.toNat) = f e := by
  have lt := cnt_lt (P := kpP K) (i := e.toNat) (n := E.toNat) (by omega) (by unfold kpP; rw [Int.toNat_of_nonneg e0]; exact decide_eq_true h3)
  refine ⟨lt, ?_⟩
  unfold kpK
  rw [if_neg (by omega), hdf_2 (kpP K) E.toNat e e0 (by omega) (by unfold kpP; exact decide_eq_true h3)]
theorem kp_at {j : Int} (j0 : 0 ≤ j) (j1 : j < cnt (kpP K) E.toNat) : ∃ e, 0 ≤ e ∧ e < E ∧ K e ≠ 3 ∧ cnt (kpP K) e.toNat = j := by
  have q := hdf_1 (kpP K) E.toNat j j0 j1
  refine ⟨hdf (kpP K) E.toNat j, q.1.1, by omega, ?_, q.2.2⟩
  have := q.2.1
  unfold kpP at this
  exact of_decide_eq_true this
theorem kp_new {α : Type} {z : α} {f : Int → α} : kpK K E z f (cnt (kpP K) E.toNat) = z := if_pos rfl
theorem kp_cfx {z : Int} : ∀ n : Nat, (n : Int) ≤ E → cfx (kpK K E 3 K) (kpK K E z Rf) (cnt (kpP K) n).toNat = cfx K Rf n := by
  intro n
  induction n with
  | zero => intro _; rfl
  | succ n ih =>
    intro hn
    have ih' := ih (by omega)
    have cb := cnt_b (kpP K) n
    show cfx _ _ (cnt (kpP K) n + (if kpP K n = true then 1 else 0)).toNat = cfx K Rf n + (if hfx K n = true then Rf n else 0)
    by_cases h3 : K n = 3
    · have e1 : kpP K n = false := by unfold kpP; exact decide_eq_false (fun h => h h3)
      have e2 : hfx K n = false := by unfold hfx; exact decide_eq_false (by omega)
      rw [e1, e2, if_neg (by decide), if_neg (by decide), Int.add_zero, Int.add_zero]; exact ih'
    · have e1 : kpP K n = true := by unfold kpP; exact decide_eq_true h3
      have q1 := kp_old (K := K) (E := E) (z := (3 : Int)) (f := K) (e := n) (by omega) (by omega) h3
      have q2 := kp_old (K := K) (E := E) (z := z) (f := Rf) (e := n) (by omega) (by omega) h3
      rw [Int.toNat_natCast] at q1 q2
      rw [e1, if_pos rfl, show (cnt (kpP K) n + 1).toNat = (cnt (kpP K) n).toNat + 1 by omega]
      show cfx _ _ (cnt (kpP K) n).toNat + (if hfx (kpK K E 3 K) (((cnt (kpP K) n).toNat : Nat) : Int) = true then kpK K E z Rf (((cnt (kpP K) n).toNat : Nat) : Int) else 0) = _
      rw [ih', Int.toNat_of_nonneg cb.1, q2.2]
      have e3 : hfx (kpK K E 3 K) (cnt (kpP K) n) = hfx K n := by unfold hfx; rw [q1.2]
      rw [e3]
end KP
section DCH
variable {B : Nat} {m m2 : xw_M} {c D M tu : Int} {K Rf : Int → Int} {Rv : Int → Int → Int}
theorem dsk_choose {pl nb q2 E f x : Int} {fw Rs : Int → Int} (F : dsk B m D M tu K Rf Rv) (hE : xR m 536 52 = E) (hf31 : xR m 536 31 = f) (tu1 : tu < 1000000000) (f0 : 0 ≤ f) (hr : rsm m m2 f) (hc : ∀ a, a = 540 ∨ a = 542 ∨ a = 543 ∨ a = 574 → m2 a = m a) (hf : ∀ k, k = 14 ∨ k = 19 ∨ k = 31 ∨ k = 38 → m2 536 k = m 536 k) (h40 : xR m2 536 40 = x) (x0 : 0 ≤ x ∧ x ≤ 16) (hvn : ∀ i, 0 ≤ i → i < x → 0 ≤ xR m2 579 i) (h52 : xR m2 536 52 = cnt (kpP K) E.toNat + (if 0 < x then 1 else 0)) (le : ∀ e, 0 ≤ e → e < E → K e ≠ 3 → xR m2 586 (cnt (kpP K) e.toNat) = xR m 586 e ∧ xR m2 587 (cnt (kpP K) e.toNat) = xR m 587 e ∧ xR m2 588 (cnt (kpP K) e.toNat) = xR m 588 e) (lE : 0 < x → xR m2 586 (cnt (kpP K) E.toNat) = 2 ∧ xR m2 587 (cnt (kpP K) E.toNat) = pl ∧ xR m2 588 (cnt (kpP K) E.toNat) = nb) (h580 : ∀ i, 0 ≤ i → i < x → xR m2 580 i = Rs i) (C : cmt (m 516) (m2 516) fw pl nb tu) (Mn : Man (m2 516) ((tu + 1) % 2 * 32768) (tu + 1) (xR m2 536 38) (xR m2 536 31) x (xR m2 536 52) (xR m2 579) (xR m2 580) (kpK K E 3 K) (xR m2 587) (xR m2 588)) (ro : 0 < x → isRoom (xR m 587) (xR m 588) E B nb pl ∧ 2 ≤ pl ∧ pl + nb ≤ B ∧ 1 ≤ nb ∧ cnt (kpP K) E.toNat < 200) (no : ¬ 0 < x → nb = 0) (hV : 0 < x → vps fw m D M 0 f x (xR m2 579) Rs 64 q2 ∧ q2 ≤ nb * 32768) : dsk B m2 D M (tu + 1) (kpK K E 3 K) (kpK K E 0 Rf) (kpK K E Rs Rv) := by
  subst hE hf31
  have hD : 0 ≤ D ∧ D ≤ 8 := by obtain ⟨w, w1, _⟩ := F.cat; exact w1.cn.1
  have hM : 0 ≤ M ∧ M ≤ 8 := by obtain ⟨w, w1, _⟩ := F.cat; exact w1.cn.2.1
  have E0 := F.ex.1
  have E1 := F.e1
  have m0 := F.nm.1
  have kd0 := F.kd 0 (Int.le_refl _) (by omega)
  have k31 : xR m2 536 31 = xR m 536 31 := xR_fld (hf 31 (by omega))
  have cb := cnt_b (kpP K) (xR m 536 52).toNat
  have old : ∀ e, 0 ≤ e → e < xR m 536 52 → ∀ y, xR m 587 e * 32768 ≤ y → y < (xR m 587 e + xR m 588 e) * 32768 → bW (m2 516) y = bW (m 516) y := fun e e0 e1 y y0 y1 => by
    have q := F.ex.2.1 e e0 e1
    by_cases hx : 0 < x
    · exact C.2 y (by omega) (old_ext F.ex (ro hx).1 (by have := (ro hx).2.1; omega) e0 e1 y0 y1) (by omega)
    · have := no hx
      exact C.2 y (by omega) (by omega) (by omega)
  have k0 : K 0 ≠ 3 := by omega
  have z0 := kp_old (K := K) (E := xR m 536 52) (z := (3 : Int)) (f := K) (Int.le_refl 0) (by omega) k0
  have c00 : cnt (kpP K) (Int.toNat 0) = 0 := rfl
  rw [c00] at z0
  have l0 := le 0 (Int.le_refl _) (by omega) k0
  rw [c00] at l0
  have dis : 0 < x → ∀ e, 0 ≤ e → e < xR m 536 52 → xR m 587 e + xR m 588 e ≤ pl ∨ pl + nb ≤ xR m 587 e := fun hx e e0 e1 => by
    have lne := F.ln e e0 e1
    obtain ⟨r1, r2, r3, r4, _⟩ := ro hx
    rcases r1 with ⟨q, _⟩ | ⟨_, c, _⟩
    · omega
    · by_cases hh : xR m 587 e + xR m 588 e ≤ pl ∨ pl + nb ≤ xR m 587 e
      · exact hh
      · exact absurd ⟨by omega, by omega⟩ (c (max (xR m 587 e) pl) (by omega) (by omega) e e0 e1)
  have pick : ∀ j, 0 ≤ j → j < xR m2 536 52 → (∃ e, 0 ≤ e ∧ e < xR m 536 52 ∧ K e ≠ 3 ∧ cnt (kpP K) e.toNat = j) ∨ (0 < x ∧ j = cnt (kpP K) (xR m 536 52).toNat) := fun j j0 j1 => by
    rw [h52] at j1
    by_cases hj : j < cnt (kpP K) (xR m 536 52).toNat
    · exact Or.inl (kp_at j0 hj)
    · by_cases hx : 0 < x
      · rw [if_pos hx] at j1; exact Or.inr ⟨hx, by omega⟩
      · rw [if_neg hx] at j1; omega
  have pos : ∀ e, 1 ≤ e → e < xR m 536 52 → 1 ≤ cnt (kpP K) e.toNat := fun e e0 e1 => by
    have lt := cnt_lt (P := kpP K) (i := 0) (n := e.toNat) (by omega) (by unfold kpP; exact decide_eq_true k0)
    have : cnt (kpP K) 0 = 0 := rfl
    omega
  have smE : cfx (kpK K (xR m 536 52) 3 K) (kpK K (xR m 536 52) 0 Rf) (cnt (kpP K) (xR m 536 52).toNat).toNat = xR m 536 31 := by rw [kp_cfx _ (by omega)]; exact F.sm
  unfold dsk
  rw [k31, h40]
  rw [k31] at Mn
  refine ⟨nman_cmt C (by by_cases hx : 0 < x; exact Or.inl (ro hx).2.1; exact Or.inr (no hx)) (by by_cases hx : 0 < x; have := (ro hx).2.2.2.1; omega; have := no hx; omega) (by omega) tu1 F.nm.2.2.1 Mn, Mn, ⟨?_, fun j j0 j1 => ?_, fun j j' j0 j1 j0' j1' hn => ?_⟩, by rw [h52]; split <;> omega, fun j j0 j1 => ?_, fun j j' j0 j1 j0' j1' h3 h3' => ?_, x0, hvn, ⟨F.dm.1, F.dm.2.1, by rw [xR_cg hr.2.1]; exact F.dm.2.2⟩, cat_keep F ⟨hr.1, hr.2.1⟩ (fun a ha => hc a (by omega)) (fun k hk => hf k (by omega)) l0.2 (old 0 (Int.le_refl _) (by omega)), rrk_m hr.1 hr.2.1 (hc 540 (by omega)) hr.2.2.1 (hc 574 (by omega)) F.rk, fun j => ?_, ?_, fun j j0 j1 => ?_, fun i i0 i1 => ?_, fun y d y0 y1 d0 d1 => ?_, fun j j0 j1 => ?_⟩
  · rw [h52]
    by_cases hx : 0 < x
    · rw [if_pos hx]; have := (ro hx).2.2.2.2; omega
    · rw [if_neg hx]; omega
  · rcases pick j j0 j1 with ⟨e, e0, e1, h3, rfl⟩ | ⟨hx, rfl⟩
    · have q := le e e0 e1 h3
      rw [q.2.1, q.2.2]; exact F.ex.2.1 e e0 e1
    · obtain ⟨r1, r2, r3, r4, _⟩ := ro hx
      have q := lE hx
      rw [q.2.1, q.2.2]; omega
  · rcases pick j j0 j1 with ⟨e, e0, e1, h3, rfl⟩ | ⟨hx, rfl⟩
    · have q := le e e0 e1 h3
      rcases pick j' j0' j1' with ⟨e', e0', e1', h3', rfl⟩ | ⟨hx, rfl⟩
      · have q' := le e' e0' e1' h3'
        rw [q.2.1, q.2.2, q'.2.1, q'.2.2]
        exact F.ex.2.2 e e' e0 e1 e0' e1' (fun hh => hn (by rw [hh]))
      · have q' := lE hx
        rw [q.2.1, q.2.2, q'.2.1, q'.2.2]
        exact dis hx e e0 e1
    · have q := lE hx
      rcases pick j' j0' j1' with ⟨e', e0', e1', h3', rfl⟩ | ⟨_, rfl⟩
      · have q' := le e' e0' e1' h3'
        rw [q.2.1, q.2.2, q'.2.1, q'.2.2]
        have := dis hx e' e0' e1'
        omega
      · exact absurd rfl hn
  · rcases pick j j0 j1 with ⟨e, e0, e1, h3, rfl⟩ | ⟨hx, rfl⟩
    · have q := le e e0 e1 h3
      rw [q.1, (kp_old (K := K) (E := xR m 536 52) (z := (3 : Int)) (f := K) e0 e1 h3).2]
      rcases F.kd e e0 e1 with ⟨a1, a2, a3⟩ | ⟨a1, a2, a3⟩ | ⟨a1, a2, a3⟩
      · subst a3
        exact Or.inl ⟨a1, a2, rfl⟩
      · exact Or.inr (Or.inl ⟨a1, a2, by have := pos e (by omega) e1; omega⟩)
      · exact absurd a2 h3
    · refine Or.inr (Or.inr ⟨(lE hx).1, kp_new, by omega⟩)
  · rcases pick j j0 j1 with ⟨e, e0, e1, g3, rfl⟩ | ⟨hx, rfl⟩
    · rw [(kp_old (K := K) (E := xR m 536 52) (z := (3 : Int)) (f := K) e0 e1 g3).2] at h3
      exact absurd h3 g3
    · rcases pick j' j0' j1' with ⟨e, e0, e1, g3, rfl⟩ | ⟨hx, rfl⟩
      · rw [(kp_old (K := K) (E := xR m 536 52) (z := (3 : Int)) (f := K) e0 e1 g3).2] at h3'
        exact absurd h3' g3
      · rfl
  · unfold kpK
    split
    · exact Int.le_refl _
    · exact F.rf _
  · rw [h52]
    by_cases hx : 0 < x
    · rw [if_pos hx, show (cnt (kpP K) (xR m 536 52).toNat + 1).toNat = (cnt (kpP K) (xR m 536 52).toNat).toNat + 1 by omega]
      show cfx _ _ (cnt (kpP K) (xR m 536 52).toNat).toNat + (if hfx (kpK K (xR m 536 52) 3 K) (((cnt (kpP K) (xR m 536 52).toNat).toNat : Nat) : Int) = true then _ else 0) = _
      rw [smE, Int.toNat_of_nonneg cb.1, if_neg (by unfold hfx; rw [kp_new]; decide), Int.add_zero]
    · rw [if_neg hx, Int.add_zero]; exact smE
  · rcases pick j (by omega) j1 with ⟨e, e0, e1, h3, rfl⟩ | ⟨hx, rfl⟩
    · have q := le e e0 e1 h3
      rw [q.2.1, q.2.2, (kp_old (K := K) (E := xR m 536 52) (z := (3 : Int)) (f := K) e0 e1 h3).2, (kp_old (K := K) (E := xR m 536 52) (z := (0 : Int)) (f := Rf) e0 e1 h3).2, (kp_old (K := K) (E := xR m 536 52) (z := Rs) (f := Rv) e0 e1 h3).2, kp_cfx e.toNat (by omega)]
      have ne0 : 1 ≤ e := by
        by_cases hz : e = 0
        · subst hz; rw [c00] at j0; omega
        · omega
      have ci := cfx_in (K := K) (E := xR m 536 52) F.rf e0 e1
      rw [F.sm] at ci
      have kb : K e = 2 ∨ K e = 4 ∨ K e = 3 := by
        have := F.kd e e0 e1
        omega
      have X := xtn_m hr hD hM ci.1 (F.rf e) (fun hk => by have := ci.2.2 hk; omega) (by omega) kb (xtn_W hD hM F.tn.1 (old e e0 e1) (F.xt e ne0 e1))
      by_cases hx : 0 < x
      · refine xtn_old (fun hv => ?_) X
        have lt := (kp_old (K := K) (E := xR m 536 52) (z := (3 : Int)) (f := K) e0 e1 h3).1
        exact hv (cnt (kpP K) (xR m 536 52).toNat) lt (by rw [h52, if_pos hx]; omega) kp_new
      · have ex : x = 0 := by omega
        rw [ex]
        exact xtn_0 X
    · have q := lE hx
      obtain ⟨r1, r2, r3, r4, _⟩ := ro hx
      rw [q.2.1, q.2.2, kp_new, kp_new, kp_new, smE]
      exact xtn_m hr hD hM f0 (Int.le_refl _) (fun h => by omega) (Int.le_refl _) (Or.inr (Or.inr rfl)) (xtn_new (W := m 516) (q1 := 64) hD hM C x0.1 (Or.inr (Or.inr rfl)) (fun h => by omega) (fun _ => rfl) (by rw [if_pos rfl, if_pos rfl]; exact (hV hx).1) (hV hx).2)
  · have hx : 0 < x := by omega
    rw [h580 i i0 i1, h52, if_pos hx, show (cnt (kpP K) (xR m 536 52).toNat + 1).toNat = (cnt (kpP K) (xR m 536 52).toNat).toNat + 1 by omega]
    show Rs i = (if kpK K (xR m 536 52) 3 K (((cnt (kpP K) (xR m 536 52).toNat).toNat : Nat) : Int) = 3 then 0 else _) + (if kpK K (xR m 536 52) 3 K (((cnt (kpP K) (xR m 536 52).toNat).toNat : Nat) : Int) = 1 then 0 else kpK K (xR m 536 52) Rs Rv (((cnt (kpP K) (xR m 536 52).toNat).toNat : Nat) : Int) i)
    rw [Int.toNat_of_nonneg cb.1, kp_new, kp_new, if_pos rfl, if_neg (by decide), Int.zero_add]
  · rw [xR_cg hr.2.1, rsm_R hr (by omega) (by omega)]; exact F.pl y d y0 y1 d0 d1
  · rcases pick j j0 j1 with ⟨e, e0, e1, h3, rfl⟩ | ⟨hx, rfl⟩
    · rw [(le e e0 e1 h3).2.2]; exact F.ln e e0 e1
    · rw [(lE hx).2.2]; exact (ro hx).2.2.2.1
end DCH
