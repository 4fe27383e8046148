/-! OPERATIONS: audit -/
/-- what an audit changes -/
def auF (m m' : xw_M) : Prop := (∀ a, (a < 302 ∨ 372 < a) → (a < 395 ∨ 416 < a) → a ≠ 530 → a ≠ 532 → m' a = m a) ∧ ∀ k, k ≠ 2 → m' 530 k = m 530 k
section AUO
variable {B : Nat} {m : xw_M} {c D M tu : Int} {K Rf : Int → Int} {Rv : Int → Int → Int}
theorem wrong_ok {e p : Int} (hB : B ≤ 512) (F : dsk B m D M tu K Rf Rv) (r : ram m D M tu K) (fb : xR m 536 31 ≤ 20000) (e1 : 1 ≤ e) (e2 : e < xR m 536 52) (hv : ∀ e', e < e' → e' < xR m 536 52 → K e' ≠ 3) (hrs : rs B m p) : ∃ m' p', yf238 B e m = some (.inl 0, m') ∧ rs B m' p' ∧ auF m m' := by
  have hD := r.cg.cn.1
  have hM := r.cg.cn.2.1
  have E0 := F.ex.1
  have tn := F.tn
  have c2 := cat2_of r.cg r.vl r.ar F.rk
  have kd := F.kd e (by omega) e2
  have x1 := F.ex.2.1 e (by omega) e2
  have x2 := F.ln e (by omega) e2
  have le := r.le e (by omega) e2
  have ci := cfx_in (K := K) (E := xR m 536 52) F.rf (show 0 ≤ e by omega) e2
  rw [F.sm] at ci
  obtain ⟨q, xa, xb, xc, xd⟩ := F.xt e e1 e2
  obtain ⟨qe, V, hq⟩ := xd hv
  have hk513 : hfx (xR m 513) e = hfx K e := by unfold hfx; rw [le.1]
  unfold yf238
  rw [hasFacts_ok (B := B) (m := m) (e := e) (by omega) (by omega), xB_ret, hk513]
  by_cases hf : hfx K e = true
  · have hk : K e = 2 ∨ K e = 4 := by unfold hfx at hf; rw [decide_eq_true_eq] at hf; exact hf
    rw [if_pos hf, if_neg (by decide)]
    rw [if_neg (by omega), if_neg (by omega)] at V
    obtain ⟨o, S, Eq, P⟩ := xa hk
    have u395 : ∀ a, a ≠ 395 → xw_u m 395 5 0 a = m a := fun a ha => xu_c ha
    obtain ⟨m4, z4, f4, s5, s6, s7, s8⟩ := shapeF_ok (B := B) (m := xw_u m 395 5 0) (D := D) (M := M) hD hM (by rw [xR_cg (u395 3 (by omega))]; exact r.cg.cn.2.2.1) (by rw [xR_cg (u395 3 (by omega))]; exact r.cg.cn.2.2.2.1)
    rw [z4, xB_ret]
    have g4 : ∀ a, a ≠ 302 → a ≠ 371 → a ≠ 372 → a ≠ 395 → m4 a = m a := fun a h1 h2 h3 h4 => by rw [f4.1 a h1 h2 h3, u395 a h4]
    obtain ⟨m5, z5, t5, g5⟩ := goTo_ok (B := B) (m := m4) (e := e) (s := xR m 587 e) (p := p) hB (by omega) (by omega) (by rw [xR_cg (g4 514 (by omega) (by omega) (by omega) (by omega))]; exact le.2.1) (by omega) (by omega) (rs_fr hrs (g4 530 (by omega) (by omega) (by omega) (by omega)))
    rw [z5, xB_ret]
    have c5 : ∀ a, a ≠ 302 → a ≠ 371 → a ≠ 372 → a ≠ 395 → a ≠ 530 → m5 a = m a := fun a h1 h2 h3 h4 h5 => by rw [g5.1 a h5]; exact g4 a h1 h2 h3 h4
    have p2 : 0 ≤ partB (rT m D (cfx K Rf e.toNat) o) (Rf e) (D + M).toNat := by have := partB_4 (T := rT m D (cfx K Rf e.toNat) o) (rT_w _ _ _ _) (R := Rf e) (k := (D + M).toNat) (by omega); omega
    obtain ⟨m6, z6, t6, f6, n6, r6, a6⟩ := rd_facts (B := B) (m := m5) (D := D) (M := M) (R := Rf e) (n0 := 0) (p := xR m 587 e * 32768 + 64) (T := rT m D (cfx K Rf e.toNat) o) hB hD hM (rT_w _ _ _ _) (by rw [xR_cg (g5.1 302 (by omega))]; exact s5) (by rw [xR_cg (g5.1 302 (by omega)), s6]; omega) (by rw [xR_cg (c5 3 (by omega) (by omega) (by omega) (by omega) (by omega))]; exact r.cg.cn.2.2.2.1) (by rw [xR_cg (g5.1 395 (by omega)), xR_cg (f4.1 395 (by omega) (by omega) (by omega)), xR_at (by decide)]) (Int.le_refl _) (by have := ci.2.2 hk; omega) (fun cc j c0 c1 j0 j1 => by unfold rT; rw [if_pos c1]; exact w32_rng _) t5 (by rw [c5 516 (by omega) (by omega) (by omega) (by omega) (by omega)]; exact P) (by omega)
    rw [z6, xB_ret]
    rw [Int.zero_add] at n6
    have c6 : ∀ a, (a < 302 ∨ 336 < a) → a ≠ 371 → a ≠ 372 → (a < 395 ∨ 414 < a) → a ≠ 530 → a ≠ 532 → m6 a = m a := fun a h1 h2 h3 h4 h5 h6 => by rw [f6.1 a h5 h6 (by omega) h4]; exact c5 a (by omega) h2 h3 (by omega) h5
    have lo : ∀ a, a < 302 → m6 a = m a := fun a ha => c6 a (by omega) (by omega) (by omega) (by omega) (by omega) (by omega)
    have re : ∀ a, 536 ≤ a → m6 a = m a := fun a ha => c6 a (by omega) (by omega) (by omega) (by omega) (by omega) (by omega)
    have rsm' : rsm m m6 (cfx K Rf e.toNat + Rf e) := ⟨re 538 (by omega), re 539 (by omega), re 573 (by omega), fun i _ _ => ⟨by rw [re 575 (by omega)], by rw [re 576 (by omega)]⟩⟩
    have cR := ci.2.2 hk
    obtain ⟨m7, p7, z7, t7, f7, g7⟩ := chk_all (B := B) (m := m6) (D := D) (M := M) (n := Rf e) (f := cfx K Rf e.toNat) (k := xR m 536 40) (q := q) (qe := qe) (π := o) (vs := xR m 579) (Rs := Rv e) hB (cat2_fr c2 lo (fun k hk => by rw [re 536 (by omega)]) (fun a ha => re a (by omega))) ⟨F.rf e, by omega⟩ ⟨ci.1, by omega⟩ n6 (fun d i d0 d1 i0 i1 => by
        have oi := S.1.1 i i0 i1
        have q1 := r6 d i d0 d1 i0 i1
        rw [Int.zero_add] at q1
        show 0 ≤ xR m6 (398 + d) i ∧ xR m6 (398 + d) i < xR m6 (15 + 26 * d) 11
        rw [q1, xR_cg (lo (15 + 26 * d) (by omega)), ← (r.cg.sz d d0 d1).2.2.1]
        unfold rT
        rw [if_pos d1]
        exact F.pl (cfx K Rf e.toNat + o i) d (by omega) (by omega) d0 d1) ⟨S.1, fun x x0 x1 => ⟨fun d d0 d1 => by
        have q1 := r6 d x d0 d1 x0 x1
        rw [Int.zero_add] at q1
        show xR m6 (398 + d) x = _
        rw [q1, xR_cg (re 575 (by omega))]
        unfold rT
        rw [if_pos d1], fun k k0 k1 => by
        have q1 := a6 k x k0 k1 x0 x1
        rw [Int.zero_add] at q1
        show xJ m6 (407 + k) x = _
        rw [q1, xJ_cg (re 576 (by omega))]
        unfold rT
        rw [if_neg (by omega), show D + k - D = k by omega]⟩⟩ tn (by rw [xR_cg (c6 508 (by omega) (by omega) (by omega) (by omega) (by omega) (by omega))]; exact r.vi) (fun i i0 i1 => ⟨by rw [xR_cg (c6 511 (by omega) (by omega) (by omega) (by omega) (by omega) (by omega))]; exact (r.vw i i0 i1).1, F.vn i i0 i1⟩) (by rw [Eq]; exact t6) (by rw [c6 516 (by omega) (by omega) (by omega) (by omega) (by omega) (by omega)]; exact vps_m rsm' hD hM ci.1 (Int.le_refl _) V) (by omega)
    rw [z7]
    refine ⟨m7, p7, rfl, t7, fun a h1 h2 h3 h4 => ?_, fun k hk' => ?_⟩
    · rw [f7 a h1 h3 h4 (by omega) (by omega) (by omega)]; exact c6 a (by omega) (by omega) (by omega) (by omega) h3 h4
    · rw [g7 k hk', f6.2.1 k hk', g5.2 k hk', g4 530 (by omega) (by omega) (by omega) (by omega)]
  · have hk : ¬ (K e = 2 ∨ K e = 4) := by unfold hfx at hf; rw [decide_eq_true_eq] at hf; exact hf
    have k3 : K e = 3 := by omega
    rw [if_neg hf, if_pos rfl]
    rw [if_pos k3, if_pos k3] at V
    obtain ⟨mg, pg, π, zg, fg, rg', hg5, Fg, kg, _⟩ := gather_n (B := B) (E' := e) hB F r (by omega) (by omega) fb hrs
    rw [zg, xB_ret]
    have G : ∀ a, a ≠ 530 → a ≠ 532 → (a < 302 ∨ 336 < a) → a ≠ 371 → a ≠ 372 → (a < 395 ∨ 414 < a) → mg a = m a := fg.1
    obtain ⟨m5, z5, t5, g5⟩ := goTo_ok (B := B) (m := mg) (e := e) (s := xR m 587 e) (p := pg) hB (by omega) (by omega) (by rw [xR_cg (G 514 (by omega) (by omega) (by omega) (by omega) (by omega) (by omega))]; exact le.2.1) (by omega) (by omega) rg'
    rw [z5, xB_ret]
    have c5 : ∀ a, a ≠ 530 → m5 a = mg a := fun a ha => g5.1 a ha
    have c6 : ∀ a, (a < 302 ∨ 336 < a) → a ≠ 371 → a ≠ 372 → (a < 395 ∨ 414 < a) → a ≠ 530 → a ≠ 532 → m5 a = m a := fun a h1 h2 h3 h4 h5 h6 => by rw [c5 a h5]; exact G a h5 h6 h1 h2 h3 h4
    have lo : ∀ a, a < 302 → m5 a = m a := fun a ha => c6 a (by omega) (by omega) (by omega) (by omega) (by omega) (by omega)
    have re : ∀ a, 536 ≤ a → m5 a = m a := fun a ha => c6 a (by omega) (by omega) (by omega) (by omega) (by omega) (by omega)
    have rsm' : rsm m m5 (0 + cfx K Rf e.toNat) := ⟨re 538 (by omega), re 539 (by omega), re 573 (by omega), fun i _ _ => ⟨by rw [re 575 (by omega)], by rw [re 576 (by omega)]⟩⟩
    obtain ⟨m7, p7, z7, t7, f7, g7⟩ := chk_all (B := B) (m := m5) (D := D) (M := M) (n := cfx K Rf e.toNat) (f := 0) (k := xR m 536 40) (q := q) (qe := qe) (π := π) (vs := xR m 579) (Rs := Rv e) hB (cat2_fr c2 lo (fun k hk => by rw [re 536 (by omega)]) (fun a ha => re a (by omega))) ⟨ci.1, by omega⟩ ⟨Int.le_refl _, by omega⟩ (by rw [xR_cg (c5 395 (by omega))]; exact hg5) (rok_fr hD.2 kg (fun a ha => c5 a (by omega)) (fun k k0 k1 => c5 _ (by omega))) (fct_fr hD.2 hM.2 Fg (fun k k0 k1 => ⟨c5 _ (by omega), c5 _ (by omega)⟩) (fun a ha => c5 a (by omega))) tn (by rw [xR_cg (c6 508 (by omega) (by omega) (by omega) (by omega) (by omega) (by omega))]; exact r.vi) (fun i i0 i1 => ⟨by rw [xR_cg (c6 511 (by omega) (by omega) (by omega) (by omega) (by omega) (by omega))]; exact (r.vw i i0 i1).1, F.vn i i0 i1⟩) (by rw [xb hk]; exact t5) (by rw [c6 516 (by omega) (by omega) (by omega) (by omega) (by omega) (by omega)]; exact vps_m rsm' hD hM (Int.le_refl _) (Int.le_refl _) V) (by omega)
    rw [z7]
    refine ⟨m7, p7, rfl, t7, fun a h1 h2 h3 h4 => ?_, fun k hk' => ?_⟩
    · rw [f7 a h1 h3 h4 (by omega) (by omega) (by omega)]; exact c6 a (by omega) (by omega) (by omega) (by omega) h3 h4
    · rw [g7 k hk', g5.2 k hk', fg.2.1 k hk']
theorem audit_op (h : Inw B c m) (hc : c < 600) : opOk B c m (yf236 B) (yf348 B) ag1 := by
  have fb := h.cn.fb
  have sg := h.cn.sg
  have ba := h.cn.ba
  unfold opOk yf236
  by_cases ho : xR m 536 2 = 1 ∧ xR m 536 3 = 0
  · obtain ⟨D, M, tu, K, Rf, Rv, F, ht, u, v⟩ := h.op ho.1
    have r := u ho.2
    have hD := r.cg.cn.1
    have E0 := F.ex.1
    have E1 := F.e1
    obtain ⟨m2, z2, f2⟩ := two_ok (B := B) (m := m) (b := B) (E := xR m 536 52) (by have := h.bd; omega) r.ex h.tp.1 (exts_cg F.ex (fun e e0 e1 => (r.le e e0 e1).2))
    obtain ⟨v3, z3, H3⟩ := first_ok (B := B) (m := m2) (E := xR m 536 52) (by rw [xR_cg (f2 508 (by omega))]; exact r.ex) (by omega) (by omega)
    rw [fopen ((op14 h).mpr ho), xB_ret, z2, xB_ret, z3, xB_ret]
    rw [xR_cg (f2 513 (by omega))] at H3
    have low : 1 ≤ v3 ∧ ∀ e, v3 ≤ e → e < xR m 536 52 → ∀ e', e < e' → e' < xR m 536 52 → K e' ≠ 3 := by
      rcases H3 with ⟨q1, q2⟩ | ⟨q1, q2, q3⟩
      · refine ⟨by omega, fun e e0 e1 e' h1 h2 => ?_⟩
        rw [← (r.le e' (by omega) h2).1]
        exact q2 e' (by omega) h2
      · rw [(r.le v3 q1.1 q1.2).1] at q2
        have kd := F.kd v3 q1.1 q1.2
        refine ⟨by omega, fun e e0 e1 e' h1 h2 h3 => ?_⟩
        have := F.one v3 e' q1.1 q1.2 (by omega) h2 q2 h3
        omega
    obtain ⟨p, hp⟩ := h.tp.2.2.2.2
    have goal := xH_ex (Q := fun v m' => v = 0 ∧ (∃ p', rs B m' p') ∧ auF m2 m') (by
      have gen : ∀ N : Nat, 1000 < N → xH (xl2 (yl236_20 B) N 0 v3 m2) (fun v m' => v = 0 ∧ (∃ p', rs B m' p') ∧ auF m2 m') (fun _ _ => False) := by
        intro N hN
        refine xl2_rule (F := yl236_20 B) (fun y1 e m' => y1 = 0 ∧ v3 ≤ e ∧ (∃ p', rs B m' p') ∧ auF m2 m') (fun _ e _ => (xR m 536 52 - e).toNat) ?_ N 0 v3 m2 ⟨rfl, Int.le_refl _, ⟨p, rs_fr hp (f2 530 (by omega))⟩, fun _ _ _ _ _ => rfl, fun _ _ => rfl⟩ (by omega)
        intro r' y1 e m' ⟨b1, b2, b3, b4⟩ ih
        subst b1
        have cA : ∀ a, (a < 302 ∨ 372 < a) → (a < 395 ∨ 416 < a) → a ≠ 510 → a ≠ 530 → a ≠ 532 → m' a = m a := fun a h1 h2 h3 h4 h5 => by rw [b4.1 a h1 h2 h4 h5, f2 a h3]
        unfold yl236_20
        rw [xR_cg (cA 508 (by omega) (by omega) (by omega) (by omega) (by omega)), r.ex]
        by_cases he : e < xR m 536 52
        · obtain ⟨p', hp'⟩ := b3
          have re : ∀ a, 536 ≤ a → m' a = m a := fun a ha => cA a (by omega) (by omega) (by omega) (by omega) (by omega)
          have F' : dsk B m' D M tu K Rf Rv := dsk_fr F ⟨re 538 (by omega), re 539 (by omega), re 573 (by omega), fun i _ _ => ⟨by rw [re 575 (by omega)], by rw [re 576 (by omega)]⟩⟩ (fun a ha => re a (by omega)) (fun k hk => by rw [re 536 (by omega)]) (fun x _ _ => by rw [cA 516 (by omega) (by omega) (by omega) (by omega) (by omega)])
          have r'' : ram m' D M tu K := ram_fr r (fun a a0 a1 => cA a (by omega) (by omega) (by omega) (by omega) (by omega)) (fun k hk => by rw [cA 508 (by omega) (by omega) (by omega) (by omega) (by omega)]) (fun a a0 a1 => cA a (by omega) (by omega) (by omega) (by omega) (by omega)) (fun k hk => by rw [re 536 (by omega)]) (fun a ha => re a (by omega)) (bt_fr r (fun a a0 a1 => cA a (by omega) (by omega) (by omega) (by omega) (by omega)) (fun k hk => by rw [re 536 (by omega)]) (fun a ha => re a (by omega)))
          have q52 : xR m' 536 52 = xR m 536 52 := by rw [xR_cg (re 536 (by omega))]
          obtain ⟨m3, p3, z, t, g⟩ := wrong_ok (B := B) (m := m') (e := e) (p := p') h.bd.2 F' r'' (by rw [xR_cg (re 536 (by omega))]; omega) (by omega) (by rw [q52]; exact he) (by rw [q52]; exact low.2 e b2 he) hp'
          rw [if_pos he, z, xB_ret, w32_id (by omega) (by omega), w32_id (by omega) (by omega)]
          exact ih _ _ _ ⟨rfl, by omega, ⟨p3, t⟩, fun a h1 h2 h3 h4 => by rw [g.1 a h1 h2 h3 h4]; exact b4.1 a h1 h2 h3 h4, fun k hk => by rw [g.2 k hk]; exact b4.2 k hk⟩ (by omega)
        · rw [if_neg he, xH_ret]
          exact ⟨rfl, b3, b4⟩
      exact gen 1000000 (by decide))
    obtain ⟨vz, mz, ez, rfl, rz, gz⟩ := goal
    refine ⟨_, _, ez, fun m1 e1 => ?_⟩
    have cA : ∀ a, (a < 302 ∨ 372 < a) → (a < 395 ∨ 416 < a) → a ≠ 510 → a ≠ 530 → a ≠ 532 → mz a = m a := fun a h1 h2 h3 h4 h5 => by rw [gz.1 a h1 h2 h4 h5, f2 a h3]
    have cB : ∀ a, (a < 302 ∨ 372 < a) → (a < 395 ∨ 416 < a) → a ≠ 510 → a ≠ 530 → a ≠ 532 → a ≠ 536 → a ≠ 604 → xw_u m1 536 1 0 a = m a := fun a h1 h2 h3 h4 h5 h6 h7 => by rw [xu_c h6, e1 a h7]; exact cA a h1 h2 h3 h4 h5
    have e53 : m1 536 = m 536 := by rw [e1 536 (by omega), cA 536 (by omega) (by omega) (by omega) (by omega) (by omega)]
    have I := Inw_fr (m' := xw_u m1 536 1 0) (c' := c + 1) h (by omega) (by omega) ⟨fun k _ => by rw [cB 0 (by omega) (by omega) (by omega) (by omega) (by omega) (by omega) (by omega)], fun k _ => by rw [cB 1 (by omega) (by omega) (by omega) (by omega) (by omega) (by omega) (by omega)], fun a a0 a1 => cB a (by omega) (by omega) (by omega) (by omega) (by omega) (by omega) (by omega), by rw [cB 373 (by omega) (by omega) (by omega) (by omega) (by omega) (by omega) (by omega)], fun a a0 a1 => cB a (by omega) (by omega) (by omega) (by omega) (by omega) (by omega) (by omega), fun a ha => cB a (by omega) (by omega) (by omega) (by omega) (by omega) (by omega) (by omega), fun q q1 _ _ _ _ _ _ => by rw [xu_ne (by omega), e53], fun a ha => cB a (by omega) (by omega) (by omega) (by omega) (by omega) (by omega) (by omega)⟩ (tps_fr h.tp (by rw [cB 508 (by omega) (by omega) (by omega) (by omega) (by omega) (by omega) (by omega)]) (by rw [xu_ne (by omega), e53]) (fun a ha => cB a (by omega) (by omega) (by omega) (by omega) (by omega) (by omega) (by omega)) (by
        obtain ⟨p', hp'⟩ := rz
        exact ⟨p', rs_fr hp' (by rw [xu_c (by omega), e1 530 (by omega)])⟩)) (ptr_fr h.pt (fun k _ => by rw [xu_ne (by omega), e53]) (fun k _ => by rw [cB 0 (by omega) (by omega) (by omega) (by omega) (by omega) (by omega) (by omega)]))
    unfold yf348
    rw [isOpen_ok, xB_ret, xR_cg e53, isop ho, if_neg (by decide)]
    exact ⟨_, _, rfl, I, Or.inl ⟨fun h3 => by rw [xR_ne (by omega), xR_cg e53] at h3; exact h3, fun k _ => by rw [cB 0 (by omega) (by omega) (by omega) (by omega) (by omega) (by omega) (by omega)], fun a a0 a1 => cB a (by omega) (by omega) (by omega) (by omega) (by omega) (by omega) (by omega), fun q hq => by rw [xu_ne (by omega), e53], fun a ha => cB a (by omega) (by omega) (by omega) (by omega) (by omega) (by omega) (by omega)⟩, Or.inl ⟨rfl, xR_at (by decide)⟩⟩
  · rw [fnot (by rw [Ne, op14 h]; exact ho)]
    refine ⟨_, _, rfl, fun m1 e1 => ?_⟩
    have I := Inw_1 (x := 1) h hc e1
    unfold yf348
    rw [isOpen_ok, xB_ret, xR_cg (e1 536 (by omega)), notop h ho, if_pos rfl]
    exact ⟨_, _, rfl, I.1, Or.inl I.2, Or.inr ⟨rfl, xR_at (by decide)⟩⟩
end AUO
