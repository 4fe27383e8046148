/-! RUN, as a call: before the store is open; in all -/
section RUN
variable {B : Nat} {m : xw_M} {c : Int}
theorem run_new (h : Inw B c m) (hc : c < 600) (e2 : xR m 536 2 = 0) (e3 : xR m 536 3 = 0) : opA B c m (yf45 B) (yf247 B) ag1 := by
  have nw := h.nw e2
  obtain ⟨D, M, cat⟩ := nw.up e3
  have tt := ptr_t h.pt
  have o14 : xR m 0 14 = 0 := (sta_dn h.st).2.2.mpr ⟨e3, e2⟩
  have l1 : xR (CI0 m) 1 1 = xR m 1 1 := xR_fld ((CI_1 tt).1 1 (by decide))
  have tl := h.tx.1
  have z2 := (CI_1 (m := m) tt).2.1
  have D8 := cat.cg.cn.1
  have clo : ∀ a, 3 ≤ a → a < 223 → CI0 m a = m a := fun a a0 a1 => CI_o (by omega) (by omega)
  have ct : ∀ r : xw_M, (∀ a, 536 ≤ a → a ≠ 604 → r a = m a) → CT (CI0 m) (RBg r) D M := fun r hr => by
    have rr : ∀ a, a = 538 ∨ a = 539 ∨ a = 540 ∨ a = 542 ∨ a = 543 → RBg r a = m a := fun a ha => by rw [RBg_o (by omega)]; exact hr a (by omega) (by omega)
    refine ⟨cgr_fr (c := m) (r := m) cat.cg clo (fun a ha => rr a (by omega)) (by rw [RBg_f (by decide), hr 536 (by decide) (by decide)]) (by rw [RBg_f (by decide), hr 536 (by decide) (by decide)]), fun d d0 d1 => ?_, ?_, fun d d0 d1 => ?_⟩
    · obtain ⟨ρ, p1, p2⟩ := cat.me d d0 d1
      have L4 := (cat.cg.cn.2.2.2.2.1 d d0 d1).2.1
      have x15 : xR (CI0 m) (15 + 26 * d) = xR m (15 + 26 * d) := xR_cg (clo _ (by omega) (by omega))
      rw [x15, xR_cg (rr 540 (by omega))]
      exact ⟨ρ, p1, fun l p l0 l1 q0 q1 => by rw [xR_cg (clo (15 + 26 * d + 9 + l) (by omega) (by omega))]; exact p2 l p l0 l1 q0 q1⟩
    · rw [xR_cg (rr 539 (by omega)), xR_cg (rr 540 (by omega))]; exact cat.di
    · unfold hie
      rw [xR_cg (rr 538 (by omega)), xR_cg (rr 539 (by omega)), xR_cg (rr 540 (by omega))]; exact cat.hi d d0 d1
  obtain ⟨NN, hNN⟩ : ∃ NN : Nat, NN = 1000000 := ⟨_, rfl⟩
  have x0 : CI0 m 0 = m 0 := CI_o (by decide) (by omega)
  have go := fun (r : xw_M) (hr : ∀ a, 536 ≤ a → a ≠ 604 → r a = m a) => runN_l (B := B) (c := CI0 m) (r := RBg r) 65536 NN NN 0 0 D M (CI0 m) (RBg r) (by rw [l1, z2]; omega) (by omega) (by omega) (Int.le_refl _) (by rw [z2]; exact Int.le_refl _) (Int.le_refl _) (Int.le_refl _) (PS_0 h hr) (ct r hr) (by rw [xR_cg x0]; exact o14) (by rw [xR_fld (RBg_f (by decide)), xR_cg (hr 536 (by decide) (by decide))]; exact e2) ⟨fun _ _ _ => rfl, fun _ _ => rfl⟩ ⟨fun _ _ _ _ _ _ _ => rfl, fun _ _ _ _ _ => rfl⟩
  obtain ⟨v, c', _, e1, _, E0⟩ := go m (fun _ _ _ => rfl)
  have fc0 := E0.2.1
  have cm : ∀ a, 536 ≤ a → c' a = m a := fun a ha => by rw [fc0.1 a (by omega) (by omega)]; exact CI_o (by omega) (by omega)
  clear E0
  refine ⟨.inl v, c', by rw [up45 h.pt (by omega), ← hNN]; exact e1, fun m1 h1 => ?_⟩
  obtain ⟨v2, c2, r', e3', e4, E⟩ := go m1 (fun a a0 a1 => by rw [h1 a a1]; exact cm a a0)
  rw [e1] at e3'
  have ev : v2 = v ∧ c2 = c' := by
    injection e3' with q
    injection q with q1 q2
    injection q1 with q1
    exact ⟨q1.symm, q2.symm⟩
  obtain ⟨rfl, rfl⟩ := ev
  have u3 : xR m1 536 3 = 0 := by rw [xR_cg (h1 536 (by decide)), xR_cg (cm 536 (by decide))]; exact e3
  obtain ⟨⟨D', M', T⟩, fc, fr, x11, x5, x6, x7⟩ := E
  have rc : ∀ a, a < 536 → r' a = c2 a := fun a ha => by rw [fr.1 a (by omega) (by omega) (by omega) (by omega) (by omega) (by omega), RBg_o (by omega), h1 a (by omega)]
  have rr : ∀ a, 537 ≤ a → a ≠ 538 → a ≠ 539 → a ≠ 540 → a ≠ 542 → a ≠ 543 → a ≠ 604 → r' a = m a := fun a a0 a1 a2 a3 a4 a5 a6 => by rw [fr.1 a (by omega) a1 a2 a3 a4 a5, RBg_o (by omega), h1 a a6]; exact cm a (by omega)
  have rf : ∀ k, (k < 5 ∨ 13 < k) → k ≠ 14 → k ≠ 19 → k ≠ 27 → k ≠ 1 → k ≠ 24 → r' 536 k = m 536 k := fun k k1 k2 k3 k4 k5 k6 => by rw [fr.2 k k1 k2 k3 k4, RBg_f (by omega), h1 536 (by decide), cm 536 (by decide)]
  have lo : ∀ a, a ≠ 1 → ¬ (3 ≤ a ∧ a ≤ 222) → a ≠ m 0 12 → a < 536 → r' a = m a := fun a a1 a2 a3 a4 => by rw [rc a a4, fc.1 a a1 a2]; exact CI_o a1 a3
  have z0 : r' 0 = m 0 := lo 0 (by decide) (by decide) (by omega) (by decide)
  refine ⟨v2, r', by rw [up247 u3, ← hNN]; exact e4, ⟨h.bd, ⟨by have := h.cc.1; omega, by omega⟩, ptr_fr h.pt (fun k hk => rf k (by omega) (by omega) (by omega) (by omega) (by omega) (by omega)) (fun k _ => by rw [z0]), ?_, sta_fr h.st (fun k hk => rf k (by omega) (by omega) (by omega) (by omega) (by omega) (by omega)) (by rw [z0]), ⟨⟨?_, ?_⟩, ?_, ?_, ?_, ?_⟩, ?_, ⟨fun _ => ?_, fun q => ?_⟩, fun _ => ?_, fun q => ?_⟩, ans_N ⟨?_, ?_⟩, Or.inl ⟨rfl, ?_⟩⟩
  · refine tps_fr h.tp (by rw [lo 508 (by decide) (by decide) (by omega) (by decide)]) (rf 49 (by decide) (by decide) (by decide) (by decide) (by decide) (by decide)) (fun a ha => lo a (by omega) (by omega) (by omega) (by omega)) ?_
    obtain ⟨pp, hp⟩ := h.tp.2.2.2.2
    exact ⟨pp, rs_fr hp (lo 530 (by decide) (by decide) (by omega) (by decide))⟩
  · rw [xR_cg (rc 1 (by decide)), x11, x5]
  · rw [xR_cg (rc 1 (by decide)), x11]; exact ⟨by decide, by decide⟩
  · intro i i0 i1
    rw [xR_cg (rc 1 (by decide)), x11] at i1
    omega
  · intro i
    rw [xR_cg (lo 2 (by decide) (by decide) (by omega) (by decide))]
    exact h.tx.2.2.1 i
  · rw [xR_cg (rc 1 (by decide))]; exact x6
  · rw [xR_cg (rc 1 (by decide))]; exact x7
  · exact cnr_fr h.cn (by omega) (fun k _ => by rw [z0]) (fun k _ => by rw [lo 508 (by decide) (by decide) (by omega) (by decide)]) (by rw [lo 373 (by decide) (by decide) (by omega) (by decide)]) (fun k hk => rf k (by omega) (by omega) (by omega) (by omega) (by omega) (by omega))
  · intro k k0 k1
    rw [xR_cg (rr 577 (by decide) (by decide) (by decide) (by decide) (by decide) (by decide) (by decide)), xJ_cg (rr 578 (by decide) (by decide) (by decide) (by decide) (by decide) (by decide) (by decide))]
    exact h.mk.z (fun q => by rw [e2] at q; exact absurd q.1 (by decide)) k k0 k1
  · rw [xR_fld (rf 2 (by decide) (by decide) (by decide) (by decide) (by decide) (by decide)), e2] at q
    exact absurd q (by decide)
  · have x508 : xR r' 508 = xR m 508 := xR_cg (lo 508 (by decide) (by decide) (by omega) (by decide))
    have x516 : r' 516 = m 516 := lo 516 (by decide) (by decide) (by omega) (by decide)
    have y : ∀ k, (k < 5 ∨ 13 < k) → k ≠ 14 → k ≠ 19 → k ≠ 27 → k ≠ 1 → k ≠ 24 → xR r' 536 k = xR m 536 k := fun k k1 k2 k3 k4 k5 k6 => xR_fld (rf k k1 k2 k3 k4 k5 k6)
    refine ⟨by rw [x516]; exact nw.m0, by rw [x516]; exact nw.m1, ?_, by rw [x508]; exact nw.cl, fun q => ?_, fun _ => ⟨D', M', ?_, fun d d0 d1 => ?_, T.2.2.1, T.2.2.2⟩⟩
    · rw [y 31 (by decide) (by decide) (by decide) (by decide) (by decide) (by decide), y 38 (by decide) (by decide) (by decide) (by decide) (by decide) (by decide), y 40 (by decide) (by decide) (by decide) (by decide) (by decide) (by decide), y 52 (by decide) (by decide) (by decide) (by decide) (by decide) (by decide), y 32 (by decide) (by decide) (by decide) (by decide) (by decide) (by decide)]
      exact nw.rf
    · rw [y 3 (by decide) (by decide) (by decide) (by decide) (by decide) (by decide), e3] at q
      exact absurd q (by decide)
    · exact cgr_fr T.1 (fun a a0 a1 => rc a (by omega)) (fun _ _ => rfl) rfl rfl
    · obtain ⟨ρ, p1, p2⟩ := T.2.1 d d0 d1
      have D8' := T.1.cn.1
      have L4 := (T.1.cn.2.2.2.2.1 d d0 d1).2.1
      refine ⟨ρ, ?_⟩
      rw [xR_cg (rc (15 + 26 * d) (by omega))]
      exact ⟨p1, fun l p l0 l1 q0 q1 => by rw [xR_cg (rc (15 + 26 * d + 9 + l) (by omega))]; exact p2 l p l0 l1 q0 q1⟩
  · rw [xR_fld (rf 2 (by decide) (by decide) (by decide) (by decide) (by decide) (by decide)), e2] at q
    exact absurd q (by decide)
  · rw [z0, xR_cg (rc (m 0 12) (by omega)), xR_cg (fc.1 (m 0 12) (by omega) (by omega))]
    exact (CI_t tt).1
  · rw [xR_fld (fr.2 24 (by decide) (by decide) (by decide) (by decide))]; exact RBg_v.2.2.2.1
  · rw [xR_fld (fr.2 1 (by decide) (by decide) (by decide) (by decide))]; exact RBg_v.1
/-- run -/
theorem run_op (h : Inw B c m) (hc : c < 600) (a : ans m) : opA B c m (yf45 B) (yf247 B) ag1 := by
  have s := h.st
  by_cases e3 : xR m 536 3 = 1
  · have d := (sta_dn s).1.mpr e3
    have o := (an_f B (ptr_t h.pt)).1
    refine opA_of h a ⟨.inr 14, m, by unfold yf45; rw [fdown d, xB_thr], fun m1 h1 => ?_⟩
    obtain ⟨i, an⟩ := Inw_1 (x := 1) h hc h1
    refine ⟨0, xw_u m1 536 1 1, ?_, i, Or.inl an, Or.inr ⟨rfl, xR_at (by decide)⟩⟩
    unfold yf247
    rw [if_neg]
    rw [xR_cg (h1 536 (by decide)), e3]
    decide
  · have e3' := sta_0 s e3
    by_cases e2 : xR m 536 2 = 1
    · exact run_open h hc a e2 e3'
    · exact run_new h hc (by have := s.1; omega) e3'
end RUN
