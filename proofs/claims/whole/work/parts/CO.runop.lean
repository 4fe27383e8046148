/-! RUN, as a call -/
/-- what is asked of a call, the answer with it -/
def opA (B : Nat) (c : Int) (m : xw_M) (F G : xw_M → xP) (ag : Int ⊕ Nat → Int → Int → Prop) : Prop := ∃ r m1, F m = some (r, m1) ∧ ∀ m1', (∀ a, a ≠ 604 → m1' a = m1 a) → ∃ v m2, G m1' = some (.inl v, m2) ∧ Inw B (c + 1) m2 ∧ ans m2 ∧ ag r (xR m2 536 1) v
theorem opA_of {B : Nat} {c : Int} {m : xw_M} {F G : xw_M → xP} {ag : Int ⊕ Nat → Int → Int → Prop} (h : Inw B c m) (a : ans m) (o : opOk B c m F G ag) : opA B c m F G ag := by
  obtain ⟨r, m1, e1, h1⟩ := o
  refine ⟨r, m1, e1, fun m1' f => ?_⟩
  obtain ⟨v, m2, e2, i, x, y⟩ := h1 m1' f
  exact ⟨v, m2, e2, i, x.elim (fun z => ans_F h.pt a z) ans_N, y⟩
/-- the reference begins a run -/
def RBg (m : xw_M) : xw_M := xw_u (xw_u (xw_u (xw_u (xw_u m 536 1 0) 536 6 0) 536 7 (-1)) 536 24 0) 536 8 0
theorem RBg_o {m : xw_M} {a : Int} (h : a ≠ 536) : RBg m a = m a := by unfold RBg; rw [xu_c h, xu_c h, xu_c h, xu_c h, xu_c h]
theorem RBg_f {m : xw_M} {k : Int} (h : k ≠ 1 ∧ k ≠ 6 ∧ k ≠ 7 ∧ k ≠ 24 ∧ k ≠ 8) : RBg m 536 k = m 536 k := by unfold RBg; rw [xu_ne (by omega), xu_ne (by omega), xu_ne (by omega), xu_ne (by omega), xu_ne (by omega)]
theorem RBg_v {m : xw_M} : xR (RBg m) 536 1 = 0 ∧ xR (RBg m) 536 6 = 0 ∧ xR (RBg m) 536 7 = -1 ∧ xR (RBg m) 536 24 = 0 ∧ xR (RBg m) 536 8 = 0 := by
  unfold RBg
  refine ⟨?_, ?_, ?_, ?_, ?_⟩
  · rw [xR_ne (by decide), xR_ne (by decide), xR_ne (by decide), xR_ne (by decide)]; exact xR_at (by decide)
  · rw [xR_ne (by decide), xR_ne (by decide), xR_ne (by decide)]; exact xR_at (by decide)
  · rw [xR_ne (by decide), xR_ne (by decide)]; exact xR_at (by decide)
  · rw [xR_ne (by decide)]; exact xR_at (by decide)
  · exact xR_at (by decide)
theorem RBg_cg {r m : xw_M} (h : r 536 = m 536) : RBg r 536 = RBg m 536 := by
  funext k
  unfold RBg xw_u
  rw [h]
/-- the class begins a run -/
def CI0 (m : xw_M) : xw_M := xw_u (xw_u (xw_u (xw_u (xw_u (xw_u m (m 0 12) 7 0) 1 2 0) 1 3 0) 1 4 0) 1 6 0) 1 7 (-1)
section RUO
variable {B : Nat} {m : xw_M} {c : Int}
theorem CI_o {a : Int} (h : a ≠ 1) (h2 : a ≠ m 0 12) : CI0 m a = m a := by unfold CI0; rw [xu_c h, xu_c h, xu_c h, xu_c h, xu_c h, xu_c h2]
theorem CI_t (tt : m 0 12 = 420 ∨ m 0 12 = 464) : xR (CI0 m) (m 0 12) 7 = 0 ∧ ∀ k, k ≠ 7 → CI0 m (m 0 12) k = m (m 0 12) k := by
  unfold CI0
  refine ⟨?_, fun k hk => ?_⟩
  · rw [xR_cg (xu_c (by omega)), xR_cg (xu_c (by omega)), xR_cg (xu_c (by omega)), xR_cg (xu_c (by omega)), xR_cg (xu_c (by omega))]; exact xR_at (by decide)
  · rw [xu_c (by omega), xu_c (by omega), xu_c (by omega), xu_c (by omega), xu_c (by omega), xu_ne (by omega)]
theorem CI_1 (tt : m 0 12 = 420 ∨ m 0 12 = 464) : (∀ k, (k < 2 ∨ 7 < k) → CI0 m 1 k = m 1 k) ∧ xR (CI0 m) 1 2 = 0 ∧ xR (CI0 m) 1 6 = 0 ∧ xR (CI0 m) 1 7 = -1 := by
  unfold CI0
  refine ⟨fun k hk => ?_, ?_, ?_, ?_⟩
  · rw [xu_ne (by omega), xu_ne (by omega), xu_ne (by omega), xu_ne (by omega), xu_ne (by omega), xu_c (by omega)]
  · rw [xR_ne (by decide), xR_ne (by decide), xR_ne (by decide), xR_ne (by decide)]; exact xR_at (by decide)
  · rw [xR_ne (by decide)]; exact xR_at (by decide)
  · exact xR_at (by decide)
theorem ptr_t (h : ptr m) : m 0 12 = 420 ∨ m 0 12 = 464 := by rcases h.2.1 with q | q <;> omega
theorem up45 (h : ptr m) (u : xR m 0 14 ≠ 2) : yf45 B m = xl2 (yl45_22 B) 1000000 0 0 (CI0 m) := by
  have tt := ptr_t h
  have o := (an_f B tt).1
  unfold yf45 yf16 yf14
  rw [fup u, xB_ret, if_pos o, if_pos o, xB_ret, xB_ret]
  rfl
theorem up247 (u : xR m 536 3 = 0) : yf247 B m = (xB (yf248 B (RBg m)) fun _ m1 => xl1 (yl247_51 B) 1000000 0 m1) := by
  unfold yf247
  rw [if_pos u]; rfl
/-- the text is begun alike -/
theorem PS_0 {r : xw_M} (h : Inw B c m) (hr : ∀ a, 536 ≤ a → a ≠ 604 → r a = m a) : PS (CI0 m) (RBg r) := by
  have tt := ptr_t h.pt
  obtain ⟨⟨t1, t2, t3⟩, t4, t5, _⟩ := h.tx
  obtain ⟨c1, c2, c3, c4⟩ := CI_1 tt
  obtain ⟨v1, v2, v3, v4, v5⟩ := RBg_v (m := r)
  have l1 : xR (CI0 m) 1 1 = xR m 1 1 := xR_fld (c1 1 (by decide))
  have r5 : xR (RBg r) 536 5 = xR m 536 5 := by rw [xR_fld (RBg_f (by decide)), xR_cg (hr 536 (by decide) (by decide))]
  have x2 : xR (CI0 m) 2 = xR m 2 := xR_cg (CI_o (by decide) (by omega))
  have x537 : xR (RBg r) 537 = xR m 537 := by rw [xR_cg (RBg_o (by decide)), xR_cg (hr 537 (by decide) (by decide))]
  refine ⟨⟨by rw [r5, l1, t1], by rw [l1]; exact t2, by rw [l1]; exact t3, fun i i0 i1 => ?_⟩, by rw [v5, c2], by rw [c2]; decide, by rw [c2, l1]; exact t2, c3, c4, v2, v3⟩
  rw [l1] at i1
  rw [x2, x537]
  exact ⟨t4 i i0 i1, t5 i⟩
theorem mix_self : mix m m = m := by
  funext a
  unfold mix
  split <;> rfl
theorem OSx_r {D M tu : Int} {Kx Rf : Int → Int} {Rv : Int → Int → Int} {c r r' : xw_M} (O : OSx B D M tu Kx Rf Rv c r) (hr : ∀ a, 536 ≤ a → a ≠ 604 → r' a = r a) : OSx B D M tu Kx Rf Rv c r' := by
  have O' := O
  obtain ⟨dr, C, rc, vw, rs0, p1, p2, p3, p4, st, nn, an⟩ := O
  have x : r' 536 = r 536 := hr 536 (by decide) (by decide)
  refine ⟨dr, cgr_fr C (fun _ _ _ => rfl) (fun a ha => hr a (by omega) (by omega)) (by rw [x]) (by rw [x]), ⟨fun a ha => by rw [hr a (by omega) (by omega)]; exact rc.1 a ha, by rw [xR_cg x]; exact rc.2⟩, ⟨by rw [hr 579 (by decide) (by decide)]; exact vw.1, by rw [hr 580 (by decide) (by decide)]; exact vw.2.1, by rw [xR_cg x]; exact vw.2.2⟩, rs0, p1, by rw [x]; exact p2, by rw [x]; exact p3, by rw [x]; exact p4, by rw [xR_cg x]; exact st, nn, ?_⟩
  clear p3 p4
  exact ans_st O' rfl (fun _ _ _ => rfl) (fun k _ => by rw [x]) (fun a ha => hr a (by omega) (by omega))
theorem OSx_1 {D M tu x : Int} {Kx Rf : Int → Int} {Rv : Int → Int → Int} {c r : xw_M} (O : OSx B D M tu Kx Rf Rv c r) : OSx B D M tu Kx Rf Rv c (xw_u r 536 1 x) := by
  have O' := O
  obtain ⟨dr, C, rc, vw, rs0, p1, p2, p3, p4, st, nn, an⟩ := O
  have f : ∀ k, k ≠ 1 → xw_u r 536 1 x 536 k = r 536 k := fun k hk => xu_ne (by clear p3 p4; omega)
  have o : ∀ a, a ≠ 536 → xw_u r 536 1 x a = r a := fun a ha => xu_c ha
  refine ⟨dr, cgr_fr C (fun _ _ _ => rfl) (fun a ha => o a (by clear p3 p4; omega)) (f 14 (by decide)) (f 19 (by decide)), ⟨fun a ha => by rw [o a (by clear p3 p4; omega)]; exact rc.1 a ha, by rw [xR_fld (f 31 (by decide))]; exact rc.2⟩, ⟨by rw [o 579 (by decide)]; exact vw.1, by rw [o 580 (by decide)]; exact vw.2.1, by rw [xR_fld (f 40 (by decide))]; exact vw.2.2⟩, rs0, p1, by rw [f 22 (by decide), f 23 (by decide)]; exact p2, by rw [f 73 (by decide), f 74 (by decide)]; exact p3, by rw [f 59 (by decide), f 60 (by decide)]; exact p4, by rw [xR_fld (f 3 (by decide)), xR_fld (f 2 (by decide))]; exact st, nn, ?_⟩
  clear p3 p4
  exact ans_st O' rfl (fun _ _ _ => rfl) (fun k hk => f k (by omega)) (fun a ha => o a (by omega))
theorem OSx_0 (h : Inw B c m) (a : ans m) {D M tu : Int} {Kx Rf : Int → Int} {Rv : Int → Int → Int} (dk : dsk B m D M tu Kx Rf Rv) (rm : ram m D M tu Kx) (e2 : xR m 536 2 = 1) (e3 : xR m 536 3 = 0) : OSx B D M tu Kx Rf Rv (CI0 m) (RBg m) := by
  have tt := ptr_t h.pt
  obtain ⟨p4, p1, p2, p3⟩ := h.pt
  have o14 : xR m 0 14 = 1 := (sta_dn h.st).2.1.mpr ⟨e3, e2⟩
  have p3' : ∃ s t, twA s t ∧ m 536 73 = s ∧ m 536 74 = t := by
    rcases p3 with q | q
    · exact ⟨601, 602, Or.inl ⟨rfl, rfl⟩, q.1, q.2⟩
    · exact ⟨602, 601, Or.inr ⟨rfl, rfl⟩, q.1, q.2⟩
  have base : OSx B D M tu Kx Rf Rv m m := ⟨⟨dk, rm⟩, rm.cg, ⟨fun _ _ => rfl, rfl⟩, ⟨rfl, rfl, rfl⟩, h.tp.2.2.2.2, p1, p2, p3', p4, ⟨e3, e2, o14⟩, by have := h.cn.fb; have := h.cn.sg; have := h.cn.ba; omega, by rw [mix_self]; exact a⟩
  obtain ⟨c1, c2, c3, c4⟩ := CI_1 tt
  have x0 : CI0 m 0 = m 0 := CI_o (by decide) (by omega)
  have fc : fCo m (CI0 m) := ⟨fun a a1 a2 _ _ _ _ _ a8 _ _ => CI_o a2 (by omega), fun k _ _ => by rw [x0], fun k hk => c1 k (by omega), fun k _ _ _ => by rw [CI_o (m := m) (a := 302) (by decide) (by omega)], fun k _ => by rw [CI_o (m := m) (a := 530) (by decide) (by omega)]⟩
  have fr : fRo (xw_u m 536 1 0) (RBg m) := ⟨fun a a1 _ _ _ => by rw [RBg_o a1, xu_c a1], fun k k1 k2 _ _ _ _ _ => by unfold RBg; rw [xu_ne (by clear p4 p3'; omega), xu_ne (by clear p4 p3'; omega), xu_ne (by clear p4 p3'; omega), xu_ne (by clear p4 p3'; omega)]⟩
  refine OSx_fr (OSx_1 (x := 0) base) fc fr ?_ (by rw [x0]; exact p1) (by rw [RBg_f (by decide), RBg_f (by decide)]; exact p2) (by rw [RBg_f (by decide), RBg_f (by decide)]; exact p3') (by rw [RBg_f (by decide), RBg_f (by decide)]; exact p4) (ans_N ⟨?_, ?_⟩)
  · obtain ⟨pp, hp⟩ := h.tp.2.2.2.2
    exact ⟨pp, rs_fr hp (CI_o (by decide) (by omega))⟩
  · rw [show mix (CI0 m) (RBg m) 0 12 = m 0 12 from by rw [mix_c (by decide), x0], xR_cg (mix_c (by omega))]
    exact (CI_t tt).1
  · rw [xR_cg (mix_r (by decide))]; exact RBg_v.2.2.2.1
theorem run_open (h : Inw B c m) (hc : c < 600) (a : ans m) (e2 : xR m 536 2 = 1) (e3 : xR m 536 3 = 0) : opA B c m (yf45 B) (yf247 B) ag1 := by
  obtain ⟨D, M, tu, Kx, Rf, Rv, dk, ht, ur, _⟩ := h.op e2
  have rm := ur e3
  have tt := ptr_t h.pt
  have hB := h.bd.2
  have o14 : xR m 0 14 = 1 := (sta_dn h.st).2.1.mpr ⟨e3, e2⟩
  have O := OSx_0 h a dk rm e2 e3
  have l1 : xR (CI0 m) 1 1 = xR m 1 1 := xR_fld ((CI_1 tt).1 1 (by decide))
  have tl := h.tx.1
  have z2 := (CI_1 (m := m) tt).2.1
  obtain ⟨NN, hNN⟩ : ∃ NN : Nat, NN = 1000000 := ⟨_, rfl⟩
  have go := fun (r : xw_M) (hr : ∀ a, 536 ≤ a → a ≠ 604 → r a = m a) => runO_l (B := B) (c := CI0 m) (r := RBg r) (D := D) (M := M) (tu := tu) (Kx := Kx) (Rf := Rf) (Rv := Rv) hB 65536 NN NN 0 0 (CI0 m) (RBg r) (by rw [l1, z2]; omega) (by omega) (by omega) (Int.le_refl _) (by rw [z2]; exact Int.le_refl _) (Int.le_refl _) (Int.le_refl _) (PS_0 h hr) (OSx_r O (fun a a0 a1 => by
    by_cases q : a = 536
    · rw [q]; exact RBg_cg (hr 536 (by decide) (by decide))
    · rw [RBg_o q, RBg_o q]; exact hr a a0 a1)) fCo_r fRo_r
  obtain ⟨v, c', _, e1, _, E0⟩ := go m (fun _ _ _ => rfl)
  have cm : ∀ a, 536 ≤ a → c' a = m a := fun a ha => by rw [E0.2.1.1 a (by omega) (by omega) (by omega) (by omega) (by omega) (by omega) (by omega) (by omega) (by omega) (by omega)]; exact CI_o (by omega) (by omega)
  refine ⟨.inl v, c', by rw [up45 h.pt (by omega), ← hNN]; exact e1, fun m1 h1 => ?_⟩
  obtain ⟨v2, c2, r', e3', e4, E⟩ := go m1 (fun a a0 a1 => by rw [h1 a a1]; exact cm a a0)
  rw [e1] at e3'
  have ev : v2 = v ∧ c2 = c' := by
    injection e3' with q
    injection q with q1 q2
    injection q1 with q1
    exact ⟨q1.symm, q2.symm⟩
  obtain ⟨rfl, rfl⟩ := ev
  have u3 : xR m1 536 3 = 0 := by rw [xR_cg (h1 536 (by decide)), xR_cg (cm 536 (by decide))]; exact e3
  obtain ⟨O2, fc, fr, x11, x5, x6, x7⟩ := E
  -- the class's cells are those of the class
  have rc : ∀ a, a < 536 → r' a = c2 a := fun a ha => by rw [fr.1 a (by omega) (by omega) (by omega) (by omega), RBg_o (by omega), h1 a (by omega)]
  have rr : ∀ a, 537 ≤ a → ¬ (544 ≤ a ∧ a ≤ 572) → ¬ (590 ≤ a ∧ a ≤ 592) → ¬ (595 ≤ a ∧ a ≤ 602) → a ≠ 604 → r' a = m a := fun a a0 a1 a2 a3 a4 => by rw [fr.1 a (by omega) a1 a2 a3, RBg_o (by omega), h1 a a4]; exact cm a (by omega)
  have rf : ∀ k, ¬ (5 ≤ k ∧ k ≤ 13) → ¬ (22 ≤ k ∧ k ≤ 27) → ¬ (58 ≤ k ∧ k ≤ 61) → k ≠ 65 → k ≠ 66 → k ≠ 73 → k ≠ 74 → k ≠ 1 → r' 536 k = m 536 k := fun k k1 k2 k3 k4 k5 k6 k7 k8 => by rw [fr.2 k k1 k2 k3 k4 k5 k6 k7, RBg_f (by omega), h1 536 (by decide)]; rw [cm 536 (by decide)]
  have lo : ∀ a, a ≠ 0 → a ≠ 1 → ¬ (223 ≤ a ∧ a ≤ 294) → a ≠ 302 → ¬ (304 ≤ a ∧ a ≤ 336) → a ≠ 371 → a ≠ 372 → ¬ (420 ≤ a ∧ a ≤ 507) → a ≠ 530 → a ≠ 532 → a < 536 → r' a = m a := fun a a1 a2 a3 a4 a5 a6 a7 a8 a9 a10 a11 => by rw [rc a a11, fc.1 a a1 a2 a3 a4 a5 a6 a7 a8 a9 a10]; exact CI_o a2 (by omega)
  have z0 : ∀ k, k ≠ 12 → k ≠ 13 → r' 0 k = m 0 k := fun k k1 k2 => by rw [rc 0 (by decide), fc.2.1 k k1 k2, CI_o (m := m) (a := 0) (by decide) (by omega)]
  have mx : mix c2 r' = r' := by
    funext a
    by_cases q : a < 536
    · rw [mix_c q, rc a q]
    · rw [mix_r (by omega)]
  obtain ⟨_, _, _, _, rs2, p1, p2, p3, p4, _, _, an⟩ := O2
  rw [mx] at an
  refine ⟨v2, r', by rw [up247 u3, ← hNN]; exact e4, ⟨h.bd, ⟨by have := h.cc.1; omega, by omega⟩, ⟨p4, ?_, p2, ?_⟩, ?_, ?_, ⟨⟨?_, ?_⟩, ?_, ?_, ?_, ?_⟩, ?_, ?_, fun h2 => ?_, fun _ => ⟨D, M, tu, Kx, Rf, Rv, ?_, by omega, fun _ => ?_, fun h3 => ?_⟩⟩, an, Or.inl ⟨rfl, ?_⟩⟩
  · rw [rc 0 (by decide)]; exact p1
  · obtain ⟨s, t, tw, q1, q2⟩ := p3
    rcases tw with ⟨w1, w2⟩ | ⟨w1, w2⟩
    · exact Or.inl ⟨by rw [q1]; exact w1, by rw [q2]; exact w2⟩
    · exact Or.inr ⟨by rw [q1]; exact w1, by rw [q2]; exact w2⟩
  · clear p3 p4
    refine tps_fr h.tp (by rw [lo 508 (by decide) (by decide) (by decide) (by decide) (by decide) (by decide) (by decide) (by decide) (by decide) (by decide) (by decide)]) (rf 49 (by decide) (by decide) (by decide) (by decide) (by decide) (by decide) (by decide) (by decide)) (fun a ha => lo a (by omega) (by omega) (by omega) (by omega) (by omega) (by omega) (by omega) (by omega) (by omega) (by omega) (by omega)) ?_
    obtain ⟨pp, hp⟩ := rs2
    exact ⟨pp, rs_fr hp (rc 530 (by decide))⟩
  · clear p3 p4
    exact sta_fr h.st (fun k hk => rf k (by omega) (by omega) (by omega) (by omega) (by omega) (by omega) (by omega) (by omega)) (z0 14 (by decide) (by decide))
  · rw [xR_cg (rc 1 (by decide)), x11, x5]
  · rw [xR_cg (rc 1 (by decide)), x11]; exact ⟨by decide, by decide⟩
  · intro i i0 i1
    rw [xR_cg (rc 1 (by decide)), x11] at i1
    clear p3 p4
    omega
  · intro i
    rw [xR_cg (lo 2 (by decide) (by decide) (by decide) (by decide) (by decide) (by decide) (by decide) (by decide) (by decide) (by decide) (by decide))]
    exact h.tx.2.2.1 i
  · rw [xR_cg (rc 1 (by decide))]; exact x6
  · rw [xR_cg (rc 1 (by decide))]; exact x7
  · clear p3 p4
    exact cnr_fr h.cn (by omega) (fun k hk => z0 k (by omega) (by omega)) (fun k _ => by rw [lo 508 (by decide) (by decide) (by decide) (by decide) (by decide) (by decide) (by decide) (by decide) (by decide) (by decide) (by decide)]) (by rw [lo 373 (by decide) (by decide) (by decide) (by decide) (by decide) (by decide) (by decide) (by decide) (by decide) (by decide) (by decide)]) (fun k hk => rf k (by omega) (by omega) (by omega) (by omega) (by omega) (by omega) (by omega) (by omega))
  · clear p3 p4
    refine mak_fr h.mk (fun k hk => rf k (by omega) (by omega) (by omega) (by omega) (by omega) (by omega) (by omega) (by omega)) (fun a ha => ?_)
    by_cases q : a < 536
    · exact lo a (by omega) (by omega) (by omega) (by omega) (by omega) (by omega) (by omega) (by omega) (by omega) (by omega) q
    · exact rr a (by omega) (by omega) (by omega) (by omega) (by omega)
  · rw [xR_fld (rf 2 (by decide) (by decide) (by decide) (by decide) (by decide) (by decide) (by decide) (by decide)), e2] at h2
    exact absurd h2 (by decide)
  · clear p3 p4
    exact dsk_fr dk ⟨rr 538 (by decide) (by decide) (by decide) (by decide) (by decide), rr 539 (by decide) (by decide) (by decide) (by decide) (by decide), rr 573 (by decide) (by decide) (by decide) (by decide) (by decide), fun i _ _ => ⟨by rw [rr 575 (by decide) (by decide) (by decide) (by decide) (by decide)], by rw [rr 576 (by decide) (by decide) (by decide) (by decide) (by decide)]⟩⟩ (fun a ha => rr a (by omega) (by omega) (by omega) (by omega) (by omega)) (fun k hk => rf k (by omega) (by omega) (by omega) (by omega) (by omega) (by omega) (by omega) (by omega)) (fun x _ _ => by rw [lo 516 (by decide) (by decide) (by decide) (by decide) (by decide) (by decide) (by decide) (by decide) (by decide) (by decide) (by decide)])
  · clear p3 p4
    exact ram_fr rm (fun a a0 a1 => lo a (by omega) (by omega) (by omega) (by omega) (by omega) (by omega) (by omega) (by omega) (by omega) (by omega) (by omega)) (fun k _ => by rw [lo 508 (by decide) (by decide) (by decide) (by decide) (by decide) (by decide) (by decide) (by decide) (by decide) (by decide) (by decide)]) (fun a a0 a1 => lo a (by omega) (by omega) (by omega) (by omega) (by omega) (by omega) (by omega) (by omega) (by omega) (by omega) (by omega)) (fun k hk => rf k (by omega) (by omega) (by omega) (by omega) (by omega) (by omega) (by omega) (by omega)) (fun a ha => rr a (by omega) (by omega) (by omega) (by omega) (by omega)) (bt_fr rm (fun a a0 a1 => lo a (by omega) (by omega) (by omega) (by omega) (by omega) (by omega) (by omega) (by omega) (by omega) (by omega) (by omega)) (fun k hk => rf k (by omega) (by omega) (by omega) (by omega) (by omega) (by omega) (by omega) (by omega)) (fun a ha => rr a (by omega) (by omega) (by omega) (by omega) (by omega)))
  · rw [xR_fld (rf 3 (by decide) (by decide) (by decide) (by decide) (by decide) (by decide) (by decide) (by decide)), e3] at h3
    exact absurd h3 (by decide)
  · rw [xR_fld (fr.2 1 (by decide) (by decide) (by decide) (by decide) (by decide) (by decide) (by decide))]; exact RBg_v.1
end RUO
