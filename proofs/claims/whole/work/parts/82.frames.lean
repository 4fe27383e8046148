/-! WHAT THE INVARIANT DEPENDS ON: the catalog on words, the disk -/
theorem tk_W {W W' : Int → Int} {p δ z ze : Int} {n : Nat} (h : ∀ x, z ≤ x → x < ze → bW W' (x + δ) = bW W x) (h0 : z ≤ p) (h1 : p + n ≤ ze) : tk W' (p + δ) n = tk W p n := tk_cg (fun i hi => by
  have := h (p + i) (by omega) (by omega)
  rw [show p + δ + (i : Int) = p + i + δ by omega]
  exact this)
theorem Byt_W {W W' : Int → Int} {p δ z ze sz : Int} {f : Int → Int} (h : ∀ x, z ≤ x → x < ze → bW W' (x + δ) = bW W x) (h0 : z ≤ p) (h1 : p + 8 * sz ≤ ze) (F : Byt W p sz f) : Byt W' (p + δ) sz f := fun i i0 i1 => by
  rw [show p + δ + 8 * i = p + 8 * i + δ by omega, tk_W h (by omega) (by omega)]
  exact F i i0 i1
theorem Vls_W {W W' : Int → Int} {p δ z ze n : Int} {f : Int → Int} (h : ∀ x, z ≤ x → x < ze → bW W' (x + δ) = bW W x) (h0 : z ≤ p) (h1 : p + 32 * n ≤ ze) (F : Vls W p n f) : Vls W' (p + δ) n f := fun i i0 i1 => by
  rw [show p + δ + 32 * i = p + 32 * i + δ by omega, tk_W h (by omega) (by omega)]
  exact F i i0 i1
theorem Dmn_W {W W' : Int → Int} {p δ z ze sz L n : Int} {nm ls : Int → Int} {ln vv : Int → Int → Int} (h : ∀ x, z ≤ x → x < ze → bW W' (x + δ) = bW W x) (h0 : z ≤ p) (s0 : 0 ≤ sz) (L0 : 0 ≤ L) (n0 : 0 ≤ n) (hl : ∀ l, 0 ≤ l → l < L → 0 ≤ ls l) (h1 : p + 32 + 8 * sz + 8 * lwB ls n L.toNat ≤ ze) (F : Dmn W p sz L n nm ls ln vv) : Dmn W' (p + δ) sz L n nm ls ln vv := by
  obtain ⟨a, b, c, d, e⟩ := F
  have mono := lwB_mono (ls := ls) n0 (L := L.toNat) (fun l hl' => hl l (by omega) (by omega))
  have z0 := mono L.toNat 0 (by omega)
  have z1 : lwB ls n 0 = 0 := rfl
  rw [Nat.zero_add, z1] at z0
  refine ⟨by rw [tk_W h h0 (by omega)]; exact a, by rw [show p + δ + 8 = p + 8 + δ by omega, tk_W h (by omega) (by omega)]; exact b, by rw [show p + δ + 16 = p + 16 + δ by omega, tk_W h (by omega) (by omega)]; exact c, by rw [show p + δ + 32 = p + 32 + δ by omega]; exact Byt_W h (by omega) (by omega) d, fun l l1 => ?_⟩
  obtain ⟨x1, x2, x3⟩ := e l l1
  have g1 := mono l 0 (by omega)
  rw [Nat.zero_add, z1] at g1
  have g2 := mono (L.toNat - (l + 1)) (l + 1) (by omega)
  rw [show l + 1 + (L.toNat - (l + 1)) = L.toNat by omega] at g2
  have g3 : lwB ls n (l + 1) = lwB ls n l + (1 + ls l + 4 * n) := rfl
  have g4 := hl l (by omega) l1
  refine ⟨?_, ?_, ?_⟩
  · rw [show p + δ + 32 + 8 * sz + 8 * lwB ls n l = p + 32 + 8 * sz + 8 * lwB ls n l + δ by omega, tk_W h (by omega) (by omega)]
    exact x1
  · rw [show p + δ + 40 + 8 * sz + 8 * lwB ls n l = p + 40 + 8 * sz + 8 * lwB ls n l + δ by omega]
    exact Byt_W h (by omega) (by omega) x2
  · rw [show p + δ + 40 + 8 * sz + 8 * lwB ls n l + 8 * ls l = p + 40 + 8 * sz + 8 * lwB ls n l + 8 * ls l + δ by omega]
    exact Vls_W h (by omega) (by omega) x3
theorem dsm_mono {w : xw_M} {D M : Int} (hc : ctn w D M) {d : Int} (d0 : 0 ≤ d) (d1 : d < D) : 0 ≤ dsm w d.toNat ∧ dsm w d.toNat + dmB w d ≤ dsm w D.toNat := by
  have a := dsm_nn hc d.toNat 0 (by omega)
  have b := dsm_nn hc (D.toNat - (d.toNat + 1)) (d.toNat + 1) (by omega)
  rw [Nat.zero_add] at a
  rw [show d.toNat + 1 + (D.toNat - (d.toNat + 1)) = D.toNat by omega] at b
  have c : dsm w (d.toNat + 1) = dsm w d.toNat + dmB w ((d.toNat : Nat) : Int) := rfl
  rw [Int.toNat_of_nonneg d0] at c
  have z : dsm w 0 = 0 := rfl
  omega
theorem msm_mono {w : xw_M} {D M : Int} (hc : ctn w D M) {k : Int} (k0 : 0 ≤ k) (k1 : k < M) : 0 ≤ msm w k.toNat ∧ msm w k.toNat + (1 + xR w 14 k) ≤ msm w M.toNat := by
  have a := msm_nn hc k.toNat 0 (by omega)
  have b := msm_nn hc (M.toNat - (k.toNat + 1)) (k.toNat + 1) (by omega)
  rw [Nat.zero_add] at a
  rw [show k.toNat + 1 + (M.toNat - (k.toNat + 1)) = M.toNat by omega] at b
  have c : msm w (k.toNat + 1) = msm w k.toNat + (1 + xR w 14 ((k.toNat : Nat) : Int)) := rfl
  rw [Int.toNat_of_nonneg k0] at c
  have z : msm w 0 = 0 := rfl
  omega
theorem dm_end {w : xw_M} {D M : Int} (hc : ctn w D M) : 0 ≤ dsm w D.toNat ∧ 0 ≤ msm w M.toNat := by
  have a := dsm_nn hc D.toNat 0 (by have := hc.1; omega)
  have b := msm_nn hc M.toNat 0 (by have := hc.2.1; omega)
  rw [Nat.zero_add] at a b
  have z : dsm w 0 = 0 := rfl
  have z' : msm w 0 = 0 := rfl
  omega
theorem Ctl_W {w : xw_M} {W W' : Int → Int} {p δ D M ze : Int} (hc : ctn w D M) (h : ∀ x, p ≤ x → x < ze → bW W' (x + δ) = bW W x) (h1 : p + 8 * dsm w D.toNat + 8 * msm w M.toNat ≤ ze) (F : Ctl w W p D M) : Ctl w W' (p + δ) D M := by
  have ed := dm_end hc
  refine ⟨fun d d0 d1 => ?_, fun k k0 k1 => ?_⟩
  · obtain ⟨s1, s2, s3, s4⟩ := hc.2.2.2.2.1 d d0 d1
    have g := dsm_mono hc d0 d1
    have ge : dmB w d = 4 + xR w (15 + 26 * d) 9 + lwB (xR w (15 + 26 * d + 7)) (xR w (15 + 26 * d) 11) (xR w (15 + 26 * d) 10).toNat := rfl
    rw [show p + δ + 8 * dsm w d.toNat = p + 8 * dsm w d.toNat + δ by omega]
    exact Dmn_W h (by omega) s1.1 s2.1 s3.1 (fun l l0 l1 => (s4 l l0 l1).1) (by omega) (F.1 d d0 d1)
  · obtain ⟨x1, x2⟩ := F.2 k k0 k1
    have g := msm_mono hc k0 k1
    have s := hc.2.2.2.2.2 k k0 k1
    refine ⟨?_, ?_⟩
    · rw [show p + δ + 8 * dsm w D.toNat + 8 * msm w k.toNat = p + 8 * dsm w D.toNat + 8 * msm w k.toNat + δ by omega, tk_W h (by omega) (by omega)]
      exact x1
    · rw [show p + δ + 8 * dsm w D.toNat + 8 * msm w k.toNat + 8 = p + 8 * dsm w D.toNat + 8 * msm w k.toNat + 8 + δ by omega]
      exact Byt_W h (by omega) (by omega) x2
theorem tk_same {W W' : Int → Int} {p z ze : Int} {n : Nat} (h : ∀ x, z ≤ x → x < ze → bW W' x = bW W x) (h0 : z ≤ p) (h1 : p + n ≤ ze) : tk W' p n = tk W p n := tk_cg (fun i hi => h _ (by omega) (by omega))
theorem nman_W {W W' : Int → Int} {tu : Int} (h : ∀ x, 0 ≤ x → x < 65536 → bW W' x = bW W x) (F : nman W tu) : nman W' tu := by
  obtain ⟨a, b, c, d⟩ := F
  exact ⟨a, b, by rw [tk_same h (by omega) (by omega)]; exact c, by rw [tk_same h (by omega) (by omega)]; exact d⟩
/-- a catalog's agreement depends on little of the reference -/
theorem cgr_m {w m m' : xw_M} {D M : Int} (h14 : m' 536 14 = m 536 14) (h19 : m' 536 19 = m 536 19) (h8 : m' 538 = m 538) (h9 : m' 539 = m 539) (h42 : m' 542 = m 542) (h43 : m' 543 = m 543) (F : cgr w m D M) : cgr w m' D M := by
  refine ⟨F.cn, F.b8, ?_, ?_, ?_, ?_⟩
  · unfold xR; rw [h14]; exact F.r14
  · unfold xR; rw [h19]; exact F.r19
  · rw [xR_cg h8, xR_cg h9, xR_cg h42, xR_cg h43]; exact F.sz
  · rw [xR_cg h42, xR_cg h43]; exact F.ms
theorem vls_m {w m m' : xw_M} {D : Int} (h40 : m' 540 = m 540) (F : vls w m D) : vls w m' D := by
  unfold vls at F ⊢
  rw [xR_cg h40]
  exact F
theorem rrk_m {m m' : xw_M} {D : Int} (h8 : m' 538 = m 538) (h9 : m' 539 = m 539) (h40 : m' 540 = m 540) (h73 : m' 573 = m 573) (h74 : m' 574 = m 574) (F : rrk m D) : rrk m' D := by
  unfold rrk hie at F ⊢
  rw [xR_cg h8, xR_cg h9, xR_cg h40, xR_cg h73, xR_cg h74]
  exact F
theorem cfx_nn {K Rf : Int → Int} (h : ∀ e, 0 ≤ Rf e) : ∀ (j i : Nat), cfx K Rf i ≤ cfx K Rf (i + j) := by
  intro j
  induction j with
  | zero => intro i; exact Int.le_refl _
  | succ j ih =>
    intro i
    have a := ih i
    have b : cfx K Rf (i + j + 1) = cfx K Rf (i + j) + (if hfx K ((i + j : Nat) : Int) = true then Rf ((i + j : Nat) : Int) else 0) := rfl
    have c := h ((i + j : Nat) : Int)
    rw [show i + (j + 1) = i + j + 1 by omega, b]
    split <;> omega
theorem cfx_in {K Rf : Int → Int} {E e : Int} (h : ∀ e, 0 ≤ Rf e) (e0 : 0 ≤ e) (e1 : e < E) : 0 ≤ cfx K Rf e.toNat ∧ cfx K Rf e.toNat ≤ cfx K Rf E.toNat ∧ ((K e = 2 ∨ K e = 4) → cfx K Rf e.toNat + Rf e ≤ cfx K Rf E.toNat) := by
  have a := cfx_nn (K := K) h e.toNat 0
  have b := cfx_nn (K := K) h (E.toNat - e.toNat) e.toNat
  rw [Nat.zero_add] at a
  rw [show e.toNat + (E.toNat - e.toNat) = E.toNat by omega] at b
  have z : cfx K Rf 0 = 0 := rfl
  refine ⟨by omega, b, fun hk => ?_⟩
  have d := cfx_nn (K := K) h (E.toNat - (e.toNat + 1)) (e.toNat + 1)
  rw [show e.toNat + 1 + (E.toNat - (e.toNat + 1)) = E.toNat by omega] at d
  have g : cfx K Rf (e.toNat + 1) = cfx K Rf e.toNat + (if hfx K ((e.toNat : Nat) : Int) = true then Rf ((e.toNat : Nat) : Int) else 0) := rfl
  rw [Int.toNat_of_nonneg e0, if_pos (show hfx K e = true from decide_eq_true hk)] at g
  omega
/-- the disk stays what it is, where only free blocks and what it doesn't speak of are others -/
theorem dsk_fr2 {B : Nat} {m m' : xw_M} {D M tu : Int} {K Rf : Int → Int} {Rv : Int → Int → Int} (F : dsk B m D M tu K Rf Rv) (hr : rsm m m' (xR m 536 31)) (hc : ∀ a, a = 540 ∨ a = 542 ∨ a = 543 ∨ a = 574 ∨ a = 579 ∨ a = 580 ∨ a = 586 ∨ a = 587 ∨ a = 588 → m' a = m a) (hf : ∀ k, k = 14 ∨ k = 19 → m' 536 k = m 536 k) (hg : ∀ k, k = 31 ∨ k = 38 ∨ k = 40 ∨ k = 52 → xR m' 536 k = xR m 536 k) (hW : ∀ x, 0 ≤ x → (x < 65536 ∨ ∃ e, (0 ≤ e ∧ e < xR m 536 52) ∧ xR m 587 e * 32768 ≤ x ∧ x < (xR m 587 e + xR m 588 e) * 32768) → bW (m' 516) x = bW (m 516) x) : dsk B m' D M tu K Rf Rv := by
  have f := hg
  have c : ∀ a, a = 540 ∨ a = 542 ∨ a = 543 ∨ a = 574 ∨ a = 579 ∨ a = 580 ∨ a = 586 ∨ a = 587 ∨ a = 588 → xR m' a = xR m a := fun a ha => xR_cg (hc a ha)
  have m0 := F.nm.1
  obtain ⟨w, w1, w2, w3, w4, w5⟩ := F.cat
  have hD := w1.cn.1
  have hM := w1.cn.2.1
  have E1 := F.e1
  have ed := dm_end w1.cn
  have x0 := F.ex.2.1 0 (Int.le_refl _) (by omega)
  have hb : ∀ e, 0 ≤ e → e < xR m 536 52 → ∀ x, xR m 587 e * 32768 ≤ x → x < (xR m 587 e + xR m 588 e) * 32768 → bW (m' 516) x = bW (m 516) x := fun e e0 e1 x x0 x1 => by
    have := F.ex.2.1 e e0 e1
    exact hW x (by omega) (Or.inr ⟨e, ⟨e0, e1⟩, x0, x1⟩)
  unfold dsk
  rw [f 38 (by omega), f 31 (by omega), f 40 (by omega), f 52 (by omega), c 579 (by omega), c 580 (by omega), c 586 (by omega), c 587 (by omega), c 588 (by omega), xR_cg hr.2.1]
  refine ⟨nman_W (fun x x0 x1 => hW x x0 (Or.inl x1)) F.nm, Man_cg F.man F.tn.1 F.tn.2 F.ex.1.2 (fun x x0 x1 => hW _ (by omega) (Or.inl (by omega))), F.ex, F.e1, F.kd, F.one, F.tn, F.vn, F.dm, ⟨w, cgr_m (hf 14 (by omega)) (hf 19 (by omega)) hr.1 hr.2.1 (hc 542 (by omega)) (hc 543 (by omega)) w1, vls_m (hc 540 (by omega)) w2, ?_, ?_, w5⟩, rrk_m hr.1 hr.2.1 (hc 540 (by omega)) hr.2.2.1 (hc 574 (by omega)) F.rk, F.rf, F.sm, fun e e0 e1 => ?_, F.rw, fun x d x0 x1 d0 d1 => ?_, F.ln⟩
  · rw [tk_same (hb 0 (Int.le_refl _) (by omega)) (by omega) (by omega)]
    exact w3
  · have := Ctl_W (δ := 0) (W' := m' 516) w1.cn (fun x x0 x1 => by rw [Int.add_zero]; exact hb 0 (Int.le_refl _) (by omega) x (by omega) x1) w5 w4
    rw [Int.add_zero] at this
    exact this
  · have ci := cfx_in (K := K) (E := xR m 536 52) F.rf (show 0 ≤ e by omega) e1
    rw [F.sm] at ci
    have kb : K e = 2 ∨ K e = 4 ∨ K e = 3 := by
      rcases F.kd e (by omega) e1 with h | h | h
      · omega
      · omega
      · omega
    exact xtn_m hr hD hM ci.1 (F.rf e) ci.2.2 ci.2.1 kb (xtn_W hD hM F.tn.1 (hb e (by omega) e1) (F.xt e e0 e1))
  · rw [rsm_R hr (by omega) (by omega)]
    exact F.pl x d x0 x1 d0 d1
theorem dsk_fr {B : Nat} {m m' : xw_M} {D M tu : Int} {K Rf : Int → Int} {Rv : Int → Int → Int} (F : dsk B m D M tu K Rf Rv) (hr : rsm m m' (xR m 536 31)) (hc : ∀ a, a = 540 ∨ a = 542 ∨ a = 543 ∨ a = 574 ∨ a = 579 ∨ a = 580 ∨ a = 586 ∨ a = 587 ∨ a = 588 → m' a = m a) (hf : ∀ k, k = 14 ∨ k = 19 ∨ k = 31 ∨ k = 38 ∨ k = 40 ∨ k = 52 → m' 536 k = m 536 k) (hW : ∀ x, 0 ≤ x → (x < 65536 ∨ ∃ e, (0 ≤ e ∧ e < xR m 536 52) ∧ xR m 587 e * 32768 ≤ x ∧ x < (xR m 587 e + xR m 588 e) * 32768) → bW (m' 516) x = bW (m 516) x) : dsk B m' D M tu K Rf Rv := dsk_fr2 F hr hc (fun k hk => hf k (by omega)) (fun k hk => by unfold xR; rw [hf k (by omega)]) hW
