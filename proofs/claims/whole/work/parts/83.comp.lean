/-! WHAT THE INVARIANT DEPENDS ON: its other parts -/
theorem xu_ne {m : xw_M} {a k v a' k' : Int} (h : ¬ (a' = a ∧ k' = k)) : xw_u m a k v a' k' = m a' k' := if_neg h
theorem xR_ne {m : xw_M} {a k v a' k' : Int} (h : ¬ (a' = a ∧ k' = k)) : xR (xw_u m a k v) a' k' = xR m a' k' := by
  unfold xR
  rw [xu_ne h]
theorem xJ_ne {m : xw_M} {a k v a' k' : Int} (h : ¬ (a' = a ∧ k' = k)) : xJ (xw_u m a k v) a' k' = xJ m a' k' := by
  unfold xJ
  rw [xu_ne h]
theorem xR_at {m : xw_M} {a k v : Int} (h : w32 v = v) : xR (xw_u m a k v) a k = v := by
  unfold xR
  rw [xw_us]
  exact h
theorem xR_fld {m m' : xw_M} {a k : Int} (h : m' a k = m a k) : xR m' a k = xR m a k := by
  unfold xR
  rw [h]
theorem xJ_fld {m m' : xw_M} {a k : Int} (h : m' a k = m a k) : xJ m' a k = xJ m a k := by
  unfold xJ
  rw [h]
section COMP
variable {B : Nat} {m m' : xw_M}
theorem ptr_fr (h : ptr m) (f : ∀ k, k = 59 ∨ k = 60 ∨ k = 22 ∨ k = 23 ∨ k = 73 ∨ k = 74 → m' 536 k = m 536 k) (z : ∀ k, k = 12 ∨ k = 13 → m' 0 k = m 0 k) : ptr m' := by
  unfold ptr
  rw [f 59 (by omega), f 60 (by omega), f 22 (by omega), f 23 (by omega), f 73 (by omega), f 74 (by omega), z 12 (by omega), z 13 (by omega)]
  exact h
theorem tpz_fr {t w l : Int} (h : tpz t w l m) (a : m' t = m t) (b : m' w = m w) : tpz t w l m' := by
  unfold tpz
  rw [xR_cg a, b]
  exact h
theorem rs_fr {p : Int} (h : rs B m p) (a : m' 530 = m 530) : rs B m' p := by
  unfold rs
  rw [xR_cg a]
  exact h
theorem tps_fr (h : tps B m) (a : m' 508 0 = m 508 0) (b : m' 536 49 = m 536 49) (c : ∀ a, a = 517 ∨ a = 518 ∨ a = 524 ∨ a = 509 → m' a = m a) (r : ∃ p, rs B m' p) : tps B m' := ⟨(xR_fld a).trans h.1, (xR_fld b).trans h.2.1, tpz_fr h.2.2.1 (c 518 (by omega)) (c 517 (by omega)), tpz_fr h.2.2.2.1 (c 524 (by omega)) (c 509 (by omega)), r⟩
theorem sta_fr (h : sta m) (f : ∀ k, k = 2 ∨ k = 3 → m' 536 k = m 536 k) (z : m' 0 14 = m 0 14) : sta m' := by
  unfold sta
  rw [xR_fld (f 2 (by omega)), xR_fld (f 3 (by omega)), xR_fld z]
  exact h
theorem txt_fr (h : txt m) (a : ∀ k, k = 1 ∨ k = 6 ∨ k = 7 → m' 1 k = m 1 k) (b : m' 2 = m 2) (f : ∀ k, k = 5 ∨ k = 6 ∨ k = 7 → m' 536 k = m 536 k) (c : m' 537 = m 537) : txt m' := by
  unfold txt
  rw [xR_fld (a 1 (by omega)), xR_fld (a 6 (by omega)), xR_fld (a 7 (by omega)), xR_cg b, xR_fld (f 5 (by omega)), xR_fld (f 6 (by omega)), xR_fld (f 7 (by omega)), xR_cg c]
  exact h
theorem cnr_fr {c c' : Int} (h : cnr c m) (hc : c ≤ c') (z : ∀ k, k = 15 ∨ k = 16 → m' 0 k = m 0 k) (d : ∀ k, k = 18 ∨ k = 19 → m' 508 k = m 508 k) (b : m' 373 5 = m 373 5) (f : ∀ k, k = 3 ∨ k = 31 ∨ k = 32 ∨ k = 33 ∨ k = 38 ∨ k = 39 ∨ k = 50 ∨ k = 51 → m' 536 k = m 536 k) : cnr c' m' := by
  unfold cnr
  rw [xR_fld (z 15 (by omega)), xR_fld (z 16 (by omega)), xR_fld (d 18 (by omega)), xR_fld (d 19 (by omega)), xR_fld b, xR_fld (f 3 (by omega)), xR_fld (f 31 (by omega)), xR_fld (f 32 (by omega)), xR_fld (f 33 (by omega)), xR_fld (f 38 (by omega)), xR_fld (f 39 (by omega)), xR_fld (f 50 (by omega)), xR_fld (f 51 (by omega))]
  refine ⟨h.sg, h.ch, ⟨h.wr.1, h.wr.2.1, ?_⟩, h.ba, h.fb, ⟨h.lo.1, ?_⟩, h.fu, h.dn⟩
  · have := h.wr.2.2; omega
  · have := h.lo.2; omega
theorem mak_fr (h : mak m) (f : ∀ k, k = 2 ∨ k = 3 ∨ k = 14 → m' 536 k = m 536 k) (c : ∀ a, a = 577 ∨ a = 578 ∨ a = 417 ∨ a = 418 ∨ a = 539 → m' a = m a) : mak m' := by
  unfold mak
  rw [xR_fld (f 2 (by omega)), xR_fld (f 3 (by omega)), xR_fld (f 14 (by omega)), xR_cg (c 577 (by omega)), xR_cg (c 417 (by omega)), xR_cg (c 539 (by omega)), xJ_cg (c 578 (by omega)), xJ_cg (c 418 (by omega))]
  exact h
theorem cgr_w {w w' : xw_M} {D M : Int} (A : ∀ a, 3 ≤ a → a < 223 → w' a = w a) (F : cgr w m D M) : cgr w' m D M := by
  obtain ⟨⟨c1, c2, c3, c4, c5, c6⟩, ⟨n1, n2⟩, r14, r19, sz, ms⟩ := F
  have R : ∀ a, 3 ≤ a → a < 223 → xR w' a = xR w a := fun a a0 a1 => xR_cg (A a a0 a1)
  refine ⟨⟨c1, c2, by rw [R 3 (by omega) (by omega)]; exact c3, by rw [R 3 (by omega) (by omega)]; exact c4, fun d d0 d1 => ?_, by rw [R 14 (by omega) (by omega)]; exact c6⟩, ⟨fun d d0 d1 => ?_, fun k i k0 k1 i0 i1 => ?_⟩, r14, r19, fun d d0 d1 => ?_, fun k k0 k1 => ?_⟩
  · rw [R (15 + 26 * d) (by omega) (by omega), R (15 + 26 * d + 7) (by omega) (by omega)]
    exact c5 d d0 d1
  · have hL := (c5 d d0 d1).2.1
    refine ⟨fun i i0 i1 => ?_, fun l i l0 l1 i0 i1 => ?_⟩
    · rw [R (15 + 26 * d) (by omega) (by omega)] at i1
      rw [R (15 + 26 * d + 1) (by omega) (by omega)]; exact (n1 d d0 d1).1 i i0 i1
    · rw [R (15 + 26 * d) (by omega) (by omega)] at l1
      rw [R (15 + 26 * d + 7) (by omega) (by omega)] at i1
      rw [R (15 + 26 * d + 3 + l) (by omega) (by omega)]; exact (n1 d d0 d1).2 l i l0 l1 i0 i1
  · rw [R 14 (by omega) (by omega)] at i1
    rw [R (6 + k) (by omega) (by omega)]; exact n2 k i k0 k1 i0 i1
  · have hL := (c5 d d0 d1).2.1
    rw [R (15 + 26 * d) (by omega) (by omega), R (15 + 26 * d + 7) (by omega) (by omega), R (15 + 26 * d + 1) (by omega) (by omega)]
    obtain ⟨s1, s2, s3, s4, s5, s6⟩ := sz d d0 d1
    refine ⟨s1, s2, s3, s4, s5, fun l l0 l1 => ?_⟩
    rw [R (15 + 26 * d + 3 + l) (by omega) (by omega)]
    exact s6 l l0 l1
  · rw [R 14 (by omega) (by omega), R (6 + k) (by omega) (by omega)]
    exact ms k k0 k1
theorem vls_w {w w' : xw_M} {D : Int} (hD : D ≤ 8) (hL : ∀ d, 0 ≤ d → d < D → xR w (15 + 26 * d) 10 ≤ 4) (A : ∀ a, 3 ≤ a → a < 223 → w' a = w a) (F : vls w m D) : vls w' m D := fun d d0 d1 => by
  have R : ∀ a, 3 ≤ a → a < 223 → xR w' a = xR w a := fun a a0 a1 => xR_cg (A a a0 a1)
  have := hL d d0 d1
  rw [R (15 + 26 * d) (by omega) (by omega), R (15 + 26 * d + 9) (by omega) (by omega)]
  refine ⟨fun l p l0 l1 p0 p1 => ?_, (F d d0 d1).2⟩
  rw [R (15 + 26 * d + 9 + l) (by omega) (by omega)]
  exact (F d d0 d1).1 l p l0 l1 p0 p1
theorem ram_fr {D M tu : Int} {K : Int → Int} (h : ram m D M tu K) (A : ∀ a, 3 ≤ a → a < 223 → m' a = m a) (d : ∀ k, k = 8 ∨ k = 9 ∨ k = 10 ∨ k = 11 ∨ k = 14 → m' 508 k = m 508 k) (e : ∀ a, 511 ≤ a → a ≤ 515 → m' a = m a) (f : ∀ k, k = 14 ∨ k = 19 ∨ k = 31 ∨ k = 38 ∨ k = 40 ∨ k = 52 → m' 536 k = m 536 k) (c : ∀ a, a = 538 ∨ a = 539 ∨ a = 540 ∨ a = 542 ∨ a = 543 ∨ a = 579 ∨ a = 580 ∨ a = 587 ∨ a = 588 → m' a = m a) (bt : ∀ x, 0 ≤ x → x < xR m' 536 32 → (∀ d, 0 ≤ d → d < D → xR m' (376 + d) x = xR m' 575 (8 * (xR m' 536 31 + x) + d) ∧ 0 ≤ xR m' (376 + d) x ∧ xR m' (376 + d) x < xR m' 539 d) ∧ ∀ k, 0 ≤ k → k < M → xJ m' (385 + k) x = xJ m' 576 (8 * (xR m' 536 31 + x) + k)) : ram m' D M tu K := by
  have hD := h.cg.cn.1
  have R : ∀ a, 3 ≤ a → a < 223 → xR m' a = xR m a := fun a a0 a1 => xR_cg (A a a0 a1)
  refine ⟨cgr_m (f 14 (by omega)) (f 19 (by omega)) (c 538 (by omega)) (c 539 (by omega)) (c 542 (by omega)) (c 543 (by omega)) (cgr_w A h.cg), vls_m (c 540 (by omega)) (vls_w hD.2 (fun d d0 d1 => (h.cg.cn.2.2.2.2.1 d d0 d1).2.1.2) A h.vl), fun d d0 d1 => ?_, (xR_fld (d 8 (by omega))).trans h.tu, ?_, ?_, ?_, ?_, ?_, ?_, bt⟩
  · rw [R (15 + 26 * d) (by omega) (by omega)]
    exact arrd_cg (h.ar d d0 d1) (h.cg.cn.2.2.2.2.1 d d0 d1).2.1.2 (fun a a0 a1 => A a (by omega) (by omega))
  · rw [xR_fld (d 9 (by omega)), xR_fld (f 38 (by omega))]; exact h.lo
  · rw [xR_fld (d 10 (by omega)), xR_fld (f 31 (by omega))]; exact h.fa
  · rw [xR_fld (d 11 (by omega)), xR_fld (f 40 (by omega))]; exact h.vi
  · rw [xR_fld (d 14 (by omega)), xR_fld (f 52 (by omega))]; exact h.ex
  · rw [xR_fld (f 40 (by omega)), xR_cg (e 511 (by omega) (by omega)), xR_cg (e 512 (by omega) (by omega)), xR_cg (c 579 (by omega)), xR_cg (c 580 (by omega))]; exact h.vw
  · rw [xR_fld (f 52 (by omega)), xR_cg (e 513 (by omega) (by omega)), xR_cg (e 514 (by omega) (by omega)), xR_cg (e 515 (by omega) (by omega)), xR_cg (c 587 (by omega)), xR_cg (c 588 (by omega))]; exact h.le
theorem bt_fr {D M tu : Int} {K : Int → Int} (h : ram m D M tu K) (b : ∀ a, 376 ≤ a → a ≤ 392 → m' a = m a) (f : ∀ k, k = 31 ∨ k = 32 → m' 536 k = m 536 k) (c : ∀ a, a = 539 ∨ a = 575 ∨ a = 576 → m' a = m a) : ∀ x, 0 ≤ x → x < xR m' 536 32 → (∀ d, 0 ≤ d → d < D → xR m' (376 + d) x = xR m' 575 (8 * (xR m' 536 31 + x) + d) ∧ 0 ≤ xR m' (376 + d) x ∧ xR m' (376 + d) x < xR m' 539 d) ∧ ∀ k, 0 ≤ k → k < M → xJ m' (385 + k) x = xJ m' 576 (8 * (xR m' 536 31 + x) + k) := by
  have hD := h.cg.cn.1
  have hM := h.cg.cn.2.1
  rw [xR_fld (f 31 (by omega)), xR_fld (f 32 (by omega)), xR_cg (c 539 (by omega)), xR_cg (c 575 (by omega)), xJ_cg (c 576 (by omega))]
  intro x x0 x1
  refine ⟨fun d d0 d1 => ?_, fun k k0 k1 => ?_⟩
  · rw [xR_cg (b (376 + d) (by omega) (by omega))]; exact (h.bt x x0 x1).1 d d0 d1
  · rw [xJ_cg (b (385 + k) (by omega) (by omega))]; exact (h.bt x x0 x1).2 k k0 k1
theorem catN_fr {D M : Int} (h : catN m D M) (A : ∀ a, 3 ≤ a → a < 223 → m' a = m a) (f : ∀ k, k = 14 ∨ k = 19 → m' 536 k = m 536 k) (c : ∀ a, a = 538 ∨ a = 539 ∨ a = 540 ∨ a = 542 ∨ a = 543 → m' a = m a) : catN m' D M := by
  have hD := h.cg.cn.1
  have R : ∀ a, 3 ≤ a → a < 223 → xR m' a = xR m a := fun a a0 a1 => xR_cg (A a a0 a1)
  refine ⟨cgr_m (f 14 (by omega)) (f 19 (by omega)) (c 538 (by omega)) (c 539 (by omega)) (c 542 (by omega)) (c 543 (by omega)) (cgr_w A h.cg), fun d d0 d1 => ?_, fun d d0 d1 => ?_, fun d d0 d1 => by unfold hie; rw [xR_cg (c 538 (by omega)), xR_cg (c 539 (by omega)), xR_cg (c 540 (by omega))]; exact h.hi d d0 d1⟩
  · obtain ⟨ρ, p, q⟩ := h.me d d0 d1
    have hL := (h.cg.cn.2.2.2.2.1 d d0 d1).2.1.2
    refine ⟨ρ, ?_⟩
    rw [R (15 + 26 * d) (by omega) (by omega)]
    refine ⟨p, fun l p l0 l1 p0 p1 => ?_⟩
    rw [R (15 + 26 * d + 9 + l) (by omega) (by omega), xR_cg (c 540 (by omega))]
    exact q l p l0 l1 p0 p1
  · rw [xR_cg (c 539 (by omega)), xR_cg (c 540 (by omega))]
    exact h.di d d0 d1
theorem nwS_fr (h : nwS m) (W : m' 516 = m 516) (A : ∀ a, 3 ≤ a → a < 223 → m' a = m a) (d : ∀ k, k = 8 ∨ k = 9 ∨ k = 10 ∨ k = 11 ∨ k = 14 → m' 508 k = m 508 k) (f : ∀ k, k = 3 ∨ k = 14 ∨ k = 19 ∨ k = 31 ∨ k = 32 ∨ k = 38 ∨ k = 40 ∨ k = 52 → m' 536 k = m 536 k) (c : ∀ a, a = 538 ∨ a = 539 ∨ a = 540 ∨ a = 542 ∨ a = 543 → m' a = m a) : nwS m' := by
  refine ⟨by rw [W]; exact h.m0, by rw [W]; exact h.m1, ?_, ?_, ?_, fun h3 => ?_⟩
  · rw [xR_fld (f 31 (by omega)), xR_fld (f 38 (by omega)), xR_fld (f 40 (by omega)), xR_fld (f 52 (by omega)), xR_fld (f 32 (by omega))]; exact h.rf
  · rw [xR_fld (d 8 (by omega)), xR_fld (d 9 (by omega)), xR_fld (d 10 (by omega)), xR_fld (d 11 (by omega)), xR_fld (d 14 (by omega))]; exact h.cl
  · rw [xR_fld (f 3 (by omega)), xR_fld (f 14 (by omega)), xR_cg (A 3 (by omega) (by omega))]; exact h.dn
  · rw [xR_fld (f 3 (by omega))] at h3
    obtain ⟨D, M, F⟩ := h.up h3
    exact ⟨D, M, catN_fr F A (fun k hk => f k (by omega)) c⟩
/-- what the invariant speaks of, all but the tapes and the answer -/
def cor (m m' : xw_M) : Prop := (∀ k, k = 14 ∨ k = 15 ∨ k = 16 → m' 0 k = m 0 k) ∧ (∀ k, k = 1 ∨ k = 6 ∨ k = 7 → m' 1 k = m 1 k) ∧ (∀ a, 2 ≤ a → a < 223 → m' a = m a) ∧ m' 373 5 = m 373 5 ∧ (∀ a, 376 ≤ a → a ≤ 392 → m' a = m a) ∧ (∀ a, a = 417 ∨ a = 418 ∨ a = 508 ∨ a = 509 ∨ (511 ≤ a ∧ a ≤ 516) ∨ a = 524 → m' a = m a) ∧ (∀ k, k ≠ 1 → (k < 8 ∨ 13 < k) → (k < 22 ∨ 28 < k) → (k < 43 ∨ 48 < k) → (k < 53 ∨ 61 < k) → k ≠ 61 → (k < 63 ∨ 76 < k) → m' 536 k = m 536 k) ∧ (∀ a, (537 ≤ a ∧ a ≤ 543) ∨ (573 ≤ a ∧ a ≤ 580) ∨ (586 ≤ a ∧ a ≤ 588) → m' a = m a)
theorem Inw_fr {c c' : Int} (h : Inw B c m) (hc : c ≤ c') (hc2 : c' ≤ 600) (C : cor m m') (t : tps B m') (p : ptr m') : Inw B c' m' := by
  obtain ⟨z, t1, t2, b1, b2, o, f, r⟩ := C
  have R : ∀ a, (537 ≤ a ∧ a ≤ 543) ∨ (573 ≤ a ∧ a ≤ 580) ∨ (586 ≤ a ∧ a ≤ 588) → m' a = m a := r
  have f2 : xR m' 536 2 = xR m 536 2 := xR_fld (f 2 (by omega) (by omega) (by omega) (by omega) (by omega) (by omega) (by omega))
  have f3 : xR m' 536 3 = xR m 536 3 := xR_fld (f 3 (by omega) (by omega) (by omega) (by omega) (by omega) (by omega) (by omega))
  refine ⟨h.bd, ⟨by have := h.cc.1; omega, hc2⟩, p, t, sta_fr h.st (fun k hk => f k (by omega) (by omega) (by omega) (by omega) (by omega) (by omega) (by omega)) (z 14 (by omega)), txt_fr h.tx t1 (t2 2 (by omega) (by omega)) (fun k hk => f k (by omega) (by omega) (by omega) (by omega) (by omega) (by omega) (by omega)) (r 537 (by omega)), cnr_fr h.cn hc (fun k hk => z k (by omega)) (fun k hk => by rw [o 508 (by omega)]) b1 (fun k hk => f k (by omega) (by omega) (by omega) (by omega) (by omega) (by omega) (by omega)), mak_fr h.mk (fun k hk => f k (by omega) (by omega) (by omega) (by omega) (by omega) (by omega) (by omega)) (fun a ha => ?_), fun h2 => ?_, fun h2 => ?_⟩
  · rcases ha with rfl | rfl | rfl | rfl | rfl
    · exact r 577 (by omega)
    · exact r 578 (by omega)
    · exact o 417 (by omega)
    · exact o 418 (by omega)
    · exact r 539 (by omega)
  · rw [f2] at h2
    exact nwS_fr (h.nw h2) (o 516 (by omega)) (fun a a0 a1 => t2 a (by omega) a1) (fun k hk => by rw [o 508 (by omega)]) (fun k hk => f k (by omega) (by omega) (by omega) (by omega) (by omega) (by omega) (by omega)) (fun a ha => r a (by omega))
  · rw [f2] at h2
    obtain ⟨D, M, tu, K, Rf, Rv, F, ht, u, v⟩ := h.op h2
    refine ⟨D, M, tu, K, Rf, Rv, dsk_fr F ⟨r 538 (by omega), r 539 (by omega), r 573 (by omega), fun i _ _ => ⟨by rw [r 575 (by omega)], by rw [r 576 (by omega)]⟩⟩ (fun a ha => r a (by omega)) (fun k hk => f k (by omega) (by omega) (by omega) (by omega) (by omega) (by omega) (by omega)) (fun x _ _ => by rw [o 516 (by omega)]), by omega, fun h3 => ?_, fun h3 => ?_⟩
    · rw [f3] at h3
      exact ram_fr (u h3) (fun a a0 a1 => t2 a (by omega) a1) (fun k hk => by rw [o 508 (by omega)]) (fun a a0 a1 => o a (by omega)) (fun k hk => f k (by omega) (by omega) (by omega) (by omega) (by omega) (by omega) (by omega)) (fun a ha => r a (by omega)) (bt_fr (u h3) b2 (fun k hk => f k (by omega) (by omega) (by omega) (by omega) (by omega) (by omega) (by omega)) (fun a ha => r a (by omega)))
    · rw [f3] at h3
      rw [xR_cg (t2 3 (by omega) (by omega)), xR_cg (o 508 (by omega))]
      exact v h3
end COMP
