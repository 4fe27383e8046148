/-! OPERATIONS: drop, amount, key -/
section OPS3
variable {B : Nat} {m : xw_M} {c : Int}
theorem isOpen_ok : yf320 B m = some (.inl (if xR m 536 2 = 0 then 0 else if xR m 536 3 = 0 then 1 else 0), m) := by
  unfold yf320
  by_cases h : xR m 536 2 = 0
  · rw [if_pos h, if_pos h]
  · rw [if_neg h, if_neg h]
    by_cases g : xR m 536 3 = 0
    · rw [if_pos g, if_pos g]
    · rw [if_neg g, if_neg g]
/-- facts in the making and the batch alone are others -/
theorem Inw_mk {m' : xw_M} (h : Inw B c m) (hc : c < 600) (ho : xR m 536 2 = 1 ∧ xR m 536 3 = 0) (e : ∀ a, a ≠ 0 → a ≠ 373 → (a < 376 ∨ 392 < a) → a ≠ 417 → a ≠ 418 → a ≠ 536 → (a < 575 ∨ 578 < a) → a ≠ 604 → m' a = m a) (z : ∀ k, k ≠ 15 → m' 0 k = m 0 k) (f : ∀ k, k ≠ 1 → k ≠ 32 → k ≠ 33 → m' 536 k = m 536 k) (g : ∀ i, 0 ≤ i → i < 8 * xR m 536 31 → m' 575 i = m 575 i ∧ m' 576 i = m 576 i) (cn : cnr (c + 1) m') (mk : mak m') (bt : ∀ D M tu K, ram m D M tu K → ∀ x, 0 ≤ x → x < xR m' 536 32 → (∀ d, 0 ≤ d → d < D → xR m' (376 + d) x = xR m' 575 (8 * (xR m' 536 31 + x) + d) ∧ 0 ≤ xR m' (376 + d) x ∧ xR m' (376 + d) x < xR m' 539 d) ∧ ∀ k, 0 ≤ k → k < M → xJ m' (385 + k) x = xJ m' 576 (8 * (xR m' 536 31 + x) + k)) : Inw B (c + 1) m' ∧ anF m m' := by
  have f2 : xR m' 536 2 = xR m 536 2 := xR_fld (f 2 (by omega) (by omega) (by omega))
  have f3 : xR m' 536 3 = xR m 536 3 := xR_fld (f 3 (by omega) (by omega) (by omega))
  have E : ∀ a, (1 ≤ a ∧ a < 373) ∨ (419 ≤ a ∧ a < 536) ∨ (537 ≤ a ∧ a < 575) ∨ (579 ≤ a ∧ a < 604) → m' a = m a := fun a ha => e a (by omega) (by omega) (by omega) (by omega) (by omega) (by omega) (by omega) (by omega)
  refine ⟨⟨h.bd, ⟨by have := h.cc.1; omega, by omega⟩, ptr_fr h.pt (fun k hk => f k (by omega) (by omega) (by omega)) (fun k hk => z k (by omega)), tps_fr h.tp (by rw [E 508 (by omega)]) (f 49 (by omega) (by omega) (by omega)) (fun a ha => E a (by omega)) (by
      obtain ⟨p, hp⟩ := h.tp.2.2.2.2
      exact ⟨p, rs_fr hp (E 530 (by omega))⟩), sta_fr h.st (fun k hk => f k (by omega) (by omega) (by omega)) (z 14 (by omega)), txt_fr h.tx (fun k hk => by rw [E 1 (by omega)]) (E 2 (by omega)) (fun k hk => f k (by omega) (by omega) (by omega)) (E 537 (by omega)), cn, mk, fun h2 => ?_, fun h2 => ?_⟩, fun h3 => by rw [f3] at h3; exact h3, fun k hk => z k (by omega), fun a a0 a1 => E a (by omega), fun k hk => f k (by omega) (by omega) (by omega), fun a ha => E a (by omega)⟩
  · omega
  · obtain ⟨D, M, tu, K, Rf, Rv, F, ht, u, v⟩ := h.op ho.1
    have r := u ho.2
    refine ⟨D, M, tu, K, Rf, Rv, dsk_fr F ⟨E 538 (by omega), E 539 (by omega), E 573 (by omega), g⟩ (fun a ha => E a (by omega)) (fun k hk => f k (by omega) (by omega) (by omega)) (fun x _ _ => by rw [E 516 (by omega)]), by omega, fun h3 => ?_, fun h3 => ?_⟩
    · exact ram_fr r (fun a a0 a1 => E a (by omega)) (fun k hk => by rw [E 508 (by omega)]) (fun a a0 a1 => E a (by omega)) (fun k hk => f k (by omega) (by omega) (by omega)) (fun a ha => E a (by omega)) (bt D M tu K r)
    · omega
theorem notop (h : Inw B c m) (ho : ¬ (xR m 536 2 = 1 ∧ xR m 536 3 = 0)) : (if xR m 536 2 = 0 then 0 else if xR m 536 3 = 0 then 1 else 0 : Int) = 0 := by
  have := h.st.1
  split
  · rfl
  · rw [if_neg (by omega)]
theorem isop (ho : xR m 536 2 = 1 ∧ xR m 536 3 = 0) : (if xR m 536 2 = 0 then 0 else if xR m 536 3 = 0 then 1 else 0 : Int) = 1 := by
  rw [if_neg (by omega), if_pos ho.2]
theorem op14 (h : Inw B c m) : (xR m 0 14 = 1 ↔ xR m 536 2 = 1 ∧ xR m 536 3 = 0) := by
  have := (sta_dn h.st).2.1
  omega
theorem drop_op (h : Inw B c m) (hc : c < 600) : opOk B c m (yf176 B) (yf322 B) ag1 := by
  unfold opOk yf176
  by_cases ho : xR m 536 2 = 1 ∧ xR m 536 3 = 0
  · rw [fopen ((op14 h).mpr ho), xB_ret]
    refine ⟨_, _, rfl, fun m1 e1 => ?_⟩
    have e53 : m1 536 = m 536 := by rw [e1 536 (by omega), xu_c (by omega)]
    unfold yf322
    rw [isOpen_ok, xB_ret, xR_cg e53, isop ho, if_neg (by decide)]
    have eo : ∀ a, a ≠ 373 → a ≠ 536 → a ≠ 604 → xw_u (xw_u m1 536 1 0) 536 32 0 a = m a := fun a h1 h2 h3 => by rw [xu_c h2, xu_c h2, e1 a h3, xu_c h1]
    have ef : ∀ k, k ≠ 1 → k ≠ 32 → xw_u (xw_u m1 536 1 0) 536 32 0 536 k = m 536 k := fun k h1 h2 => by rw [xu_ne (by omega), xu_ne (by omega), e53]
    have g5 : xR (xw_u (xw_u m1 536 1 0) 536 32 0) 373 5 = 0 := by rw [xR_ne (by omega), xR_ne (by omega), xR_cg (e1 373 (by omega)), xR_at (by decide)]
    have g32 : xR (xw_u (xw_u m1 536 1 0) 536 32 0) 536 32 = 0 := xR_at (by decide)
    have I := Inw_mk (m' := xw_u (xw_u m1 536 1 0) 536 32 0) h hc ho (fun a h0 h1 h2 h3 h4 h5 h6 h7 => eo a h1 h5 h7) (fun k hk => by rw [eo 0 (by omega) (by omega) (by omega)]) (fun k h1 h2 h3 => ef k h1 h2) (fun i i0 i1 => ⟨by rw [eo 575 (by omega) (by omega) (by omega)], by rw [eo 576 (by omega) (by omega) (by omega)]⟩) (by
        have C := h.cn
        have q : ∀ k, k ≠ 1 → k ≠ 32 → xR (xw_u (xw_u m1 536 1 0) 536 32 0) 536 k = xR m 536 k := fun k h1 h2 => xR_fld (ef k h1 h2)
        unfold cnr
        rw [g5, g32, q 33 (by omega) (by omega), q 39 (by omega) (by omega), q 50 (by omega) (by omega), q 31 (by omega) (by omega), q 38 (by omega) (by omega), q 3 (by omega) (by omega), q 51 (by omega) (by omega), xR_cg (eo 0 (by omega) (by omega) (by omega)), xR_cg (eo 508 (by omega) (by omega) (by omega))]
        have c2 := C.fb
        have c3 := C.ba
        have c4 := C.wr
        have c5 := C.lo
        refine ⟨C.sg, C.ch, ⟨c4.1, c4.2.1, by omega⟩, ⟨rfl, by omega, by omega⟩, ⟨c2.1, by omega⟩, ⟨c5.1, by omega⟩, C.fu, fun _ => rfl⟩) (mak_fr h.mk (fun k hk => ef k (by omega) (by omega)) (fun a ha => eo a (by omega) (by omega) (by omega))) (fun D M tu K r x x0 x1 => by rw [g32] at x1; omega)
    exact ⟨_, _, rfl, I.1, Or.inl I.2, Or.inl ⟨by rw [h.cn.ba.1], by rw [xR_ne (by omega), xR_at (by decide)]⟩⟩
  · rw [fnot (by rw [Ne, op14 h]; exact ho)]
    refine ⟨_, _, rfl, fun m1 e1 => ?_⟩
    have e53 := e1 536 (by omega)
    have I := Inw_1 (x := 1) h hc e1
    unfold yf322
    rw [isOpen_ok, xB_ret, xR_cg e53, notop h ho, if_pos rfl]
    exact ⟨_, _, rfl, I.1, Or.inl I.2, Or.inr ⟨rfl, xR_at (by decide)⟩⟩
/-- dimensions and measures as each side counts them -/
theorem dims_eq (h : Inw B c m) : (xR m 536 3 = 1 → xR m 3 1 = 0 ∧ xR m 3 2 = 0) ∧ (xR m 536 3 = 0 → xR m 3 1 = xR m 536 14 ∧ xR m 3 2 = xR m 536 19 ∧ (0 ≤ xR m 536 14 ∧ xR m 536 14 ≤ 8) ∧ 0 ≤ xR m 536 19 ∧ xR m 536 19 ≤ 8) := by
  rcases h.st.1 with e | e
  · refine ⟨fun h3 => ((h.nw e).dn h3).1, fun h3 => ?_⟩
    obtain ⟨D, M, F⟩ := (h.nw e).up h3
    have := F.cg
    rw [this.cn.2.2.1, this.cn.2.2.2.1, this.r14, this.r19]
    exact ⟨rfl, rfl, this.cn.1, this.cn.2.1⟩
  · obtain ⟨D, M, tu, K, Rf, Rv, F, ht, u, v⟩ := h.op e
    refine ⟨fun h3 => ⟨(v h3).1, (v h3).2.1⟩, fun h3 => ?_⟩
    have := (u h3).cg
    rw [this.cn.2.2.1, this.cn.2.2.2.1, this.r14, this.r19]
    exact ⟨rfl, rfl, this.cn.1, this.cn.2.1⟩
theorem amount_op {k v : Int} (h : Inw B c m) (hc : c < 600) (hv : w64 v = v) : opOk B c m (yf169 B k v) (yf317 B k v) ag2 := by
  obtain ⟨q1, q2⟩ := dims_eq h
  unfold opOk yf169 yk169_19
  have bad : ∀ m1 : xw_M, (∀ a, a ≠ 604 → m1 a = m a) → (xR m 536 3 ≠ 0 ∨ k < 0 ∨ xR m 536 19 ≤ k) → ∃ v' m2, yf317 B k v m1 = some (.inl v', m2) ∧ Inw B (c + 1) m2 ∧ (anF m m2 ∨ anN m2) ∧ ag2 (.inr 15) (xR m2 536 1) v' := by
    intro m1 e1 hn
    have I := Inw_1 (x := 1) h hc e1
    have r : ∃ v', yf317 B k v m1 = some (.inl v', xw_u m1 536 1 1) := by
      unfold yf317
      rw [xR_cg (e1 536 (by omega))]
      by_cases x0 : xR m 536 3 = 0
      · rw [if_pos x0]
        by_cases x1 : k < 0
        · rw [if_pos x1]; exact ⟨_, rfl⟩
        · rw [if_neg x1, if_neg (by omega)]; exact ⟨_, rfl⟩
      · rw [if_neg x0]; exact ⟨_, rfl⟩
    obtain ⟨v', hv'⟩ := r
    exact ⟨v', _, hv', I.1, Or.inl I.2, Or.inr (Or.inl ⟨rfl, xR_at (by decide)⟩)⟩
  by_cases x1 : k < 0
  · rw [if_pos x1]; exact ⟨_, _, rfl, fun m1 e1 => bad m1 e1 (by omega)⟩
  rw [if_neg x1]
  by_cases hd : xR m 536 3 = 1
  · rw [(q1 hd).2, if_neg x1]; exact ⟨_, _, rfl, fun m1 e1 => bad m1 e1 (by omega)⟩
  have hd0 := sta_0 h.st hd
  obtain ⟨z1, z2, z3, z4⟩ := q2 hd0
  rw [z2]
  by_cases x2 : k < xR m 536 19
  · rw [if_pos x2]
    show ∃ r m1, (xB (yf166 B m) _ : xP) = _ ∧ _
    by_cases ho : xR m 536 2 = 1 ∧ xR m 536 3 = 0
    · rw [fopen ((op14 h).mpr ho), xB_ret, if_pos ⟨by omega, by omega⟩]
      refine ⟨_, _, rfl, fun m1 e1 => ?_⟩
      have e53 : m1 536 = m 536 := by rw [e1 536 (by omega), xu_c (by omega)]
      have e578 : m1 578 = m 578 := by rw [e1 578 (by omega), xu_c (by omega)]
      unfold yf317
      rw [xR_cg e53, if_pos hd0, if_neg x1, if_pos x2, if_neg (by omega), if_pos ⟨by omega, by omega⟩]
      have eo : ∀ a, a ≠ 418 → a ≠ 536 → a ≠ 578 → a ≠ 604 → xw_u (xw_u m1 536 1 0) 578 k v a = m a := fun a h1 h2 h3 h4 => by rw [xu_c h3, xu_c h2, e1 a h4, xu_c h1]
      have ef : ∀ k', k' ≠ 1 → xw_u (xw_u m1 536 1 0) 578 k v 536 k' = m 536 k' := fun k' h1 => by rw [xu_c (by omega), xu_ne (by omega), e53]
      have hm := h.mk.e ho.1 ho.2
      have I := Inw_mk (m' := xw_u (xw_u m1 536 1 0) 578 k v) h hc ho (fun a h0 h1 h2 h3 h4 h5 h6 h7 => eo a h4 h5 (by omega) h7) (fun k' hk => by rw [eo 0 (by omega) (by omega) (by omega) (by omega)]) (fun k' h1 h2 h3 => ef k' h1) (fun i i0 i1 => ⟨by rw [eo 575 (by omega) (by omega) (by omega) (by omega)], by rw [eo 576 (by omega) (by omega) (by omega) (by omega)]⟩) (cnr_fr h.cn (by omega) (fun k' _ => by rw [eo 0 (by omega) (by omega) (by omega) (by omega)]) (fun k' _ => by rw [eo 508 (by omega) (by omega) (by omega) (by omega)]) (by rw [eo 373 (by omega) (by omega) (by omega) (by omega)]) (fun k' hk => ef k' (by omega))) (by
          refine ⟨fun hn => absurd ⟨by rw [xR_fld (ef 2 (by omega))]; exact ho.1, by rw [xR_fld (ef 3 (by omega))]; exact ho.2⟩ hn, fun _ _ j j0 j1 => ?_⟩
          obtain ⟨h1, h2, h3⟩ := hm j j0 j1
          rw [xR_cg (eo 417 (by omega) (by omega) (by omega) (by omega)), xR_cg (eo 577 (by omega) (by omega) (by omega) (by omega)), xR_cg (eo 539 (by omega) (by omega) (by omega) (by omega)), xR_fld (ef 14 (by omega))]
          refine ⟨h1, ?_, h3⟩
          have g1 : xJ (xw_u (xw_u m1 536 1 0) 578 k v) 418 j = xJ (xw_u m 418 k v) 418 j := xJ_fld (by rw [xu_c (by omega), xu_c (by omega), e1 418 (by omega)])
          rw [g1, xJ_u, xJ_u]
          by_cases ej : j = k
          · rw [if_pos ⟨rfl, ej⟩, if_pos ⟨rfl, ej⟩]
          · rw [if_neg (by omega), if_neg (by omega), xJ_cg (xu_c (by omega)), xJ_cg e578]
            exact h2) (fun D M tu K r x x0 x1 => bt_fr r (fun a a0 a1 => eo a (by omega) (by omega) (by omega) (by omega)) (fun k' hk => ef k' (by omega)) (fun a ha => eo a (by omega) (by omega) (by omega) (by omega)) x x0 x1)
      exact ⟨_, _, rfl, I.1, Or.inl I.2, Or.inl ⟨by rw [xJ_cg e578, (hm k (by omega) (by omega)).2.1], by rw [xR_ne (by omega), xR_at (by decide)]⟩⟩
    · rw [fnot (by rw [Ne, op14 h]; exact ho)]
      refine ⟨_, _, rfl, fun m1 e1 => ?_⟩
      have I := Inw_1 (x := 2) h hc e1
      have e2 : xR m 536 2 = 0 := by have := h.st.1; omega
      unfold yf317
      rw [xR_cg (e1 536 (by omega)), if_pos hd0, if_neg x1, if_pos x2, if_pos e2]
      exact ⟨_, _, rfl, I.1, Or.inl I.2, Or.inr (Or.inr ⟨rfl, xR_at (by decide)⟩)⟩
  · rw [if_neg x2]; exact ⟨_, _, rfl, fun m1 e1 => bad m1 e1 (by omega)⟩
theorem xR_fn {m m' : xw_M} {a : Int} (h : ∀ k, m' a k = m a k) : m' a = m a := funext h
/-- the search stops at once where the call is refused -/
theorem rkey_no {d x : Int} (h1 : xR m 536 1 ≠ 0) : xl3 (yl316_41 B) 1000000 d x 0 m = some (.inl 0, m) := by
  show yl316_41 B (xl3 (yl316_41 B) 999999) d x 0 m = _
  unfold yl316_41
  rw [if_pos (by omega), if_neg h1]
theorem key_op {d x : Int} (h : Inw B c m) (hc : c < 600) : opOk B c m (yf165 B d x) (yf316 B d x) ag2 := by
  obtain ⟨q1, q2⟩ := dims_eq h
  unfold opOk yf165 yk165_19
  have bad : ∀ m1 : xw_M, (∀ a, a ≠ 604 → m1 a = m a) → (xR m 536 3 ≠ 0 ∨ d < 0 ∨ xR m 536 14 ≤ d) → ∃ v' m2, yf316 B d x m1 = some (.inl v', m2) ∧ Inw B (c + 1) m2 ∧ (anF m m2 ∨ anN m2) ∧ ag2 (.inr 15) (xR m2 536 1) v' := by
    intro m1 e1 hn
    have I := Inw_1 (x := 1) h hc e1
    have no := rkey_no (B := B) (m := xw_u m1 536 1 1) (d := d) (x := x) (by rw [xR_at (by decide)]; decide)
    have r : yf316 B d x m1 = some (.inl 0, xw_u m1 536 1 1) := by
      unfold yf316
      rw [xR_cg (e1 536 (by omega))]
      by_cases x0 : xR m 536 3 = 0
      · rw [if_pos x0]
        by_cases x1 : d < 0
        · rw [if_pos x1]; exact no
        · rw [if_neg x1, if_neg (by omega)]; exact no
      · rw [if_neg x0]; exact no
    exact ⟨0, _, r, I.1, Or.inl I.2, Or.inr (Or.inl ⟨rfl, xR_at (by decide)⟩)⟩
  by_cases x1 : d < 0
  · rw [if_pos x1]; exact ⟨_, _, rfl, fun m1 e1 => bad m1 e1 (by omega)⟩
  rw [if_neg x1]
  by_cases hd : xR m 536 3 = 1
  · rw [(q1 hd).1, if_neg x1]; exact ⟨_, _, rfl, fun m1 e1 => bad m1 e1 (by omega)⟩
  have hd0 := sta_0 h.st hd
  obtain ⟨z1, z2, z3, z4⟩ := q2 hd0
  rw [z1]
  by_cases x2 : d < xR m 536 14
  · rw [if_pos x2]
    show ∃ r m1, (xB (yf166 B m) _ : xP) = _ ∧ _
    by_cases ho : xR m 536 2 = 1 ∧ xR m 536 3 = 0
    · obtain ⟨D, M, tu, K, Rf, Rv, F, ht, u, v⟩ := h.op ho.1
      have r := u ho.2
      have d1 : d < D := by rw [← r.cg.r14]; exact x2
      have n0 := (r.cg.cn.2.2.2.2.1 d (by omega) d1).2.2.1
      have vl := r.vl d (by omega) d1
      have L1 := (r.cg.sz d (by omega) d1).1
      have nn : xR m 539 d = xR m (15 + 26 * d) 11 := (r.cg.sz d (by omega) d1).2.2.1
      rw [fopen ((op14 h).mpr ho), xB_ret, if_pos ⟨by omega, by omega⟩, if_pos (dm_f B (show 0 ≤ d by omega) (by omega)).1]
      obtain ⟨rr', e', hr⟩ := member_ok (B := B) (m := m) (d := d) (x := x) (by omega) (by omega) rfl n0 rfl vl.2
      have vz : ∀ p, 0 ≤ p → p < xR m (15 + 26 * d) 11 → xR m (15 + 26 * d + 9) p = xR m 540 (4000 * d + 4 * p + 0) := fun p p0 p1 => by
        have := vl.1 0 p (by omega) (by omega) p0 p1
        rw [Int.add_zero] at this
        exact this
      rw [e', xB_ret]
      rcases hr with ⟨hr1, hr2⟩ | ⟨hr1, hr2⟩
      · rw [if_neg (by omega)]
        refine ⟨_, _, rfl, fun m1 e1 => ?_⟩
        have e53 : m1 536 = m 536 := by rw [e1 536 (by omega), xu_c (by omega)]
        have R : ∀ a, a ≠ 604 → a ≠ 417 → a ≠ 536 → xw_u m1 536 1 0 a = m a := fun a h1 h2 h3 => by rw [xu_c h3, e1 a h1, xu_c h2]
        unfold yf316
        rw [xR_cg e53, if_pos hd0, if_neg x1, if_pos x2, if_neg (by omega)]
        rcases rkey_ok (B := B) (m := xw_u m1 536 1 0) (d := d) (x := x) (n := xR m (15 + 26 * d) 11) (by omega) (by omega) n0 (xR_at (by decide)) (by rw [xR_cg (R 539 (by omega) (by omega) (by omega)), nn]) with ⟨p, hp, ep, er⟩ | ⟨hno, er⟩
        · rw [xR_cg (R 540 (by omega) (by omega) (by omega)), ← vz p hp.1 hp.2] at ep
          have pe : p = rr' := by
            rcases Int.lt_trichotomy p rr' with g | g | g
            · have := vl.2 p rr' hp.1 g hr1.2; omega
            · exact g
            · have := vl.2 rr' p hr1.1 g hp.2; omega
          subst pe
          have eo : ∀ a, a ≠ 417 → a ≠ 536 → a ≠ 577 → a ≠ 604 → xw_u (xw_u m1 536 1 0) 577 d p a = m a := fun a h1 h2 h3 h4 => by rw [xu_c h3]; exact R a h4 h1 h2
          have ef : ∀ k', k' ≠ 1 → xw_u (xw_u m1 536 1 0) 577 d p 536 k' = m 536 k' := fun k' h1 => by rw [xu_c (by omega), xu_ne (by omega), e53]
          have hm := h.mk.e ho.1 ho.2
          have pw : w32 p = p := w32_id (by omega) (by omega)
          have I := Inw_mk (m' := xw_u (xw_u m1 536 1 0) 577 d p) h hc ho (fun a h0 h1 h2 h3 h4 h5 h6 h7 => eo a h3 h5 (by omega) h7) (fun k' hk => by rw [eo 0 (by omega) (by omega) (by omega) (by omega)]) (fun k' h1 h2 h3 => ef k' h1) (fun i i0 i1 => ⟨by rw [eo 575 (by omega) (by omega) (by omega) (by omega)], by rw [eo 576 (by omega) (by omega) (by omega) (by omega)]⟩) (cnr_fr h.cn (by omega) (fun k' _ => by rw [eo 0 (by omega) (by omega) (by omega) (by omega)]) (fun k' _ => by rw [eo 508 (by omega) (by omega) (by omega) (by omega)]) (by rw [eo 373 (by omega) (by omega) (by omega) (by omega)]) (fun k' hk => ef k' (by omega))) (by
              refine ⟨fun hn => absurd ⟨by rw [xR_fld (ef 2 (by omega))]; exact ho.1, by rw [xR_fld (ef 3 (by omega))]; exact ho.2⟩ hn, fun _ _ j j0 j1 => ?_⟩
              obtain ⟨h1, h2, h3⟩ := hm j j0 j1
              rw [xJ_cg (eo 418 (by omega) (by omega) (by omega) (by omega)), xJ_cg (eo 578 (by omega) (by omega) (by omega) (by omega)), xR_cg (eo 539 (by omega) (by omega) (by omega) (by omega)), xR_fld (ef 14 (by omega))]
              have g1 : xR (xw_u (xw_u m1 536 1 0) 577 d p) 417 j = xR (xw_u m 417 d p) 417 j := xR_fld (by rw [xu_c (by omega), xu_c (by omega), e1 417 (by omega)])
              rw [g1, xR_u, xR_u]
              by_cases ej : j = d
              · rw [if_pos ⟨rfl, ej⟩, if_pos ⟨rfl, ej⟩, pw, ej, nn]
                exact ⟨rfl, by rw [← ej]; exact h2, fun _ => hp⟩
              · rw [if_neg (by omega), if_neg (by omega), xR_cg (R 577 (by omega) (by omega) (by omega))]
                exact ⟨h1, h2, h3⟩) (fun D M tu K r x x0 x1 => bt_fr r (fun a a0 a1 => eo a (by omega) (by omega) (by omega) (by omega)) (fun k' hk => ef k' (by omega)) (fun a ha => eo a (by omega) (by omega) (by omega) (by omega)) x x0 x1)
          exact ⟨_, _, er, I.1, Or.inl I.2, Or.inl ⟨rfl, by rw [xR_ne (by omega), xR_at (by decide)]⟩⟩
        · refine absurd ?_ (hno rr' hr1.1 hr1.2)
          rw [xR_cg (R 540 (by omega) (by omega) (by omega)), ← vz rr' hr1.1 hr1.2]
          exact hr2
      · rw [if_pos hr1]
        refine ⟨_, _, rfl, fun m1 e1 => ?_⟩
        have e53 := e1 536 (by omega)
        have R : ∀ a, a ≠ 604 → a ≠ 536 → xw_u m1 536 1 0 a = m a := fun a h1 h3 => by rw [xu_c h3, e1 a h1]
        have I := Inw_1 (x := 0) h hc e1
        unfold yf316
        rw [xR_cg e53, if_pos hd0, if_neg x1, if_pos x2, if_neg (by omega)]
        rcases rkey_ok (B := B) (m := xw_u m1 536 1 0) (d := d) (x := x) (n := xR m (15 + 26 * d) 11) (by omega) (by omega) n0 (xR_at (by decide)) (by rw [xR_cg (R 539 (by omega) (by omega)), nn]) with ⟨p, hp, ep, er⟩ | ⟨hno, er⟩
        · rw [xR_cg (R 540 (by omega) (by omega)), ← vz p hp.1 hp.2] at ep
          exact absurd ep (hr2 p hp.1 hp.2)
        · exact ⟨_, _, er, I.1, Or.inl I.2, Or.inl ⟨rfl, xR_at (by decide)⟩⟩
    · rw [fnot (by rw [Ne, op14 h]; exact ho)]
      refine ⟨_, _, rfl, fun m1 e1 => ?_⟩
      have I := Inw_1 (x := 2) h hc e1
      have e2 : xR m 536 2 = 0 := by have := h.st.1; omega
      unfold yf316
      rw [xR_cg (e1 536 (by omega)), if_pos hd0, if_neg x1, if_pos x2, if_pos e2, rkey_no (by rw [xR_at (by decide)]; decide)]
      exact ⟨_, _, rfl, I.1, Or.inl I.2, Or.inr (Or.inr ⟨rfl, xR_at (by decide)⟩)⟩
  · rw [if_neg x2]; exact ⟨_, _, rfl, fun m1 e1 => bad m1 e1 (by omega)⟩
end OPS3
