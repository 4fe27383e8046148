/-! OPERATIONS: stage, spread, whole -/
section STG2
variable {B : Nat} {m : xw_M} {c : Int}
/-- what a batch that grew on both sides leaves -/
theorem Inw_st {m1 m1' m2 : xw_M} {n D M tu : Int} {K Rf : Int → Int} {Rv : Int → Int → Int} {P A P' A' : Int → Int → Int} (h : Inw B c m) (hc : c < 600) (ho : xR m 536 2 = 1 ∧ xR m 536 3 = 0) (F : dsk B m D M tu K Rf Rv) (r : ram m D M tu K) (n0 : 0 ≤ n) (hb : xR m 536 32 + n ≤ 8192) (hs : xR m 536 33 + n ≤ 20000) (C : bst m m1 D M (xR m 536 32) n P A) (e1 : ∀ a, a ≠ 604 → m1' a = (xw_u m1 0 15 (xR m 0 15 + n)) a) (R : rst (xw_u m1' 536 1 0) m2 D M (xR m 536 31) (xR m 536 32) n P' A') (eP : ∀ x d, 0 ≤ x → x < n → 0 ≤ d → d < D → P x d = P' x d ∧ 0 ≤ P x d ∧ P x d < xR m 539 d) (eA : ∀ x k, 0 ≤ x → x < n → 0 ≤ k → k < M → A x k = A' x k) : Inw B (c + 1) m2 ∧ anF m m2 := by
  obtain ⟨c1, c2, c3, c4⟩ := C
  obtain ⟨r1, r2, r3, r4, r5, r6⟩ := R
  have hD := r.cg.cn.1
  have hM := r.cg.cn.2.1
  have sg := h.cn.sg
  have fb := h.cn.fb
  have b0 : 0 ≤ xR m 536 32 := h.cn.ba.2.1
  have eo : ∀ a, a ≠ 0 → a ≠ 373 → (a < 376 ∨ 392 < a) → a ≠ 536 → a ≠ 575 → a ≠ 576 → a ≠ 604 → m2 a = m a := fun a h0 h1 h2 h3 h4 h5 h6 => by
    rw [r1 a h3 h4 h5, xu_c h3, e1 a h6, xu_c h0, c1 a h1 h2]
  have e53 : m1' 536 = m 536 := by rw [e1 536 (by omega), xu_c (by omega), c1 536 (by omega) (by omega)]
  have ef : ∀ k, k ≠ 1 → k ≠ 32 → k ≠ 33 → m2 536 k = m 536 k := fun k h1 h2 h3 => by rw [r2 k h2 h3, xu_ne (by omega), e53]
  have g0 : ∀ k, k ≠ 15 → m2 0 k = m 0 k := fun k hk => by rw [r1 0 (by omega) (by omega) (by omega), xu_c (by omega), e1 0 (by omega), xu_ne (by omega), c1 0 (by omega) (by omega)]
  have g15 : xR m2 0 15 = xR m 536 33 + n := by
    rw [xR_cg (r1 0 (by omega) (by omega) (by omega)), xR_cg (xu_c (by omega)), xR_cg (e1 0 (by omega)), xR_at (w32_id (by omega) (by omega)), sg.1]
  have g33 : xR m2 536 33 = xR m 536 33 + n := by rw [r4, xR_ne (by omega), xR_cg e53]
  have cb : ∀ a, 376 ≤ a → a ≤ 392 → m2 a = m1 a := fun a a0 a1 => by rw [r1 a (by omega) (by omega) (by omega), xu_c (by omega), e1 a (by omega), xu_c (by omega)]
  have g5 : xR m2 373 5 = xR m 536 32 + n := by rw [xR_cg (r1 373 (by omega) (by omega) (by omega)), xR_cg (xu_c (by omega)), xR_cg (e1 373 (by omega)), xR_cg (xu_c (by omega))]; exact c2
  have old : ∀ i, i < 8 * (xR m 536 31 + xR m 536 32) → m2 575 i = m 575 i ∧ m2 576 i = m 576 i := fun i hi => by
    rw [(r5 i hi).1, (r5 i hi).2, xu_c (by omega), xu_c (by omega), e1 575 (by omega), e1 576 (by omega), xu_c (by omega), xu_c (by omega), c1 575 (by omega) (by omega), c1 576 (by omega) (by omega)]
    exact ⟨rfl, rfl⟩
  have e31 : xR m2 536 31 = xR m 536 31 := xR_fld (ef 31 (by omega) (by omega) (by omega))
  refine Inw_mk (m' := m2) h hc ho (fun a h0 h1 h2 h3 h4 h5 h6 h7 => eo a h0 h1 h2 h5 (by omega) (by omega) h7) g0 ef (fun i i0 i1 => old i (by omega)) ?_ (mak_fr h.mk (fun k hk => ef k (by omega) (by omega) (by omega)) (fun a ha => eo a (by omega) (by omega) (by omega) (by omega) (by omega) (by omega) (by omega))) (fun D' M' tu' K' r' x x0 x1 => ?_)
  · have q : ∀ k, k ≠ 1 → k ≠ 32 → k ≠ 33 → xR m2 536 k = xR m 536 k := fun k h1 h2 h3 => xR_fld (ef k h1 h2 h3)
    unfold cnr
    rw [g5, r3, g33, g15, xR_fld (g0 16 (by omega)), q 39 (by omega) (by omega) (by omega), q 50 (by omega) (by omega) (by omega), q 31 (by omega) (by omega) (by omega), q 38 (by omega) (by omega) (by omega), q 3 (by omega) (by omega) (by omega), q 51 (by omega) (by omega) (by omega), xR_cg (eo 508 (by omega) (by omega) (by omega) (by omega) (by omega) (by omega) (by omega))]
    have c4 := h.cn.wr
    have c5 := h.cn.lo
    refine ⟨⟨rfl, by omega, by omega⟩, h.cn.ch, ⟨c4.1, c4.2.1, by omega⟩, ⟨rfl, by omega, by omega⟩, ⟨fb.1, by omega⟩, ⟨c5.1, by omega⟩, h.cn.fu, fun h3 => by omega⟩
  · have eD : D' = D := by rw [← r'.cg.r14, r.cg.r14]
    have eM : M' = M := by rw [← r'.cg.r19, r.cg.r19]
    subst eD eM
    rw [r3] at x1
    rw [e31, xR_cg (eo 539 (by omega) (by omega) (by omega) (by omega) (by omega) (by omega) (by omega))]
    by_cases hx : x < xR m 536 32
    · obtain ⟨b1, b2⟩ := r.bt x x0 hx
      refine ⟨fun d d0 d1 => ?_, fun k k0 k1 => ?_⟩
      · rw [xR_cg (cb (376 + d) (by omega) (by omega)), xR_fld (c3 (376 + d) x (by omega) (by omega) hx), xR_fld (old _ (by omega)).1]
        exact b1 d d0 d1
      · rw [xJ_cg (cb (385 + k) (by omega) (by omega)), xJ_fld (c3 (385 + k) x (by omega) (by omega) hx), xJ_fld (old _ (by omega)).2]
        exact b2 k k0 k1
    · obtain ⟨u1, u2⟩ := c4 (x - xR m 536 32) (by omega) (by omega)
      obtain ⟨v1, v2⟩ := r6 (x - xR m 536 32) (by omega) (by omega)
      rw [show xR m 536 32 + (x - xR m 536 32) = x by omega] at u1 u2 v1 v2
      refine ⟨fun d d0 d1 => ?_, fun k k0 k1 => ?_⟩
      · have := eP (x - xR m 536 32) d (by omega) (by omega) d0 d1
        rw [xR_cg (cb (376 + d) (by omega) (by omega)), u1 d d0 d1, v1 d d0 d1]
        exact this
      · rw [xJ_cg (cb (385 + k) (by omega) (by omega)), u2 k k0 k1, v2 k k0 k1]
        exact eA (x - xR m 536 32) k (by omega) (by omega) k0 k1
/-- whether there is room to stage -/
theorem room_cl {n : Int} (h : Inw B c m) (n0 : 1 ≤ n) (n1 : n ≤ 4096) : yf172 B n m = (if (xR m 536 2 = 1 ∧ xR m 536 3 = 0) ∧ xR m 536 32 + n ≤ 8192 ∧ xR m 536 33 + n ≤ 20000 then some (.inl 0, m) else some (.inr 14, m)) := by
  have ba := h.cn.ba
  have sg := h.cn.sg
  unfold yf172 yk172_31
  by_cases ho : xR m 536 2 = 1 ∧ xR m 536 3 = 0
  · rw [fopen ((op14 h).mpr ho), xB_ret, ba.1, sg.1, w32_id (by omega) (by omega), w32_id (by omega) (by omega)]
    by_cases x1 : 8192 < xR m 536 32 + n
    · rw [if_pos x1, if_neg (by omega)]; rfl
    · rw [if_neg x1]
      by_cases x2 : 20000 < xR m 536 33 + n
      · rw [if_pos x2, if_neg (by omega)]; rfl
      · rw [if_neg x2, if_pos ⟨ho, by omega, by omega⟩]; rfl
  · rw [fnot (by rw [Ne, op14 h]; exact ho), if_neg (fun h => ho h.1)]; rfl
theorem room_rf {m1 : xw_M} {n : Int} (h : Inw B c m) (n0 : 1 ≤ n) (n1 : n ≤ 4096) (e : m1 536 = m 536) : yf319 B n m1 = some (.inl (if (xR m 536 2 = 1 ∧ xR m 536 3 = 0) ∧ xR m 536 32 + n ≤ 8192 ∧ xR m 536 33 + n ≤ 20000 then 1 else 0), m1) := by
  have ba := h.cn.ba
  have sg := h.cn.sg
  unfold yf319
  rw [isOpen_ok, xB_ret, xR_cg e]
  by_cases ho : xR m 536 2 = 1 ∧ xR m 536 3 = 0
  · rw [isop ho, if_neg (by decide), w32_id (by omega) (by omega), w32_id (by omega) (by omega)]
    by_cases x1 : 8192 < xR m 536 32 + n
    · rw [if_pos x1, if_neg (by omega)]
    · rw [if_neg x1]
      by_cases x2 : 20000 < xR m 536 33 + n
      · rw [if_pos x2, if_neg (by omega)]
      · rw [if_neg x2, if_pos ⟨ho, by omega, by omega⟩]
  · rw [notop h ho, if_pos rfl, if_neg (fun h => ho h.1)]
theorem stage_no {n : Int} (h1 : 0 < xR m 536 1) : xl2 (yl318_35 B) 1000000 n 0 m = some (.inl 0, m) := by
  show yl318_35 B (xl2 (yl318_35 B) 999999) n 0 m = _
  unfold yl318_35 yk318_137
  rw [if_neg (show ¬ xR m 536 1 = 0 by omega), if_pos h1]
  split <;> rfl
theorem spread_no {n s : Int} (h1 : 0 < xR m 536 1) : xl3 (yl321_39 B) 1000000 n s 0 m = some (.inl 0, m) := by
  show yl321_39 B (xl3 (yl321_39 B) 999999) n s 0 m = _
  unfold yl321_39 yk321_204
  rw [if_neg (show ¬ xR m 536 1 = 0 by omega), if_pos h1]
  split <;> rfl
theorem stage_op {n : Int} (h : Inw B c m) (hc : c < 600) : opOk B c m (yf171 B n) (yf318 B n) ag2 := by
  unfold opOk yf171 yk171_16
  have bad : ∀ m1 : xw_M, (∀ a, a ≠ 604 → m1 a = m a) → (n < 1 ∨ 1000 < n) → ∃ v m2, yf318 B n m1 = some (.inl v, m2) ∧ Inw B (c + 1) m2 ∧ (anF m m2 ∨ anN m2) ∧ ag2 (.inr 15) (xR m2 536 1) v := by
    intro m1 e1 hn
    have I := Inw_1 (x := 1) h hc e1
    have no := stage_no (B := B) (m := xw_u m1 536 1 1) (n := n) (by rw [xR_at (by decide)]; decide)
    unfold yf318
    by_cases x1 : n < 1
    · rw [if_pos x1, no]; exact ⟨_, _, rfl, I.1, Or.inl I.2, Or.inr (Or.inl ⟨rfl, xR_at (by decide)⟩)⟩
    · rw [if_neg x1, if_pos (by omega), no]; exact ⟨_, _, rfl, I.1, Or.inl I.2, Or.inr (Or.inl ⟨rfl, xR_at (by decide)⟩)⟩
  by_cases x1 : n < 1
  · rw [if_pos x1]; exact ⟨_, _, rfl, fun m1 e1 => bad m1 e1 (Or.inl x1)⟩
  rw [if_neg x1]
  by_cases x2 : 1000 < n
  · rw [if_pos x2]; exact ⟨_, _, rfl, fun m1 e1 => bad m1 e1 (Or.inr x2)⟩
  rw [if_neg x2]
  show ∃ r m1, (xB (yf172 B n m) _ : xP) = _ ∧ _
  rw [room_cl h (by omega) (by omega)]
  by_cases hr : (xR m 536 2 = 1 ∧ xR m 536 3 = 0) ∧ xR m 536 32 + n ≤ 8192 ∧ xR m 536 33 + n ≤ 20000
  · rw [if_pos hr, xB_ret]
    obtain ⟨ho, h1, h2⟩ := hr
    obtain ⟨D, M, tu, K, Rf, Rv, F, ht, u, v⟩ := h.op ho.1
    have r := u ho.2
    have hD := r.cg.cn.1
    have hM := r.cg.cn.2.1
    have fb := h.cn.fb
    have ba := h.cn.ba
    have sg := h.cn.sg
    obtain ⟨a1, z, C⟩ := stage_cl (B := B) (m := m) (n := n) hD hM r.cg.cn.2.2.1 r.cg.cn.2.2.2.1 ba.1 ba.2.1 (by omega) (by omega) h1
    rw [z]
    refine ⟨_, _, rfl, fun m1 e1 => ?_⟩
    have e53 : m1 536 = m 536 := by rw [e1 536 (by omega), xu_c (by omega), C.1 536 (by omega) (by omega)]
    have ec : ∀ a, a ≠ 0 → a ≠ 373 → (a < 376 ∨ 392 < a) → a ≠ 604 → m1 a = m a := fun a h1 h2 h3 h4 => by rw [e1 a h4, xu_c h1, C.1 a h2 h3]
    unfold yf318
    have rq := room_rf (B := B) (n := n) h (by omega) (by omega) e53
    rw [if_pos ⟨ho, h1, h2⟩] at rq
    rw [if_neg x1, if_neg x2, rq, xB_ret, if_neg (by decide)]
    obtain ⟨b1, y, R⟩ := stage_rf (B := B) (m := xw_u m1 536 1 0) (n := n) (f := xR m 536 31) (b := xR m 536 32) hD hM (xR_at (by decide)) (by rw [xR_ne (by omega), xR_cg e53]) (by rw [xR_ne (by omega), xR_cg e53]) fb.1 ba.2.1 (by omega) (by omega) (by omega) (by rw [xR_ne (by omega), xR_cg e53]; omega)
    rw [y]
    have mm := h.mk.e ho.1 ho.2
    have I := Inw_st h hc ho F r (by omega) h1 h2 C e1 R (fun x d x0 x1 d0 d1 => by
      have q := mm d d0 (by omega)
      show xR m 417 d = xR (xw_u m1 536 1 0) 577 d ∧ 0 ≤ xR m 417 d ∧ xR m 417 d < xR m 539 d
      rw [xR_cg (xu_c (by omega)), xR_cg (ec 577 (by omega) (by omega) (by omega) (by omega)), q.1]
      exact ⟨rfl, q.2.2 (by rw [r.cg.r14]; exact d1)⟩) (fun x k x0 x1 k0 k1 => by
      have q := mm k k0 (by omega)
      show xJ m 418 k = xJ (xw_u m1 536 1 0) 578 k
      rw [xJ_cg (xu_c (by omega)), xJ_cg (ec 578 (by omega) (by omega) (by omega) (by omega))]
      exact q.2.1)
    exact ⟨_, _, rfl, I.1, Or.inl I.2, Or.inl ⟨rfl, by rw [xR_fld (R.2.1 1 (by omega) (by omega)), xR_at (by decide)]⟩⟩
  · rw [if_neg hr]
    refine ⟨_, _, rfl, fun m1 e1 => ?_⟩
    have I := Inw_1 (x := 2) h hc e1
    unfold yf318
    rw [if_neg x1, if_neg x2, room_rf h (by omega) (by omega) (e1 536 (by omega)), xB_ret, if_neg hr, if_pos rfl, stage_no (by rw [xR_at (by decide)]; decide)]
    exact ⟨_, _, rfl, I.1, Or.inl I.2, Or.inr (Or.inr ⟨rfl, xR_at (by decide)⟩)⟩
theorem spread_op {n s : Int} (h : Inw B c m) (hc : c < 600) : opOk B c m (yf174 B n s) (yf321 B n s) ag2 := by
  unfold opOk yf174 yk174_16
  have bad : ∀ m1 : xw_M, (∀ a, a ≠ 604 → m1 a = m a) → (n < 1 ∨ 4096 < n) → ∃ v m2, yf321 B n s m1 = some (.inl v, m2) ∧ Inw B (c + 1) m2 ∧ (anF m m2 ∨ anN m2) ∧ ag2 (.inr 15) (xR m2 536 1) v := by
    intro m1 e1 hn
    have I := Inw_1 (x := 1) h hc e1
    have no := spread_no (B := B) (m := xw_u m1 536 1 1) (n := n) (s := s) (by rw [xR_at (by decide)]; decide)
    unfold yf321
    by_cases x1 : n < 1
    · rw [if_pos x1, no]; exact ⟨_, _, rfl, I.1, Or.inl I.2, Or.inr (Or.inl ⟨rfl, xR_at (by decide)⟩)⟩
    · rw [if_neg x1, if_pos (by omega), no]; exact ⟨_, _, rfl, I.1, Or.inl I.2, Or.inr (Or.inl ⟨rfl, xR_at (by decide)⟩)⟩
  by_cases x1 : n < 1
  · rw [if_pos x1]; exact ⟨_, _, rfl, fun m1 e1 => bad m1 e1 (Or.inl x1)⟩
  rw [if_neg x1]
  by_cases x2 : 4096 < n
  · rw [if_pos x2]; exact ⟨_, _, rfl, fun m1 e1 => bad m1 e1 (Or.inr x2)⟩
  rw [if_neg x2]
  show ∃ r m1, (xB (yf172 B n m) _ : xP) = _ ∧ _
  rw [room_cl h (by omega) (by omega)]
  by_cases hr : (xR m 536 2 = 1 ∧ xR m 536 3 = 0) ∧ xR m 536 32 + n ≤ 8192 ∧ xR m 536 33 + n ≤ 20000
  · rw [if_pos hr, xB_ret]
    obtain ⟨ho, h1, h2⟩ := hr
    obtain ⟨D, M, tu, K, Rf, Rv, F, ht, u, v⟩ := h.op ho.1
    have r := u ho.2
    have hD := r.cg.cn.1
    have hM := r.cg.cn.2.1
    have fb := h.cn.fb
    have ba := h.cn.ba
    have sg := h.cn.sg
    have nn : ∀ d, 0 ≤ d → d < D → xR m 539 d = xR m (15 + 26 * d) 11 ∧ 1 ≤ xR m 539 d ∧ xR m 539 d ≤ 1000 := fun d d0 d1 => by
      have q1 := (r.cg.sz d d0 d1).2.2.1
      have q2 := F.dm.2.2 d d0 d1
      have q3 := (r.cg.cn.2.2.2.2.1 d d0 d1).2.2.1
      exact ⟨q1, q2, by omega⟩
    obtain ⟨a1, z, C⟩ := spread_cl (B := B) (m := m) (n := n) (s := s) hD hM r.cg.cn.2.2.1 r.cg.cn.2.2.2.1 ba.1 ba.2.1 (by omega) (by omega) h1 (fun d d0 d1 => by have := nn d d0 d1; omega)
    rw [z]
    refine ⟨_, _, rfl, fun m1 e1 => ?_⟩
    have e53 : m1 536 = m 536 := by rw [e1 536 (by omega), xu_c (by omega), C.1 536 (by omega) (by omega)]
    have ec : ∀ a, a ≠ 0 → a ≠ 373 → (a < 376 ∨ 392 < a) → a ≠ 604 → m1 a = m a := fun a h1 h2 h3 h4 => by rw [e1 a h4, xu_c h1, C.1 a h2 h3]
    have e9 : xR (xw_u m1 536 1 0) 539 = xR m 539 := by rw [xR_cg (xu_c (by omega)), xR_cg (ec 539 (by omega) (by omega) (by omega) (by omega))]
    unfold yf321
    have rq := room_rf (B := B) (n := n) h (by omega) (by omega) e53
    rw [if_pos ⟨ho, h1, h2⟩] at rq
    rw [if_neg x1, if_neg x2, rq, xB_ret, if_neg (by decide)]
    obtain ⟨b1, y, R⟩ := spread_rf (B := B) (m := xw_u m1 536 1 0) (n := n) (s := s) (f := xR m 536 31) (b := xR m 536 32) hD hM (by rw [xR_ne (by omega), xR_cg e53]; exact r.cg.r14) (by rw [xR_ne (by omega), xR_cg e53]; exact r.cg.r19) (xR_at (by decide)) (by rw [xR_ne (by omega), xR_cg e53]) (by rw [xR_ne (by omega), xR_cg e53]) fb.1 ba.2.1 (by omega) (by omega) (by omega) (by rw [xR_ne (by omega), xR_cg e53]; omega) (fun d d0 d1 => by rw [e9]; exact (nn d d0 d1).2)
    rw [y]
    have I := Inw_st h hc ho F r (by omega) h1 h2 C e1 R (fun x d x0 x1 d0 d1 => by
      have q := nn d d0 d1
      have pb := spP_b (s := s) (N := (D + M).toNat) (nm := xR m 539) (x := x) (d := d) (by omega)
      have pe : spP s (D + M).toNat (fun d => xR m (15 + 26 * d) 11) x d = spP s (D + M).toNat (xR m 539) x d := by
        unfold spP
        rw [q.1]
      rw [e9, pe]
      exact ⟨rfl, pb⟩) (fun x k x0 x1 k0 k1 => rfl)
    exact ⟨_, _, rfl, I.1, Or.inl I.2, Or.inl ⟨rfl, by rw [xR_fld (R.2.1 1 (by omega) (by omega)), xR_at (by decide)]⟩⟩
  · rw [if_neg hr]
    refine ⟨_, _, rfl, fun m1 e1 => ?_⟩
    have I := Inw_1 (x := 2) h hc e1
    unfold yf321
    rw [if_neg x1, if_neg x2, room_rf h (by omega) (by omega) (e1 536 (by omega)), xB_ret, if_neg hr, if_pos rfl, spread_no (by rw [xR_at (by decide)]; decide)]
    exact ⟨_, _, rfl, I.1, Or.inl I.2, Or.inr (Or.inr ⟨rfl, xR_at (by decide)⟩)⟩
end STG2
