/-! OPERATIONS: feed, trim, fault, state, writes -/
section OPS1
variable {B : Nat} {m : xw_M} {c : Int}
/-- the text alone is another -/
theorem Inw_tx {m' : xw_M} (h : Inw B c m) (hc : c < 600) (e : ∀ a, a ≠ 1 → a ≠ 2 → a ≠ 536 → a ≠ 537 → a ≠ 604 → m' a = m a) (f : ∀ k, k ≠ 1 → k ≠ 5 → k ≠ 6 → k ≠ 7 → m' 536 k = m 536 k) (t : txt m') : Inw B (c + 1) m' ∧ anF m m' := by
  have f2 : xR m' 536 2 = xR m 536 2 := xR_fld (f 2 (by omega) (by omega) (by omega) (by omega))
  have f3 : xR m' 536 3 = xR m 536 3 := xR_fld (f 3 (by omega) (by omega) (by omega) (by omega))
  refine ⟨⟨h.bd, ⟨by have := h.cc.1; omega, by omega⟩, ptr_fr h.pt (fun k hk => f k (by omega) (by omega) (by omega) (by omega)) (fun k _ => by rw [e 0 (by omega) (by omega) (by omega) (by omega) (by omega)]), tps_fr h.tp (by rw [e 508 (by omega) (by omega) (by omega) (by omega) (by omega)]) (f 49 (by omega) (by omega) (by omega) (by omega)) (fun a ha => e a (by omega) (by omega) (by omega) (by omega) (by omega)) (by
      obtain ⟨p, hp⟩ := h.tp.2.2.2.2
      exact ⟨p, rs_fr hp (e 530 (by omega) (by omega) (by omega) (by omega) (by omega))⟩), sta_fr h.st (fun k hk => f k (by omega) (by omega) (by omega) (by omega)) (by rw [e 0 (by omega) (by omega) (by omega) (by omega) (by omega)]), t, cnr_fr h.cn (by omega) (fun k _ => by rw [e 0 (by omega) (by omega) (by omega) (by omega) (by omega)]) (fun k _ => by rw [e 508 (by omega) (by omega) (by omega) (by omega) (by omega)]) (by rw [e 373 (by omega) (by omega) (by omega) (by omega) (by omega)]) (fun k hk => f k (by omega) (by omega) (by omega) (by omega)), mak_fr h.mk (fun k hk => f k (by omega) (by omega) (by omega) (by omega)) (fun a ha => e a (by omega) (by omega) (by omega) (by omega) (by omega)), fun h2 => ?_, fun h2 => ?_⟩, fun h3 => by rw [f3] at h3; exact h3, fun k _ => by rw [e 0 (by omega) (by omega) (by omega) (by omega) (by omega)], fun a a0 a1 => e a (by omega) (by omega) (by omega) (by omega) (by omega), fun k hk => f k (by omega) (by omega) (by omega) (by omega), fun a ha => e a (by omega) (by omega) (by omega) (by omega) (by omega)⟩
  · rw [f2] at h2
    exact nwS_fr (h.nw h2) (e 516 (by omega) (by omega) (by omega) (by omega) (by omega)) (fun a a0 a1 => e a (by omega) (by omega) (by omega) (by omega) (by omega)) (fun k hk => by rw [e 508 (by omega) (by omega) (by omega) (by omega) (by omega)]) (fun k hk => f k (by omega) (by omega) (by omega) (by omega)) (fun a ha => e a (by omega) (by omega) (by omega) (by omega) (by omega))
  · rw [f2] at h2
    obtain ⟨D, M, tu, K, Rf, Rv, F, ht, u, v⟩ := h.op h2
    refine ⟨D, M, tu, K, Rf, Rv, dsk_fr F ⟨e 538 (by omega) (by omega) (by omega) (by omega) (by omega), e 539 (by omega) (by omega) (by omega) (by omega) (by omega), e 573 (by omega) (by omega) (by omega) (by omega) (by omega), fun i _ _ => ⟨by rw [e 575 (by omega) (by omega) (by omega) (by omega) (by omega)], by rw [e 576 (by omega) (by omega) (by omega) (by omega) (by omega)]⟩⟩ (fun a ha => e a (by omega) (by omega) (by omega) (by omega) (by omega)) (fun k hk => f k (by omega) (by omega) (by omega) (by omega)) (fun x _ _ => by rw [e 516 (by omega) (by omega) (by omega) (by omega) (by omega)]), by omega, fun h3 => ?_, fun h3 => ?_⟩
    · rw [f3] at h3
      exact ram_fr (u h3) (fun a a0 a1 => e a (by omega) (by omega) (by omega) (by omega) (by omega)) (fun k hk => by rw [e 508 (by omega) (by omega) (by omega) (by omega) (by omega)]) (fun a a0 a1 => e a (by omega) (by omega) (by omega) (by omega) (by omega)) (fun k hk => f k (by omega) (by omega) (by omega) (by omega)) (fun a ha => e a (by omega) (by omega) (by omega) (by omega) (by omega)) (bt_fr (u h3) (fun a a0 a1 => e a (by omega) (by omega) (by omega) (by omega) (by omega)) (fun k hk => f k (by omega) (by omega) (by omega) (by omega)) (fun a ha => e a (by omega) (by omega) (by omega) (by omega) (by omega)))
    · rw [f3] at h3
      rw [xR_cg (e 3 (by omega) (by omega) (by omega) (by omega) (by omega)), xR_cg (e 508 (by omega) (by omega) (by omega) (by omega) (by omega))]
      exact v h3
theorem feed_ok {p0 p1 p2 p3 p4 : Int} (h : Inw B c m) (hc : c < 600) (q0 : w32 p0 = p0) (q1 : w32 p1 = p1) (q2 : w32 p2 = p2) (q3 : w32 p3 = p3) (q4 : w32 p4 = p4) : opOk B c m (yf37 B p0 p1 p2 p3 p4) (yf244 B p0 p1 p2 p3 p4) ag1 := by
  obtain ⟨d1, d2, d3⟩ := sta_dn h.st
  obtain ⟨⟨t1, t2, t3⟩, t4, t5', t6, t7⟩ := h.tx
  unfold opOk yf37
  by_cases hd : xR m 536 3 = 1
  · rw [fdown (d1.mpr hd)]
    refine ⟨_, _, rfl, fun m1 e1 => ?_⟩
    have e3 : xR m1 536 3 = 1 := (xR_cg (e1 536 (by omega)) ▸ hd : _)
    unfold yf244
    rw [if_neg (by omega)]
    have I := Inw_1 (x := 1) h hc e1
    exact ⟨_, _, rfl, I.1, Or.inl I.2, Or.inr ⟨rfl, xR_at (by decide)⟩⟩
  · have hd0 : xR m 536 3 = 0 := by have := h.st.2.1; omega
    rw [fup (by rw [Ne, d1]; exact hd), xB_ret]
    by_cases hl : 65516 < xR m 1 1
    · rw [if_pos hl]
      refine ⟨_, _, rfl, fun m1 e1 => ?_⟩
      have e3 : xR m1 536 3 = 0 := by rw [xR_cg (e1 536 (by omega))]; exact hd0
      have e5 : xR m1 536 5 = xR m 536 5 := by rw [xR_cg (e1 536 (by omega))]
      unfold yf244
      rw [if_pos e3, e5, w32_id (by omega) (by omega), if_pos (by omega)]
      have I := Inw_1 (x := 1) h hc e1
      exact ⟨_, _, rfl, I.1, Or.inl I.2, Or.inr ⟨rfl, xR_at (by decide)⟩⟩
    · rw [if_neg hl]
      generalize hs : xR m 1 1 = s at *
      show ∃ r m1, (xB (some (.inl 0, m)) _ : xP) = _ ∧ _
      rw [xB_ret]
      obtain ⟨a1, z1, w1⟩ := app_ok (B := B) (x := p0) hs t2 (by omega)
      obtain ⟨a2, z2, w2⟩ := app_ok (B := B) (x := p1) w1.1 (by omega) (by omega)
      obtain ⟨a3, z3, w3⟩ := app_ok (B := B) (x := p2) w2.1 (by omega) (by omega)
      obtain ⟨a4, z4, w4⟩ := app_ok (B := B) (x := p3) w3.1 (by omega) (by omega)
      obtain ⟨a5, z5, w5⟩ := app_ok (B := B) (x := p4) w4.1 (by omega) (by omega)
      rw [z1, xB_ret, z2, xB_ret, z3, xB_ret, z4, xB_ret, z5, xB_ret]
      have C := t5_of w1 w2 w3 w4 w5
      refine ⟨_, _, rfl, fun m1 e1 => ?_⟩
      have e53 : m1 536 = m 536 := by rw [e1 536 (by omega), C.2.2.1 536 (by omega) (by omega)]
      have e3 : xR m1 536 3 = 0 := by rw [xR_cg e53]; exact hd0
      have e5 : xR m1 536 5 = s := by rw [xR_cg e53]; exact t1.symm
      unfold yf244
      rw [if_pos e3, e5, w32_id (by omega) (by omega), if_neg (by omega)]
      obtain ⟨b1, y1, v1⟩ := lay_ok (B := B) (m := xw_u m1 536 1 0) (x := p0) (s := s) q0 (by rw [xR_ne (by omega)]; exact e5) t2 (by omega)
      obtain ⟨b2, y2, v2⟩ := lay_ok (B := B) (x := p1) q1 v1.1 (by omega) (by omega)
      obtain ⟨b3, y3, v3⟩ := lay_ok (B := B) (x := p2) q2 v2.1 (by omega) (by omega)
      obtain ⟨b4, y4, v4⟩ := lay_ok (B := B) (x := p3) q3 v3.1 (by omega) (by omega)
      obtain ⟨b5, y5, v5⟩ := lay_ok (B := B) (x := p4) q4 v4.1 (by omega) (by omega)
      rw [y1, xB_ret, y2, xB_ret, y3, xB_ret, y4, xB_ret, y5, xB_ret]
      have R := t5_of v1 v2 v3 v4 v5
      obtain ⟨c1, c2, c3, c4, c5⟩ := C
      obtain ⟨r1, r2, r3, r4, r5⟩ := R
      have eo : ∀ a, a ≠ 1 → a ≠ 2 → a ≠ 536 → a ≠ 537 → a ≠ 604 → b5 a = m a := fun a h1 h2 h3 h4 h5 => by
        rw [r3 a h3 h4, xu_c h3, e1 a h5, c3 a h1 h2]
      have ef : ∀ k, k ≠ 1 → k ≠ 5 → k ≠ 6 → k ≠ 7 → b5 536 k = m 536 k := fun k h1 h2 _ _ => by
        rw [r2 k h2, xu_ne (by omega), e53]
      have g1 : b5 1 = a5 1 := by rw [r3 1 (by omega) (by omega), xu_c (by omega), e1 1 (by omega)]
      have g2 : b5 2 = a5 2 := by rw [r3 2 (by omega) (by omega), xu_c (by omega), e1 2 (by omega)]
      have g3 : ∀ i, i < s ∨ s + 20 ≤ i → b5 537 i = m 537 i := fun i hi => by rw [r4 i hi, xu_c (by omega), e1 537 (by omega), c3 537 (by omega) (by omega)]
      have I := Inw_tx (m' := b5) h hc eo ef ⟨⟨by rw [xR_cg g1, c1, r1], by rw [xR_cg g1, c1]; omega, by rw [xR_cg g1, c1]; omega⟩, fun i i0 i1 => ?_, fun i => ?_, ?_, ?_⟩
      · exact ⟨_, _, rfl, I.1, Or.inl I.2, Or.inl ⟨by rw [c1, r1], by rw [xR_fld (r2 1 (by omega)), xR_at (by decide)]⟩⟩
      · rw [xR_cg g1, c1] at i1
        rw [xR_cg g2]
        unfold xR
        by_cases k0 : i < s
        · rw [c4 i (by omega), g3 i (by omega)]
          exact t4 i i0 k0
        · by_cases k1 : i < s + 4
          · have := c5 (i - s) (by omega) (by omega)
            have := r5 (i - s) (by omega) (by omega)
            rw [show i = s + (i - s) by omega, (c5 (i - s) (by omega) (by omega)).1, (r5 (i - s) (by omega) (by omega)).1]
          · by_cases k2 : i < s + 4 + 4
            · rw [show i = s + 4 + (i - (s + 4)) by omega, (c5 (i - (s + 4)) (by omega) (by omega)).2.1, (r5 (i - (s + 4)) (by omega) (by omega)).2.1]
            · by_cases k3 : i < s + 4 + 4 + 4
              · rw [show i = s + 4 + 4 + (i - (s + 4 + 4)) by omega, (c5 (i - (s + 4 + 4)) (by omega) (by omega)).2.2.1, (r5 (i - (s + 4 + 4)) (by omega) (by omega)).2.2.1]
              · by_cases k4 : i < s + 4 + 4 + 4 + 4
                · rw [show i = s + 4 + 4 + 4 + (i - (s + 4 + 4 + 4)) by omega, (c5 (i - (s + 4 + 4 + 4)) (by omega) (by omega)).2.2.2.1, (r5 (i - (s + 4 + 4 + 4)) (by omega) (by omega)).2.2.2.1]
                · rw [show i = s + 4 + 4 + 4 + 4 + (i - (s + 4 + 4 + 4 + 4)) by omega, (c5 (i - (s + 4 + 4 + 4 + 4)) (by omega) (by omega)).2.2.2.2, (r5 (i - (s + 4 + 4 + 4 + 4)) (by omega) (by omega)).2.2.2.2]
      · rw [xR_cg g2]
        unfold xR
        by_cases k0 : i < s ∨ s + 20 ≤ i
        · rw [c4 i k0]; exact t5' i
        · by_cases k1 : i < s + 4
          · rw [show i = s + (i - s) by omega, (c5 (i - s) (by omega) (by omega)).1]; exact w8_bx _ _
          · by_cases k2 : i < s + 4 + 4
            · rw [show i = s + 4 + (i - (s + 4)) by omega, (c5 (i - (s + 4)) (by omega) (by omega)).2.1]; exact w8_bx _ _
            · by_cases k3 : i < s + 4 + 4 + 4
              · rw [show i = s + 4 + 4 + (i - (s + 4 + 4)) by omega, (c5 (i - (s + 4 + 4)) (by omega) (by omega)).2.2.1]; exact w8_bx _ _
              · by_cases k4 : i < s + 4 + 4 + 4 + 4
                · rw [show i = s + 4 + 4 + 4 + (i - (s + 4 + 4 + 4)) by omega, (c5 (i - (s + 4 + 4 + 4)) (by omega) (by omega)).2.2.2.1]; exact w8_bx _ _
                · rw [show i = s + 4 + 4 + 4 + 4 + (i - (s + 4 + 4 + 4 + 4)) by omega, (c5 (i - (s + 4 + 4 + 4 + 4)) (by omega) (by omega)).2.2.2.2]; exact w8_bx _ _
      · rw [xR_cg g1, xR_fld (c2 6 (by omega)), xR_fld (r2 6 (by omega)), xR_ne (by omega), xR_cg e53]; exact t6
      · rw [xR_cg g1, xR_fld (c2 7 (by omega)), xR_fld (r2 7 (by omega)), xR_ne (by omega), xR_cg e53]; exact t7
end OPS1
