/-! Disk.restore -/
/-- what restore may change -/
def rr (m m' : xw_M) : Prop := (∀ a, a ≠ 508 → a ≠ 530 → (a < 511 ∨ 515 < a) → m' a = m a) ∧ (∀ k, k ≠ 8 → k ≠ 9 → k ≠ 10 → k ≠ 11 → k ≠ 14 → m' 508 k = m 508 k) ∧ ∀ k, k ≠ 2 → m' 530 k = m 530 k
theorem rr_refl (m : xw_M) : rr m m := ⟨fun _ _ _ _ => rfl, fun _ _ _ _ _ _ => rfl, fun _ _ => rfl⟩
theorem rr_g {m m1 m2 : xw_M} (h : rr m m1) (g : rg m1 m2) : rr m m2 := ⟨fun a h1 h2 h3 => (g.1 a h2).trans (h.1 a h1 h2 h3), fun k h1 h2 h3 h4 h5 => by rw [g.1 508 (by decide)]; exact h.2.1 k h1 h2 h3 h4 h5, fun k hk => (g.2 k hk).trans (h.2.2 k hk)⟩
theorem rr_a {m m1 : xw_M} {c i v : Int} (h : rr m m1) (h0 : 511 ≤ c) (h1 : c ≤ 515) : rr m (xw_u m1 c i v) := ⟨fun a k1 k2 k3 => by rw [xu_c (by omega)]; exact h.1 a k1 k2 k3, fun k k1 k2 k3 k4 k5 => by rw [xu_c (by omega)]; exact h.2.1 k k1 k2 k3 k4 k5, fun k hk => by rw [xu_c (by omega)]; exact h.2.2 k hk⟩
theorem rr_d {m m1 : xw_M} {i v : Int} (h : rr m m1) (hi : i = 8 ∨ i = 9 ∨ i = 10 ∨ i = 11 ∨ i = 14) : rr m (xw_u m1 508 i v) := ⟨fun a k1 k2 k3 => by rw [xu_c k1]; exact h.1 a k1 k2 k3, fun k k1 k2 k3 k4 k5 => by
    unfold xw_u
    rw [if_neg (fun e => by omega)]
    exact h.2.1 k k1 k2 k3 k4 k5, fun k hk => by rw [xu_c (by decide)]; exact h.2.2 k hk⟩
def rh (B : Nat) (m : xw_M) : xP := xB (yf19 B 530 32 m) fun v1 m1 => xB (yf19 B 530 32 (xw_u m1 508 8 v1)) fun v2 m2 => xB (yf20 B 530 32 20000 (xw_u m2 508 9 v2)) fun v3 m3 => xB (yf20 B 530 16 16 (xw_u m3 508 10 v3)) fun v4 m4 => xB (yf20 B 530 16 200 (xw_u m4 508 11 v4)) fun v5 m5 => xl1 (yl18_135 B) 1000000 0 (xw_u m5 508 14 v5)
section REST
variable {B : Nat} {m : xw_M}
theorem upto_b {p b c : Int} {v : Int} (hB : B ≤ 512) (h : rs B m p) (hb : 0 ≤ b) (hb2 : b ≤ 64) (hf : p + b ≤ 64 * (B * 512 : Nat)) (hv : tk (m 516) p b.toNat = v) (h0 : 0 ≤ v) (hc : v ≤ c) (hc2 : c < 2147483648) : ∃ m', yf20 B 530 b c m = some (.inl v, m') ∧ rs B m' (p + b) ∧ rg m m' := by
  obtain ⟨m', e, R, G⟩ := take_b hB h hb hb2 hf
  refine ⟨m', ?_, R, G⟩
  unfold yf20
  rw [if_pos (by decide), e, xB_ret, hv, show min v c = v from by omega, w32_id (by omega) (by omega)]
theorem restore_in {q tu lo fa vi ex : Int} {VN VR K S L : Int → Int} (hB : B ≤ 512) (hq0 : 0 ≤ q) (hq : q + 32768 ≤ 64 * (B * 512 : Nat)) (hR : rs B m q) (hb : xR m 508 0 = (B : Int)) (M : Man (m 516) q tu lo fa vi ex VN VR K S L) (htu : w32 tu = tu) (hlo : w32 lo = lo) (fa0 : 0 ≤ fa) (fa1 : fa ≤ 20000) (vi0 : 0 ≤ vi) (vi1 : vi ≤ 16) (ex0 : 0 ≤ ex) (ex1 : ex ≤ 200) (hVN : ∀ i, 0 ≤ i → i < vi → w32 (VN i) = VN i ∧ w32 (VR i) = VR i) (hE : ∀ e, 0 ≤ e → e < ex → (0 ≤ K e ∧ K e < 256) ∧ (0 ≤ S e ∧ S e < B) ∧ 0 ≤ L e ∧ S e + L e ≤ B) : ∃ m', rh B m = some (.inl 1, m') ∧ rr m m' ∧ (xR m' 508 8 = tu ∧ xR m' 508 9 = lo ∧ xR m' 508 10 = fa ∧ xR m' 508 11 = vi ∧ xR m' 508 14 = ex) ∧ (∀ i, 0 ≤ i → i < vi → xR m' 511 i = VN i ∧ xR m' 512 i = VR i) ∧ ∀ e, 0 ≤ e → e < ex → xR m' 513 e = K e ∧ xR m' 514 e = S e ∧ xR m' 515 e = L e := by
  obtain ⟨M1, M2, M3, M4, M5, M6, M7⟩ := M
  have w5 : ∀ {m'}, rr m m' → m' 516 = m 516 := fun h => h.1 516 (by decide) (by decide) (Or.inr (by decide))
  obtain ⟨m1, e1, R1, G1⟩ := take_b (b := 32) hB hR (by decide) (by decide) (by omega)
  have r1 : rr m (xw_u m1 508 8 tu) := rr_d (rr_g (rr_refl m) G1) (Or.inl rfl)
  have v1 : xR (xw_u m1 508 8 (msk tu 32)) 508 8 = tu := by rw [xR_u, if_pos ⟨rfl, rfl⟩, msk_32, htu]
  have r1 : rr m (xw_u m1 508 8 (msk tu 32)) := rr_d (rr_g (rr_refl m) G1) (Or.inl rfl)
  obtain ⟨m2, e2, R2, G2⟩ := take_b (b := 32) hB (rs_u (c := 508) (i := 8) (v := msk tu 32) R1 (by decide)) (by decide) (by decide) (by omega)
  have r2 : rr m (xw_u m2 508 9 (msk lo 32)) := rr_d (rr_g r1 G2) (Or.inr (Or.inl rfl))
  have t3 : tk ((xw_u m2 508 9 (msk lo 32)) 516) (q + 32 + 32) (Int.toNat 32) = fa := by
    rw [w5 r2, show q + 32 + 32 = q + 64 from by omega]
    exact M3.trans (msk_nn fa0 (by omega) (by decide))
  obtain ⟨m3, e3, R3, G3⟩ := upto_b (b := 32) (c := 20000) hB (rs_u (c := 508) (i := 9) (v := msk lo 32) R2 (by decide)) (by decide) (by decide) (by omega) t3 fa0 fa1 (by decide)
  have r3 : rr m (xw_u m3 508 10 fa) := rr_d (rr_g r2 G3) (Or.inr (Or.inr (Or.inl rfl)))
  have t4 : tk ((xw_u m3 508 10 fa) 516) (q + 32 + 32 + 32) (Int.toNat 16) = vi := by
    rw [w5 r3, show q + 32 + 32 + 32 = q + 96 from by omega]
    exact M4.trans (msk_nn vi0 (by omega) (by decide))
  obtain ⟨m4, e4, R4, G4⟩ := upto_b (b := 16) (c := 16) hB (rs_u (c := 508) (i := 10) (v := fa) R3 (by decide)) (by decide) (by decide) (by omega) t4 vi0 vi1 (by decide)
  have r4 : rr m (xw_u m4 508 11 vi) := rr_d (rr_g r3 G4) (Or.inr (Or.inr (Or.inr (Or.inl rfl))))
  have t5 : tk ((xw_u m4 508 11 vi) 516) (q + 32 + 32 + 32 + 16) (Int.toNat 16) = ex := by
    rw [w5 r4, show q + 32 + 32 + 32 + 16 = q + 112 from by omega]
    exact M5.trans (msk_nn ex0 (by omega) (by decide))
  obtain ⟨m5, e5, R5, G5⟩ := upto_b (b := 16) (c := 200) hB (rs_u (c := 508) (i := 11) (v := vi) R4 (by decide)) (by decide) (by decide) (by omega) t5 ex0 ex1 (by decide)
  have r5 : rr m (xw_u m5 508 14 ex) := rr_d (rr_g r4 G5) (Or.inr (Or.inr (Or.inr (Or.inr rfl))))
  have k1 : tk (m 516) q (Int.toNat 32) = msk tu 32 := M1
  have k2 : tk ((xw_u m1 508 8 (msk tu 32)) 516) (q + 32) (Int.toNat 32) = msk lo 32 := by
    rw [w5 r1]
    exact M2
  unfold rh
  rw [e1, xB_ret, k1, e2, xB_ret, k2, e3, xB_ret, e4, xB_ret, e5, xB_ret]
  have g : ∀ k v, xR (xw_u m5 508 14 ex) 508 k = v ↔ xR (xw_u m5 508 14 ex) 508 k = v := fun _ _ => Iff.rfl
  have h14 : xR (xw_u m5 508 14 ex) 508 14 = ex := by rw [xR_u, if_pos ⟨rfl, rfl⟩, w32_id (by omega) (by omega)]
  have h11 : xR (xw_u m5 508 14 ex) 508 11 = vi := by rw [xR_u, if_neg (fun h => absurd h.2 (by decide)), xR_cg (G5.1 508 (by decide)), xR_u, if_pos ⟨rfl, rfl⟩, w32_id (by omega) (by omega)]
  have h10 : xR (xw_u m5 508 14 ex) 508 10 = fa := by rw [xR_u, if_neg (fun h => absurd h.2 (by decide)), xR_cg (G5.1 508 (by decide)), xR_u, if_neg (fun h => absurd h.2 (by decide)), xR_cg (G4.1 508 (by decide)), xR_u, if_pos ⟨rfl, rfl⟩, w32_id (by omega) (by omega)]
  have h9 : xR (xw_u m5 508 14 ex) 508 9 = lo := by rw [xR_u, if_neg (fun h => absurd h.2 (by decide)), xR_cg (G5.1 508 (by decide)), xR_u, if_neg (fun h => absurd h.2 (by decide)), xR_cg (G4.1 508 (by decide)), xR_u, if_neg (fun h => absurd h.2 (by decide)), xR_cg (G3.1 508 (by decide)), xR_u, if_pos ⟨rfl, rfl⟩, msk_32, hlo]
  have h8 : xR (xw_u m5 508 14 ex) 508 8 = tu := by rw [xR_u, if_neg (fun h => absurd h.2 (by decide)), xR_cg (G5.1 508 (by decide)), xR_u, if_neg (fun h => absurd h.2 (by decide)), xR_cg (G4.1 508 (by decide)), xR_u, if_neg (fun h => absurd h.2 (by decide)), xR_cg (G3.1 508 (by decide)), xR_u, if_neg (fun h => absurd h.2 (by decide)), xR_cg (G2.1 508 (by decide)), v1]
  have R6 : rs B (xw_u m5 508 14 ex) (q + 128) := by
    have := rs_u (c := 508) (i := 14) (v := ex) R5 (by decide)
    rw [show q + 32 + 32 + 32 + 16 + 16 = q + 128 from by omega] at this
    exact this
  generalize hm6 : xw_u m5 508 14 ex = m6 at *
  clear hm6 e1 e2 e3 e4 e5 R1 R2 R3 R4 R5 G1 G2 G3 G4 G5 r1 r2 r3 r4 t3 t4 t5 k1 k2 v1 g M1 M2 M3 M4 M5
  generalize hN : (1000000 : Nat) = N
  have goal := xH_ex (Q := fun v m' => v = 1 ∧ rr m m' ∧ m' 508 = m6 508 ∧ (∀ i, 0 ≤ i → i < vi → xR m' 511 i = VN i ∧ xR m' 512 i = VR i) ∧ ∀ e, 0 ≤ e → e < ex → xR m' 513 e = K e ∧ xR m' 514 e = S e ∧ xR m' 515 e = L e) (xl1_rule (F := yl18_135 B) (fun x m' => 0 ≤ x ∧ x ≤ vi ∧ rs B m' (q + 128 + 64 * x) ∧ rr m m' ∧ m' 508 = m6 508 ∧ ∀ i, 0 ≤ i → i < x → xR m' 511 i = VN i ∧ xR m' 512 i = VR i) (fun x _ => (vi - x).toNat) ?_ N 0 m6 ⟨by omega, vi0, by rw [show q + 128 + 64 * 0 = q + 128 from by omega]; exact R6, r5, rfl, fun i i0 i1 => absurd i1 (Int.not_lt.mpr i0)⟩ (by omega))
  · obtain ⟨v, m', e, rfl, rr', h508, V', E'⟩ := goal
    have hc := xR_cg h508
    exact ⟨m', e, rr', ⟨by rw [hc]; exact h8, by rw [hc]; exact h9, by rw [hc]; exact h10, by rw [hc]; exact h11, by rw [hc]; exact h14⟩, V', E'⟩
  · intro r x mx ⟨x0, x1, Rx, rx, hx8, Vx⟩ ih
    unfold yl18_135
    rw [xR_cg hx8, h11]
    by_cases hx : x < vi
    · obtain ⟨b1, b2⟩ := M6 x x0 hx
      obtain ⟨n1, n2⟩ := hVN x x0 hx
      obtain ⟨ma, ea, Ra, Ga⟩ := take_b (b := 32) hB Rx (by decide) (by decide) (by omega)
      have b1' : tk (mx 516) (q + 128 + 64 * x) (Int.toNat 32) = msk (VN x) 32 := by rw [w5 rx]; exact b1
      have ra : rr m (xw_u ma 511 x (msk (VN x) 32)) := rr_a (rr_g rx Ga) (by decide) (by decide)
      obtain ⟨mb, eb, Rb, Gb⟩ := take_b (b := 32) hB (rs_u (c := 511) (i := x) (v := msk (VN x) 32) Ra (by decide)) (by decide) (by decide) (by omega)
      have b2' : tk ((xw_u ma 511 x (msk (VN x) 32)) 516) (q + 128 + 64 * x + 32) (Int.toNat 32) = msk (VR x) 32 := by
        rw [w5 ra, show q + 128 + 64 * x + 32 = q + 160 + 64 * x from by omega]
        exact b2
      rw [if_pos hx, ea, xB_ret, if_pos ⟨x0, by omega⟩, b1', eb, xB_ret, b2', w32_id (by omega) (by omega)]
      refine ih _ _ ⟨by omega, by omega, ?_, rr_a (rr_g ra Gb) (by decide) (by decide), ?_, fun i i0 i1 => ?_⟩ (by omega)
      · have := rs_u (c := 512) (i := x) (v := msk (VR x) 32) Rb (by decide)
        rw [show q + 128 + 64 * (x + 1) = q + 128 + 64 * x + 32 + 32 from by omega]
        exact this
      · rw [xu_c (by decide), Gb.1 508 (by decide), xu_c (by decide), Ga.1 508 (by decide)]
        exact hx8
      · by_cases e : i = x
        · subst e
          refine ⟨?_, ?_⟩
          · rw [xR_u, if_neg (fun h => absurd h.1 (by decide)), xR_cg (Gb.1 511 (by decide)), xR_u, if_pos ⟨rfl, rfl⟩, msk_32, n1]
          · rw [xR_u, if_pos ⟨rfl, rfl⟩, msk_32, n2]
        · obtain ⟨d1, d2⟩ := Vx i i0 (by omega)
          refine ⟨?_, ?_⟩
          · rw [xR_u, if_neg (fun h => absurd h.1 (by decide)), xR_cg (Gb.1 511 (by decide)), xR_u, if_neg (fun h => e h.2), xR_cg (Ga.1 511 (by decide))]
            exact d1
          · rw [xR_u, if_neg (fun h => e h.2), xR_cg (Gb.1 512 (by decide)), xR_u, if_neg (fun h => absurd h.1 (by decide)), xR_cg (Ga.1 512 (by decide))]
            exact d2
    · have exv : x = vi := by omega
      subst exv
      rw [if_neg hx]
      generalize hM : (1000000 : Nat) = N'
      refine xl1_rule (F := yl18_187 B) (fun y m' => 0 ≤ y ∧ y ≤ ex ∧ rs B m' (q + 128 + 64 * x + 40 * y) ∧ rr m m' ∧ m' 508 = m6 508 ∧ m' 511 = mx 511 ∧ m' 512 = mx 512 ∧ ∀ e, 0 ≤ e → e < y → xR m' 513 e = K e ∧ xR m' 514 e = S e ∧ xR m' 515 e = L e) (fun y _ => (ex - y).toNat) ?_ N' 0 mx ⟨by omega, ex0, by rw [show q + 128 + 64 * x + 40 * 0 = q + 128 + 64 * x from by omega]; exact Rx, rx, hx8, rfl, rfl, fun i i0 i1 => absurd i1 (Int.not_lt.mpr i0)⟩ (by omega)
      intro r' y my ⟨y0, y1, Ry, ry, hy8, hy1, hy2, Vy⟩ ih'
      have hyb : xR my 508 0 = B := by
        unfold xR
        rw [ry.2.1 0 (by decide) (by decide) (by decide) (by decide) (by decide)]
        exact hb
      unfold yl18_187
      rw [xR_cg hy8, h14]
      by_cases hy : y < ex
      · obtain ⟨b1, b2, b3⟩ := M7 y y0 hy
        obtain ⟨⟨n1, n2⟩, ⟨n3, n4⟩, n5, n6⟩ := hE y y0 hy
        obtain ⟨ma, ea, Ra, Ga⟩ := take_b (b := 8) hB Ry (by decide) (by decide) (by omega)
        have b1' : tk (my 516) (q + 128 + 64 * x + 40 * y) (Int.toNat 8) = K y := by
          rw [w5 ry]
          exact b1.trans (msk_nn n1 (by omega) (by decide))
        have ra : rr m (xw_u ma 513 y (K y)) := rr_a (rr_g ry Ga) (by decide) (by decide)
        have b2' : tk ((xw_u ma 513 y (K y)) 516) (q + 128 + 64 * x + 40 * y + 8) (Int.toNat 16) = S y := by
          rw [w5 ra, show q + 128 + 64 * x + 40 * y + 8 = q + 136 + 64 * x + 40 * y from by omega]
          exact b2.trans (msk_nn n3 (by omega) (by decide))
        obtain ⟨mb, eb, Rb, Gb⟩ := upto_b (b := 16) (c := (B : Int) - 1) hB (rs_u (c := 513) (i := y) (v := K y) Ra (by decide)) (by decide) (by decide) (by omega) b2' n3 (by omega) (by omega)
        have rb : rr m (xw_u mb 514 y (S y)) := rr_a (rr_g ra Gb) (by decide) (by decide)
        have b3' : tk ((xw_u mb 514 y (S y)) 516) (q + 128 + 64 * x + 40 * y + 8 + 16) (Int.toNat 16) = L y := by
          rw [w5 rb, show q + 128 + 64 * x + 40 * y + 8 + 16 = q + 152 + 64 * x + 40 * y from by omega]
          exact b3.trans (msk_nn n5 (by omega) (by decide))
        obtain ⟨mc, ec, Rc, Gc⟩ := upto_b (b := 16) (c := (B : Int) - S y) hB (rs_u (c := 514) (i := y) (v := S y) Rb (by decide)) (by decide) (by decide) (by omega) b3' n5 (by omega) (by omega)
        have rc : rr m (xw_u mc 515 y (L y)) := rr_a (rr_g rb Gc) (by decide) (by decide)
        have q1 : xR ma 508 0 = B := by rw [xR_cg (Ga.1 508 (by decide))]; exact hyb
        have q2 : xR mb 508 0 = B := by rw [xR_cg (Gb.1 508 (by decide)), xR_cg (xu_c (by decide))]; exact q1
        rw [if_pos hy, ea, xB_ret, if_pos ⟨y0, by omega⟩, b1', q1, w32_id (x := (B : Int) - 1) (by omega) (by omega), eb, xB_ret, q2, w32_id (x := (B : Int) - S y) (by omega) (by omega), ec, xB_ret, w32_id (by omega) (by omega)]
        refine ih' _ _ ⟨by omega, by omega, ?_, rc, ?_, ?_, ?_, fun e i0 i1 => ?_⟩ (by omega)
        · have := rs_u (c := 515) (i := y) (v := L y) Rc (by decide)
          rw [show q + 128 + 64 * x + 40 * (y + 1) = q + 128 + 64 * x + 40 * y + 8 + 16 + 16 from by omega]
          exact this
        · rw [xu_c (by decide), Gc.1 508 (by decide), xu_c (by decide), Gb.1 508 (by decide), xu_c (by decide), Ga.1 508 (by decide)]
          exact hy8
        · rw [xu_c (by decide), Gc.1 511 (by decide), xu_c (by decide), Gb.1 511 (by decide), xu_c (by decide), Ga.1 511 (by decide)]
          exact hy1
        · rw [xu_c (by decide), Gc.1 512 (by decide), xu_c (by decide), Gb.1 512 (by decide), xu_c (by decide), Ga.1 512 (by decide)]
          exact hy2
        · have z3 : xR (xw_u mc 515 y (L y)) 513 e = if e = y then w32 (K y) else xR my 513 e := by
            rw [xR_u, if_neg (fun h => absurd h.1 (by decide)), xR_cg (Gc.1 513 (by decide)), xR_u, if_neg (fun h => absurd h.1 (by decide)), xR_cg (Gb.1 513 (by decide)), xR_u, xR_cg (Ga.1 513 (by decide))]
            by_cases h : e = y
            · rw [if_pos ⟨rfl, h⟩, if_pos h]
            · rw [if_neg (fun h' => h h'.2), if_neg h]
          have z4 : xR (xw_u mc 515 y (L y)) 514 e = if e = y then w32 (S y) else xR my 514 e := by
            rw [xR_u, if_neg (fun h => absurd h.1 (by decide)), xR_cg (Gc.1 514 (by decide)), xR_u, xR_cg (Gb.1 514 (by decide)), xR_cg (xu_c (show (514 : Int) ≠ 513 by decide)), xR_cg (Ga.1 514 (by decide))]
            by_cases h : e = y
            · rw [if_pos ⟨rfl, h⟩, if_pos h]
            · rw [if_neg (fun h' => h h'.2), if_neg h]
          have z5 : xR (xw_u mc 515 y (L y)) 515 e = if e = y then w32 (L y) else xR my 515 e := by
            rw [xR_u, xR_cg (Gc.1 515 (by decide)), xR_cg (xu_c (show (515 : Int) ≠ 514 by decide)), xR_cg (Gb.1 515 (by decide)), xR_cg (xu_c (show (515 : Int) ≠ 513 by decide)), xR_cg (Ga.1 515 (by decide))]
            by_cases h : e = y
            · rw [if_pos ⟨rfl, h⟩, if_pos h]
            · rw [if_neg (fun h' => h h'.2), if_neg h]
          rw [z3, z4, z5]
          by_cases h : e = y
          · rw [if_pos h, if_pos h, if_pos h, h, w32_id (by omega) (by omega), w32_id (by omega) (by omega), w32_id (by omega) (by omega)]
            exact ⟨rfl, rfl, rfl⟩
          · rw [if_neg h, if_neg h, if_neg h]
            exact Vy e i0 (by omega)
      · have ey0 : y = ex := by omega
        subst ey0
        rw [if_neg hy, xH_ret]
        exact ⟨rfl, ry, hy8, fun i i0 i1 => by rw [xR_cg hy1, xR_cg hy2]; exact Vx i i0 i1, Vy⟩
theorem land32 (W : Int → Int) (k : Int) : xw_landf (w64 (W k)) 4294967295 = tk W (64 * k) 32 := by
  have hm : ∀ i : Nat, i < 64 → bt 4294967295 i = decide (i < 32) := by decide +kernel
  refine (tk_eq ?_ (fun i hi hi2 => ?_) (fun i hi hi2 => ?_)).symm
  · exact land_w _ _
  · rw [bt_and, hm i hi2, decide_eq_true hi, Bool.and_true, bt_w]
    unfold bW
    rw [show (64 * k + (i : Int)) / 64 = k from by omega, show ((64 * k + (i : Int)) % 64).toNat = i from by omega]
  · rw [bt_and, hm i hi2, decide_eq_false (by omega), Bool.and_false]
/-- a store in which a change was made: the newer manifest, of turn tu -/
def nman (W : Int → Int) (tu : Int) : Prop := 0 < tu ∧ tu < 2000000000 ∧ tk W (tu % 2 * 32768) 32 = tu ∧ tk W ((tu + 1) % 2 * 32768) 32 < tu
theorem restore_none (hB : B ≤ 512) (hB2 : 2 ≤ B) (h0 : tk (m 516) 0 32 = 0) (h1 : tk (m 516) 32768 32 = 0) : yf18 B m = some (.inl 0, m) := by
  have l516 : xw_le B 516 = (B * 512 : Nat) := (tp530 hB).2.2.2.1
  have z0 := land32 (m 516) 0
  have z1 := land32 (m 516) 512
  rw [show (64 : Int) * 0 = 0 from rfl] at z0
  rw [show (64 : Int) * 512 = 32768 from rfl] at z1
  unfold yf18
  rw [l516, if_pos ⟨by decide, by omega⟩, if_pos ⟨by decide, by omega⟩]
  show (if xw_landf (w64 (m 516 0)) 4294967295 = 0 then _ else _) = _
  rw [z0, h0, if_pos rfl]
  show (if xw_landf (w64 (m 516 512)) 4294967295 = 0 then _ else _) = _
  rw [z1, h1, if_pos rfl]
theorem restore_ok {tu lo fa vi ex : Int} {VN VR K S L : Int → Int} {p : Int} (hB : B ≤ 512) (hB2 : 2 ≤ B) (hR : rs B m p) (hb : xR m 508 0 = (B : Int)) (hn : nman (m 516) tu) (M : Man (m 516) (tu % 2 * 32768) tu lo fa vi ex VN VR K S L) (hlo : w32 lo = lo) (fa0 : 0 ≤ fa) (fa1 : fa ≤ 20000) (vi0 : 0 ≤ vi) (vi1 : vi ≤ 16) (ex0 : 0 ≤ ex) (ex1 : ex ≤ 200) (hVN : ∀ i, 0 ≤ i → i < vi → w32 (VN i) = VN i ∧ w32 (VR i) = VR i) (hE : ∀ e, 0 ≤ e → e < ex → (0 ≤ K e ∧ K e < 256) ∧ (0 ≤ S e ∧ S e < B) ∧ 0 ≤ L e ∧ S e + L e ≤ B) : ∃ m', yf18 B m = some (.inl 1, m') ∧ rr m m' ∧ (xR m' 508 8 = tu ∧ xR m' 508 9 = lo ∧ xR m' 508 10 = fa ∧ xR m' 508 11 = vi ∧ xR m' 508 14 = ex) ∧ (∀ i, 0 ≤ i → i < vi → xR m' 511 i = VN i ∧ xR m' 512 i = VR i) ∧ ∀ e, 0 ≤ e → e < ex → xR m' 513 e = K e ∧ xR m' 514 e = S e ∧ xR m' 515 e = L e := by
  obtain ⟨n1, n2, n3, n4⟩ := hn
  have l516 : xw_le B 516 = (B * 512 : Nat) := (tp530 hB).2.2.2.1
  have z0 := land32 (m 516) 0
  have z1 := land32 (m 516) 512
  rw [show (64 : Int) * 0 = 0 from rfl] at z0
  rw [show (64 : Int) * 512 = 32768 from rfl] at z1
  have fin : ∀ q, q = tu % 2 * 32768 → ∃ m', rh B (xw_u m 530 2 q) = some (.inl 1, m') ∧ rr m m' ∧ (xR m' 508 8 = tu ∧ xR m' 508 9 = lo ∧ xR m' 508 10 = fa ∧ xR m' 508 11 = vi ∧ xR m' 508 14 = ex) ∧ (∀ i, 0 ≤ i → i < vi → xR m' 511 i = VN i ∧ xR m' 512 i = VR i) ∧ ∀ e, 0 ≤ e → e < ex → xR m' 513 e = K e ∧ xR m' 514 e = S e ∧ xR m' 515 e = L e := by
    intro q hq
    rw [← hq] at M
    obtain ⟨m', e, r, rest⟩ := restore_in (m := xw_u m 530 2 q) hB (by omega) (by omega) (rs_to hB hR (by omega) (by omega)) (by rw [xR_cg (xu_c (by decide))]; exact hb) (by rw [xu_c (by decide)]; exact M) (w32_id (by omega) (by omega)) hlo fa0 fa1 vi0 vi1 ex0 ex1 hVN hE
    refine ⟨m', e, ⟨fun a h1 h2 h3 => (r.1 a h1 h2 h3).trans (xu_c h2), fun k k1 k2 k3 k4 k5 => (r.2.1 k k1 k2 k3 k4 k5).trans (by rw [xu_c (by decide)]), fun k hk => (r.2.2 k hk).trans ?_⟩, rest⟩
    unfold xw_u
    rw [if_neg (fun h => hk h.2)]
  have brk : ∀ x y, (y < x ↔ tu % 2 = 0) → ∃ m', yk18_38 B x y m = some (.inl 1, m') ∧ rr m m' ∧ (xR m' 508 8 = tu ∧ xR m' 508 9 = lo ∧ xR m' 508 10 = fa ∧ xR m' 508 11 = vi ∧ xR m' 508 14 = ex) ∧ (∀ i, 0 ≤ i → i < vi → xR m' 511 i = VN i ∧ xR m' 512 i = VR i) ∧ ∀ e, 0 ≤ e → e < ex → xR m' 513 e = K e ∧ xR m' 514 e = S e ∧ xR m' 515 e = L e := by
    intro x y hxy
    unfold yk18_38
    by_cases h : y < x
    · rw [if_pos h]
      exact fin 0 (by have := hxy.mp h; omega)
    · rw [if_neg h]
      exact fin 32768 (by
        have : ¬ tu % 2 = 0 := fun h' => h (hxy.mpr h')
        omega)
  unfold yf18
  rw [l516, if_pos ⟨by decide, by omega⟩, if_pos ⟨by decide, by omega⟩]
  have o0 : xw_landf (xJ m 516 0) 4294967295 = tk (m 516) 0 32 := z0
  have o1 : xw_landf (xJ m 516 512) 4294967295 = tk (m 516) 32768 32 := z1
  rw [o0, o1]
  rcases (show tu % 2 = 0 ∨ tu % 2 = 1 from by omega) with h | h
  · rw [h, show (0 : Int) * 32768 = 0 from rfl] at n3
    rw [show (tu + 1) % 2 = 1 from by omega, show (1 : Int) * 32768 = 32768 from rfl] at n4
    rw [n3, if_neg (by omega)]
    exact brk _ _ (iff_of_true n4 h)
  · rw [h, show (1 : Int) * 32768 = 32768 from rfl] at n3
    rw [show (tu + 1) % 2 = 0 from by omega, show (0 : Int) * 32768 = 0 from rfl] at n4
    rw [n3]
    by_cases hz : tk (m 516) 0 32 = 0
    · rw [if_pos hz, if_neg (by omega)]
      exact brk _ _ (iff_of_false (by omega) (by omega))
    · rw [if_neg hz]
      exact brk _ _ (iff_of_false (by omega) (by omega))
end REST
