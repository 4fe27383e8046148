/-! TAPES OF ANY KIND, clear, beginExtent, THE MANIFEST -/
/-- a tape stands at p, with nothing behind it -/
def wt (t w l : Int) (m : xw_M) (p : Int) : Prop := xR m t 1 = 64 * l ∧ xR m t 2 = p ∧ xR m t 3 = 0 ∧ 0 ≤ p ∧ ∀ q, p ≤ q → q < 64 * l → bW (m w) q = false
def frt (t w : Int) (m m' : xw_M) (p : Int) : Prop := (∀ a, a ≠ w → a ≠ t → m' a = m a) ∧ (∀ k, k ≠ 2 → m' t k = m t k) ∧ (∀ q, 0 ≤ q → q < p → bW (m' w) q = bW (m w) q)
section WT
variable {B : Nat} {t w l : Int} {m m1 m2 : xw_M} {p p1 : Int}
theorem frt_refl : frt t w m m p := ⟨fun _ _ _ => rfl, fun _ _ => rfl, fun _ _ _ => rfl⟩
theorem frt_trans (h : frt t w m m1 p) (h2 : frt t w m1 m2 p1) (hp : p ≤ p1) : frt t w m m2 p := ⟨fun a h1 h3 => (h2.1 a h1 h3).trans (h.1 a h1 h3), fun k hk => (h2.2.1 k hk).trans (h.2.1 k hk), fun q h0 hq => (h2.2.2 q h0 (by omega)).trans (h.2.2 q h0 hq)⟩
theorem frt_tk {q : Int} {n : Nat} (h : frt t w m m1 p) (h0 : 0 ≤ q) (h1 : q + n ≤ p) : tk (m1 w) q n = tk (m w) q n := tk_cg (fun i hi => h.2.2 _ (by omega) (by omega))
theorem put_wt (T : tpo B t w l) {v n : Int} (h : wt t w l m p) (hn : 0 ≤ n) (hn2 : n ≤ 64) (hf : p + n ≤ 64 * l) : ∃ m', yf152 B t v n m = some (.inl 0, m') ∧ wt t w l m' (p + n) ∧ frt t w m m' p ∧ tk (m' w) p n.toNat = msk v n.toNat := by
  obtain ⟨h1, h2, h3, h4, h5⟩ := h
  obtain ⟨m', e, r1, r2, r3, r4⟩ := put_ok (v := v) T h4 h2 h1 h3 hn hn2 hf
  refine ⟨m', e, ⟨?_, r1, ?_, by omega, ?_⟩, ⟨fun a ha hb => r3 a hb ha, r2, ?_⟩, ?_⟩
  · unfold xR at h1 ⊢
    rw [r2 1 (by decide)]
    exact h1
  · unfold xR at h3 ⊢
    rw [r2 3 (by decide)]
    exact h3
  · intro q hq hq2
    rw [r4 q (by omega), h5 q (by omega) hq2, decide_eq_false (by omega)]
    rfl
  · intro q hq hq2
    rw [r4 q hq, decide_eq_false (by omega), Bool.false_and, Bool.or_false]
  · refine tk_put (fun i hi => ?_)
    rw [r4 _ (by omega), h5 _ (by omega) (by omega), decide_eq_true (by omega), Bool.false_or, Bool.true_and]
    congr 1
    omega
theorem bt_zero (i : Nat) : bt 0 i = false := by
  rw [bt_nn (by decide)]
  show (decide (i < 64) && Nat.testBit 0 i) = false
  rw [Nat.zero_testBit, Bool.and_false]
theorem clear_ok (T : tpo B t w l) (h1 : xR m t 1 = 64 * l) (h2 : xR m t 2 = p) (p0 : 0 ≤ p) (p1 : p ≤ 64 * l) (Z : ∀ q, p ≤ q → q < 64 * l → bW (m w) q = false) : ∃ m', yf151 B t m = some (.inl 0, m') ∧ wt t w l m' 0 ∧ (∀ a, a ≠ w → a ≠ t → m' a = m a) ∧ ∀ k, k ≠ 2 → k ≠ 3 → m' t k = m t k := by
  obtain ⟨t1, t2, t3, t4, t5, t6, t7⟩ := T
  unfold yf151
  rw [if_pos t1, t2, if_pos t3, h2, ishr6 p0 (by omega), t4, w32_id (x := l) (by omega) (by omega), w32_id (by omega) (by omega)]
  obtain ⟨n, hn⟩ : ∃ n, n = min l (p / 64 + 2) := ⟨_, rfl⟩
  rw [← hn, fill120 t3 (by omega) (by omega) (by omega) (by omega), xB_ret]
  refine ⟨_, rfl, ⟨?_, ?_, ?_, by omega, fun q q0 q1 => ?_⟩, fun a ha ht => ?_, fun k k2 k3 => ?_⟩
  · rw [xR_u, if_neg (fun h => absurd h.2 (by decide)), xR_u, if_neg (fun h => absurd h.2 (by decide))]
    rw [xR_cg (xfill_ne (Ne.symm t5))]
    exact h1
  · rw [xR_u, if_neg (fun h => absurd h.2 (by decide)), xR_u, if_pos ⟨rfl, rfl⟩]
    rfl
  · rw [xR_u, if_pos ⟨rfl, rfl⟩]
    rfl
  · rw [xu_c t5, xu_c t5]
    unfold bW
    by_cases hq : q / 64 < n
    · rw [xfill_at (by omega) hq]
      exact bt_zero _
    · rw [xfill_out (Or.inr (by omega))]
      exact Z q (by omega) q1
  · rw [xu_c ht, xu_c ht]
    exact xfill_ne ha
  · unfold xw_u
    rw [if_neg (fun h => k3 h.2), if_neg (fun h => k2 h.2), xfill_ne (Ne.symm t5)]
end WT
/-- a manifest on words -/
def Man (W : Int → Int) (q tu lo fa vi ex : Int) (VN VR K S L : Int → Int) : Prop := tk W q 32 = msk tu 32 ∧ tk W (q + 32) 32 = msk lo 32 ∧ tk W (q + 64) 32 = msk fa 32 ∧ tk W (q + 96) 16 = msk vi 16 ∧ tk W (q + 112) 16 = msk ex 16 ∧ (∀ i, 0 ≤ i → i < vi → tk W (q + 128 + 64 * i) 32 = msk (VN i) 32 ∧ tk W (q + 160 + 64 * i) 32 = msk (VR i) 32) ∧ ∀ e, 0 ≤ e → e < ex → tk W (q + 128 + 64 * vi + 40 * e) 8 = msk (K e) 8 ∧ tk W (q + 136 + 64 * vi + 40 * e) 16 = msk (S e) 16 ∧ tk W (q + 152 + 64 * vi + 40 * e) 16 = msk (L e) 16
theorem Man_cg {W W' : Int → Int} {q q' tu lo fa vi ex : Int} {VN VR K S L : Int → Int} (h : Man W q tu lo fa vi ex VN VR K S L) (hv : 0 ≤ vi) (hv2 : vi ≤ 16) (he : ex ≤ 200) (hc : ∀ x, 0 ≤ x → x < 32768 → bW W' (q' + x) = bW W (q + x)) : Man W' q' tu lo fa vi ex VN VR K S L := by
  have key : ∀ (x : Int) (n : Nat), 0 ≤ x → x + n ≤ 32768 → tk W' (q' + x) n = tk W (q + x) n := fun x n h0 h1 => tk_cg (fun i hi => by
    have := hc (x + i) (by omega) (by omega)
    rw [show q' + x + (i : Int) = q' + (x + i) from by omega, show q + x + (i : Int) = q + (x + i) from by omega]
    exact this)
  obtain ⟨a1, a2, a3, a4, a5, a6, a7⟩ := h
  have k0 := key 0 32 (by omega) (by omega)
  rw [Int.add_zero, Int.add_zero] at k0
  refine ⟨k0.trans a1, (key 32 32 (by omega) (by omega)).trans a2, (key 64 32 (by omega) (by omega)).trans a3, (key 96 16 (by omega) (by omega)).trans a4, (key 112 16 (by omega) (by omega)).trans a5, fun i i0 i1 => ?_, fun e e0 e1 => ?_⟩
  · obtain ⟨b1, b2⟩ := a6 i i0 i1
    have c1 := key (128 + 64 * i) 32 (by omega) (by omega)
    have c2 := key (160 + 64 * i) 32 (by omega) (by omega)
    rw [← Int.add_assoc, ← Int.add_assoc] at c1 c2
    exact ⟨c1.trans b1, c2.trans b2⟩
  · obtain ⟨b1, b2, b3⟩ := a7 e e0 e1
    have c1 := key (128 + 64 * vi + 40 * e) 8 (by omega) (by omega)
    have c2 := key (136 + 64 * vi + 40 * e) 16 (by omega) (by omega)
    have c3 := key (152 + 64 * vi + 40 * e) 16 (by omega) (by omega)
    rw [← Int.add_assoc, ← Int.add_assoc, ← Int.add_assoc, ← Int.add_assoc] at c1 c2 c3
    exact ⟨c1.trans b1, c2.trans b2, c3.trans b3⟩
section MANI
variable {B : Nat} {m : xw_M}
theorem tp524' : tpo B 524 509 512 := ⟨by decide, by decide, by decide, rfl, by decide, by omega, by omega⟩
theorem mani_ok {tu lo fa vi ex p : Int} {VN VR K S L : Int → Int} (c1 : xR m 508 8 = tu) (c2 : xR m 508 9 = lo) (c3 : xR m 508 10 = fa) (c4 : xR m 508 11 = vi) (c5 : xR m 508 14 = ex) (c6 : xR m 511 = VN) (c7 : xR m 512 = VR) (c8 : xR m 513 = K) (c9 : xR m 514 = S) (c10 : xR m 515 = L) (hv : 0 ≤ vi) (hv2 : vi ≤ 16) (he : 0 ≤ ex) (he2 : ex ≤ 200) (h1 : xR m 524 1 = 64 * 512) (h2 : xR m 524 2 = p) (p0 : 0 ≤ p) (p1 : p ≤ 64 * 512) (Z : ∀ q, p ≤ q → q < 64 * 512 → bW (m 509) q = false) : ∃ m', yf162 B m = some (.inl 0, m') ∧ wt 524 509 512 m' (128 + 64 * vi + 40 * ex) ∧ Man (m' 509) 0 tu lo fa vi ex VN VR K S L ∧ (∀ a, a ≠ 509 → a ≠ 524 → m' a = m a) ∧ ∀ k, k ≠ 2 → k ≠ 3 → m' 524 k = m 524 k := by
  obtain ⟨m0, e0, w0, G0, g0⟩ := clear_ok (B := B) tp524' h1 h2 p0 p1 Z
  have T := tp524' (B := B)
  obtain ⟨m1, e1, w1, f1, t1⟩ := put_wt T (v := tu) (n := 32) w0 (by decide) (by decide) (by decide)
  obtain ⟨m2, e2, w2, f2, t2⟩ := put_wt T (v := lo) (n := 32) w1 (by decide) (by decide) (by decide)
  obtain ⟨m3, e3, w3, f3, t3⟩ := put_wt T (v := fa) (n := 32) w2 (by decide) (by decide) (by decide)
  obtain ⟨m4, e4, w4, f4, t4⟩ := put_wt T (v := vi) (n := 16) w3 (by decide) (by decide) (by decide)
  obtain ⟨m5, e5, w5, f5, t5⟩ := put_wt T (v := ex) (n := 16) w4 (by decide) (by decide) (by decide)
  have F2 := frt_trans f1 f2 (by decide)
  have F3 := frt_trans F2 f3 (by decide)
  have F4 := frt_trans F3 f4 (by decide)
  have F5 := frt_trans F4 f5 (by decide)
  have F25 := frt_trans (frt_trans (frt_trans f2 f3 (by decide)) f4 (by decide)) f5 (by decide)
  have F35 := frt_trans (frt_trans f3 f4 (by decide)) f5 (by decide)
  have F45 := frt_trans f4 f5 (by decide)
  unfold yf162
  rw [e0, xB_ret, show xR m0 508 8 = tu from by rw [xR_cg (G0 508 (by decide) (by decide))]; exact c1, e1, xB_ret, show xR m1 508 9 = lo from by rw [xR_cg (f1.1 508 (by decide) (by decide)), xR_cg (G0 508 (by decide) (by decide))]; exact c2, e2, xB_ret, show xR m2 508 10 = fa from by rw [xR_cg (F2.1 508 (by decide) (by decide)), xR_cg (G0 508 (by decide) (by decide))]; exact c3, e3, xB_ret, show xR m3 508 11 = vi from by rw [xR_cg (F3.1 508 (by decide) (by decide)), xR_cg (G0 508 (by decide) (by decide))]; exact c4, e4, xB_ret, show xR m4 508 14 = ex from by rw [xR_cg (F4.1 508 (by decide) (by decide)), xR_cg (G0 508 (by decide) (by decide))]; exact c5, e5, xB_ret]
  have A0 : ∀ a, a ≠ 509 → a ≠ 524 → m5 a = m a := fun a h h' => (F5.1 a h h').trans (G0 a h h')
  have head : tk (m5 509) 0 32 = msk tu 32 ∧ tk (m5 509) 32 32 = msk lo 32 ∧ tk (m5 509) 64 32 = msk fa 32 ∧ tk (m5 509) 96 16 = msk vi 16 ∧ tk (m5 509) 112 16 = msk ex 16 := ⟨(frt_tk F25 (by decide) (by decide)).trans t1, (frt_tk F35 (by decide) (by decide)).trans t2, (frt_tk F45 (by decide) (by decide)).trans t3, (frt_tk f5 (by decide) (by decide)).trans t4, t5⟩
  have g5 : ∀ k, k ≠ 2 → k ≠ 3 → m5 524 k = m 524 k := fun k h h' => (F5.2.1 k h).trans (g0 k h h')
  have w5' : wt 524 509 512 m5 128 := w5
  clear F2 F3 F4 F5 F25 F35 F45 e0 e1 e2 e3 e4 e5 w0 w1 w2 w3 w4 w5 f1 f2 f3 f4 f5 t1 t2 t3 t4 t5 G0 g0
  generalize hN : (1000000 : Nat) = N
  have goal := xH_ex (Q := fun v m' => v = 0 ∧ wt 524 509 512 m' (128 + 64 * vi + 40 * ex) ∧ frt 524 509 m5 m' 128 ∧ (∀ i, 0 ≤ i → i < vi → tk (m' 509) (0 + 128 + 64 * i) 32 = msk (VN i) 32 ∧ tk (m' 509) (0 + 160 + 64 * i) 32 = msk (VR i) 32) ∧ ∀ e, 0 ≤ e → e < ex → tk (m' 509) (0 + 128 + 64 * vi + 40 * e) 8 = msk (K e) 8 ∧ tk (m' 509) (0 + 136 + 64 * vi + 40 * e) 16 = msk (S e) 16 ∧ tk (m' 509) (0 + 152 + 64 * vi + 40 * e) 16 = msk (L e) 16) (xl1_rule (F := yl162_79 B) (fun x m' => 0 ≤ x ∧ x ≤ vi ∧ wt 524 509 512 m' (128 + 64 * x) ∧ frt 524 509 m5 m' 128 ∧ ∀ i, 0 ≤ i → i < x → tk (m' 509) (0 + 128 + 64 * i) 32 = msk (VN i) 32 ∧ tk (m' 509) (0 + 160 + 64 * i) 32 = msk (VR i) 32) (fun x _ => (vi - x).toNat) ?_ N 0 m5 ⟨by omega, hv, w5', frt_refl, fun i i0 i1 => absurd i1 (Int.not_lt.mpr i0)⟩ (by omega))
  · obtain ⟨v, m', e, rfl, W', F', V', E'⟩ := goal
    refine ⟨m', e, W', ⟨(frt_tk F' (by decide) (by decide)).trans head.1, (frt_tk F' (by decide) (by decide)).trans head.2.1, (frt_tk F' (by decide) (by decide)).trans head.2.2.1, (frt_tk F' (by decide) (by decide)).trans head.2.2.2.1, (frt_tk F' (by decide) (by decide)).trans head.2.2.2.2, V', E'⟩, fun a h h' => (F'.1 a h h').trans (A0 a h h'), fun k h h' => (F'.2.1 k h).trans (g5 k h h')⟩
  · intro r x mx ⟨x0, x1, wx, Fx, Vx⟩ ih
    have q11 : xR mx 508 11 = vi := by rw [xR_cg (Fx.1 508 (by decide) (by decide)), xR_cg (A0 508 (by decide) (by decide))]; exact c4
    unfold yl162_79
    rw [q11]
    by_cases hx : x < vi
    · obtain ⟨my, ey, wy, fy, ty⟩ := put_wt T (v := VN x) (n := 32) wx (by decide) (by decide) (by omega)
      obtain ⟨mz, ez, wz, fz, tz⟩ := put_wt T (v := VR x) (n := 32) wy (by decide) (by decide) (by omega)
      rw [if_pos hx, if_pos ⟨x0, by omega⟩, show xR mx 511 x = VN x from by rw [xR_cg (Fx.1 511 (by decide) (by decide)), xR_cg (A0 511 (by decide) (by decide)), c6], ey, xB_ret, show xR my 512 x = VR x from by rw [xR_cg (fy.1 512 (by decide) (by decide)), xR_cg (Fx.1 512 (by decide) (by decide)), xR_cg (A0 512 (by decide) (by decide)), c7], ez, xB_ret, w32_id (by omega) (by omega)]
      have F2 := frt_trans fy fz (by omega)
      refine ih _ _ ⟨by omega, by omega, ?_, frt_trans Fx F2 (by omega), fun i i0 i1 => ?_⟩ (by omega)
      · rw [show 128 + 64 * (x + 1) = 128 + 64 * x + 32 + 32 from by omega]
        exact wz
      · by_cases e : i = x
        · subst e
          refine ⟨?_, ?_⟩
          · rw [show 0 + 128 + 64 * i = 128 + 64 * i from by omega]
            exact (frt_tk fz (by omega) (by omega)).trans ty
          · rw [show 0 + 160 + 64 * i = 128 + 64 * i + 32 from by omega]
            exact tz
        · obtain ⟨b1, b2⟩ := Vx i i0 (by omega)
          exact ⟨(frt_tk F2 (by omega) (by omega)).trans b1, (frt_tk F2 (by omega) (by omega)).trans b2⟩
    · have ex0 : x = vi := by omega
      subst ex0
      rw [if_neg hx]
      generalize hM : (1000000 : Nat) = M
      refine xl1_rule (F := yl162_127 B) (fun y m' => 0 ≤ y ∧ y ≤ ex ∧ wt 524 509 512 m' (128 + 64 * x + 40 * y) ∧ frt 524 509 mx m' (128 + 64 * x) ∧ ∀ e, 0 ≤ e → e < y → tk (m' 509) (0 + 128 + 64 * x + 40 * e) 8 = msk (K e) 8 ∧ tk (m' 509) (0 + 136 + 64 * x + 40 * e) 16 = msk (S e) 16 ∧ tk (m' 509) (0 + 152 + 64 * x + 40 * e) 16 = msk (L e) 16) (fun y _ => (ex - y).toNat) ?_ M 0 mx ⟨by omega, he, by rw [show 128 + 64 * x + 40 * 0 = 128 + 64 * x from by omega]; exact wx, frt_refl, fun i i0 i1 => absurd i1 (Int.not_lt.mpr i0)⟩ (by omega)
      intro r' y my ⟨y0, y1, wy, Fy, Vy⟩ ih'
      have B0 : ∀ a, a ≠ 509 → a ≠ 524 → my a = m a := fun a h h' => ((Fy.1 a h h').trans (Fx.1 a h h')).trans (A0 a h h')
      have q14 : xR my 508 14 = ex := by rw [xR_cg (B0 508 (by decide) (by decide))]; exact c5
      unfold yl162_127
      rw [q14]
      by_cases hy : y < ex
      · obtain ⟨ma, ea, wa, fa', ta⟩ := put_wt T (v := K y) (n := 8) wy (by decide) (by decide) (by omega)
        obtain ⟨mb, eb, wb, fb, tb⟩ := put_wt T (v := S y) (n := 16) wa (by decide) (by decide) (by omega)
        obtain ⟨mc, ec, wc, fc, tc⟩ := put_wt T (v := L y) (n := 16) wb (by decide) (by decide) (by omega)
        rw [if_pos hy, if_pos ⟨y0, by omega⟩, show xR my 513 y = K y from by rw [xR_cg (B0 513 (by decide) (by decide)), c8], ea, xB_ret, show xR ma 514 y = S y from by rw [xR_cg (fa'.1 514 (by decide) (by decide)), xR_cg (B0 514 (by decide) (by decide)), c9], eb, xB_ret, show xR mb 515 y = L y from by rw [xR_cg (fb.1 515 (by decide) (by decide)), xR_cg (fa'.1 515 (by decide) (by decide)), xR_cg (B0 515 (by decide) (by decide)), c10], ec, xB_ret, w32_id (by omega) (by omega)]
        have F1 := frt_trans fb fc (by omega)
        have F2 := frt_trans fa' F1 (by omega)
        refine ih' _ _ ⟨by omega, by omega, ?_, frt_trans Fy F2 (by omega), fun e i0 i1 => ?_⟩ (by omega)
        · rw [show 128 + 64 * x + 40 * (y + 1) = 128 + 64 * x + 40 * y + 8 + 16 + 16 from by omega]
          exact wc
        · by_cases he' : e = y
          · subst he'
            refine ⟨?_, ?_, ?_⟩
            · rw [show 0 + 128 + 64 * x + 40 * e = 128 + 64 * x + 40 * e from by omega]
              exact (frt_tk F1 (by omega) (by omega)).trans ta
            · rw [show 0 + 136 + 64 * x + 40 * e = 128 + 64 * x + 40 * e + 8 from by omega]
              exact (frt_tk fc (by omega) (by omega)).trans tb
            · rw [show 0 + 152 + 64 * x + 40 * e = 128 + 64 * x + 40 * e + 8 + 16 from by omega]
              exact tc
          · obtain ⟨b1, b2, b3⟩ := Vy e i0 (by omega)
            exact ⟨(frt_tk F2 (by omega) (by omega)).trans b1, (frt_tk F2 (by omega) (by omega)).trans b2, (frt_tk F2 (by omega) (by omega)).trans b3⟩
      · have ey0 : y = ex := by omega
        subst ey0
        rw [if_neg hy, xH_ret]
        refine ⟨rfl, wy, frt_trans Fx Fy (by omega), fun i i0 i1 => ?_, Vy⟩
        obtain ⟨b1, b2⟩ := Vx i i0 i1
        exact ⟨(frt_tk Fy (by omega) (by omega)).trans b1, (frt_tk Fy (by omega) (by omega)).trans b2⟩
end MANI
