/-! THE ANSWER, by the reference: the facts that hold (gather) -/
def RC (c r : xw_M) : Prop := (∀ a, (a = 538 ∨ a = 539 ∨ a = 540 ∨ a = 573 ∨ a = 575 ∨ a = 576) → r a = c a) ∧ xR r 536 31 = xR c 536 31
/-- what the reference's answering changes -/
def fRa (r m : xw_M) : Prop := (∀ a, a ≠ 536 → a ≠ 572 → ¬ (590 ≤ a ∧ a ≤ 592) → ¬ (595 ≤ a ∧ a ≤ 602) → m a = r a) ∧ ∀ k, ¬ (58 ≤ k ∧ k ≤ 61) → k ≠ 65 → k ≠ 66 → k ≠ 73 → k ≠ 74 → m 536 k = r 536 k
theorem fRa_r {m : xw_M} : fRa m m := ⟨fun _ _ _ _ _ => rfl, fun _ _ _ _ _ _ => rfl⟩
theorem fRa_tr {a b c : xw_M} (h : fRa a b) (k : fRa b c) : fRa a c := ⟨fun x x1 x2 x3 x4 => by rw [k.1 x x1 x2 x3 x4, h.1 x x1 x2 x3 x4], fun x x1 x2 x3 x4 x5 => by rw [k.2 x x1 x2 x3 x4 x5, h.2 x x1 x2 x3 x4 x5]⟩
theorem fRa_s {a b : xw_M} (h : sfr a b) : fRa a b := ⟨fun x x1 _ x3 _ => h.1 x x1 (by omega) (by omega) (by omega), fun x x1 _ _ _ _ => h.2 x (by omega) (by omega) (by omega)⟩
/-- g lists the facts that hold -/
def EN (c : xw_M) (g : Int → Int) (n : Int) : Prop := (0 ≤ n ∧ n ≤ xR c 536 31) ∧ (∀ x, 0 ≤ x → x < n → (0 ≤ g x ∧ g x < xR c 536 31) ∧ fH c (g x) = true) ∧ (∀ x y, 0 ≤ x → x < n → 0 ≤ y → y < n → g x = g y → x = y) ∧ ∀ f, 0 ≤ f → f < xR c 536 31 → fH c f = true → ∃ x, (0 ≤ x ∧ x < n) ∧ g x = f
section GAT
variable {B : Nat} {k S : Int} {c r m : xw_M} {q D M tu nc p tq : Int} {Kx Rf : Int → Int} {Rv : Int → Int → Int}
theorem hold_ok {x : Int} (dk : dsk B c D M tu Kx Rf Rv) (rm : ram c D M tu Kx) (N : CDN c r q D nc k p) (rc : RC c r) (q0 : q = 544 ∨ q = 558) (hq : r 536 23 = q) (N2 : xR c 536 31 ≤ 20000) (f : fRa r m) (x0 : 0 ≤ x) (x1 : x < xR c 536 31) : ∃ m', yf287 B x m = some (.inl (b01 (fH c x)), m') ∧ ∀ a, a ≠ 572 → m' a = m a := by
  obtain ⟨N1, _, N3, N4, N5, N6, N7⟩ := N
  have qe : ∀ j, 0 ≤ j → j ≤ 13 → m (q + j) = r (q + j) := fun j j0 j1 => f.1 _ (by omega) (by omega) (by omega) (by omega)
  have q00 : m q = r q := f.1 _ (by omega) (by omega) (by omega) (by omega)
  have hq' : m 536 23 = q := by rw [f.2 23 (by omega) (by omega) (by omega) (by omega) (by omega)]; exact hq
  have D8 := rm.cg.cn.1
  have re : RS m q (vmb c (fun d => xR c 575 (8 * x + d))) = RS r q (vmb c (fun d => xR c 575 (8 * x + d))) := RS_fr (by rw [q00]) (fun i _ _ => by rw [xR_cg (qe 8 (by decide) (by decide))]) _
  have hv : ∀ i, 0 ≤ i → i < nc → ∀ m2, (∀ a, a ≠ 572 → m2 a = m a) → yf288 B i x m2 = some (.inl (b01 (vmb c (fun d => xR c 575 (8 * x + d)) i)), m2) := fun i i0 i1 m2 h2 => by
    obtain ⟨c1, ⟨d, l, c2, c3, c4, c5, c6, c7⟩, c8, c9⟩ := N1.2.2.2.2 i i0 i1
    have n60 := N1.2.2.2.1
    have L4 := (rm.cg.cn.2.2.2.2.1 d c3 c4).2.1.2
    have nm := (rm.cg.cn.2.2.2.2.1 d c3 c4).2.2.1
    have s3 := (rm.cg.sz d c3 c4).2.2.1
    have pb := dk.pl x d x0 x1 c3 c4
    have g2 : ∀ j, 0 ≤ j → j ≤ 13 → xR m2 (q + j) = xR r (q + j) := fun j j0 j1 => by rw [xR_cg (h2 _ (by omega)), xR_cg (qe j j0 j1)]
    have g575 : xR m2 575 = xR c 575 := by rw [xR_cg (h2 575 (by decide)), xR_cg (f.1 575 (by decide) (by decide) (by decide) (by decide)), xR_cg (rc.1 575 (by omega))]
    have g540 : xR m2 540 = xR c 540 := by rw [xR_cg (h2 540 (by decide)), xR_cg (f.1 540 (by decide) (by decide) (by decide) (by decide)), xR_cg (rc.1 540 (by omega))]
    obtain ⟨cc, e1, e2⟩ := comp_ok (B := B) (m := m2) (q := q) (i := i) (f := x) (d := d) (l := l) (by rw [h2 536 (by decide)]; exact hq') q0 i0 (by omega) (by rw [g2 9 (by decide) (by decide), c1]; exact c2) c3 (by omega) c5 (by omega) x0 (by omega) (by rw [g575]; exact pb.1) (by rw [g575]; omega) (by rw [g2 10 (by decide) (by decide)]; exact c8) (by rw [g2 10 (by decide) (by decide), g2 11 (by decide) (by decide)]; exact c9)
    rw [g2 10 (by decide) (by decide), g2 11 (by decide) (by decide), g2 12 (by decide) (by decide), g2 13 (by decide) (by decide), g575, g540, ← (rm.vl d c3 c4).1 l _ c5 c6 pb.1 (by omega), ← (c7 _ pb.1 (by omega)).2] at e2
    rw [e1]
    have ev : cc = vmb c (fun d => xR c 575 (8 * x + d)) i := by
      unfold vmb
      rw [c2, show (4 * d + l) / 4 = d by omega, Bool.eq_iff_iff, e2, decide_eq_true_iff]
    rw [ev]
  obtain ⟨m', e, fr⟩ := holds_r (B := B) (m := m) (q := q) (f := x) (n := nc) (v := vmb c (fun d => xR c 575 (8 * x + d))) hq' q0 (by rw [xR_cg q00]; exact N5.1) (by rw [xR_cg q00]; exact N5.2) N1.2.2.2.1 (by rw [xR_cg q00, xR_cg (qe 8 (by decide) (by decide))]; exact N6) hv (by
    rw [re, ← N4]
    have := N3.2.2.1 (vmb c (fun d => xR c 575 (8 * x + d)))
    omega)
  refine ⟨m', ?_, fr⟩
  rw [e, re, ← N4]; rfl
/-- gather -/
theorem gather_r (dk : dsk B c D M tu Kx Rf Rv) (rm : ram c D M tu Kx) (N : CDN c r q D nc k p) (rc : RC c r) (q0 : q = 544 ∨ q = 558) (hq : r 536 23 = q) (F0 : 0 ≤ xR c 536 31) (N2 : xR c 536 31 ≤ 20000) (f : fRa r m) {s t : Int} (tw : two s t) (e59 : m 536 59 = s) (e60 : m 536 60 = t) : ∃ m' g n, yf286 B m = some (.inl 0, m') ∧ ((∀ a, a ≠ 536 → a ≠ 572 → a ≠ s → m' a = m a) ∧ ∀ k, k ≠ 58 → m' 536 k = m 536 k) ∧ xR m' 536 58 = n ∧ EN c g n ∧ ∀ k, 0 ≤ k → k < n → xR m' s k = g k := by
  obtain ⟨os, _, ls, _⟩ := two_f B tw
  have sv : s = 590 ∨ s = 591 := by unfold two at tw; omega
  unfold yf286
  obtain ⟨NN, hNN⟩ : ∃ NN : Nat, NN = 1000000 := ⟨_, rfl⟩
  rw [← hNN]
  have goal := xH_ex (Q := fun v m' => v = 0 ∧ ((∀ a, a ≠ 536 → a ≠ 572 → a ≠ s → m' a = m a) ∧ ∀ k, k ≠ 58 → m' 536 k = m 536 k) ∧ EN c (xR m' s) (xR m' 536 58)) (xl1_rule (F := yl286_7 B) (fun x m' => (0 ≤ x ∧ x ≤ xR c 536 31) ∧ ((∀ a, a ≠ 536 → a ≠ 572 → a ≠ s → m' a = m a) ∧ ∀ k, k ≠ 58 → m' 536 k = m 536 k) ∧ (0 ≤ xR m' 536 58 ∧ xR m' 536 58 ≤ x) ∧ (∀ y, 0 ≤ y → y < xR m' 536 58 → (0 ≤ xR m' s y ∧ xR m' s y < x) ∧ fH c (xR m' s y) = true) ∧ (∀ y z, 0 ≤ y → y < xR m' 536 58 → 0 ≤ z → z < xR m' 536 58 → xR m' s y = xR m' s z → y = z) ∧ ∀ g, 0 ≤ g → g < x → fH c g = true → ∃ y, (0 ≤ y ∧ y < xR m' 536 58) ∧ xR m' s y = g) (fun x _ => (xR c 536 31 - x).toNat) ?_ NN 0 (xw_u m 536 58 0) ⟨⟨Int.le_refl _, F0⟩, ⟨fun a a1 _ _ => xu_c a1, fun j hj => xu_ne (by omega)⟩, ?_, ?_, ?_, ?_⟩ (by omega))
  · obtain ⟨v, m', e, rfl, h1, h2⟩ := goal
    exact ⟨m', _, _, e, h1, rfl, h2, fun _ _ _ => rfl⟩
  · intro R x m1 ⟨b1, f1, c1, c2, c3, c4⟩ ih
    have fr1 : fRa r m1 := fRa_tr f ⟨fun a a1 a2 a3 _ => f1.1 a a1 a2 (by omega), fun j j1 _ _ _ _ => f1.2 j (by omega)⟩
    unfold yl286_7
    have n31 : xR m1 536 31 = xR c 536 31 := by rw [xR_fld (fr1.2 31 (by omega) (by omega) (by omega) (by omega) (by omega))]; exact rc.2
    rw [n31]
    by_cases hx : x < xR c 536 31
    · obtain ⟨m2, e2, f2⟩ := hold_ok (B := B) (x := x) dk rm N rc q0 hq N2 fr1 b1.1 hx
      rw [if_pos hx, e2, xB_ret, w32_id (x := x + 1) (by omega) (by omega)]
      have x536 : m2 536 = m1 536 := f2 536 (by decide)
      have xs : m2 s = m1 s := f2 s (by omega)
      have fm : (∀ a, a ≠ 536 → a ≠ 572 → a ≠ s → m2 a = m a) ∧ ∀ k, k ≠ 58 → m2 536 k = m 536 k := ⟨fun a a1 a2 a3 => by rw [f2 a a2]; exact f1.1 a a1 a2 a3, fun j hj => by rw [x536]; exact f1.2 j hj⟩
      rw [← xR_cg x536] at c1 c2 c3 c4
      rw [← xR_cg xs] at c2 c3 c4
      by_cases hh : fH c x = true
      · rw [hh, if_neg (by decide), show m2 536 59 = s from by rw [fm.2 59 (by decide)]; exact e59, ls, if_pos ⟨c1.1, by omega⟩, if_pos os]
        have w58 : xR (xw_u (xw_u m2 s (xR m2 536 58) x) 536 58 (xR m2 536 58 + 1)) 536 58 = xR m2 536 58 + 1 := xR_at (w32_id (by omega) (by omega))
        have ws : ∀ y, xR (xw_u (xw_u m2 s (xR m2 536 58) x) 536 58 (xR m2 536 58 + 1)) s y = if y = xR m2 536 58 then x else xR m2 s y := fun y => by
          rw [xR_cg (xu_c (by omega))]
          by_cases e : y = xR m2 536 58
          · rw [if_pos e, e]; exact xR_at (w32_id (by omega) (by omega))
          · rw [if_neg e]; exact xR_ne (fun z => e z.2)
        refine ih _ _ ⟨⟨by omega, by omega⟩, ⟨fun a a1 a2 a3 => by rw [xu_c a1, xu_c a3]; exact fm.1 a a1 a2 a3, fun j hj => by rw [xu_ne (by omega), xu_c (by omega)]; exact fm.2 j hj⟩, ?_, fun y y0 y1 => ?_, fun y z y0 y1 z0 z1 e => ?_, fun g g0 g1 hg => ?_⟩ (by omega)
        · rw [w58]; omega
        · rw [w58] at y1
          rw [ws y]
          by_cases e : y = xR m2 536 58
          · rw [if_pos e]; exact ⟨by omega, hh⟩
          · rw [if_neg e]; have := c2 y y0 (by omega); exact ⟨by omega, this.2⟩
        · rw [w58] at y1 z1
          rw [ws y, ws z] at e
          by_cases e1 : y = xR m2 536 58
          · by_cases e2 : z = xR m2 536 58
            · omega
            · rw [if_pos e1, if_neg e2] at e; have := (c2 z z0 (by omega)).1; omega
          · by_cases e2 : z = xR m2 536 58
            · rw [if_neg e1, if_pos e2] at e; have := (c2 y y0 (by omega)).1; omega
            · rw [if_neg e1, if_neg e2] at e; exact c3 y z y0 (by omega) z0 (by omega) e
        · rw [w58]
          by_cases e : g = x
          · exact ⟨xR m2 536 58, ⟨c1.1, by omega⟩, by rw [ws, if_pos rfl, e]⟩
          · obtain ⟨y, y1, y2⟩ := c4 g g0 (by omega) hg
            exact ⟨y, ⟨y1.1, by omega⟩, by rw [ws, if_neg (by omega)]; exact y2⟩
      · rw [Bool.eq_false_iff.mpr hh, if_pos (by rfl)]
        refine ih _ _ ⟨⟨by omega, by omega⟩, fm, ⟨c1.1, by omega⟩, fun y y0 y1 => ⟨⟨(c2 y y0 y1).1.1, by have := (c2 y y0 y1).1; omega⟩, (c2 y y0 y1).2⟩, c3, fun g g0 g1 hg => ?_⟩ (by omega)
        by_cases e : g = x
        · rw [e] at hg; exact absurd hg hh
        · exact c4 g g0 (by omega) hg
    · rw [if_neg hx, xH_ret]
      have ex : x = xR c 536 31 := by omega
      rw [ex] at c1 c2 c4
      exact ⟨rfl, f1, c1, c2, c3, c4⟩
  · rw [xR_at (by decide)]; decide
  · intro y y0 y1
    rw [xR_at (by decide)] at y1; omega
  · intro y z y0 y1
    rw [xR_at (by decide)] at y1; omega
  · intro g g0 g1; omega
end GAT
