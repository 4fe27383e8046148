/-! THE REFERENCE: spread (the grouping sets, by masks from the greatest down) -/
theorem spr_1 : ∀ n : Fin 9, xw_ishlf 1 ((n : Nat) : Int) = ((2 ^ (n : Nat) : Nat) : Int) := by decide +kernel
theorem spr_2 : ∀ a : Fin 9, ∀ x : Fin 256, xw_ishrf ((x : Nat) : Int) ((a : Nat) : Int) = (((x : Nat) / 2 ^ (a : Nat) : Nat) : Int) := by decide +kernel
theorem spr_3 : ∀ n : Fin 9, ∀ x : Fin 256, xw_iandf ((x : Nat) : Int) (((2 ^ (n : Nat) : Nat) : Int) - 1) = (((x : Nat) % 2 ^ (n : Nat) : Nat) : Int) := by decide +kernel
theorem spr_4 : ∀ x : Fin 256, xw_iandf ((x : Nat) : Int) (((x : Nat) : Int) + 1) = 0 ↔ ∃ j : Fin 9, (x : Nat) = 2 ^ (j : Nat) - 1 := by decide +kernel
theorem tkb {m a n : Int} (a0 : 0 ≤ a) (n0 : 0 ≤ n) (h : a + n ≤ 8) (m0 : 0 ≤ m) (m1 : m < 256) : xw_iandf (xw_ishrf m a) (xw_ishlf 1 n - 1) = m / tw2 a % tw2 n ∧ w32 (xw_ishlf 1 n - 1) = tw2 n - 1 ∧ (0 ≤ m / tw2 a % tw2 n ∧ m / tw2 a % tw2 n < tw2 n) := by
  have e1 := spr_1 ⟨n.toNat, by omega⟩
  have e2 := spr_2 ⟨a.toNat, by omega⟩ ⟨m.toNat, by omega⟩
  have lt : m.toNat / 2 ^ a.toNat < 256 := Nat.lt_of_le_of_lt (Nat.div_le_self _ _) (by omega)
  have e3 := spr_3 ⟨n.toNat, by omega⟩ ⟨m.toNat / 2 ^ a.toNat, lt⟩
  dsimp only at e1 e2 e3
  rw [Int.toNat_of_nonneg n0] at e1
  rw [Int.toNat_of_nonneg m0, Int.toNat_of_nonneg a0] at e2
  have tb := tw2_b n0 (by omega)
  have t0 : 1 ≤ tw2 a := (tw2_b a0 (by omega)).1
  refine ⟨?_, ?_, Int.emod_nonneg _ (by omega), Int.emod_lt_of_pos _ (by omega)⟩
  · rw [e1, e2, e3]
    unfold tw2
    rw [show m / ((2 ^ a.toNat : Nat) : Int) = ((m.toNat / 2 ^ a.toNat : Nat) : Int) from by rw [Int.natCast_ediv, Int.toNat_of_nonneg m0]]
    exact (Int.natCast_emod _ _)
  · rw [e1]
    exact w32_id (by unfold tw2 at tb; omega) (by unfold tw2 at tb; omega)
theorem tkn_1 {n x : Int} (n0 : 0 ≤ n) (n8 : n ≤ 8) (x0 : 0 ≤ x) (x1 : x < tw2 n) : xw_iandf x (x + 1) = 0 ↔ ∃ j, 0 ≤ j ∧ j ≤ n ∧ x = tw2 j - 1 := by
  have tb := tw2_b n0 n8
  have e := spr_4 ⟨x.toNat, by omega⟩
  dsimp only at e
  rw [Int.toNat_of_nonneg x0] at e
  rw [e]
  constructor
  · rintro ⟨j, hj⟩
    have p := Nat.one_le_two_pow (n := (j : Nat))
    have hx : x = tw2 ((j : Nat) : Int) - 1 := by
      unfold tw2
      rw [Int.toNat_natCast]
      omega
    refine ⟨(j : Nat), by omega, ?_, hx⟩
    refine Classical.byContradiction fun ne => ?_
    have := tw2_le (a := n + 1) (b := ((j : Nat) : Int)) (by omega) (by omega) (by have := j.isLt; omega)
    have t2 := tw2_add (a := n) (n := 1) n0 (by decide)
    rw [tw2_v.2.1] at t2
    omega
  · rintro ⟨j, j0, j1, hj⟩
    refine ⟨⟨j.toNat, by omega⟩, ?_⟩
    have p := Nat.one_le_two_pow (n := j.toNat)
    unfold tw2 at hj
    dsimp only
    omega
theorem okm_s {kd sz : Int → Int} {p : Nat} {m : Int} (hs : ∀ p' : Int, 0 ≤ p' → p' < p → 1 ≤ sz p') (n1 : 1 ≤ sz p) (h8 : pof sz p + sz p ≤ 8) (m0 : 0 ≤ m) : okm kd sz (p + 1) (m % tw2 (pof sz p + sz p)) ↔ okm kd sz p (m % tw2 (pof sz p)) ∧ tkn (kd p) (sz p) (m / tw2 (pof sz p) % tw2 (sz p)) := by
  have a0 : 0 ≤ pof sz p := by have := pof_0 p hs; omega
  have md := tw2_md (m := m) a0 (show 0 ≤ sz p by omega) h8 m0
  have ta := tw2_b a0 (by omega)
  have key : m % tw2 (pof sz p + sz p) = m % tw2 (pof sz p) + m / tw2 (pof sz p) % tw2 (sz p) * tw2 (pof sz p) := by
    have d := Int.emod_add_mul_ediv (m % tw2 (pof sz p + sz p)) (tw2 (pof sz p))
    rw [md.1, md.2, Int.mul_comm] at d
    exact d.symm
  constructor
  · rintro ⟨m1, x, e, o, k⟩
    have mb := okm_b p m1 hs (by omega) o
    have xb := tkn_b (by omega) (by omega) k
    rw [key] at e
    have r0 := Int.emod_nonneg m (show tw2 (pof sz p) ≠ 0 by omega)
    have r1 := Int.emod_lt_of_pos m (show 0 < tw2 (pof sz p) by omega)
    have e1 : m % tw2 (pof sz p) = m1 := by
      have h1 := congrArg (fun z => z % tw2 (pof sz p)) e
      rw [Int.add_mul_emod_self_right, Int.add_mul_emod_self_right, Int.emod_eq_of_lt r0 r1, Int.emod_eq_of_lt mb.1 mb.2] at h1
      exact h1
    have e2 : m / tw2 (pof sz p) % tw2 (sz p) = x := by
      rw [e1] at e
      have h2 : m / tw2 (pof sz p) % tw2 (sz p) * tw2 (pof sz p) = x * tw2 (pof sz p) := by omega
      exact Int.eq_of_mul_eq_mul_right (by omega) h2
    rw [e1, e2]
    exact ⟨o, k⟩
  · rintro ⟨o, k⟩
    exact ⟨_, _, key, o, k⟩
section SPR
variable {B : Nat} {q : Int} {m : xw_M}
theorem spi_s {R : Int → Int → xw_M → xP} {R26 : Int → Int → Int → Int → Int → xw_M → xP} {x2 x3 x4 x5 n : Int} (q0 : q = 544 ∨ q = 558) (h6 : x5 < xR m q 6) (p0 : 0 ≤ x5) (p1 : x5 < 8) (a0 : 0 ≤ x4) (hn : xR m (q + 6) x5 = n) (n1 : 1 ≤ n) (an : x4 + n ≤ 8) (kb : 0 ≤ xR m (q + 5) x5 ∧ xR m (q + 5) x5 ≤ 2) (m0 : 0 ≤ x2) (m1 : x2 < 256) (h3 : x3 = 0 ∨ x3 = 1) : ∃ x3', (x3' = 0 ∨ x3' = 1) ∧ (x3' = 1 ↔ x3 = 1 ∧ tkn (xR m (q + 5) x5) n (x2 / tw2 x4 % tw2 n)) ∧ yl284_26 B R R26 q x2 x3 x4 x5 m = R26 q x2 x3' (x4 + n) (x5 + 1) m := by
  obtain ⟨o, ⟨_, _, _, _, r7, r8, _⟩, ob, ⟨_, _, _, _, l5, l6, _⟩⟩ := q_l B q0
  have o5 := ob 5 (by decide) (by decide)
  have o6 := ob 6 (by decide) (by decide)
  have pb : 0 ≤ x5 ∧ x5 < 8 := ⟨p0, p1⟩
  obtain ⟨t1, t2, t3⟩ := tkb a0 (show 0 ≤ n by omega) an m0 m1
  have y1 : yk284_119 B R R26 q x2 x4 x5 m = R26 q x2 1 (x4 + n) (x5 + 1) m := by
    unfold yk284_119
    rw [if_pos o, r8, l6, if_pos pb, if_pos o6, hn, w32_id (by omega) (by omega), w32_id (by omega) (by omega)]
  have y0 : yk284_123 B R R26 q x2 x4 x5 m = R26 q x2 0 (x4 + n) (x5 + 1) m := by
    unfold yk284_123
    rw [if_pos o, r8, l6, if_pos pb, if_pos o6, hn, w32_id (by omega) (by omega), w32_id (by omega) (by omega)]
  unfold yl284_26
  rw [if_pos o, if_pos h6, r8, l6, if_pos pb, if_pos o6, r7, l5, y0, y1, hn, t1, t2]
  by_cases z : x3 = 0
  · rw [if_pos z]
    exact ⟨0, Or.inl rfl, by rw [z]; exact ⟨fun h => absurd h (by decide), fun h => absurd h.1 (by decide)⟩, rfl⟩
  · have z1 : x3 = 1 := by omega
    rw [if_neg z, if_pos pb, if_pos o5]
    unfold yk284_98
    rw [if_pos o, r7, l5, if_pos pb, if_pos o5, y0, y1]
    by_cases k2 : xR m (q + 5) x5 = 2
    · rw [if_pos k2]
      exact ⟨1, Or.inr rfl, ⟨fun _ => ⟨z1, Or.inl ⟨k2, t3⟩⟩, fun _ => rfl⟩, rfl⟩
    · rw [if_neg k2]
      by_cases k0 : xR m (q + 5) x5 = 0
      · rw [if_pos k0]
        by_cases e : x2 / tw2 x4 % tw2 n = tw2 n - 1
        · rw [if_pos e]
          exact ⟨1, Or.inr rfl, ⟨fun _ => ⟨z1, Or.inr (Or.inl ⟨k0, e⟩)⟩, fun _ => rfl⟩, rfl⟩
        · rw [if_neg e, if_neg (show ¬ xR m (q + 5) x5 = 1 by omega)]
          refine ⟨0, Or.inl rfl, ⟨fun h => absurd h (by decide), fun h => ?_⟩, rfl⟩
          rcases h.2 with w | w | w <;> omega
      · have k1 : xR m (q + 5) x5 = 1 := by omega
        rw [if_neg k0, if_pos k1]
        have tk1 := tkn_1 (show 0 ≤ n by omega) (by omega) t3.1 t3.2
        by_cases e : xw_iandf (x2 / tw2 x4 % tw2 n) (x2 / tw2 x4 % tw2 n + 1) = 0
        · rw [if_pos e]
          exact ⟨1, Or.inr rfl, ⟨fun _ => ⟨z1, Or.inr (Or.inr ⟨k1, tk1.mp e⟩)⟩, fun _ => rfl⟩, rfl⟩
        · rw [if_neg e]
          refine ⟨0, Or.inl rfl, ⟨fun h => absurd h (by decide), fun h => ?_⟩, rfl⟩
          rcases h.2 with w | w | w
          · omega
          · omega
          · exact absurd (tk1.mpr w.2) e
theorem spi_l {R : Int → Int → xw_M → xP} {x2 t k : Int} (q0 : q = 544 ∨ q = 558) (h6 : xR m q 6 = t) (t0 : 0 ≤ t) (hp : ∀ p, 0 ≤ p → p < t → 1 ≤ xR m (q + 6) p ∧ (0 ≤ xR m (q + 5) p ∧ xR m (q + 5) p ≤ 2)) (hk : pof (xR m (q + 6)) t.toNat = k) (k8 : k ≤ 8) (m0 : 0 ≤ x2) (m1 : x2 < tw2 k) : ∀ (N p : Nat) (x3 : Int), (p : Int) ≤ t → (t - p).toNat < N → (x3 = 0 ∨ x3 = 1) → (x3 = 1 ↔ okm (xR m (q + 5)) (xR m (q + 6)) p (x2 % tw2 (pof (xR m (q + 6)) p))) → ∃ x3' : Int, (x3' = 0 ∨ x3' = 1) ∧ (x3' = 1 ↔ okm (xR m (q + 5)) (xR m (q + 6)) t.toNat x2) ∧ xl5 (yl284_26 B R) N q x2 x3 (pof (xR m (q + 6)) p) p m = (if x3' = 0 then R q (w32 (x2 + (-1))) m else (if (0 : Int) ≤ (xR m q 9) ∧ (xR m q 9) < 32 then R q (w32 (x2 + (-1))) (xw_u (xw_u m (q + 7) (xR m q 9) x2) q 9 ((xR m q 9) + 1)) else none)) := by
  have pmono : ∀ (j p : Nat), ((p + j : Nat) : Int) ≤ t → pof (xR m (q + 6)) p + j ≤ pof (xR m (q + 6)) (p + j) := by
    intro j
    induction j with
    | zero => intro p _; simp
    | succ j ih =>
      intro p h
      have a := ih p (by omega)
      have b := (hp ((p + j : Nat) : Int) (by omega) (by omega)).1
      show pof (xR m (q + 6)) p + ((j + 1 : Nat) : Int) ≤ pof (xR m (q + 6)) (p + j) + xR m (q + 6) ((p + j : Nat) : Int)
      omega
  have k0 : 0 ≤ k := by
    have := pmono t.toNat 0 (by omega)
    rw [show 0 + t.toNat = t.toNat by omega, hk] at this
    have z : pof (xR m (q + 6)) 0 = 0 := rfl
    omega
  intro N
  induction N with
  | zero => intro p x3 _ h; omega
  | succ N ih =>
    intro p x3 p1 hN h3 ho
    have tt : t ≤ 8 := by
      have := pmono t.toNat 0 (by omega)
      rw [show 0 + t.toNat = t.toNat by omega, hk] at this
      have z : pof (xR m (q + 6)) 0 = 0 := rfl
      omega
    show ∃ x3' : Int, _ ∧ _ ∧ yl284_26 B R (xl5 (yl284_26 B R) N) q x2 x3 (pof (xR m (q + 6)) p) p m = _
    by_cases hx : (p : Int) < t
    · have pa : 0 ≤ pof (xR m (q + 6)) p := by
        have := pmono p 0 (by omega)
        rw [show 0 + p = p by omega] at this
        have z : pof (xR m (q + 6)) 0 = 0 := rfl
        omega
      have pb : pof (xR m (q + 6)) (p + 1) ≤ k := by
        have := pmono (t.toNat - (p + 1)) (p + 1) (by omega)
        rw [show p + 1 + (t.toNat - (p + 1)) = t.toNat by omega, hk] at this
        omega
      have pe : pof (xR m (q + 6)) (p + 1) = pof (xR m (q + 6)) p + xR m (q + 6) p := rfl
      have tb := tw2_b k0 k8
      obtain ⟨x3', a1, a2, a3⟩ := spi_s (B := B) (R := R) (R26 := xl5 (yl284_26 B R) N) (x2 := x2) (x3 := x3) (x4 := pof (xR m (q + 6)) p) (x5 := (p : Int)) (n := xR m (q + 6) p) q0 (by rw [h6]; exact hx) (by omega) (by omega) pa rfl (hp p (by omega) hx).1 (by omega) (hp p (by omega) hx).2 m0 (by omega) h3
      have os := okm_s (kd := xR m (q + 5)) (sz := xR m (q + 6)) (p := p) (m := x2) (fun p' h0 h1 => (hp p' h0 (by omega)).1) (hp p (by omega) hx).1 (by omega) m0
      rw [a3, ← pe, show (p : Int) + 1 = ((p + 1 : Nat) : Int) by omega]
      exact ih (p + 1) x3' (by omega) (by omega) a1 (by rw [a2, ho, pe, os])
    · obtain ⟨o, ⟨_, _, _, _, _, _, r10, _⟩, ob, ⟨_, _, _, _, _, _, l7, _⟩⟩ := q_l B q0
      have pt : p = t.toNat := by omega
      refine ⟨x3, h3, ?_, ?_⟩
      · rw [ho, pt, hk, Int.emod_eq_of_lt m0 m1]
      · unfold yl284_26
        rw [if_pos o, h6, if_neg hx, r10, l7, if_pos (ob 7 (by decide) (by decide))]
theorem mk_le {M M0 : Int → Int} {s S0 : Int} {P : Int → Prop} (h : MKs M0 S0 P) (h1 : ∀ i, 0 ≤ i → i < s → P (M i)) (h2 : ∀ i j, 0 ≤ i → i < s → 0 ≤ j → j < s → M i = M j → i = j) (S1 : 0 ≤ S0) : s ≤ S0 := by
  have ex : ∀ i : Nat, ∃ j : Nat, (i : Int) < s → (j : Int) < S0 ∧ M0 j = M i := fun i => by
    by_cases c : (i : Int) < s
    · obtain ⟨j, j0, j1, e⟩ := h.2.2 (M i) (h1 i (by omega) c)
      exact ⟨j.toNat, fun _ => ⟨by omega, by rw [Int.toNat_of_nonneg j0]; exact e⟩⟩
    · exact ⟨0, fun z => absurd z c⟩
  obtain ⟨f, hf⟩ := Classical.axiomOfChoice ex
  have := pig S0.toNat s.toNat f (fun i hi => by have := (hf i (by omega)).1; omega) (fun i j hi hj e => by
    have a := (hf i (by omega)).2
    have b := (hf j (by omega)).2
    rw [e] at a
    have := h2 i j (by omega) (by omega) (by omega) (by omega) (a.symm.trans b)
    omega)
  omega
/-- spread -/
theorem spread_ok {t k S0 : Int} {M0 : Int → Int} (q0 : q = 544 ∨ q = 558) (h4 : xR m q 4 = k) (k0 : 0 ≤ k) (k8 : k ≤ 8) (h6 : xR m q 6 = t) (t0 : 0 ≤ t) (hp : ∀ p, 0 ≤ p → p < t → 1 ≤ xR m (q + 6) p ∧ (0 ≤ xR m (q + 5) p ∧ xR m (q + 5) p ≤ 2)) (hk : pof (xR m (q + 6)) t.toNat = k) (H : MKs M0 S0 (okm (xR m (q + 5)) (xR m (q + 6)) t.toNat)) (S1 : 0 ≤ S0) (S32 : S0 ≤ 32) : ∃ m', yf284 B q m = some (.inl 0, m') ∧ (∀ a, a ≠ q → a ≠ q + 7 → m' a = m a) ∧ (∀ j, j ≠ 9 → m' q j = m q j) ∧ (0 ≤ xR m' q 9 ∧ xR m' q 9 ≤ 32) ∧ MKs (xR m' (q + 7)) (xR m' q 9) (okm (xR m (q + 5)) (xR m (q + 6)) t.toNat) := by
  have o := (q_l B q0).1
  have tb := tw2_b k0 k8
  have e1 := (tkb (m := 0) (a := 0) (n := k) (by decide) k0 (by omega) (by decide) (by decide)).2.1
  have t8 : t ≤ 8 := by
    have := pof_0 (sz := xR m (q + 6)) t.toNat (fun p p0 p1 => (hp p p0 (by omega)).1)
    omega
  unfold yf284
  rw [if_pos o, h4, e1]
  generalize hO : okm (xR m (q + 5)) (xR m (q + 6)) t.toNat = O at *
  obtain ⟨N, hN⟩ : ∃ N : Nat, N = 1000000 := ⟨_, rfl⟩
  rw [← hN]
  have goal := xH_ex (Q := fun v m' => v = 0 ∧ (∀ a, a ≠ q → a ≠ q + 7 → m' a = m a) ∧ (∀ j, j ≠ 9 → m' q j = m q j) ∧ (0 ≤ xR m' q 9 ∧ xR m' q 9 ≤ 32) ∧ MKs (xR m' (q + 7)) (xR m' q 9) O) (xl2_rule (F := yl284_14 B) (fun x1 x2 m' => x1 = q ∧ -1 ≤ x2 ∧ x2 < tw2 k ∧ (∀ a, a ≠ q → a ≠ q + 7 → m' a = m a) ∧ (∀ j, j ≠ 9 → m' q j = m q j) ∧ (0 ≤ xR m' q 9) ∧ (∀ s, 0 ≤ s → s < xR m' q 9 → O (xR m' (q + 7) s) ∧ x2 < xR m' (q + 7) s) ∧ (∀ s s', 0 ≤ s → s < xR m' q 9 → 0 ≤ s' → s' < xR m' q 9 → xR m' (q + 7) s = xR m' (q + 7) s' → s = s') ∧ ∀ y, x2 < y → O y → ∃ s, 0 ≤ s ∧ s < xR m' q 9 ∧ xR m' (q + 7) s = y) (fun _ x2 _ => (x2 + 1).toNat) ?_ N q (tw2 k - 1) (xw_u m q 9 0) ⟨rfl, by omega, by omega, fun a a1 _ => xu_c a1, fun j hj => xu_ne (by omega), ?_, ?_, ?_, ?_⟩ (by omega))
  · obtain ⟨v, m', e, rfl, h⟩ := goal
    exact ⟨m', e, h⟩
  · intro R x1 x2 m1 ⟨b1, b2, b3, f1, f2, c0, c1, c2, c3⟩ ih
    subst b1
    have cb := mk_le H (fun i i0 i1 => (c1 i i0 i1).1) c2 S1
    have x6 : xR m1 (x1 + 6) = xR m (x1 + 6) := xR_cg (f1 _ (by omega) (by omega))
    have x5 : xR m1 (x1 + 5) = xR m (x1 + 5) := xR_cg (f1 _ (by omega) (by omega))
    unfold yl284_14
    by_cases hx : x2 < 0
    · rw [if_pos hx, xH_ret]
      obtain rfl : x2 = -1 := by omega
      refine ⟨rfl, f1, f2, ⟨c0, by omega⟩, fun s s0 s1 => (c1 s s0 s1).1, c2, fun y hy => ?_⟩
      have yb : -1 < y := by
        rw [← hO] at hy
        have := okm_b (kd := xR m (x1 + 5)) (sz := xR m (x1 + 6)) t.toNat y (fun p p0 p1 => (hp p p0 (by omega)).1) (by omega) hy
        omega
      exact c3 y yb hy
    · rw [if_neg hx, ← hN]
      obtain ⟨x3', a1, a2, a3⟩ := spi_l (B := B) (R := R) (x2 := x2) (t := t) (k := k) (m := m1) q0 (by rw [xR_fld (f2 6 (by decide))]; exact h6) t0 (by rw [x5, x6]; exact hp) (by rw [x6]; exact hk) k8 (by omega) b3 N 0 1 (by omega) (by omega) (Or.inr rfl) ⟨fun _ => by
        show x2 % tw2 0 = 0
        rw [tw2_v.1]; omega, fun _ => rfl⟩
      rw [show pof (xR m1 (x1 + 6)) 0 = 0 from rfl, show ((0 : Nat) : Int) = 0 from rfl] at a3
      rw [x5, x6, hO] at a2
      rw [a3, w32_id (x := x2 + -1) (by omega) (by omega)]
      by_cases z : x3' = 0
      · rw [if_pos z]
        have no : ¬ O x2 := fun h => by have := a2.mpr h; omega
        refine ih _ _ _ ⟨rfl, by omega, by omega, f1, f2, c0, fun s s0 s1 => ⟨(c1 s s0 s1).1, by have := (c1 s s0 s1).2; omega⟩, c2, fun y hy oy => ?_⟩ (by omega)
        by_cases e : y = x2
        · rw [e] at oy; exact absurd oy no
        · exact c3 y (by omega) oy
      · have ok : O x2 := a2.mp (by omega)
        have M2 := mk_le (M := fun i => if i < xR m1 x1 9 then xR m1 (x1 + 7) i else x2) (s := xR m1 x1 9 + 1) H (fun i i0 i1 => by
          by_cases e : i < xR m1 x1 9
          · rw [if_pos e]; exact (c1 i i0 e).1
          · rw [if_neg e]; exact ok) (fun i j i0 i1 j0 j1 e => by
          by_cases e1 : i < xR m1 x1 9
          · by_cases e2 : j < xR m1 x1 9
            · rw [if_pos e1, if_pos e2] at e; exact c2 i j i0 e1 j0 e2 e
            · rw [if_pos e1, if_neg e2] at e
              have := (c1 i i0 e1).2; omega
          · by_cases e2 : j < xR m1 x1 9
            · rw [if_neg e1, if_pos e2] at e
              have := (c1 j j0 e2).2; omega
            · omega) S1
        rw [if_neg z, if_pos ⟨c0, by omega⟩]
        have w9 : xR (xw_u (xw_u m1 (x1 + 7) (xR m1 x1 9) x2) x1 9 (xR m1 x1 9 + 1)) x1 9 = xR m1 x1 9 + 1 := xR_at (w32_id (by omega) (by omega))
        have w7 : ∀ s, xR (xw_u (xw_u m1 (x1 + 7) (xR m1 x1 9) x2) x1 9 (xR m1 x1 9 + 1)) (x1 + 7) s = if s = xR m1 x1 9 then x2 else xR m1 (x1 + 7) s := fun s => by
          rw [xR_cg (xu_c (by omega))]
          by_cases e : s = xR m1 x1 9
          · rw [if_pos e, e]; exact xR_at (w32_id (by omega) (by omega))
          · rw [if_neg e]; exact xR_ne (fun z => e z.2)
        refine ih _ _ _ ⟨rfl, by omega, by omega, fun a a1 a2 => by rw [xu_c a1, xu_c a2]; exact f1 a a1 a2, fun j hj => by rw [xu_ne (by omega), xu_c (by omega)]; exact f2 j hj, by rw [w9]; omega, fun s s0 s1 => ?_, fun s s' s0 s1 s0' s1' e => ?_, fun y hy oy => ?_⟩ (by omega)
        · rw [w9] at s1
          rw [w7 s]
          by_cases e : s = xR m1 x1 9
          · rw [if_pos e]; exact ⟨ok, by omega⟩
          · rw [if_neg e]; have := c1 s s0 (by omega); exact ⟨this.1, by omega⟩
        · rw [w9] at s1 s1'
          rw [w7 s, w7 s'] at e
          by_cases e1 : s = xR m1 x1 9
          · by_cases e2 : s' = xR m1 x1 9
            · omega
            · rw [if_pos e1, if_neg e2] at e
              have := (c1 s' s0' (by omega)).2; omega
          · by_cases e2 : s' = xR m1 x1 9
            · rw [if_neg e1, if_pos e2] at e
              have := (c1 s s0 (by omega)).2; omega
            · rw [if_neg e1, if_neg e2] at e
              exact c2 s s' s0 (by omega) s0' (by omega) e
        · rw [w9]
          by_cases e : y = x2
          · exact ⟨xR m1 x1 9, c0, by omega, by rw [w7, if_pos rfl, e]⟩
          · obtain ⟨s, s0, s1, s2⟩ := c3 y (by omega) oy
            exact ⟨s, s0, by omega, by rw [w7, if_neg (by omega)]; exact s2⟩
  · rw [xR_at (by decide)]; decide
  · intro s s0 s1
    rw [xR_at (by decide)] at s1
    omega
  · intro s s' s0 s1
    rw [xR_at (by decide)] at s1
    omega
  · intro y hy oy
    exfalso
    rw [← hO] at oy
    have := okm_b (kd := xR m (q + 5)) (sz := xR m (q + 6)) t.toNat y (fun p p0 p1 => (hp p p0 (by omega)).1) (by omega) oy
    rw [hk] at this
    omega
end SPR
