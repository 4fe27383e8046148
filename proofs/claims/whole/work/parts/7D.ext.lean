/-! EXTENTS: beginExtent, neededBlocks, addExtent, takeViews, the choice's place -/
section EXT
variable {B : Nat} {m : xw_M}
theorem begin_ext {kd note p tu : Int} (hB : B ≤ 512) (hB2 : 2 ≤ B) (h1 : xR m 518 1 = 64 * (B * 512 : Nat)) (h2 : xR m 518 2 = p) (p0 : 0 ≤ p) (p1 : p ≤ 64 * (B * 512 : Nat)) (Z : ∀ q, p ≤ q → q < 64 * (B * 512 : Nat) → bW (m 517) q = false) (htu : xR m 508 8 = tu) : ∃ m', yf150 B kd note m = some (.inl 0, m') ∧ ws B m' 64 ∧ (∀ a, a ≠ 517 → a ≠ 518 → m' a = m a) ∧ (∀ k, k ≠ 2 → k ≠ 3 → m' 518 k = m 518 k) ∧ tk (m' 517) 0 8 = msk kd 8 ∧ tk (m' 517) 8 24 = msk tu 24 ∧ tk (m' 517) 32 32 = msk note 32 := by
  have T := tp518 hB
  obtain ⟨m1, e1, w1, F1, G1⟩ := clear_ok (B := B) T h1 h2 p0 p1 Z
  have w1' : ws B m1 0 := w1
  obtain ⟨m2, e2, w2, f2, t2⟩ := put_ws hB (v := kd) (n := 8) w1' (by decide) (by decide) (by omega)
  obtain ⟨m3, e3, w3, f3, t3⟩ := put_ws hB (v := tu) (n := 24) w2 (by decide) (by decide) (by omega)
  obtain ⟨m4, e4, w4, f4, t4⟩ := put_ws hB (v := note) (n := 32) w3 (by decide) (by decide) (by omega)
  have F24 := fr_trans (fr_trans f2 f3 (by decide)) f4 (by decide)
  unfold yf150
  rw [e1, xB_ret, e2, xB_ret, show xR m2 508 8 = tu from by rw [xR_cg (f2.1 508 (by decide) (by decide)), xR_cg (F1 508 (by decide) (by decide))]; exact htu, e3, xB_ret, e4, xB_ret]
  exact ⟨m4, rfl, w4, fun a h h' => (F24.1 a h h').trans (F1 a h h'), fun k h h' => (F24.2.1 k h).trans (G1 k h h'), (fr_tk (fr_trans f3 f4 (by decide)) (by decide) (by decide)).trans t2, (fr_tk f4 (by decide) (by decide)).trans t3, t4⟩
theorem needed_ok {p : Int} (h : xR m 518 2 = p) (p0 : 0 ≤ p) (p1 : p ≤ 1000000000) : yf156 B m = some (.inl ((p + 32767) / 32768), m) := by
  unfold yf156
  rw [h, w32_id (by omega) (by omega), if_pos (by omega), show p + 32768 - 1 = p + 32767 from by omega]
theorem add_ext {kd st ln E : Int} (hE : xR m 508 14 = E) (E0 : 0 ≤ E) (E1 : E < 200) : ∃ m', yf159 B kd st ln m = some (.inl 0, m') ∧ (∀ a, a ≠ 508 → a ≠ 513 → a ≠ 514 → a ≠ 515 → m' a = m a) ∧ (∀ k, k ≠ 14 → m' 508 k = m 508 k) ∧ xR m' 508 14 = E + 1 ∧ (∀ e, e ≠ E → xR m' 513 e = xR m 513 e ∧ xR m' 514 e = xR m 514 e ∧ xR m' 515 e = xR m 515 e) ∧ xR m' 513 E = w32 kd ∧ xR m' 514 E = w32 st ∧ xR m' 515 E = w32 ln := by
  unfold yf159
  rw [hE, if_pos ⟨E0, E1⟩]
  refine ⟨_, rfl, fun a h1 h2 h3 h4 => by rw [xu_c h1, xu_c h4, xu_c h3, xu_c h2], fun k hk => ?_, ?_, fun e he => ⟨?_, ?_, ?_⟩, ?_, ?_, ?_⟩
  · have : ∀ ma : xw_M, (xw_u ma 508 14 (E + 1)) 508 k = ma 508 k := fun ma => if_neg (fun h => hk h.2)
    rw [this, xu_c (by decide), xu_c (by decide), xu_c (by decide)]
  · rw [xR_u, if_pos ⟨rfl, rfl⟩, w32_id (by omega) (by omega)]
  · rw [xR_cg (xu_c (by decide)), xR_cg (xu_c (by decide)), xR_cg (xu_c (by decide)), xR_u, if_neg (fun h => he h.2)]
  · rw [xR_cg (xu_c (by decide)), xR_cg (xu_c (by decide)), xR_u, if_neg (fun h => he h.2), xR_cg (xu_c (by decide))]
  · rw [xR_cg (xu_c (by decide)), xR_u, if_neg (fun h => he h.2), xR_cg (xu_c (by decide)), xR_cg (xu_c (by decide))]
  · rw [xR_cg (xu_c (by decide)), xR_cg (xu_c (by decide)), xR_cg (xu_c (by decide)), xR_u, if_pos ⟨rfl, rfl⟩]
  · rw [xR_cg (xu_c (by decide)), xR_cg (xu_c (by decide)), xR_u, if_pos ⟨rfl, rfl⟩]
  · rw [xR_cg (xu_c (by decide)), xR_u, if_pos ⟨rfl, rfl⟩]
theorem xR_w (m : xw_M) (a k : Int) : w32 (xR m a k) = xR m a k := w32_id (w32_rng _).1 (w32_rng _).2
theorem take_views {a r n : Int} (n0 : 0 ≤ n) (n1 : n ≤ 16) (ha : xw_obb 16 a = true) (hr : xw_obb 16 r = true) (la : 16 ≤ xw_le B a) (lr : 16 ≤ xw_le B r) (h1 : a ≠ 512) (h2 : r ≠ 511) (h3 : r ≠ 512) (h4 : a ≠ 508) (h5 : r ≠ 508) : ∃ m', yf213 B a r n m = some (.inl 0, m') ∧ (∀ c, c ≠ 508 → c ≠ 511 → c ≠ 512 → m' c = m c) ∧ (∀ k, k ≠ 11 → m' 508 k = m 508 k) ∧ xR m' 508 11 = n ∧ (∀ i, 0 ≤ i → i < n → xR m' 511 i = xR m a i ∧ xR m' 512 i = xR m r i) := by
  unfold yf213
  generalize hN : (1000000 : Nat) = N
  have goal := xH_ex (Q := fun v m' => v = 0 ∧ (∀ c, c ≠ 508 → c ≠ 511 → c ≠ 512 → m' c = m c) ∧ (∀ k, k ≠ 11 → m' 508 k = m 508 k) ∧ xR m' 508 11 = n ∧ (∀ i, 0 ≤ i → i < n → xR m' 511 i = xR m a i ∧ xR m' 512 i = xR m r i)) (xl4_rule (F := yl213_8 B) (fun y1 y2 y3 x m' => (y1 = a ∧ y2 = r ∧ y3 = n) ∧ 0 ≤ x ∧ x ≤ n ∧ (∀ c, c ≠ 508 → c ≠ 511 → c ≠ 512 → m' c = m c) ∧ (∀ k, k ≠ 11 → m' 508 k = m 508 k) ∧ xR m' 508 11 = n ∧ (∀ i, xR m' a i = xR m a i) ∧ (∀ i, xR m' r i = xR m r i) ∧ (∀ i, 0 ≤ i → i < x → xR m' 511 i = xR m a i ∧ xR m' 512 i = xR m r i)) (fun _ _ _ x _ => (n - x).toNat) ?_ N a r n 0 (xw_u m 508 11 n) ⟨⟨rfl, rfl, rfl⟩, by omega, n0, fun c k1 _ _ => xu_c k1, fun k hk => if_neg (fun h => hk h.2), by rw [xR_u, if_pos ⟨rfl, rfl⟩, w32_id (by omega) (by omega)], fun i => by rw [xR_cg (xu_c h4)], fun i => by rw [xR_cg (xu_c h5)], fun i i0 i1 => absurd i1 (Int.not_lt.mpr i0)⟩ (by omega))
  · obtain ⟨v, m', e, rfl, h⟩ := goal
    exact ⟨m', e, h⟩
  · intro q y1 y2 y3 x m1 ⟨⟨b1, b2, b3⟩, x0, x1, F, G, g11, A, R, V⟩ ih
    subst b1 b2 b3
    unfold yl213_8
    by_cases h : x < y3
    · rw [if_pos h, if_pos ⟨x0, by omega⟩, if_pos ha, if_pos ⟨x0, by omega⟩, if_pos ⟨x0, by omega⟩, if_pos hr, w32_id (by omega) (by omega), xR_cg (m := m1) (m' := xw_u m1 511 x (xR m1 y1 x)) (xu_c h2)]
      have z1 : ∀ i, xR (xw_u (xw_u m1 511 x (xR m1 y1 x)) 512 x (xR m1 y2 x)) 511 i = if i = x then xR m1 y1 x else xR m1 511 i := by
        intro i
        rw [xR_cg (xu_c (by decide)), xR_u]
        by_cases e : i = x
        · rw [if_pos ⟨rfl, e⟩, if_pos e, xR_w]
        · rw [if_neg (fun h' => e h'.2), if_neg e]
      have z2 : ∀ i, xR (xw_u (xw_u m1 511 x (xR m1 y1 x)) 512 x (xR m1 y2 x)) 512 i = if i = x then xR m1 y2 x else xR m1 512 i := by
        intro i
        rw [xR_u]
        by_cases e : i = x
        · rw [if_pos ⟨rfl, e⟩, if_pos e, xR_w]
        · rw [if_neg (fun h' => e h'.2), if_neg e, xR_cg (xu_c (by decide))]
      refine ih _ _ _ _ _ ⟨⟨rfl, rfl, rfl⟩, by omega, by omega, fun c k1 k2 k3 => by rw [xu_c k3, xu_c k2]; exact F c k1 k2 k3, fun k hk => by rw [xu_c (by decide), xu_c (by decide)]; exact G k hk, by rw [xR_cg (xu_c (by decide)), xR_cg (xu_c (by decide))]; exact g11, fun i => ?_, fun i => ?_, fun i i0 i1 => ?_⟩ (by omega)
      · by_cases ea : y1 = 511
        · subst ea
          rw [z1]
          by_cases e : i = x
          · rw [if_pos e, e]
            exact A x
          · rw [if_neg e]
            exact A i
        · rw [xR_cg (xu_c h1), xR_cg (xu_c ea)]
          exact A i
      · rw [xR_cg (xu_c h3), xR_cg (xu_c h2)]
        exact R i
      · rw [z1, z2]
        by_cases e : i = x
        · rw [if_pos e, if_pos e, e]
          exact ⟨A x, R x⟩
        · rw [if_neg e, if_neg e]
          exact V i i0 (by omega)
    · have e : x = y3 := by omega
      subst e
      rw [if_neg h, xH_ret]
      exact ⟨rfl, F, G, g11, V⟩
/-- where the choice's extent is: the first of kind 3, or none -/
theorem first_ok {E : Int} (hE : xR m 508 14 = E) (E0 : 0 ≤ E) (E1 : E ≤ 200) : ∃ v, yf102 B m = some (.inl v, m) ∧ ((v = 1 ∧ ∀ e, 0 ≤ e → e < E → xR m 513 e ≠ 3) ∨ ((0 ≤ v ∧ v < E) ∧ xR m 513 v = 3 ∧ ∀ e, 0 ≤ e → e < v → xR m 513 e ≠ 3)) := by
  unfold yf102
  generalize hN : (1000000 : Nat) = N
  have goal := xH_ex (Q := fun v m' => m' = m ∧ ((v = 1 ∧ ∀ e, 0 ≤ e → e < E → xR m 513 e ≠ 3) ∨ ((0 ≤ v ∧ v < E) ∧ xR m 513 v = 3 ∧ ∀ e, 0 ≤ e → e < v → xR m 513 e ≠ 3))) (xl1_rule (F := yl102_2 B) (fun x m' => m' = m ∧ 0 ≤ x ∧ x ≤ E ∧ ∀ e, 0 ≤ e → e < x → xR m 513 e ≠ 3) (fun x _ => (E - x).toNat) ?_ N 0 m ⟨rfl, by omega, E0, fun i i0 i1 => absurd i1 (Int.not_lt.mpr i0)⟩ (by omega))
  · obtain ⟨v, m', e, rfl, h⟩ := goal
    exact ⟨v, e, h⟩
  · intro r x m1 ⟨a0, x0, x1, V⟩ ih
    subst a0
    unfold yl102_2
    rw [hE]
    by_cases h : x < E
    · rw [if_pos h, if_pos ⟨x0, by omega⟩]
      by_cases h3 : xR m1 513 x = 3
      · rw [if_pos h3, xH_ret]
        exact ⟨rfl, Or.inr ⟨⟨x0, h⟩, h3, V⟩⟩
      · rw [if_neg h3, w32_id (by omega) (by omega)]
        refine ih _ _ ⟨rfl, by omega, by omega, fun e e0 e1 => ?_⟩ (by omega)
        by_cases ee : e = x
        · rw [ee]; exact h3
        · exact V e e0 (by omega)
    · have e : x = E := by omega
      subst e
      rw [if_neg h, xH_ret]
      exact ⟨rfl, Or.inl ⟨rfl, V⟩⟩
/-- how many there are besides the choice's, if that is one at most -/
theorem without_ok {E : Int} (hE : xR m 508 14 = E) (E0 : 0 ≤ E) (E1 : E ≤ 200) (hone : ∀ e e', 0 ≤ e → e < E → 0 ≤ e' → e' < E → xR m 513 e = 3 → xR m 513 e' = 3 → e = e') : yf209 B m = some (.inl (cnt (fun e => decide (xR m 513 e ≠ 3)) E.toNat), m) := by
  obtain ⟨v, e, hv⟩ := first_ok (B := B) hE E0 E1
  have hadd := cnt_add (P := fun e => decide (xR m 513 e ≠ 3)) (Q := fun e => decide (xR m 513 e = 3)) (R := fun _ => true) E.toNat (fun i hi => by
    by_cases h : xR m 513 i = 3
    · simp [h]
    · simp [h])
  have hall : ∀ n : Nat, cnt (fun _ => true) n = n := by
    intro n
    induction n with
    | zero => rfl
    | succ n ih =>
      show cnt (fun _ => true) n + 1 = _
      omega
  rw [hall] at hadd
  unfold yf209
  rw [e, xB_ret, hE]
  rcases hv with ⟨h1, h2⟩ | ⟨h1, h2, h3⟩
  · have z : cnt (fun e => decide (xR m 513 e = 3)) E.toNat = 0 := cnt_0.mpr (fun i hi => decide_eq_false (h2 i (by omega) (by omega)))
    by_cases hl : v < E
    · rw [if_pos hl, if_pos ⟨by omega, by omega⟩, if_neg (h2 v (by omega) hl)]
      congr 3
      omega
    · rw [if_neg hl]
      congr 3
      omega
  · have one : cnt (fun e => decide (xR m 513 e = 3)) E.toNat = 1 := by
      have k := cnt_int (s := v) (l := 1) h1.1 (by decide) E.toNat
      have : cnt (fun e => decide (xR m 513 e = 3)) E.toNat = cnt (fun x => decide (v ≤ x ∧ x < v + 1)) E.toNat := cnt_cg _ (fun i hi => by
        by_cases ei : (i : Int) = v
        · rw [decide_eq_true (by rw [ei]; exact h2), decide_eq_true (by omega)]
        · rw [decide_eq_false (fun h' => ei (hone i v (by omega) (by omega) h1.1 h1.2 h' h2)), decide_eq_false (by omega)])
      rw [this, k]
      omega
    rw [if_pos h1.2, if_pos ⟨h1.1, by omega⟩, if_pos h2, w32_id (by omega) (by omega)]
    congr 3
    omega
end EXT
