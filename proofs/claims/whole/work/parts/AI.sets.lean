/-! GROUPING SETS: their masks, by the class -/
def tw2 (a : Int) : Int := ((2 ^ a.toNat : Nat) : Int)
theorem tw2_v : tw2 0 = 1 ∧ tw2 1 = 2 ∧ tw2 2 = 4 ∧ tw2 3 = 8 ∧ tw2 4 = 16 ∧ tw2 5 = 32 ∧ tw2 6 = 64 ∧ tw2 7 = 128 ∧ tw2 8 = 256 := by decide
theorem to8 {a : Int} (h0 : 0 ≤ a) (h1 : a ≤ 8) : a = 0 ∨ a = 1 ∨ a = 2 ∨ a = 3 ∨ a = 4 ∨ a = 5 ∨ a = 6 ∨ a = 7 ∨ a = 8 := by omega
theorem tw2_md {m a n : Int} (a0 : 0 ≤ a) (n0 : 0 ≤ n) (h : a + n ≤ 8) (m0 : 0 ≤ m) : m % tw2 (a + n) % tw2 a = m % tw2 a ∧ m % tw2 (a + n) / tw2 a = m / tw2 a % tw2 n := by
  obtain ⟨v0, v1, v2, v3, v4, v5, v6, v7, v8⟩ := tw2_v
  rcases to8 a0 (by omega) with rfl | rfl | rfl | rfl | rfl | rfl | rfl | rfl | rfl
  · rw [show (0 : Int) + n = n by omega, v0]; rcases to8 n0 (by omega) with rfl | rfl | rfl | rfl | rfl | rfl | rfl | rfl | rfl <;> simp only [v0, v1, v2, v3, v4, v5, v6, v7, v8] <;> omega
  · rw [v1]; rcases to8 n0 (by omega) with rfl | rfl | rfl | rfl | rfl | rfl | rfl | rfl | rfl <;> simp only [v0, v1, v2, v3, v4, v5, v6, v7, v8, show (1 : Int) + 0 = 1 from rfl, show (1 : Int) + 1 = 2 from rfl, show (1 : Int) + 2 = 3 from rfl, show (1 : Int) + 3 = 4 from rfl, show (1 : Int) + 4 = 5 from rfl, show (1 : Int) + 5 = 6 from rfl, show (1 : Int) + 6 = 7 from rfl, show (1 : Int) + 7 = 8 from rfl] <;> omega
  · rw [v2]; rcases to8 n0 (by omega) with rfl | rfl | rfl | rfl | rfl | rfl | rfl | rfl | rfl <;> simp only [v0, v1, v2, v3, v4, v5, v6, v7, v8, show (2 : Int) + 0 = 2 from rfl, show (2 : Int) + 1 = 3 from rfl, show (2 : Int) + 2 = 4 from rfl, show (2 : Int) + 3 = 5 from rfl, show (2 : Int) + 4 = 6 from rfl, show (2 : Int) + 5 = 7 from rfl, show (2 : Int) + 6 = 8 from rfl] <;> omega
  · rw [v3]; rcases to8 n0 (by omega) with rfl | rfl | rfl | rfl | rfl | rfl | rfl | rfl | rfl <;> simp only [v0, v1, v2, v3, v4, v5, v6, v7, v8, show (3 : Int) + 0 = 3 from rfl, show (3 : Int) + 1 = 4 from rfl, show (3 : Int) + 2 = 5 from rfl, show (3 : Int) + 3 = 6 from rfl, show (3 : Int) + 4 = 7 from rfl, show (3 : Int) + 5 = 8 from rfl] <;> omega
  · rw [v4]; rcases to8 n0 (by omega) with rfl | rfl | rfl | rfl | rfl | rfl | rfl | rfl | rfl <;> simp only [v0, v1, v2, v3, v4, v5, v6, v7, v8, show (4 : Int) + 0 = 4 from rfl, show (4 : Int) + 1 = 5 from rfl, show (4 : Int) + 2 = 6 from rfl, show (4 : Int) + 3 = 7 from rfl, show (4 : Int) + 4 = 8 from rfl] <;> omega
  · rw [v5]; rcases to8 n0 (by omega) with rfl | rfl | rfl | rfl | rfl | rfl | rfl | rfl | rfl <;> simp only [v0, v1, v2, v3, v4, v5, v6, v7, v8, show (5 : Int) + 0 = 5 from rfl, show (5 : Int) + 1 = 6 from rfl, show (5 : Int) + 2 = 7 from rfl, show (5 : Int) + 3 = 8 from rfl] <;> omega
  · rw [v6]; rcases to8 n0 (by omega) with rfl | rfl | rfl | rfl | rfl | rfl | rfl | rfl | rfl <;> simp only [v0, v1, v2, v3, v4, v5, v6, v7, v8, show (6 : Int) + 0 = 6 from rfl, show (6 : Int) + 1 = 7 from rfl, show (6 : Int) + 2 = 8 from rfl] <;> omega
  · rw [v7]; rcases to8 n0 (by omega) with rfl | rfl | rfl | rfl | rfl | rfl | rfl | rfl | rfl <;> simp only [v0, v1, v2, v3, v4, v5, v6, v7, v8, show (7 : Int) + 0 = 7 from rfl, show (7 : Int) + 1 = 8 from rfl] <;> omega
  · rw [v8]; rcases to8 n0 (by omega) with rfl | rfl | rfl | rfl | rfl | rfl | rfl | rfl | rfl <;> simp only [v0, v1, v2, v3, v4, v5, v6, v7, v8, show (8 : Int) + 0 = 8 from rfl] <;> omega
theorem tw2_b {a : Int} (a0 : 0 ≤ a) (a1 : a ≤ 8) : 1 ≤ tw2 a ∧ tw2 a ≤ 256 := by
  obtain ⟨v0, v1, v2, v3, v4, v5, v6, v7, v8⟩ := tw2_v
  rcases to8 a0 a1 with rfl | rfl | rfl | rfl | rfl | rfl | rfl | rfl | rfl <;> omega
theorem tw2_add {a n : Int} (a0 : 0 ≤ a) (n0 : 0 ≤ n) : tw2 (a + n) = tw2 n * tw2 a := by
  unfold tw2
  rw [show (a + n).toNat = n.toNat + a.toNat by omega, Nat.pow_add]
  exact Int.natCast_mul _ _
/-- or of what doesn't overlap is a sum -/
theorem or_all : ∀ f : Fin 9, ∀ x : Fin 256, xw_iorf ((((x : Nat) % 2 ^ (f : Nat) : Nat)) : Int) (xw_ishlf ((((x : Nat) / 2 ^ (f : Nat) : Nat)) : Int) ((f : Nat) : Int)) = ((x : Nat) : Int) := by decide +kernel
theorem or_add {m y f : Int} (f0 : 0 ≤ f) (f8 : f ≤ 8) (m0 : 0 ≤ m) (m1 : m < tw2 f) (y0 : 0 ≤ y) (h : m + y * tw2 f < 256) : xw_iorf m (xw_ishlf y f) = m + y * tw2 f := by
  obtain ⟨fn, rfl⟩ : ∃ k : Nat, f = k := ⟨f.toNat, by omega⟩
  obtain ⟨mn, rfl⟩ : ∃ k : Nat, m = k := ⟨m.toNat, by omega⟩
  obtain ⟨yn, rfl⟩ : ∃ k : Nat, y = k := ⟨y.toNat, by omega⟩
  have p : tw2 (fn : Int) = ((2 ^ fn : Nat) : Int) := by unfold tw2; rw [Int.toNat_natCast]
  rw [p] at m1 h ⊢
  have h' : mn + yn * 2 ^ fn < 256 := by
    have : ((mn + yn * 2 ^ fn : Nat) : Int) < 256 := by rw [Int.natCast_add, Int.natCast_mul]; exact h
    omega
  have m1' : mn < 2 ^ fn := by omega
  have o := or_all ⟨fn, by omega⟩ ⟨mn + yn * 2 ^ fn, h'⟩
  have e1 : (mn + yn * 2 ^ fn) % 2 ^ fn = mn := by rw [Nat.add_mul_mod_self_right, Nat.mod_eq_of_lt m1']
  have e2 : (mn + yn * 2 ^ fn) / 2 ^ fn = yn := by rw [Nat.add_mul_div_right _ _ (Nat.two_pow_pos fn), Nat.div_eq_of_lt m1', Nat.zero_add]
  simp only [e1, e2] at o
  rw [o, Int.natCast_add, Int.natCast_mul]
theorem shl1 {n : Int} (n0 : 0 ≤ n) (n8 : n ≤ 8) : xw_ishlf 1 n = tw2 n := by
  rcases to8 n0 n8 with rfl | rfl | rfl | rfl | rfl | rfl | rfl | rfl | rfl <;> decide
section ADS
variable {B : Nat}
/-- a part's variants -/
def vrn (K n : Int) : Int := if K = 207 then n + 1 else if K = 208 then tw2 n else 1
def tkv (K v : Int) : Int := if K = 207 then tw2 v - 1 else if K = 208 then v else 1
def fSt (c c' : xw_M) : Prop := (∀ a, a ≠ 223 → a ≠ 228 → c' a = c a) ∧ ∀ k, k ≠ 8 → c' 223 k = c 223 k
/-- one variant's masks -/
theorem var_l {K f V v t S : Int} {R : Int → Int → Int → Int → xw_M → xP} (f0 : 0 ≤ f) (f8 : f ≤ 8) (v1 : 1 ≤ v) (s32 : v * S + S ≤ 32) (S1 : 1 ≤ S) (S2 : S ≤ 32) (vS : S ≤ v * S) (v32 : v ≤ 32) (t0 : 0 ≤ t) (ht : t * tw2 f + tw2 f ≤ 256) : ∀ (N : Nat) (s : Int) (c : xw_M), 0 ≤ s → s ≤ S → (S - s).toNat < N → xR c 223 8 = S → (∀ i, 0 ≤ i → i < S → 0 ≤ xR c 228 i ∧ xR c 228 i < tw2 f) → ∃ c', xl6 (yl91_128 B R) N K f V v t s c = R K f V (v + 1) c' ∧ (∀ a, a ≠ 228 → c' a = c a) ∧ (∀ i, (i < v * S + s ∨ v * S + S ≤ i) → c' 228 i = c 228 i) ∧ ∀ i, s ≤ i → i < S → xR c' 228 (v * S + i) = xR c 228 i + t * tw2 f := by
  intro N
  induction N with
  | zero => intro s c _ _ h; omega
  | succ N ih =>
    intro s c s0 s1 hN h8 hm
    show ∃ c', yl91_128 B R (xl6 (yl91_128 B R) N) K f V v t s c = _ ∧ _
    have IH := ih (s + 1)
    generalize xl6 (yl91_128 B R) N = R' at IH ⊢
    unfold yl91_128
    rw [h8]
    by_cases e : s < S
    · have mk := hm s s0 e
      rw [if_pos e, if_pos ⟨s0, by omega⟩, if_pos ⟨by omega, by omega⟩, w32_id (by omega) (by omega), or_add f0 f8 mk.1 mk.2 t0 (by omega)]
      obtain ⟨c', z, g1, g2, g3⟩ := IH (xw_u c 228 (v * S + s) (xR c 228 s + t * tw2 f)) (by omega) (by omega) (by omega) (by rw [xR_cg (xu_c (by omega))]; exact h8) (fun i i0 i1 => by rw [xR_ne (by omega)]; exact hm i i0 i1)
      refine ⟨c', z, fun a ha => by rw [g1 a ha, xu_c ha], fun i hi => by rw [g2 i (by omega), xu_ne (by omega)], fun i i0 i1 => ?_⟩
      by_cases q : i = s
      · subst q
        rw [xR_fld (g2 _ (by omega))]
        have := tw2_b f0 f8
        exact xR_at (w32_id (by have : 0 ≤ t * tw2 f := Int.mul_nonneg t0 (by omega); omega) (by omega))
      · rw [g3 i (by omega) i1, xR_ne (by omega)]
    · rw [if_neg e, w32_id (by omega) (by omega)]
      exact ⟨c, rfl, fun _ _ => rfl, fun _ _ => rfl, fun i i0 i1 => by omega⟩
theorem tkv_b {K v n : Int} (hK : K = 207 ∨ K = 208) (n0 : 0 ≤ n) (n8 : n ≤ 8) (v0 : 0 ≤ v) (v1 : v < vrn K n) : 0 ≤ tkv K v ∧ tkv K v + 1 ≤ tw2 n ∧ v ≤ 256 := by
  have pn := tw2_b n0 n8
  unfold vrn at v1
  unfold tkv
  rcases hK with rfl | rfl
  · rw [if_pos rfl] at v1 ⊢
    have pv := tw2_b v0 (by omega)
    have : tw2 v ≤ tw2 n := by
      obtain ⟨u0, u1, u2, u3, u4, u5, u6, u7, u8⟩ := tw2_v
      rcases to8 v0 (by omega) with rfl | rfl | rfl | rfl | rfl | rfl | rfl | rfl | rfl <;> rcases to8 n0 n8 with rfl | rfl | rfl | rfl | rfl | rfl | rfl | rfl | rfl <;> omega
    omega
  · rw [if_neg (by decide), if_pos rfl] at v1 ⊢
    omega
/-- all variants from v on -/
theorem vars_l {K f n S : Int} (hK : K = 207 ∨ K = 208) (f0 : 0 ≤ f) (n0 : 0 ≤ n) (fn : f + n ≤ 8) (S1 : 1 ≤ S) (S2 : S * vrn K n ≤ 32) : ∀ (N : Nat) (v : Int) (c : xw_M), 1 ≤ v → v ≤ vrn K n → (vrn K n - v).toNat < N → xR c 223 8 = S → (∀ i, 0 ≤ i → i < S → 0 ≤ xR c 228 i ∧ xR c 228 i < tw2 f) → ∃ c', xl4 (yl91_98 B) N K f (vrn K n) v c = some (.inl 1, c') ∧ fSt c c' ∧ xR c' 223 8 = S * vrn K n ∧ (∀ i, i < v * S → xR c' 228 i = xR c 228 i) ∧ ∀ u i, v ≤ u → u < vrn K n → 0 ≤ i → i < S → xR c' 228 (u * S + i) = xR c 228 i + tkv K u * tw2 f := by
  have V1 : 1 ≤ vrn K n := by
    have := tw2_b n0 (by omega)
    unfold vrn
    split
    · omega
    · split <;> omega
  have VS : vrn K n ≤ S * vrn K n := by
    have := Int.mul_le_mul_of_nonneg_right S1 (show 0 ≤ vrn K n by omega)
    omega
  have SS : S ≤ S * vrn K n := by
    have := Int.mul_le_mul_of_nonneg_left V1 (show 0 ≤ S by omega)
    omega
  intro N
  induction N with
  | zero => intro v c _ _ h; omega
  | succ N ih =>
    intro v c v1 vV hN h8 hm
    show ∃ c', yl91_98 B (xl4 (yl91_98 B) N) K f (vrn K n) v c = _ ∧ _
    have IH := ih (v + 1)
    generalize xl4 (yl91_98 B) N = R at IH ⊢
    unfold yl91_98
    by_cases e : v < vrn K n
    · rw [if_pos e]
      have vs1 : v * S + S ≤ S * vrn K n := by
        have : (v + 1) * S ≤ vrn K n * S := Int.mul_le_mul_of_nonneg_right (by omega) (by omega)
        rw [Int.add_mul, Int.one_mul, Int.mul_comm (vrn K n) S] at this
        exact this
      have vs2 : S ≤ v * S := by
        have := Int.mul_le_mul_of_nonneg_right v1 (show 0 ≤ S by omega)
        omega
      obtain ⟨tb0, tb1, _⟩ := tkv_b hK n0 (by omega) (show 0 ≤ v by omega) e
      have tb2 : tkv K v * tw2 f + tw2 f ≤ 256 := by
        have a : (tkv K v + 1) * tw2 f ≤ tw2 n * tw2 f := Int.mul_le_mul_of_nonneg_right tb1 (by have := tw2_b f0 (by omega); omega)
        rw [Int.add_mul, Int.one_mul, ← tw2_add f0 n0] at a
        have := tw2_b (show 0 ≤ f + n by omega) fn
        omega
      have tk : (if K = 208 then xl6 (yl91_128 B R) 1000000 K f (vrn K n) v v 0 c else xl6 (yl91_128 B R) 1000000 K f (vrn K n) v (w32 (xw_ishlf 1 v - 1)) 0 c) = xl6 (yl91_128 B R) 1000000 K f (vrn K n) v (tkv K v) 0 c := by
        unfold tkv
        rcases hK with rfl | rfl
        · rw [if_neg (by decide), if_pos rfl, shl1 (by omega) (by unfold vrn at e; rw [if_pos rfl] at e; omega)]
          have := tw2_b (show 0 ≤ v by omega) (by unfold vrn at e; rw [if_pos rfl] at e; omega)
          rw [w32_id (by omega) (by omega)]
        · rw [if_pos rfl, if_neg (by decide), if_pos rfl]
      rw [tk]
      generalize hN1 : (1000000 : Nat) = N1
      obtain ⟨c1, z1, g1, g2, g3⟩ := var_l (B := B) (R := R) (K := K) (V := vrn K n) f0 (by omega) v1 (by omega) S1 (by omega) vs2 (by omega) tb0 tb2 N1 0 c (by omega) (by omega) (by omega) h8 hm
      rw [z1]
      have lo : ∀ i, i < v * S → xR c1 228 i = xR c 228 i := fun i hi => xR_fld (g2 i (by omega))
      obtain ⟨c2, z2, k1, k2, k3, k4⟩ := IH c1 (by omega) (by omega) (by omega) (by rw [xR_cg (g1 223 (by omega))]; exact h8) (fun i i0 i1 => by rw [lo i (by omega)]; exact hm i i0 i1)
      have av : (v + 1) * S = v * S + S := by rw [Int.add_mul, Int.one_mul]
      rw [av] at k3
      refine ⟨c2, z2, ⟨fun a a1 a2 => by rw [k1.1 a a1 a2, g1 a a2], fun k hk => by rw [k1.2 k hk, g1 223 (by omega)]⟩, k2, fun i hi => by rw [k3 i (by omega), lo i hi], fun u i u0 u1 i0 i1 => ?_⟩
      by_cases q : u = v
      · subst q
        rw [k3 _ (by omega), g3 i i0 i1]
      · rw [k4 u i (by omega) u1 i0 i1, lo i (by omega)]
    · rw [if_neg e, h8]
      refine ⟨_, rfl, ⟨fun a a1 _ => xu_c a1, fun k hk => xu_ne (by omega)⟩, xR_at (w32_id (by omega) (by omega)), fun i _ => by rw [xR_cg (xu_c (by omega))], fun u i u0 u1 _ _ => by omega⟩
theorem plain_l {K f S : Int} (f0 : 0 ≤ f) (f8 : f < 8) (S1 : 1 ≤ S) (S2 : S ≤ 32) : ∀ (N : Nat) (s : Int) (c : xw_M), 0 ≤ s → s ≤ S → (S - s).toNat < N → xR c 223 8 = S → (∀ i, s ≤ i → i < S → 0 ≤ xR c 228 i ∧ xR c 228 i < tw2 f) → ∃ c', xl4 (yl91_67 B) N K f 1 s c = some (.inl 1, c') ∧ fSt c c' ∧ xR c' 223 8 = S ∧ (∀ i, (i < s ∨ S ≤ i) → xR c' 228 i = xR c 228 i) ∧ ∀ i, s ≤ i → i < S → xR c' 228 i = xR c 228 i + 1 * tw2 f := by
  have p1 := tw2_b f0 (show f ≤ 8 by omega)
  have p2 : tw2 f + tw2 f ≤ 256 := by
    obtain ⟨u0, u1, u2, u3, u4, u5, u6, u7, u8⟩ := tw2_v
    rcases to8 f0 (by omega) with rfl | rfl | rfl | rfl | rfl | rfl | rfl | rfl | rfl <;> omega
  intro N
  induction N with
  | zero => intro s c _ _ h; omega
  | succ N ih =>
    intro s c s0 s1 hN h8 hm
    show ∃ c', yl91_67 B (xl4 (yl91_67 B) N) K f 1 s c = _ ∧ _
    have IH := ih (s + 1)
    generalize xl4 (yl91_67 B) N = R at IH ⊢
    unfold yl91_67
    rw [h8]
    by_cases e : s < S
    · have mk := hm s (by omega) e
      rw [if_pos e, if_pos ⟨s0, by omega⟩, w32_id (by omega) (by omega), or_add f0 (by omega) mk.1 mk.2 (by decide) (by omega)]
      obtain ⟨c', z, g1, g2, g3, g4⟩ := IH (xw_u c 228 s (xR c 228 s + 1 * tw2 f)) (by omega) (by omega) (by omega) (by rw [xR_cg (xu_c (by omega))]; exact h8) (fun i i0 i1 => by rw [xR_ne (by omega)]; exact hm i (by omega) i1)
      refine ⟨c', z, ⟨fun a a1 a2 => by rw [g1.1 a a1 a2, xu_c a2], fun k hk => by rw [g1.2 k hk, xu_c (by omega)]⟩, g2, fun i hi => by rw [g3 i (by omega), xR_ne (by omega)], fun i i0 i1 => ?_⟩
      by_cases q : i = s
      · subst q
        rw [g3 i (by omega)]
        exact xR_at (w32_id (by omega) (by omega))
      · rw [g4 i (by omega) i1, xR_ne (by omega)]
    · rw [if_neg e]
      generalize hN1 : (1000000 : Nat) = N1
      obtain ⟨N2, rfl⟩ : ∃ N2, N1 = N2 + 1 := ⟨N1 - 1, by omega⟩
      have z : xl4 (yl91_98 B) (N2 + 1) K f 1 1 c = some (.inl 1, xw_u c 223 8 (S * 1)) := by
        show yl91_98 B _ K f 1 1 c = _
        unfold yl91_98
        rw [if_neg (by decide), h8]
      rw [z]
      exact ⟨_, rfl, ⟨fun a a1 _ => xu_c a1, fun k hk => xu_ne (by omega)⟩, by rw [xR_at (w32_id (by omega) (by omega))]; omega, fun i _ => by rw [xR_cg (xu_c (by omega))], fun i i0 i1 => by omega⟩
/-- addSets -/
theorem adds_ok {K f n S : Int} {c : xw_M} (f0 : 0 ≤ f) (n1 : 1 ≤ n) (fn : f + n ≤ 8) (S1 : 1 ≤ S) (S2 : S ≤ 32) (hn : ¬ (K = 207 ∨ K = 208) → n = 1) (h6 : xR c 223 6 = f + n) (h8 : xR c 223 8 = S) (hm : ∀ i, 0 ≤ i → i < S → 0 ≤ xR c 228 i ∧ xR c 228 i < tw2 f) : (32 < S * vrn K n → yf91 B K f c = some (.inl 0, c)) ∧ (S * vrn K n ≤ 32 → ∃ c', yf91 B K f c = some (.inl 1, c') ∧ fSt c c' ∧ xR c' 223 8 = S * vrn K n ∧ ∀ u i, 0 ≤ u → u < vrn K n → 0 ≤ i → i < S → xR c' 228 (u * S + i) = xR c 228 i + tkv K u * tw2 f) := by
  have pn := tw2_b (show 0 ≤ n by omega) (by omega)
  have e1 : w32 (f + n - f) = n := by rw [show f + n - f = n by omega]; exact w32_id (by omega) (by omega)
  have up : (K = 207 ∨ K = 208) → (1 ≤ vrn K n ∧ vrn K n ≤ 256) := fun hK => by
    unfold vrn
    rcases hK with rfl | rfl
    · rw [if_pos rfl]; omega
    · rw [if_neg (by decide), if_pos rfl]; exact pn
  have go : (K = 207 ∨ K = 208) → S * vrn K n ≤ 32 → ∃ c', xl4 (yl91_98 B) 1000000 K f (vrn K n) 1 c = some (.inl 1, c') ∧ fSt c c' ∧ xR c' 223 8 = S * vrn K n ∧ ∀ u i, 0 ≤ u → u < vrn K n → 0 ≤ i → i < S → xR c' 228 (u * S + i) = xR c 228 i + tkv K u * tw2 f := fun hK le => by
    generalize hN1 : (1000000 : Nat) = N1
    have := up hK
    obtain ⟨c', z, g1, g2, g3, g4⟩ := vars_l (B := B) hK f0 (show 0 ≤ n by omega) fn S1 le N1 1 c (by decide) this.1 (by omega) h8 hm
    refine ⟨c', z, g1, g2, fun u i u0 u1 i0 i1 => ?_⟩
    by_cases q : u = 0
    · have t0 : tkv K 0 = 0 := by
        unfold tkv
        rcases hK with rfl | rfl
        · rw [if_pos rfl, tw2_v.1]; rfl
        · rw [if_neg (by decide), if_pos rfl]
      rw [q, t0, g3 _ (by omega)]
      rw [show 0 * S + i = i by omega]; omega
    · exact g4 u i (by omega) u1 i0 i1
  have prod : (K = 207 ∨ K = 208) → w32 (S * vrn K n) = S * vrn K n := fun hK => by
    have := up hK
    have a : S * vrn K n ≤ 32 * vrn K n := Int.mul_le_mul_of_nonneg_right S2 (by omega)
    have b : 0 ≤ S * vrn K n := Int.mul_nonneg (by omega) (by omega)
    exact w32_id (by omega) (by omega)
  unfold yf91
  rw [h6, e1, h8]
  by_cases k7 : K = 207
  · have ev : vrn K n = n + 1 := by unfold vrn; rw [if_pos k7]
    have P := prod (Or.inl k7)
    have Go := go (Or.inl k7)
    rw [ev] at P Go ⊢
    rw [if_pos k7, w32_id (x := n + 1) (by omega) (by omega), P]
    exact ⟨fun h => by rw [if_pos h], fun h => by rw [if_neg (by omega)]; exact Go h⟩
  · rw [if_neg k7]
    by_cases k8 : K = 208
    · have ev : vrn K n = tw2 n := by unfold vrn; rw [if_neg k7, if_pos k8]
      have P := prod (Or.inr k8)
      have Go := go (Or.inr k8)
      rw [ev] at P Go ⊢
      rw [if_pos k8, shl1 (by omega) (by omega), P]
      exact ⟨fun h => by rw [if_pos h], fun h => by rw [if_neg (by omega)]; exact Go h⟩
    · have ev : vrn K n = 1 := by unfold vrn; rw [if_neg k7, if_neg k8]
      have et : tkv K 0 = 1 := by unfold tkv; rw [if_neg k7, if_neg k8]
      have n1' := hn (by omega)
      rw [if_neg k8, ev, Int.mul_one, w32_id (by omega) (by omega)]
      refine ⟨fun h => by omega, fun _ => ?_⟩
      rw [if_neg (by omega)]
      generalize hN1 : (1000000 : Nat) = N1
      obtain ⟨c', z, g1, g2, g3, g4⟩ := plain_l (B := B) (K := K) f0 (by omega) S1 S2 N1 0 c (by omega) (by omega) (by omega) h8 hm
      refine ⟨c', z, g1, g2, fun u i u0 u1 i0 i1 => ?_⟩
      have : u = 0 := by omega
      rw [this, et, show 0 * S + i = i by omega]
      exact g4 i i0 i1
end ADS
