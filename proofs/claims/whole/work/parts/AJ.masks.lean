/-! GROUPING SETS: which masks there are; a part more -/
/-- what a part of n columns may take: by its kind (0 plain, 1 rollup, 2 cube) -/
def tkn (kd n x : Int) : Prop := (kd = 2 ∧ 0 ≤ x ∧ x < tw2 n) ∨ (kd = 0 ∧ x = tw2 n - 1) ∨ (kd = 1 ∧ ∃ j, 0 ≤ j ∧ j ≤ n ∧ x = tw2 j - 1)
def pof (sz : Int → Int) : Nat → Int
  | 0 => 0
  | t + 1 => pof sz t + sz t
def okm (kd sz : Int → Int) : Nat → Int → Prop
  | 0, m => m = 0
  | t + 1, m => ∃ m0 x, m = m0 + x * tw2 (pof sz t) ∧ okm kd sz t m0 ∧ tkn (kd t) (sz t) x
theorem tw2_le {a b : Int} (a0 : 0 ≤ a) (ab : a ≤ b) (b8 : b ≤ 8) : tw2 a ≤ tw2 b := by
  obtain ⟨u0, u1, u2, u3, u4, u5, u6, u7, u8⟩ := tw2_v
  rcases to8 a0 (by omega) with rfl | rfl | rfl | rfl | rfl | rfl | rfl | rfl | rfl <;> rcases to8 (show 0 ≤ b by omega) b8 with rfl | rfl | rfl | rfl | rfl | rfl | rfl | rfl | rfl <;> omega
theorem tw2_in {a b : Int} (a0 : 0 ≤ a) (a8 : a ≤ 8) (b0 : 0 ≤ b) (b8 : b ≤ 8) (e : tw2 a = tw2 b) : a = b := by
  obtain ⟨u0, u1, u2, u3, u4, u5, u6, u7, u8⟩ := tw2_v
  rcases to8 a0 a8 with rfl | rfl | rfl | rfl | rfl | rfl | rfl | rfl | rfl <;> rcases to8 b0 b8 with rfl | rfl | rfl | rfl | rfl | rfl | rfl | rfl | rfl <;> omega
theorem tkn_b {kd n x : Int} (n0 : 0 ≤ n) (n8 : n ≤ 8) (h : tkn kd n x) : 0 ≤ x ∧ x < tw2 n := by
  have := tw2_b n0 n8
  rcases h with ⟨_, h1, h2⟩ | ⟨_, h1⟩ | ⟨_, j, j0, j1, h1⟩
  · exact ⟨h1, h2⟩
  · omega
  · have a := tw2_b j0 (show j ≤ 8 by omega)
    have b := tw2_le j0 j1 n8
    omega
theorem pof_0 {sz : Int → Int} : ∀ t : Nat, (∀ p : Int, 0 ≤ p → p < t → 1 ≤ sz p) → (t : Int) ≤ pof sz t := by
  intro t
  induction t with
  | zero => exact fun _ => Int.le_refl _
  | succ t ih =>
    intro h
    have a := ih (fun p p0 p1 => h p p0 (by omega))
    have b := h t (by omega) (by omega)
    show ((t + 1 : Nat) : Int) ≤ pof sz t + sz t
    omega
theorem pof_cg {sz sz' : Int → Int} : ∀ t : Nat, (∀ p : Int, 0 ≤ p → p < t → sz' p = sz p) → pof sz' t = pof sz t := by
  intro t
  induction t with
  | zero => exact fun _ => rfl
  | succ t ih =>
    intro h
    show pof sz' t + sz' t = pof sz t + sz t
    rw [ih (fun p p0 p1 => h p p0 (by omega)), h t (by omega) (by omega)]
theorem okm_cg {kd kd' sz sz' : Int → Int} : ∀ (t : Nat) (m : Int), (∀ p : Int, 0 ≤ p → p < t → sz' p = sz p ∧ kd' p = kd p) → (okm kd' sz' t m ↔ okm kd sz t m) := by
  intro t
  induction t with
  | zero => exact fun _ _ => Iff.rfl
  | succ t ih =>
    intro m h
    have e1 : pof sz' t = pof sz t := pof_cg t (fun p p0 p1 => (h p p0 (by omega)).1)
    have e2 := h t (by omega) (by omega)
    show (∃ m0 x, m = m0 + x * tw2 (pof sz' t) ∧ okm kd' sz' t m0 ∧ tkn (kd' t) (sz' t) x) ↔ ∃ m0 x, m = m0 + x * tw2 (pof sz t) ∧ okm kd sz t m0 ∧ tkn (kd t) (sz t) x
    rw [e1, e2.1, e2.2]
    exact ⟨fun ⟨m0, x, a, b, d⟩ => ⟨m0, x, a, (ih m0 (fun p p0 p1 => h p p0 (by omega))).mp b, d⟩, fun ⟨m0, x, a, b, d⟩ => ⟨m0, x, a, (ih m0 (fun p p0 p1 => h p p0 (by omega))).mpr b, d⟩⟩
theorem okm_b {kd sz : Int → Int} : ∀ (t : Nat) (m : Int), (∀ p : Int, 0 ≤ p → p < t → 1 ≤ sz p) → pof sz t ≤ 8 → okm kd sz t m → 0 ≤ m ∧ m < tw2 (pof sz t) := by
  intro t
  induction t with
  | zero => intro m _ _ h; have h : m = 0 := h; rw [h]; exact ⟨by decide, by show (0 : Int) < tw2 0; decide⟩
  | succ t ih =>
    intro m hs h8 h
    obtain ⟨m0, x, e, a, b⟩ := h
    have e8 : pof sz t + sz t ≤ 8 := h8
    have s1 := hs t (by omega) (by omega)
    have p0 := pof_0 t (fun p p0 p1 => hs p p0 (by omega))
    have i := ih m0 (fun p p0 p1 => hs p p0 (by omega)) (by omega) a
    have xb := tkn_b (by omega) (by omega) b
    have tp := tw2_b (show 0 ≤ pof sz t by omega) (by omega)
    show 0 ≤ m ∧ m < tw2 (pof sz t + sz t)
    rw [tw2_add (by omega) (by omega), e]
    have u : (x + 1) * tw2 (pof sz t) ≤ tw2 (sz t) * tw2 (pof sz t) := Int.mul_le_mul_of_nonneg_right (by omega) (by omega)
    rw [Int.add_mul, Int.one_mul] at u
    have v : 0 ≤ x * tw2 (pof sz t) := Int.mul_nonneg xb.1 (by omega)
    omega
/-- the masks M, S of them, are those of P, each once -/
def MKs (M : Int → Int) (S : Int) (P : Int → Prop) : Prop := (∀ s, 0 ≤ s → s < S → P (M s)) ∧ (∀ s s', 0 ≤ s → s < S → 0 ≤ s' → s' < S → M s = M s' → s = s') ∧ ∀ m, P m → ∃ s, 0 ≤ s ∧ s < S ∧ M s = m
/-- the kind of a part by its word -/
def kdw (K : Int) : Int := if K = 207 then 1 else if K = 208 then 2 else 0
theorem tkn_v {K n x : Int} (n1 : 1 ≤ n) (n8 : n ≤ 8) (hn : ¬ (K = 207 ∨ K = 208) → n = 1) : tkn (kdw K) n x ↔ ∃ u, 0 ≤ u ∧ u < vrn K n ∧ x = tkv K u := by
  unfold tkn kdw vrn tkv
  by_cases k7 : K = 207
  · rw [if_pos k7, if_pos k7, ]
    simp only [if_pos k7]
    constructor
    · rintro (⟨h, _⟩ | ⟨h, _⟩ | ⟨_, j, j0, j1, h⟩)
      · omega
      · omega
      · exact ⟨j, j0, by omega, h⟩
    · rintro ⟨u, u0, u1, h⟩
      exact Or.inr (Or.inr ⟨trivial, u, u0, by omega, h⟩)
  · simp only [if_neg k7]
    by_cases k8 : K = 208
    · simp only [if_pos k8]
      constructor
      · rintro (⟨_, h0, h1⟩ | ⟨h, _⟩ | ⟨h, _⟩)
        · exact ⟨x, h0, h1, rfl⟩
        · omega
        · omega
      · rintro ⟨u, u0, u1, h⟩
        exact Or.inl ⟨trivial, by omega, by omega⟩
    · simp only [if_neg k8]
      have e := hn (by omega)
      subst e
      have t1 : tw2 1 = 2 := tw2_v.2.1
      constructor
      · rintro (⟨h, _⟩ | ⟨_, h⟩ | ⟨h, _⟩)
        · omega
        · exact ⟨0, by decide, by decide, by omega⟩
        · omega
      · rintro ⟨u, u0, u1, h⟩
        exact Or.inr (Or.inl ⟨trivial, by omega⟩)
theorem tkv_in {K n u u' : Int} (n1 : 1 ≤ n) (n8 : n ≤ 8) (u0 : 0 ≤ u) (u1 : u < vrn K n) (w0 : 0 ≤ u') (w1 : u' < vrn K n) (e : tkv K u = tkv K u') : u = u' := by
  unfold vrn at u1 w1
  unfold tkv at e
  by_cases k7 : K = 207
  · rw [if_pos k7] at u1 w1
    rw [if_pos k7, if_pos k7] at e
    exact tw2_in u0 (by omega) w0 (by omega) (by omega)
  · rw [if_neg k7] at u1 w1
    rw [if_neg k7, if_neg k7] at e
    by_cases k8 : K = 208
    · rw [if_pos k8, if_pos k8] at e; exact e
    · rw [if_neg k8] at u1 w1; omega
/-- a part more -/
theorem MK_add {M M' kd sz kd' sz' : Int → Int} {S K n : Int} {t : Nat} (S1 : 1 ≤ S) (n1 : 1 ≤ n) (n8 : pof sz t + n ≤ 8) (hn : ¬ (K = 207 ∨ K = 208) → n = 1) (hs : ∀ p : Int, 0 ≤ p → p < t → 1 ≤ sz p) (h : MKs M S (okm kd sz t)) (e : ∀ u i, 0 ≤ u → u < vrn K n → 0 ≤ i → i < S → M' (u * S + i) = M i + tkv K u * tw2 (pof sz t)) (c : ∀ p : Int, 0 ≤ p → p < t → sz' p = sz p ∧ kd' p = kd p) (ek : kd' t = kdw K) (es : sz' t = n) : MKs M' (S * vrn K n) (okm kd' sz' (t + 1)) := by
  have p0 := pof_0 t hs
  have pe : pof sz' t = pof sz t := pof_cg t (fun p p0 p1 => (c p p0 p1).1)
  have tb := tw2_b (show 0 ≤ pof sz t by omega) (by omega)
  obtain ⟨h1, h2, h3⟩ := h
  have mb : ∀ i, 0 ≤ i → i < S → 0 ≤ M i ∧ M i < tw2 (pof sz t) := fun i i0 i1 => okm_b t (M i) hs (by omega) (h1 i i0 i1)
  have V0 : 0 ≤ vrn K n := by
    have := tw2_b (show 0 ≤ n by omega) (by omega)
    unfold vrn
    split
    · omega
    · split <;> omega
  have sp : ∀ j, 0 ≤ j → j < S * vrn K n → ∃ u i, 0 ≤ u ∧ u < vrn K n ∧ 0 ≤ i ∧ i < S ∧ j = u * S + i := fun j j0 j1 => by
    refine ⟨j / S, j % S, Int.ediv_nonneg j0 (by omega), ?_, Int.emod_nonneg j (by omega), Int.emod_lt_of_pos j (by omega), ?_⟩
    · exact Int.ediv_lt_of_lt_mul (by omega) (by rw [Int.mul_comm]; exact j1)
    · have := Int.mul_ediv_add_emod j S
      rw [Int.mul_comm] at this
      omega
  have ub : ∀ u, 0 ≤ u → u < vrn K n → 0 ≤ tkv K u ∧ tkv K u < tw2 n := fun u u0 u1 => tkn_b (by omega) (by omega) ((tkn_v n1 (by omega) hn).mpr ⟨u, u0, u1, rfl⟩)
  refine ⟨fun j j0 j1 => ?_, fun j j' j0 j1 k0 k1 ee => ?_, fun m hm => ?_⟩
  · obtain ⟨u, i, u0, u1, i0, i1, rfl⟩ := sp j j0 j1
    refine ⟨M i, tkv K u, by rw [pe]; exact e u i u0 u1 i0 i1, (okm_cg t (M i) c).mpr (h1 i i0 i1), ?_⟩
    rw [ek, es]
    exact (tkn_v n1 (by omega) hn).mpr ⟨u, u0, u1, rfl⟩
  · obtain ⟨u, i, u0, u1, i0, i1, rfl⟩ := sp j j0 j1
    obtain ⟨u', i', u0', u1', i0', i1', rfl⟩ := sp j' k0 k1
    rw [e u i u0 u1 i0 i1, e u' i' u0' u1' i0' i1'] at ee
    have a := mb i i0 i1
    have b := mb i' i0' i1'
    generalize tw2 (pof sz t) = P at a b tb ee
    have uu : tkv K u = tkv K u' := by
      have x1 : (M i + tkv K u * P) / P = tkv K u := by rw [Int.add_mul_ediv_right _ _ (by omega), Int.ediv_eq_zero_of_lt a.1 a.2]; omega
      have x2 : (M i' + tkv K u' * P) / P = tkv K u' := by rw [Int.add_mul_ediv_right _ _ (by omega), Int.ediv_eq_zero_of_lt b.1 b.2]; omega
      rw [← x1, ← x2, ee]
    have u2 := tkv_in n1 (by omega) u0 u1 u0' u1' uu
    rw [uu] at ee
    have := h2 i i' i0 i1 i0' i1' (by omega)
    rw [u2, this]
  · obtain ⟨m0, x, em, a, b⟩ := hm
    rw [ek, es] at b
    obtain ⟨u, u0, u1, eu⟩ := (tkn_v n1 (by omega) hn).mp b
    obtain ⟨i, i0, i1, ei⟩ := h3 m0 ((okm_cg t m0 c).mp a)
    refine ⟨u * S + i, ?_, ?_, by rw [e u i u0 u1 i0 i1, ei, em, pe, eu]⟩
    · have := Int.mul_nonneg u0 (show 0 ≤ S by omega); omega
    · have : (u + 1) * S ≤ vrn K n * S := Int.mul_le_mul_of_nonneg_right (by omega) (by omega)
      rw [Int.add_mul, Int.one_mul, Int.mul_comm (vrn K n) S] at this
      omega
