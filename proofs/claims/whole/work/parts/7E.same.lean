/-! ONE TABLE OUT OF TWO ORDERS: the same facts in another order make the same table -/
/-- not behind, by j keys from d on -/
def kwk (κ : Int → Int → Int) : Nat → Int → Int → Int → Prop
  | 0, _, _, _ => True
  | j + 1, d, a, b => κ d a < κ d b ∨ (κ d a = κ d b ∧ kwk κ j (d + 1) a b)
theorem kl_kw {κ : Int → Int → Int} {j : Nat} {d a b : Int} (h : kl κ j d a b) : kwk κ j d a b := by
  induction j generalizing d with
  | zero => exact trivial
  | succ j ih =>
    rcases h with h | ⟨h, h3⟩
    · exact Or.inl h
    · exact Or.inr ⟨h, ih h3⟩
theorem kw_cg {κ κ' : Int → Int → Int} {j : Nat} {d a b a' b' : Int} (ha : ∀ e, d ≤ e → e < d + j → κ e a = κ' e a' ∧ κ e b = κ' e b') (h : kwk κ j d a b) : kwk κ' j d a' b' := by
  induction j generalizing d with
  | zero => exact trivial
  | succ j ih =>
    obtain ⟨q1, q2⟩ := ha d (by omega) (by omega)
    rcases h with h | ⟨h, h3⟩
    · exact Or.inl (by omega)
    · exact Or.inr ⟨by omega, ih (fun e h1 h2 => ha e (by omega) (by omega)) h3⟩
theorem kw_anti {κ : Int → Int → Int} {j : Nat} {d a b : Int} (h1 : kwk κ j d a b) (h2 : kwk κ j d b a) : ∀ e, d ≤ e → e < d + j → κ e a = κ e b := by
  induction j generalizing d with
  | zero => intro e h3 h4; omega
  | succ j ih =>
    rcases h1 with h1 | ⟨h1, h3⟩
    · rcases h2 with h2 | ⟨h2, _⟩ <;> omega
    · rcases h2 with h2 | ⟨h2, h4⟩
      · omega
      · intro e e1 e2
        by_cases he : e = d
        · rw [he]; exact h1
        · exact ih h3 h4 e (by omega) (by omega)
def kyv (κ : Int → Int → Int) (D : Nat) (x : Int) : List Int := (List.range D).map (fun d : Nat => κ d x)
theorem kyv_iff {κ : Int → Int → Int} {D : Nat} {x y : Int} : kyv κ D x = kyv κ D y ↔ ∀ d, 0 ≤ d → d < (D : Int) → κ d x = κ d y := by
  unfold kyv
  constructor
  · intro h d h0 h1
    have h2 := congrArg (fun l => l[d.toNat]?) h
    simp only [List.getElem?_map, List.getElem?_range (show d.toNat < D by omega)] at h2
    have h3 : κ ((d.toNat : Nat) : Int) x = κ ((d.toNat : Nat) : Int) y := Option.some.inj h2
    rw [Int.toNat_of_nonneg h0] at h3
    exact h3
  · intro h
    refine List.map_congr_left (fun d hd => ?_)
    rw [List.mem_range] at hd
    exact h d (by omega) (by omega)
/-- two weakly sorted rows of all places have the same keys -/
theorem keys_same {κ : Int → Int → Int} {D : Nat} {p q : Int → Int} {n : Int} (hp : prm p n) (hq : prm q n) (sp : ∀ i j, 0 ≤ i → i < j → j < n → kwk κ D 0 (p i) (p j)) (sq : ∀ i j, 0 ≤ i → i < j → j < n → kwk κ D 0 (q i) (q j)) : ∀ i, 0 ≤ i → i < n → ∀ d, 0 ≤ d → d < (D : Int) → κ d (p i) = κ d (q i) := by
  have e : (lst p n.toNat).map (kyv κ D) = (lst q n.toNat).map (kyv κ D) := by
    refine List.Perm.eq_of_pairwise (le := fun u v => ∃ a b, u = kyv κ D a ∧ v = kyv κ D b ∧ kwk κ D 0 a b) ?_ ?_ ?_ ?_
    · intro u v _ _ ⟨a, b, e1, e2, h1⟩ ⟨a', b', e3, e4, h2⟩
      have k1 := kyv_iff.mp (e1.symm.trans e4)
      have k2 := kyv_iff.mp (e2.symm.trans e3)
      have h2' : kwk κ D 0 b a := kw_cg (fun e h h' => ⟨(k2 e h (by omega)).symm, (k1 e h (by omega)).symm⟩) h2
      have := kw_anti h1 h2'
      rw [e1, e2]
      exact kyv_iff.mpr (fun d h h' => this d h (by omega))
    · rw [List.pairwise_map]
      exact lst_pair (fun i j h1 h2 => ⟨_, _, rfl, rfl, sp i j (by omega) (by omega) (by omega)⟩)
    · rw [List.pairwise_map]
      exact lst_pair (fun i j h1 h2 => ⟨_, _, rfl, rfl, sq i j (by omega) (by omega) (by omega)⟩)
    · exact ((prm_perm hp).trans (prm_perm hq).symm).map _
  intro i h0 h1
  have h2 := congrArg (fun l => l[i.toNat]?) e
  unfold lst at h2
  simp only [List.getElem?_map, List.getElem?_range (show i.toNat < n.toNat by omega)] at h2
  have h3 : kyv κ D (p ((i.toNat : Nat) : Int)) = kyv κ D (q ((i.toNat : Nat) : Int)) := Option.some.inj h2
  rw [Int.toNat_of_nonneg h0] at h3
  exact kyv_iff.mp h3
/-- where rows begin is settled by where keys change -/
theorem SR_le {tb tb' N N' : Int} {κ κ' : Int → Int → Int} {o o' st st' : Int → Int} {n R R' : Int} (h : SR tb N κ o st n R) (h' : SR tb' N' κ' o' st' n R') (he : ∀ q, 0 < q → q < n → (eqv tb N κ o (q - 1) q ↔ eqv tb' N' κ' o' (q - 1) q)) : ∀ j : Nat, (j : Int) ≤ R → (j : Int) ≤ R' ∧ st j = st' j := by
  have mono : ∀ {tb N : Int} {κ : Int → Int → Int} {o st : Int → Int} {R : Int}, SR tb N κ o st n R → ∀ i, 0 ≤ i → i ≤ R → st i ≤ n := by
    intro tb N κ o st R h i i0 i1
    have := SR_mono h (R - i).toNat i i0 (by omega)
    rw [show i + ((R - i).toNat : Int) = R from by omega, h.2.2.2.1] at this
    omega
  intro j
  induction j with
  | zero =>
    intro h0
    refine ⟨h'.1, ?_⟩
    show st 0 = st' 0
    by_cases hn : 0 < n
    · rw [(h.2.2.1 hn).2, (h'.2.2.1 hn).2]
    · have r0 : R = 0 := by have := h.1; have := h.2.1; omega
      have r0' : R' = 0 := by have := h'.1; have := h'.2.1; omega
      have e1 := h.2.2.2.1
      have e2 := h'.2.2.2.1
      rw [r0] at e1
      rw [r0'] at e2
      omega
  | succ j ih =>
    intro hj
    obtain ⟨i1, i2⟩ := ih (by omega)
    obtain ⟨s1, s2, s3⟩ := h.2.2.2.2 j (by omega) (by omega)
    have nn := mono h (j + 1) (by omega) (by omega)
    have hjR : (j : Int) < R' := by
      rcases Int.lt_or_le j R' with hlt | hge
      · exact hlt
      · have e : (j : Int) = R' := by omega
        have := h'.2.2.2.1
        rw [← e] at this
        omega
    obtain ⟨t1, t2, t3⟩ := h'.2.2.2.2 j (by omega) hjR
    have nn' := mono h' (j + 1) (by omega) (by omega)
    refine ⟨by omega, ?_⟩
    show st ((j : Int) + 1) = st' ((j : Int) + 1)
    have ge0 : 0 ≤ st j := by
      have := SR_mono h j 0 (by omega) (by omega)
      by_cases hn : 0 < n
      · rw [(h.2.2.1 hn).2] at this
        rw [Int.zero_add] at this
        omega
      · have := h.1
        have := h.2.1
        omega
    rcases Int.lt_trichotomy (st ((j : Int) + 1)) (st' ((j : Int) + 1)) with hl | hl | hl
    · exfalso
      have ev := t2 (st ((j : Int) + 1)) (by omega) hl
      have ev' := (he _ (by omega) (by omega)).mpr ev
      by_cases hR : (j : Int) + 1 < R
      · exact (h.2.2.2.2 ((j : Int) + 1) (by omega) hR).2.2 (by omega) ev'
      · have e : (j : Int) + 1 = R := by omega
        have := h.2.2.2.1
        rw [← e] at this
        omega
    · exact hl
    · exfalso
      have ev := s2 (st' ((j : Int) + 1)) (by omega) hl
      have ev' := (he _ (by omega) (by omega)).mp ev
      by_cases hR : (j : Int) + 1 < R'
      · exact (h'.2.2.2.2 ((j : Int) + 1) (by omega) hR).2.2 (by omega) ev'
      · have e : (j : Int) + 1 = R' := by omega
        have := h'.2.2.2.1
        rw [← e] at this
        omega
theorem SR_same {tb tb' N N' : Int} {κ κ' : Int → Int → Int} {o o' st st' : Int → Int} {n R R' : Int} (h : SR tb N κ o st n R) (h' : SR tb' N' κ' o' st' n R') (he : ∀ q, 0 < q → q < n → (eqv tb N κ o (q - 1) q ↔ eqv tb' N' κ' o' (q - 1) q)) : R = R' ∧ ∀ j, 0 ≤ j → j ≤ R → st j = st' j := by
  have a := SR_le h h' he
  have b := SR_le h' h (fun q h0 h1 => (he q h0 h1).symm)
  have r0 := h.1
  have r0' := h'.1
  have a1 := (a R.toNat (by omega)).1
  have b1 := (b R'.toNat (by omega)).1
  refine ⟨by omega, fun j j0 j1 => ?_⟩
  have := (a j.toNat (by omega)).2
  rw [Int.toNat_of_nonneg j0] at this
  exact this
def isum : List Int → Int
  | [] => 0
  | x :: l => x + isum l
theorem isum_perm {l l' : List Int} (h : l.Perm l') : isum l = isum l' := by
  induction h with
  | nil => rfl
  | cons x _ ih => show x + _ = x + _; rw [ih]
  | swap x y l => show y + (x + isum l) = x + (y + isum l); omega
  | trans _ _ h1 h2 => exact h1.trans h2
theorem isum_app (l : List Int) (x : Int) : isum (l ++ [x]) = isum l + x := by
  induction l with
  | nil => show x + 0 = 0 + x; omega
  | cons y l ih => show y + isum (l ++ [x]) = y + isum l + x; omega
theorem w64_add (x y : Int) : w64 (w64 x + y) = w64 (x + y) := by
  unfold w64
  omega
theorem ga_sum {A o : Int → Int} (hA : ∀ x, w64 (A x) = A x) (a : Int) (k : Nat) : ga 0 A o a k = w64 (isum (lst (fun i => A (o (a + i))) (k + 1))) := by
  induction k with
  | zero =>
    show A (o a) = w64 (A (o (a + ((0 : Nat) : Int))) + 0)
    rw [show a + ((0 : Nat) : Int) = a from by omega, Int.add_zero, hA]
  | succ k ih =>
    rw [lst_s, isum_app]
    show w64 (ga 0 A o a k + A (o (a + ((k : Nat) + 1)))) = _
    rw [ih, w64_add]
    rfl
theorem ga_min {A o : Int → Int} (a : Int) (k : Nat) : (∀ i, 0 ≤ i → i ≤ (k : Int) → ga 1 A o a k ≤ A (o (a + i))) ∧ ∃ i, (0 ≤ i ∧ i ≤ (k : Int)) ∧ ga 1 A o a k = A (o (a + i)) := by
  induction k with
  | zero =>
    refine ⟨fun i h0 h1 => ?_, 0, ⟨by omega, by omega⟩, ?_⟩
    · rw [show a + i = a from by omega]
      exact Int.le_refl _
    · rw [Int.add_zero]
      rfl
  | succ k ih =>
    obtain ⟨h1, i, hi, h2⟩ := ih
    have e : ga 1 A o a (k + 1) = min (ga 1 A o a k) (A (o (a + ((k : Nat) + 1)))) := rfl
    rw [e]
    refine ⟨fun j j0 j1 => ?_, ?_⟩
    · by_cases ej : j = (k : Int) + 1
      · rw [ej]
        exact Int.min_le_right _ _
      · exact Int.le_trans (Int.min_le_left _ _) (h1 j j0 (by omega))
    · rcases Int.le_total (ga 1 A o a k) (A (o (a + ((k : Nat) + 1)))) with hl | hl
      · exact ⟨i, ⟨hi.1, by omega⟩, by rw [Int.min_eq_left hl]; exact h2⟩
      · exact ⟨(k : Int) + 1, ⟨by omega, by omega⟩, by rw [Int.min_eq_right hl]⟩
theorem ga_max {A o : Int → Int} (a : Int) (k : Nat) : (∀ i, 0 ≤ i → i ≤ (k : Int) → A (o (a + i)) ≤ ga 2 A o a k) ∧ ∃ i, (0 ≤ i ∧ i ≤ (k : Int)) ∧ ga 2 A o a k = A (o (a + i)) := by
  induction k with
  | zero =>
    refine ⟨fun i h0 h1 => ?_, 0, ⟨by omega, by omega⟩, ?_⟩
    · rw [show a + i = a from by omega]
      exact Int.le_refl _
    · rw [Int.add_zero]
      rfl
  | succ k ih =>
    obtain ⟨h1, i, hi, h2⟩ := ih
    have e : ga 2 A o a (k + 1) = max (ga 2 A o a k) (A (o (a + ((k : Nat) + 1)))) := rfl
    rw [e]
    refine ⟨fun j j0 j1 => ?_, ?_⟩
    · by_cases ej : j = (k : Int) + 1
      · rw [ej]
        exact Int.le_max_right _ _
      · exact Int.le_trans (h1 j j0 (by omega)) (Int.le_max_left _ _)
    · rcases Int.le_total (ga 2 A o a k) (A (o (a + ((k : Nat) + 1)))) with hl | hl
      · exact ⟨(k : Int) + 1, ⟨by omega, by omega⟩, by rw [Int.max_eq_right hl]⟩
      · exact ⟨i, ⟨hi.1, by omega⟩, by rw [Int.max_eq_left hl]; exact h2⟩
/-- the same facts in a stretch: the same sum, least and greatest -/
theorem ga_same {A A' o o' : Int → Int} {a w : Int} {k : Nat} (hA : ∀ x, w64 (A x) = A x) (hA' : ∀ x, w64 (A' x) = A' x) (hw : w = 0 ∨ w = 1 ∨ w = 2) (hp : (lst (fun i => A (o (a + i))) (k + 1)).Perm (lst (fun i => A' (o' (a + i))) (k + 1))) : ga w A o a k = ga w A' o' a k := by
  have m1 : ∀ i, 0 ≤ i → i ≤ (k : Int) → ∃ j, (0 ≤ j ∧ j ≤ (k : Int)) ∧ A' (o' (a + j)) = A (o (a + i)) := by
    intro i h0 h1
    have : A (o (a + i)) ∈ lst (fun i => A (o (a + i))) (k + 1) := lst_mem.mpr ⟨i.toNat, by omega, by show A (o (a + ((i.toNat : Nat) : Int))) = _; rw [Int.toNat_of_nonneg h0]⟩
    obtain ⟨j, hj, e⟩ := lst_mem.mp (hp.mem_iff.mp this)
    exact ⟨j, ⟨by omega, by omega⟩, e⟩
  have m2 : ∀ i, 0 ≤ i → i ≤ (k : Int) → ∃ j, (0 ≤ j ∧ j ≤ (k : Int)) ∧ A (o (a + j)) = A' (o' (a + i)) := by
    intro i h0 h1
    have : A' (o' (a + i)) ∈ lst (fun i => A' (o' (a + i))) (k + 1) := lst_mem.mpr ⟨i.toNat, by omega, by show A' (o' (a + ((i.toNat : Nat) : Int))) = _; rw [Int.toNat_of_nonneg h0]⟩
    obtain ⟨j, hj, e⟩ := lst_mem.mp (hp.mem_iff.mpr this)
    exact ⟨j, ⟨by omega, by omega⟩, e⟩
  rcases hw with rfl | rfl | rfl
  · rw [ga_sum hA, ga_sum hA', isum_perm hp]
  · obtain ⟨a1, i, hi, a2⟩ := ga_min (A := A) (o := o) a k
    obtain ⟨b1, j, hj, b2⟩ := ga_min (A := A') (o := o') a k
    obtain ⟨i', hi', e⟩ := m1 i hi.1 hi.2
    obtain ⟨j', hj', e'⟩ := m2 j hj.1 hj.2
    have := a1 j' hj'.1 hj'.2
    have := b1 i' hi'.1 hi'.2
    omega
  · obtain ⟨a1, i, hi, a2⟩ := ga_max (A := A) (o := o) a k
    obtain ⟨b1, j, hj, b2⟩ := ga_max (A := A') (o := o') a k
    obtain ⟨i', hi', e⟩ := m1 i hi.1 hi.2
    obtain ⟨j', hj', e'⟩ := m2 j hj.1 hj.2
    have := a1 j' hj'.1 hj'.2
    have := b1 i' hi'.1 hi'.2
    omega
