/-! THE LEXER: words the same on both sides; numbers -/
theorem fwd_same {T T' : Int → Int} {L : Int} (hT : ∀ i, 0 ≤ i → i < L → T' i = ub (T i) ∧ w8 (T i) = T i) : ∀ (ws : List (List Nat)) (k : Int), (∀ w ∈ ws, ∀ c : Nat, c ∈ w → c ≤ 127) → fwd L T' ws k = fwd L T ws k := by
  intro ws
  induction ws with
  | nil => intro k _; rfl
  | cons w ws ih =>
    intro k h
    show (if ((w.length : Nat) : Int) = L ∧ mtc T' 0 w = true then k else fwd L T' ws (k + 1)) = (if ((w.length : Nat) : Int) = L ∧ mtc T 0 w = true then k else fwd L T ws (k + 1))
    rw [ih (k + 1) (fun v hv => h v (List.mem_cons_of_mem _ hv))]
    have e : (((w.length : Nat) : Int) = L ∧ mtc T' 0 w = true) ↔ (((w.length : Nat) : Int) = L ∧ mtc T 0 w = true) := by
      have one : ((w.length : Nat) : Int) = L → ∀ j : Nat, j < w.length → (T' (0 + j) = ((w.getD j 0 : Nat) : Int) ↔ T (0 + j) = ((w.getD j 0 : Nat) : Int)) := fun hl j hj => by
        have q := hT (0 + j) (by omega) (by omega)
        have c := h w (List.mem_cons_self ..) _ (getD_mem hj)
        rw [q.1]
        exact ub_eq q.2 (by omega) (by omega)
      constructor
      · intro ⟨a, b⟩
        exact ⟨a, (mtc_iff w 0).mpr (fun j hj => (one a j hj).mp ((mtc_iff w 0).mp b j hj))⟩
      · intro ⟨a, b⟩
        exact ⟨a, (mtc_iff w 0).mpr (fun j hj => (one a j hj).mpr ((mtc_iff w 0).mp b j hj))⟩
    by_cases c : ((w.length : Nat) : Int) = L ∧ mtc T 0 w = true
    · rw [if_pos c, if_pos (e.mpr c)]
    · rw [if_neg c, if_neg (fun q => c (e.mp q))]
theorem fwd_b {T : Int → Int} {L : Int} : ∀ (ws : List (List Nat)) (k : Int), fwd L T ws k = -1 ∨ (k ≤ fwd L T ws k ∧ fwd L T ws k < k + ((ws.length : Nat) : Int)) := by
  intro ws
  induction ws with
  | nil => intro k; exact Or.inl rfl
  | cons w ws ih =>
    intro k
    show (if ((w.length : Nat) : Int) = L ∧ mtc T 0 w = true then k else fwd L T ws (k + 1)) = -1 ∨ (k ≤ (if ((w.length : Nat) : Int) = L ∧ mtc T 0 w = true then k else fwd L T ws (k + 1)) ∧ (if ((w.length : Nat) : Int) = L ∧ mtc T 0 w = true then k else fwd L T ws (k + 1)) < _)
    have := ih (k + 1)
    rw [List.length_cons]
    split <;> omega
/-- the number that digits make, from p on, at most k of them; no more behind a number over cap -/
def nvl (cap : Int) (T : Int → Int) : Int → Nat → Int → Int
  | _, 0, x => x
  | p, k + 1, x => if ldg (T p) = true then nvl cap T (p + 1) k (if cap < x then x else 10 * x + T p - 48) else x
theorem nvl_b {cap : Int} {T : Int → Int} (c0 : 0 ≤ cap) : ∀ (k : Nat) (p x : Int), 0 ≤ x → x ≤ 10 * cap + 9 → 0 ≤ nvl cap T p k x ∧ nvl cap T p k x ≤ 10 * cap + 9 := by
  intro k
  induction k with
  | zero => intro p x h0 h1; exact ⟨h0, h1⟩
  | succ k ih =>
    intro p x h0 h1
    show 0 ≤ (if ldg (T p) = true then nvl cap T (p + 1) k (if cap < x then x else 10 * x + T p - 48) else x) ∧ (if ldg (T p) = true then nvl cap T (p + 1) k (if cap < x then x else 10 * x + T p - 48) else x) ≤ 10 * cap + 9
    by_cases h : ldg (T p) = true
    · rw [if_pos h]
      unfold ldg at h
      have d := of_decide_eq_true h
      exact ih _ _ (by split <;> omega) (by split <;> omega)
    · rw [if_neg h]; exact ⟨h0, h1⟩
/-- two caps, one number, or both over the lower -/
theorem nvl_two {T T' : Int → Int} {lo hi : Int} (l0 : 0 ≤ lo) (lh : lo ≤ hi) : ∀ (k : Nat) (p x y : Int), (∀ q, p ≤ q → q < p + k → ldg (T q) = ldg (T' q) ∧ (ldg (T q) = true → T q = T' q)) → (x = y ∨ (lo < x ∧ lo < y)) → 0 ≤ x → 0 ≤ y → nvl hi T p k x = nvl lo T' p k y ∨ (lo < nvl hi T p k x ∧ lo < nvl lo T' p k y) := by
  intro k
  induction k with
  | zero => intro p x y _ h _ _; exact h
  | succ k ih =>
    intro p x y hT h x0 y0
    show (if ldg (T p) = true then nvl hi T (p + 1) k (if hi < x then x else 10 * x + T p - 48) else x) = (if ldg (T' p) = true then nvl lo T' (p + 1) k (if lo < y then y else 10 * y + T' p - 48) else y) ∨ _ < (if ldg (T p) = true then nvl hi T (p + 1) k (if hi < x then x else 10 * x + T p - 48) else x) ∧ _ < (if ldg (T' p) = true then nvl lo T' (p + 1) k (if lo < y then y else 10 * y + T' p - 48) else y)
    have q := hT p (Int.le_refl _) (by omega)
    rw [← q.1]
    by_cases hd : ldg (T p) = true
    · have eq := q.2 hd
      rw [if_pos hd, if_pos hd, ← eq]
      unfold ldg at hd
      have d := of_decide_eq_true hd
      exact ih _ _ _ (fun r h1 h2 => hT r (by omega) (by omega)) (by split <;> split <;> omega) (by split <;> omega) (by split <;> omega)
    · rw [if_neg hd, if_neg hd]; exact h
