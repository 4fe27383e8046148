/-! THE LEXER: signs, by the class -/
def sg1 (x : Int) : Bool := decide (x = 40 ∨ x = 41 ∨ x = 44 ∨ x = 59 ∨ x = 46 ∨ x = 42 ∨ x = 61 ∨ x = 60 ∨ x = 62)
/-- a sign's kind by its first character and the one behind -/
def sgk (x y : Int) : Int := if x = 60 ∧ y = 61 then 100 else if x = 62 ∧ y = 61 then 101 else if x = 60 ∧ y = 62 then 102 else if sg1 x = true then x else -1
theorem chr1 {j : Int} (h0 : 0 ≤ j) (h1 : j < 9) : sg1 (xw_chr 1 j) = true := by
  have key : ∀ k : Nat, k < 9 → sg1 (xw_chr 1 (k : Int)) = true := by decide
  have q := key j.toNat (by omega)
  rw [Int.toNat_of_nonneg h0] at q
  exact q
theorem chr1_ex {x : Int} (h : sg1 x = true) : ∃ j, 0 ≤ j ∧ j < 9 ∧ xw_chr 1 j = x := by
  unfold sg1 at h
  rcases of_decide_eq_true h with rfl | rfl | rfl | rfl | rfl | rfl | rfl | rfl | rfl
  · exact ⟨0, by decide, by decide, by decide⟩
  · exact ⟨1, by decide, by decide, by decide⟩
  · exact ⟨2, by decide, by decide, by decide⟩
  · exact ⟨3, by decide, by decide, by decide⟩
  · exact ⟨4, by decide, by decide, by decide⟩
  · exact ⟨5, by decide, by decide, by decide⟩
  · exact ⟨6, by decide, by decide, by decide⟩
  · exact ⟨7, by decide, by decide, by decide⟩
  · exact ⟨8, by decide, by decide, by decide⟩
section SGN
variable {B : Nat} {m : xw_M}
theorem sg_loop {x : Int} : xl2 (yl55_86 B) 1000000 x 0 m = some (.inl (if sg1 x = true then x else -1), m) := by
  have gen : ∀ N : Nat, 100 < N → xl2 (yl55_86 B) N x 0 m = some (.inl (if sg1 x = true then x else -1), m) := by
    intro N hN
    have := xH_ex (xl2_rule (F := yl55_86 B) (Q := fun v m' => v = (if sg1 x = true then x else -1) ∧ m' = m) (X := fun _ _ => False) (fun y1 y2 m' => y1 = x ∧ m' = m ∧ (0 ≤ y2 ∧ y2 ≤ 9) ∧ ∀ j, 0 ≤ j → j < y2 → xw_chr 1 j ≠ x) (fun _ y2 _ => (9 - y2).toNat) (by
      intro r y1 y2 m' ⟨e1, e2, e3, e4⟩ ih
      subst e1 e2
      unfold yl55_86
      by_cases h : y2 < 9
      · rw [if_pos h, if_pos ⟨e3.1, h⟩]
        by_cases hc : xw_chr 1 y2 = y1
        · rw [if_pos hc, xH_ret, if_pos (hc ▸ chr1 e3.1 h)]
          exact ⟨rfl, rfl⟩
        · rw [if_neg hc, w32_id (by omega) (by omega)]
          refine ih _ _ _ ⟨rfl, rfl, by omega, fun j j0 j1 => ?_⟩ (by omega)
          by_cases ej : j = y2
          · rw [ej]; exact hc
          · exact e4 j j0 (by omega)
      · rw [if_neg h, xH_ret]
        have no : ¬ sg1 y1 = true := fun q => by
          obtain ⟨j, j0, j1, e⟩ := chr1_ex q
          exact e4 j j0 (by omega) e
        rw [if_neg no]
        exact ⟨rfl, rfl⟩) N x 0 m ⟨rfl, rfl, by omega, fun j j0 j1 => absurd j1 (Int.not_lt.mpr j0)⟩ (by omega))
    obtain ⟨v, m', z, rfl, rfl⟩ := this
    exact z
  exact gen 1000000 (by decide)
theorem sg_two {x y : Int} (h : ¬ (x = 60 ∧ y = 61)) : yk55_54 B x y m = some (.inl (sgk x y), m) := by
  unfold yk55_54 yk55_69 sgk
  rw [sg_loop, if_neg h]
  by_cases a : x = 62
  · rw [if_pos a]
    by_cases b : y = 61
    · rw [if_pos b, if_pos ⟨a, b⟩]
    · rw [if_neg b, if_neg (show ¬ x = 60 by omega), if_neg (show ¬ (x = 62 ∧ y = 61) from fun q => b q.2), if_neg (show ¬ (x = 60 ∧ y = 62) by omega)]
  · rw [if_neg a, if_neg (show ¬ (x = 62 ∧ y = 61) by omega)]
    by_cases c : x = 60
    · rw [if_pos c]
      by_cases d : y = 62
      · rw [if_pos d, if_pos ⟨c, d⟩]
      · rw [if_neg d, if_neg (show ¬ (x = 60 ∧ y = 62) from fun q => d q.2)]
    · rw [if_neg c, if_neg (show ¬ (x = 60 ∧ y = 62) from fun q => c q.1)]
theorem sign_cl {n p : Int} (h1 : xR m 1 1 = n) (n1 : n ≤ 65536) (h2 : xR m 1 2 = p) (p0 : 0 ≤ p) (pn : p < n) : yf55 B m = some (.inl (sgk (xR m 2 p) (if p + 1 < n then xR m 2 (p + 1) else 0)), m) := by
  unfold yf55
  rw [h2, h1, w32_id (by omega) (by omega), if_pos ⟨p0, by omega⟩]
  by_cases h : p + 1 < n
  · rw [if_pos h, if_pos h, if_pos ⟨by omega, by omega⟩]
    by_cases a : xR m 2 p = 60
    · rw [if_pos a]
      by_cases b : xR m 2 (p + 1) = 61
      · rw [if_pos b]
        unfold sgk
        rw [if_pos ⟨a, b⟩]
      · rw [if_neg b]
        exact sg_two (fun q => b q.2)
    · rw [if_neg a]
      exact sg_two (fun q => a q.1)
  · rw [if_neg h, if_neg h, sg_two (fun q => absurd q.2 (by decide))]
    split <;> rfl
end SGN
