/-! memberWith: a binary search -/
section MEMBER
variable {B : Nat} {m : xw_M} {d n x : Int} {V : Int → Int}
theorem member_ok (d0 : 0 ≤ d) (d1 : d < 8) (h11 : xR m (15 + 26 * d) 11 = n) (hn : 0 ≤ n ∧ n ≤ 1000) (hV : xR m (15 + 26 * d + 9) = V) (inc : ∀ i j, 0 ≤ i → i < j → j < n → V i < V j) : ∃ r, yf167 B (15 + 26 * d) x m = some (.inl r, m) ∧ (((0 ≤ r ∧ r < n) ∧ V r = x) ∨ (r = -1 ∧ ∀ p, 0 ≤ p → p < n → V p ≠ x)) := by
  obtain ⟨o0, ⟨_, _, _, r3, _, _, _, _, _⟩, ⟨_, _, _, ob8, _, _, _, _, _⟩, ⟨_, _, _, le8, _, _, _, _, _⟩⟩ := dm_f B d0 d1
  obtain ⟨⟨kd8, rf8, ob9, le9⟩, _⟩ := dm_l B d0 d1 (l := 0) (by decide) (by decide)
  rw [Int.add_zero (15 + 26 * d + 9)] at rf8 ob9 le9
  unfold yf167
  rw [if_pos o0, h11, w32_id (by omega) (by omega)]
  generalize hN : (1000000 : Nat) = N
  have goal := xH_ex (Q := fun r m' => m' = m ∧ (((0 ≤ r ∧ r < n) ∧ V r = x) ∨ (r = -1 ∧ ∀ p, 0 ≤ p → p < n → V p ≠ x))) (xl5_rule (F := yl167_12 B) (fun y0 y1 lo hi c m' => (y0 = 15 + 26 * d ∧ y1 = x ∧ m' = m) ∧ (0 ≤ lo ∧ hi < n ∧ lo ≤ hi + 1) ∧ (∃ k : Nat, c + k = 10 ∧ 0 ≤ c ∧ hi - lo + 1 < 2 ^ k) ∧ (∀ p, 0 ≤ p → p < lo → V p < x) ∧ ∀ p, hi < p → p < n → x < V p) (fun _ _ lo hi _ _ => (hi - lo + 1).toNat) ?_ N (15 + 26 * d) x 0 (n - 1) 0 m ⟨⟨rfl, rfl, rfl⟩, ⟨by omega, by omega, by omega⟩, ⟨10, by decide, by decide, by show n - 1 - 0 + 1 < (1024 : Int); omega⟩, fun p h0 h1 => absurd h1 (Int.not_lt.mpr h0), fun p h0 h1 => by omega⟩ (by omega))
  · obtain ⟨r, m', e, rfl, h⟩ := goal
    exact ⟨r, e, h⟩
  · intro r y0 y1 lo hi c m' ⟨⟨b1, b2, b3⟩, ⟨l0, h1, l1⟩, ⟨k, ck, c0, sz⟩, A, Z⟩ ih
    subst b1 b2 b3
    unfold yl167_12
    rw [if_pos (by omega)]
    by_cases hl : hi < lo
    · rw [if_pos hl, xH_ret]
      refine ⟨rfl, Or.inr ⟨rfl, fun p p0 p1 hp => ?_⟩⟩
      rcases Int.lt_or_le p lo with h | h
      · have := A p p0 h
        omega
      · have := Z p (by omega) p1
        omega
    · obtain ⟨mid, hmid⟩ : ∃ mid, mid = (lo + hi) / 2 := ⟨_, rfl⟩
      have k1 : ∃ j : Nat, k = j + 1 := by
        cases k with
        | zero =>
          exfalso
          have : hi - lo + 1 < 1 := sz
          omega
        | succ j => exact ⟨j, rfl⟩
      obtain ⟨j, hj⟩ := k1
      have p2 : (2 : Int) ^ k = 2 * 2 ^ j := by
        rw [hj, Int.pow_succ]
        omega
      rw [if_neg hl, w32_id (x := lo + hi) (by omega) (by omega), if_pos (by omega), if_pos o0, r3, le8, if_pos ⟨by decide, by decide⟩, if_pos kd8, if_pos ob8, rf8, le9, ← hmid, if_pos ⟨by omega, by omega⟩, if_pos ob9, hV, w32_id (x := mid + 1) (by omega) (by omega), w32_id (x := mid - 1) (by omega) (by omega), w32_id (x := c + 1) (by omega) (by omega)]
      by_cases he : V mid = y1
      · rw [if_pos he, xH_ret]
        exact ⟨rfl, Or.inl ⟨⟨by omega, by omega⟩, he⟩⟩
      · rw [if_neg he]
        by_cases hlt : V mid < y1
        · rw [if_pos hlt]
          refine ih _ _ _ _ _ _ ⟨⟨rfl, rfl, rfl⟩, ⟨by omega, by omega, by omega⟩, ⟨j, by omega, by omega, by omega⟩, fun p p0 p1 => ?_, Z⟩ (by omega)
          by_cases hp : p = mid
          · rw [hp]; exact hlt
          · have := inc p mid p0 (by omega) (by omega)
            omega
        · rw [if_neg hlt]
          refine ih _ _ _ _ _ _ ⟨⟨rfl, rfl, rfl⟩, ⟨by omega, by omega, by omega⟩, ⟨j, by omega, by omega, by omega⟩, A, fun p p0 p1 => ?_⟩ (by omega)
          by_cases hp : p = mid
          · rw [hp]; omega
          · have := inc mid p (by omega) (by omega) p1
            omega
end MEMBER
