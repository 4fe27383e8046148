/-! isComplete, sizes -/
section COMPL
variable {B : Nat} {m : xw_M} {D M : Int}
theorem complete_ok (hD : 0 ≤ D ∧ D ≤ 8) (h31 : xR m 3 1 = D) (h32 : xR m 3 2 = M) : ∃ v, yf148 B m = some (.inl v, m) ∧ (v = 0 ∨ v = 1) ∧ (v = 1 ↔ 0 < D ∧ 0 < M ∧ ∀ d, 0 ≤ d → d < D → xR m (15 + 26 * d) 11 ≠ 0) := by
  unfold yf148
  generalize hN : (1000000 : Nat) = N
  have goal := xH_ex (Q := fun v m' => m' = m ∧ (v = 0 ∨ v = 1) ∧ (v = 1 ↔ 0 < D ∧ 0 < M ∧ ∀ d, 0 ≤ d → d < D → xR m (15 + 26 * d) 11 ≠ 0)) (xl1_rule (F := yl148_2 B) (fun x m' => m' = m ∧ 0 ≤ x ∧ x ≤ D ∧ ∀ d, 0 ≤ d → d < x → xR m (15 + 26 * d) 11 ≠ 0) (fun x _ => (D - x).toNat) ?_ N 0 m ⟨rfl, by omega, hD.1, fun p p0 p1 => absurd p1 (Int.not_lt.mpr p0)⟩ (by omega))
  · obtain ⟨v, m', e, rfl, h⟩ := goal
    exact ⟨v, e, h⟩
  · intro r x m' ⟨b1, x0, x1, P⟩ ih
    subst b1
    unfold yl148_2
    rw [h31]
    by_cases hx : x < D
    · have o0 := (dm_f B x0 (show x < 8 by omega)).1
      rw [if_pos hx, if_pos ⟨x0, by omega⟩, if_pos o0]
      by_cases hz : xR m' (15 + 26 * x) 11 = 0
      · rw [if_pos hz, xH_ret]
        exact ⟨rfl, Or.inl rfl, ⟨fun h => absurd h (by decide), fun h => absurd hz (h.2.2 x x0 hx)⟩⟩
      · rw [if_neg hz, w32_id (by omega) (by omega)]
        refine ih _ _ ⟨rfl, by omega, by omega, fun d d0 d1 => ?_⟩ (by omega)
        by_cases hd : d = x
        · rw [hd]; exact hz
        · exact P d d0 (by omega)
    · have e : x = D := by omega
      subst e
      rw [if_neg hx, h32]
      by_cases h1 : 0 < x
      · rw [if_pos h1]
        by_cases h2 : 0 < M
        · rw [if_pos h2, xH_ret]
          exact ⟨rfl, Or.inr rfl, ⟨fun _ => ⟨h1, h2, P⟩, fun _ => rfl⟩⟩
        · rw [if_neg h2, xH_ret]
          exact ⟨rfl, Or.inl rfl, ⟨fun h => absurd h (by decide), fun h => absurd h.2.1 h2⟩⟩
      · rw [if_neg h1, xH_ret]
        exact ⟨rfl, Or.inl rfl, ⟨fun h => absurd h (by decide), fun h => absurd h.1 h1⟩⟩
end COMPL
