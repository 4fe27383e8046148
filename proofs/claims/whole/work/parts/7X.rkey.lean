/-! THE REFERENCE'S key: a search from the front -/
section RKEY
variable {B : Nat} {m : xw_M} {d n x : Int}
theorem rkey_ok (d0 : 0 ≤ d) (d1 : d < 8) (hn : 0 ≤ n ∧ n ≤ 1000) (h1 : xR m 536 1 = 0) (h539 : xR m 539 d = n) : (∃ p, (0 ≤ p ∧ p < n) ∧ xR m 540 (4000 * d + 4 * p + 0) = x ∧ xl3 (yl316_41 B) 1000000 d x 0 m = some (.inl 1, xw_u m 577 d p)) ∨ ((∀ p, 0 ≤ p → p < n → xR m 540 (4000 * d + 4 * p + 0) ≠ x) ∧ xl3 (yl316_41 B) 1000000 d x 0 m = some (.inl 0, m)) := by
  generalize hN : (1000000 : Nat) = N
  have goal := xH_ex (Q := fun v m' => (v = 1 ∧ ∃ p, (0 ≤ p ∧ p < n) ∧ xR m 540 (4000 * d + 4 * p + 0) = x ∧ m' = xw_u m 577 d p) ∨ (v = 0 ∧ m' = m ∧ ∀ p, 0 ≤ p → p < n → xR m 540 (4000 * d + 4 * p + 0) ≠ x)) (xl3_rule (F := yl316_41 B) (fun y1 y2 i m' => (y1 = d ∧ y2 = x ∧ m' = m) ∧ 0 ≤ i ∧ i ≤ n ∧ ∀ p, 0 ≤ p → p < i → xR m 540 (4000 * d + 4 * p + 0) ≠ x) (fun _ _ i _ => (n - i).toNat) ?_ N d x 0 m ⟨⟨rfl, rfl, rfl⟩, by omega, hn.1, fun p p0 p1 => absurd p1 (Int.not_lt.mpr p0)⟩ (by omega))
  · obtain ⟨v, m', e, h⟩ := goal
    rcases h with ⟨h2, p, hp, hv, hm⟩ | ⟨h2, hm, hv⟩
    · left
      exact ⟨p, hp, hv, by rw [e, h2, hm]⟩
    · right
      exact ⟨hv, by rw [e, h2, hm]⟩
  · intro r y1 y2 i m' ⟨⟨b1, b2, b3⟩, i0, i1, P⟩ ih
    subst b1 b2 b3
    unfold yl316_41
    by_cases hi : i < n
    · unfold yf289
      rw [if_pos (by omega), h1, if_pos rfl, if_pos ⟨d0, d1⟩, h539, if_pos hi, if_pos ⟨by omega, by omega⟩, xB_ret, w32_id (by omega) (by omega)]
      by_cases he : xR m' 540 (4000 * y1 + 4 * i + 0) = y2
      · rw [if_pos he, xH_ret]
        exact Or.inl ⟨rfl, i, ⟨i0, hi⟩, he, rfl⟩
      · rw [if_neg he]
        refine ih _ _ _ _ ⟨⟨rfl, rfl, rfl⟩, by omega, by omega, fun p p0 p1 => ?_⟩ (by omega)
        by_cases hp : p = i
        · rw [hp]; exact he
        · exact P p p0 (by omega)
    · have e : i = n := by omega
      subst e
      by_cases hk : i < 1000
      · rw [if_pos hk, h1, if_pos rfl, if_pos ⟨d0, d1⟩, h539, if_neg hi, xH_ret]
        exact Or.inr ⟨rfl, rfl, P⟩
      · rw [if_neg hk, xH_ret]
        exact Or.inr ⟨rfl, rfl, P⟩
end RKEY
