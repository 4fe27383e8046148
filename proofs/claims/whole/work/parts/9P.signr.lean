/-! THE LEXER: signs, by the reference -/
section SGR
variable {B : Nat} {m : xw_M}
/-- nothing was wrong so far: what is asked holds -/
theorem ok254 {f p : Int} (h6 : xR m 536 6 = 0) : yf254 B 1 f p m = some (.inl 1, m) := by
  unfold yf254 yk254_21
  rw [if_pos h6, if_neg (by decide), if_pos h6]
/-- what is asked does not hold: the fault and its place -/
theorem no254 {f p : Int} (h6 : xR m 536 6 = 0) (hf : w32 f = f) (f0 : f ≠ 0) : yf254 B 0 f p m = some (.inl 0, xw_u (xw_u m 536 6 f) 536 7 p) := by
  unfold yf254 yk254_21
  have z : xR (xw_u (xw_u m 536 6 f) 536 7 p) 536 6 = f := by rw [xR_ne (by omega), xR_at hf]
  rw [if_pos h6, if_pos rfl, if_neg (by rw [z]; exact f0)]
theorem one_sg {x y : Int} (h6 : xR m 536 6 = 0) : yk255_45 B x y m = some (.inl 0, if sg1 x = true then xw_u (xw_u m 536 13 x) 536 8 (xR m 536 8 + 1) else xw_u (xw_u m 536 6 1) 536 7 (xR m 536 9)) := by
  have e : yk255_101 B x y 0 m = some (.inl 0, xw_u (xw_u m 536 13 x) 536 8 (xR m 536 8 + 1)) := by
    unfold yk255_101
    rw [ok254 h6, xB_ret, if_neg (by decide), if_pos rfl]
  unfold yk255_45
  rw [e, no254 (f := 1) h6 (by decide) (by decide), xB_ret, if_pos rfl]
  by_cases h : sg1 x = true
  · rw [if_pos h]
    unfold sg1 at h
    rcases of_decide_eq_true h with rfl | rfl | rfl | rfl | rfl | rfl | rfl | rfl | rfl <;> rfl
  · rw [if_neg h]
    unfold sg1 at h
    rw [decide_eq_true_eq] at h
    rw [if_neg (show ¬ x = 40 by omega), if_neg (show ¬ x = 41 by omega), if_neg (show ¬ x = 44 by omega), if_neg (show ¬ x = 59 by omega), if_neg (show ¬ x = 46 by omega), if_neg (show ¬ x = 42 by omega), if_neg (show ¬ x = 61 by omega), if_neg (show ¬ x = 60 by omega), if_neg (show ¬ x = 62 by omega)]
theorem two_sg {x y : Int} (h6 : xR m 536 6 = 0) (hx : x = 60 ∨ x = 62) : yk255_41 B x y m = some (.inl 0, xw_u (xw_u m 536 13 (256 * x + y)) 536 8 (xR m 536 8 + 2)) := by
  have e : yk255_101 B x y 1 m = some (.inl 0, xw_u (xw_u m 536 13 (256 * x + y)) 536 8 (xR m 536 8 + 2)) := by
    unfold yk255_101
    rw [ok254 h6, xB_ret, if_neg (by decide), if_neg (by decide)]
  unfold yk255_41
  rw [e]
  rcases hx with rfl | rfl <;> rfl
def sg2 (x y : Int) : Bool := decide ((x = 60 ∧ y = 61) ∨ (x = 60 ∧ y = 62) ∨ (x = 62 ∧ y = 61))
theorem sign_rf {n p x y : Int} (h5 : xR m 536 5 = n) (n1 : n ≤ 65536) (h8 : xR m 536 8 = p) (p0 : 0 ≤ p) (pn : p < n) (h6 : xR m 536 6 = 0) (hb : ∀ i, 0 ≤ i → i < n → w8 (xR m 537 i) = xR m 537 i) (hy : y = if p + 1 < n then ub (xR m 537 (p + 1)) else 0) : yf255 B x m = some (.inl 0, if sg2 x y = true then xw_u (xw_u m 536 13 (256 * x + y)) 536 8 (p + 2) else if sg1 x = true then xw_u (xw_u m 536 13 x) 536 8 (p + 1) else xw_u (xw_u m 536 6 1) 536 7 (xR m 536 9)) := by
  unfold yf255
  rw [h8, w32_id (by omega) (by omega), rch_ok (B := B) (m := m) (p := p + 1) h5 n1 (by omega) (fun hp => hb _ (by omega) hp), xB_ret, ← hy]
  unfold yk255_29 sg2
  rw [one_sg h6, h8]
  by_cases a : x = 60
  · rw [if_pos a]
    by_cases b : y = 61
    · rw [if_pos b, two_sg h6 (Or.inl a), h8, if_pos (decide_eq_true (Or.inl ⟨a, b⟩))]
    · rw [if_neg b]
      by_cases c : y = 62
      · rw [if_pos c, two_sg h6 (Or.inl a), h8, if_pos (decide_eq_true (Or.inr (Or.inl ⟨a, c⟩)))]
      · rw [if_neg c, if_neg (show ¬ x = 62 by omega), decide_eq_false (show ¬ ((x = 60 ∧ y = 61) ∨ (x = 60 ∧ y = 62) ∨ (x = 62 ∧ y = 61)) by omega), if_neg (show ¬ ((false : Bool) = true) by decide)]
  · rw [if_neg a]
    by_cases b : x = 62
    · rw [if_pos b]
      by_cases c : y = 61
      · rw [if_pos c, two_sg h6 (Or.inr b), h8, if_pos (decide_eq_true (Or.inr (Or.inr ⟨b, c⟩)))]
      · rw [if_neg c, decide_eq_false (show ¬ ((x = 60 ∧ y = 61) ∨ (x = 60 ∧ y = 62) ∨ (x = 62 ∧ y = 61)) by omega), if_neg (show ¬ ((false : Bool) = true) by decide)]
    · rw [if_neg b, decide_eq_false (show ¬ ((x = 60 ∧ y = 61) ∨ (x = 60 ∧ y = 62) ∨ (x = 62 ∧ y = 61)) by omega), if_neg (show ¬ ((false : Bool) = true) by decide)]
end SGR
