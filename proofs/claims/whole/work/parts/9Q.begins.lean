/-! THE LEXER: does a number begin here; its value's test, on either side -/
/-- a number begins at p of the text T, n long -/
def lnb (T : Int → Int) (n p : Int) : Bool := ldg (T p) || (decide (T p = 45) && (decide (p + 1 < n) && ldg (T (p + 1))))
section BGN
variable {B : Nat} {m : xw_M}
theorem bnum_cl {n p : Int} (h1 : xR m 1 1 = n) (n1 : n ≤ 65536) (h2 : xR m 1 2 = p) (p0 : 0 ≤ p) (pn : p < n) : yf52 B m = some (.inl (if lnb (xR m 2) n p = true then 1 else 0), m) := by
  unfold yf52 lnb ldg
  rw [h2, h1, w32_id (by omega) (by omega), if_pos ⟨p0, by omega⟩]
  by_cases a : xR m 2 p = 45
  · rw [if_pos a, decide_eq_true a, decide_eq_false (show ¬ (48 ≤ xR m 2 p ∧ xR m 2 p ≤ 57) by omega), Bool.false_or, Bool.true_and]
    by_cases b : p + 1 < n
    · rw [if_pos b, decide_eq_true b, Bool.true_and, if_pos ⟨by omega, by omega⟩]
      by_cases d : 48 ≤ xR m 2 (p + 1) ∧ xR m 2 (p + 1) ≤ 57
      · rw [decide_eq_true d, if_neg (by omega), if_neg (by omega), if_pos rfl]
      · rw [decide_eq_false d, if_neg (show ¬ ((false : Bool) = true) by decide)]
        by_cases c : xR m 2 (p + 1) < 48
        · rw [if_pos c]
        · rw [if_neg c, if_pos (by omega)]
    · rw [if_neg b, decide_eq_false b, Bool.false_and, if_neg (show ¬ ((false : Bool) = true) by decide)]
  · rw [if_neg a, decide_eq_false a, Bool.false_and, Bool.or_false, if_pos pn]
    by_cases d : 48 ≤ xR m 2 p ∧ xR m 2 p ≤ 57
    · rw [decide_eq_true d, if_neg (by omega), if_neg (by omega), if_pos rfl]
    · rw [decide_eq_false d, if_neg (show ¬ ((false : Bool) = true) by decide)]
      by_cases c : xR m 2 p < 48
      · rw [if_pos c]
      · rw [if_neg c, if_pos (by omega)]
/-- the class's test of a number's value x: it fits, or not -/
theorem nval_cl {sg x : Int} (x0 : 0 ≤ x) (x1 : x ≤ 42949672969) : yk53_117 B sg x m = some (.inl (if -2147483648 ≤ (if sg = 0 then x else -x) ∧ (if sg = 0 then x else -x) ≤ 2147483647 then 1 else 0), xw_u m 1 5 (if sg = 0 then x else -x)) := by
  unfold yk53_117
  by_cases h : sg = 0
  · rw [if_pos h, if_pos h]
    by_cases c : x ≤ 2147483647
    · rw [if_pos (w32_id (by omega) (by omega)), if_pos (by omega)]
    · rw [if_neg (by unfold w32; omega), if_neg (by omega)]
  · rw [if_neg h, if_neg h, w64_id (by omega) (by omega)]
    by_cases c : x ≤ 2147483648
    · rw [if_pos (w32_id (by omega) (by omega)), if_pos (by omega)]
    · rw [if_neg (by unfold w32; omega), if_neg (by omega)]
/-- the reference's -/
theorem nval_rf {sg x : Int} (h6 : xR m 536 6 = 0) (x0 : 0 ≤ x) (x1 : x ≤ 30000000009) : yk253_95 B sg x m = some (.inl 0, if -2147483648 ≤ (if sg = 0 then x else -x) ∧ (if sg = 0 then x else -x) ≤ 2147483647 then xw_u m 536 12 (if sg = 0 then x else -x) else xw_u (xw_u m 536 6 2) 536 7 (xR m 536 9)) := by
  unfold yk253_95
  by_cases h : sg = 0
  · rw [if_pos h, if_pos h, if_neg (show ¬ x < -2147483648 by omega)]
    by_cases c : x ≤ 2147483647
    · rw [if_neg (show ¬ 2147483647 < x by omega), ok254 h6, xB_ret, if_neg (show ¬ (1 : Int) = 0 by decide), if_pos (show -2147483648 ≤ x ∧ x ≤ 2147483647 by omega)]
    · rw [if_pos (show 2147483647 < x by omega), no254 (f := 2) h6 (by decide) (by decide), xB_ret, if_pos (show (0 : Int) = 0 from rfl), if_neg (show ¬ (-2147483648 ≤ x ∧ x ≤ 2147483647) by omega)]
  · rw [if_neg h, if_neg h, w64_id (by omega) (by omega)]
    by_cases c : x ≤ 2147483648
    · rw [if_neg (show ¬ -x < -2147483648 by omega), if_neg (show ¬ 2147483647 < -x by omega), ok254 h6, xB_ret, if_neg (show ¬ (1 : Int) = 0 by decide), if_pos (show -2147483648 ≤ -x ∧ -x ≤ 2147483647 by omega)]
    · rw [if_pos (show -x < -2147483648 by omega), no254 (f := 2) h6 (by decide) (by decide), xB_ret, if_pos (show (0 : Int) = 0 from rfl), if_neg (show ¬ (-2147483648 ≤ -x ∧ -x ≤ 2147483647) by omega)]
end BGN
