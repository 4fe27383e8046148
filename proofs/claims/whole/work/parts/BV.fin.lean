/-! THE ANSWER, by the class: all rows are finished (finish, before they are ordered) -/
section FIV
variable {B : Nat} {t it : Int}
def fFn (t : Int) (m m' : xw_M) : Prop := ∀ a, ¬ (t + 13 ≤ a ∧ a ≤ t + 36) → a ≠ t + 40 → m' a = m a
/-- a row is finished -/
def FND (m0 m : xw_M) (t it r : Int) : Prop := (∀ j, 0 ≤ j → j < it → xJ m (t + 13 + j) r = fvl m0 t r j) ∧ xR m (t + 40) r = bks (fbl m0 t r) 0 it.toNat
end FIV
