/-! THE ANSWER, by the class: the items of a row are finished -/
section FIQ
variable {B : Nat} {t k it : Int}
/-- an item is blank; its number -/
def fbl (m : xw_M) (t r i : Int) : Bool := decide ((xR m 224 i = 1 ∧ xR m (t + 4 + xR m 225 i) r = xR m (t + 43) (xR m 225 i)) ∨ ((xR m 224 i = 212 ∨ xR m 224 i = 213) ∧ xJ m (t + 39) r = 0))
def fvl (m : xw_M) (t r i : Int) : Int := if xR m 224 i = 209 then (if xR m (t + 4 + xR m 225 i) r = xR m (t + 43) (xR m 225 i) then 1 else 0) else if xR m 224 i = 1 ∧ xR m (t + 4 + xR m 225 i) r ≠ xR m (t + 43) (xR m 225 i) then xR m (15 + 26 * (xR m 227 (xR m 225 i) / 4) + 9 + xR m 227 (xR m 225 i) % 4) (xR m (15 + 26 * (xR m 227 (xR m 225 i) / 4) + 19 + xR m 227 (xR m 225 i) % 4) (xR m (t + 4 + xR m 225 i) r)) else xJ m (t + 13 + i) r
def bks (p : Int → Bool) (b : Int) : Nat → Int
  | 0 => b
  | i + 1 => if p i = true then xw_iorf (bks p b i) (xw_ishlf 1 i) else bks p b i
end FIQ
