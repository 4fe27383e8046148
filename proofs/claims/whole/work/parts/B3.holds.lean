/-! THE ANSWER, by the class: whether a row holds (holds): the values wait as bits of a long -/
theorem bt_e {x : Int} (h : 0 ≤ x) : bt x 0 = decide (x % 2 = 1) := by
  rw [bt_nn h, Nat.testBit_zero]
  show (true && decide (x.toNat % 2 = 1)) = _
  rw [Bool.true_and]
  exact decide_eq_decide.mpr (by omega)
theorem bt_S {x : Int} (h : 0 ≤ x) {j : Nat} (hj : j + 1 < 64) : bt x (j + 1) = bt (x / 2) j := by
  rw [bt_nn h, bt_nn (by omega : 0 ≤ x / 2), Nat.testBit_add_one, show (x / 2).toNat = x.toNat / 2 from by omega, decide_eq_true hj, decide_eq_true (by omega : j < 64)]
theorem bt_z (j : Nat) : bt 0 j = false := by
  rw [bt_nn (by omega : (0 : Int) ≤ 0)]
  show (_ && Nat.testBit 0 j) = _
  rw [Nat.zero_testBit, Bool.and_false]
theorem bt_x {x y : Int} (hx : w64 x = x) (hy : w64 y = y) (h0 : bt x 0 = bt y 0) (hS : ∀ j, j + 1 < 64 → bt x (j + 1) = bt y (j + 1)) : x = y := by
  apply bt_ext hx hy
  intro i hi
  cases i with
  | zero => exact h0
  | succ j => exact hS j hi
theorem w64_s {x : Int} (h0 : 0 ≤ x) (h1 : x < 9223372036854775808) : w64 x = x := by unfold w64; omega
theorem lshr1 {x : Int} (hx : w64 x = x) : xw_lshrf x 1 = x / 2 := by
  have e := (lt63 1 (by omega)).1
  unfold xw_lshrf
  show (Int64.ofInt x >>> ((Int32.ofInt 1).toInt64 &&& 63)).toBitVec.toInt = _
  rw [Int64.toBitVec_shiftRight, BitVec.toInt_sshiftRight']
  rw [show (((Int32.ofInt 1).toInt64 &&& 63).toBitVec.smod 64).toNat = 1 from e, Int.shiftRight_eq_div_pow]
  show (Int64.ofInt x).toInt / 2 = x / 2
  rw [w64_t, hx]
theorem lpush {x v : Int} (x0 : 0 ≤ x) (x1 : x < 4611686018427387904) (hv : v = 0 ∨ v = 1) : xw_lorf (xw_lshlf x 1) v = 2 * x + v := by
  have s : ∀ i, bt (xw_lshlf x 1) i = (decide (i < 64) && (decide (1 ≤ i) && bt x (i - 1))) := bt_shl x (s := 1) (by omega)
  apply bt_x (lor_w _ _) (w64_s (by omega) (by omega))
  · rw [bt_or, s, bt_e (by omega : 0 ≤ v), bt_e (by omega : 0 ≤ 2 * x + v)]
    show (false || decide (v % 2 = 1)) = _
    rw [Bool.false_or]
    exact decide_eq_decide.mpr (by omega)
  · intro j hj
    rw [bt_or, s, bt_S (by omega : 0 ≤ v) hj, bt_S (by omega : 0 ≤ 2 * x + v) hj, show v / 2 = 0 from by omega, bt_z, Bool.or_false, show (2 * x + v) / 2 = x from by omega, decide_eq_true hj, decide_eq_true (by omega : 1 ≤ j + 1)]
    rfl
theorem lturn {x : Int} (x0 : 0 ≤ x) (x1 : x < 4611686018427387904) : xw_lxorf x 1 = 2 * (x / 2) + (1 - x % 2) := by
  apply bt_x (lxor_w _ _) (w64_s (by omega) (by omega))
  · rw [bt_xor, bt_e x0, bt_e (by omega : (0 : Int) ≤ 1), bt_e (by omega : 0 ≤ 2 * (x / 2) + (1 - x % 2))]
    by_cases h : x % 2 = 1
    · rw [decide_eq_true h, decide_eq_false (by omega : ¬ (2 * (x / 2) + (1 - x % 2)) % 2 = 1)]; rfl
    · rw [decide_eq_false h, decide_eq_true (by omega : (2 * (x / 2) + (1 - x % 2)) % 2 = 1)]; rfl
  · intro j hj
    rw [bt_xor, bt_S x0 hj, bt_S (by omega : (0 : Int) ≤ 1) hj, bt_S (by omega : 0 ≤ 2 * (x / 2) + (1 - x % 2)) hj, show (1 : Int) / 2 = 0 from rfl, bt_z, Bool.xor_false, show (2 * (x / 2) + (1 - x % 2)) / 2 = x / 2 from by omega]
theorem bt_m2 {j : Nat} (h : j < 64) : bt (-2) j = decide (1 ≤ j) := by
  have : ∀ j : Nat, j < 64 → bt (-2) j = decide (1 ≤ j) := by decide +kernel
  exact this j h
theorem land2 {x : Int} (x0 : 0 ≤ x) (x1 : x < 4611686018427387904) : xw_landf (xw_lshrf x 1) (xw_lorf x (-2)) = 2 * (x / 4) + (if x % 2 = 1 ∧ x / 2 % 2 = 1 then 1 else 0) := by
  rw [lshr1 (w64_s x0 (by omega))]
  have hb : (if x % 2 = 1 ∧ x / 2 % 2 = 1 then (1 : Int) else 0) = 0 ∨ (if x % 2 = 1 ∧ x / 2 % 2 = 1 then (1 : Int) else 0) = 1 := by split <;> omega
  have hc : (if x % 2 = 1 ∧ x / 2 % 2 = 1 then (1 : Int) else 0) = 1 ↔ (x % 2 = 1 ∧ x / 2 % 2 = 1) := by split <;> omega
  generalize (if x % 2 = 1 ∧ x / 2 % 2 = 1 then (1 : Int) else 0) = b at hb hc
  apply bt_x (land_w _ _) (w64_s (by omega) (by omega))
  · rw [bt_and, bt_or, bt_m2 (by omega), bt_e (by omega : 0 ≤ x / 2), bt_e x0, bt_e (by omega : 0 ≤ 2 * (x / 4) + b)]
    show (decide (x / 2 % 2 = 1) && (decide (x % 2 = 1) || false)) = _
    rw [Bool.or_false, ← Bool.decide_and]
    exact decide_eq_decide.mpr (by omega)
  · intro j hj
    rw [bt_and, bt_or, bt_m2 hj, decide_eq_true (by omega : 1 ≤ j + 1), Bool.or_true, Bool.and_true, bt_S (by omega : 0 ≤ x / 2) hj, bt_S (by omega : 0 ≤ 2 * (x / 4) + b) hj, show (2 * (x / 4) + b) / 2 = x / 2 / 2 from by omega]
theorem land1m {x : Int} (x0 : 0 ≤ x) : xw_landf x 1 = x % 2 := by
  apply bt_x (land_w _ _) (w64_s (by omega) (by omega))
  · rw [bt_and, bt_e x0, bt_e (by omega : (0 : Int) ≤ 1), bt_e (by omega : 0 ≤ x % 2)]
    show (decide (x % 2 = 1) && true) = _
    rw [Bool.and_true]
    exact decide_eq_decide.mpr (by omega)
  · intro j hj
    rw [bt_and, bt_S (by omega : (0 : Int) ≤ 1) hj, show (1 : Int) / 2 = 0 from rfl, bt_z, Bool.and_false, bt_S (by omega : 0 ≤ x % 2) hj, show x % 2 / 2 = 0 from by omega, bt_z]
theorem lor2 {x : Int} (x0 : 0 ≤ x) (x1 : x < 4611686018427387904) : xw_lorf (xw_lshrf x 1) (xw_landf x 1) = 2 * (x / 4) + (if x % 2 = 1 ∨ x / 2 % 2 = 1 then 1 else 0) := by
  rw [lshr1 (w64_s x0 (by omega)), land1m x0]
  have hb : (if x % 2 = 1 ∨ x / 2 % 2 = 1 then (1 : Int) else 0) = 0 ∨ (if x % 2 = 1 ∨ x / 2 % 2 = 1 then (1 : Int) else 0) = 1 := by split <;> omega
  have hc : (if x % 2 = 1 ∨ x / 2 % 2 = 1 then (1 : Int) else 0) = 1 ↔ (x % 2 = 1 ∨ x / 2 % 2 = 1) := by split <;> omega
  generalize (if x % 2 = 1 ∨ x / 2 % 2 = 1 then (1 : Int) else 0) = b at hb hc
  apply bt_x (lor_w _ _) (w64_s (by omega) (by omega))
  · rw [bt_or, bt_e (by omega : 0 ≤ x / 2), bt_e (by omega : 0 ≤ x % 2), bt_e (by omega : 0 ≤ 2 * (x / 4) + b), ← Bool.decide_or]
    exact decide_eq_decide.mpr (by omega)
  · intro j hj
    rw [bt_or, bt_S (by omega : 0 ≤ x / 2) hj, bt_S (by omega : 0 ≤ x % 2) hj, show x % 2 / 2 = 0 from by omega, bt_z, Bool.or_false, bt_S (by omega : 0 ≤ 2 * (x / 4) + b) hj, show (2 * (x / 4) + b) / 2 = x / 2 / 2 from by omega]
/-- values that wait, as a number -/
def b01 (b : Bool) : Int := if b = true then 1 else 0
theorem b01_c (b : Bool) : (b = true ∧ b01 b = 1) ∨ (b = false ∧ b01 b = 0) := by cases b <;> simp [b01]
def bV : List Bool → Int
  | [] => 1
  | b :: t => 2 * bV t + b01 b
theorem bV_b : ∀ l : List Bool, 1 ≤ bV l ∧ bV l < 2 ^ (l.length + 1)
  | [] => ⟨by decide, by decide⟩
  | b :: t => by
    have h := bV_b t
    have e : (2 : Int) ^ ((b :: t).length + 1) = 2 * 2 ^ (t.length + 1) := by
      rw [List.length_cons, Int.pow_succ]; omega
    rw [e]
    unfold bV
    have := b01_c b
    omega
theorem bV_60 {l : List Bool} (h : (l.length : Int) ≤ 60) : 1 ≤ bV l ∧ bV l < 2305843009213693952 := by
  have := bV_b l
  have e : (2 : Int) ^ (l.length + 1) ≤ 2 ^ 61 := by
    have : (2 : Nat) ^ (l.length + 1) ≤ 2 ^ 61 := Nat.pow_le_pow_right (by omega) (by omega)
    exact_mod_cast this
  have e2 : (2 : Int) ^ 61 = 2305843009213693952 := by decide
  omega
theorem bV_N {l : List Bool} (h1 : 1 ≤ (l.length : Int)) (h : (l.length : Int) ≤ 60) : xw_lxorf (bV l) 1 = bV (tN l) := by
  have := bV_60 h
  rw [lturn (by omega) (by omega)]
  cases l with
  | nil => simp at h1
  | cons b t =>
    show 2 * ((2 * bV t + b01 b) / 2) + (1 - (2 * bV t + b01 b) % 2) = 2 * bV t + b01 (!b)
    have hb := b01_c b
    have e : b01 (!b) = 1 - b01 b := by cases b <;> rfl
    rw [e]
    omega
theorem bV_A {l : List Bool} (h1 : 2 ≤ (l.length : Int)) (h : (l.length : Int) ≤ 60) : xw_landf (xw_lshrf (bV l) 1) (xw_lorf (bV l) (-2)) = bV (tA l) := by
  have := bV_60 h
  rw [land2 (by omega) (by omega)]
  match l, h1 with
  | b :: a :: t, _ =>
    show 2 * ((2 * (2 * bV t + b01 a) + b01 b) / 4) + (if (2 * (2 * bV t + b01 a) + b01 b) % 2 = 1 ∧ (2 * (2 * bV t + b01 a) + b01 b) / 2 % 2 = 1 then 1 else 0) = 2 * bV t + b01 (a && b)
    have hb := b01_c b
    have ha := b01_c a
    have e : b01 (a && b) = if b01 b = 1 ∧ b01 a = 1 then 1 else 0 := by cases a <;> cases b <;> rfl
    rw [e]
    generalize b01 a = p at *
    generalize b01 b = r at *
    generalize bV t = x at *
    have hb : r = 0 ∨ r = 1 := by omega
    have ha : p = 0 ∨ p = 1 := by omega
    clear e
    split <;> split <;> omega
theorem bV_O {l : List Bool} (h1 : 2 ≤ (l.length : Int)) (h : (l.length : Int) ≤ 60) : xw_lorf (xw_lshrf (bV l) 1) (xw_landf (bV l) 1) = bV (tO l) := by
  have := bV_60 h
  rw [lor2 (by omega) (by omega)]
  match l, h1 with
  | b :: a :: t, _ =>
    show 2 * ((2 * (2 * bV t + b01 a) + b01 b) / 4) + (if (2 * (2 * bV t + b01 a) + b01 b) % 2 = 1 ∨ (2 * (2 * bV t + b01 a) + b01 b) / 2 % 2 = 1 then 1 else 0) = 2 * bV t + b01 (a || b)
    have hb := b01_c b
    have ha := b01_c a
    have e : b01 (a || b) = if b01 b = 1 ∨ b01 a = 1 then 1 else 0 := by cases a <;> cases b <;> rfl
    rw [e]
    generalize b01 a = p at *
    generalize b01 b = r at *
    generalize bV t = x at *
    have hb : r = 0 ∨ r = 1 := by omega
    have ha : p = 0 ∨ p = 1 := by omega
    clear e
    split <;> split <;> omega
def top : List Bool → Bool
  | [] => true
  | b :: _ => b
theorem bV_t {l : List Bool} : xw_landf (bV l) 1 = b01 (top l) := by
  have := bV_b l
  rw [land1m (by omega)]
  cases l with
  | nil => rfl
  | cons b t =>
    show (2 * bV t + b01 b) % 2 = b01 b
    have hb := b01_c b
    omega
