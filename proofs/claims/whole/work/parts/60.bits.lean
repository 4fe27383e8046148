/-! BITS: what the operations of longs and ints say bit by bit, and as numbers -/
def bt (x : Int) (i : Nat) : Bool := (BitVec.ofInt 64 x).getLsbD i
theorem bt_ge {x : Int} {i : Nat} (h : 64 ≤ i) : bt x i = false := BitVec.getLsbD_of_ge _ _ h
theorem bv_w64 (x : Int) : BitVec.ofInt 64 (w64 x) = BitVec.ofInt 64 x := by
  rw [← w64_t, BitVec.ofInt_int64ToInt, Int64.toBitVec_ofInt]
theorem bt_w (x : Int) (i : Nat) : bt (w64 x) i = bt x i := by
  unfold bt
  rw [bv_w64]
theorem bt_ext {x y : Int} (hx : w64 x = x) (hy : w64 y = y) (h : ∀ i, i < 64 → bt x i = bt y i) : x = y := by
  have e : BitVec.ofInt 64 x = BitVec.ofInt 64 y := BitVec.eq_of_getLsbD_eq (fun i hi => h i hi)
  have e2 : Int64.ofInt x = Int64.ofInt y := Int64.toBitVec_inj.mp (by rw [Int64.toBitVec_ofInt, Int64.toBitVec_ofInt]; exact e)
  rw [← hx, ← hy, ← w64_t, ← w64_t, e2]
theorem bt_nn {x : Int} (h : 0 ≤ x) (i : Nat) : bt x i = (decide (i < 64) && x.toNat.testBit i) := by
  unfold bt
  obtain ⟨n, rfl⟩ := Int.eq_ofNat_of_zero_le h
  rw [BitVec.ofInt_natCast, BitVec.getLsbD_ofNat]
  rfl
theorem lt63 : ∀ s : Nat, s < 64 → (((Int32.ofInt (s : Int)).toInt64 &&& 63).toBitVec.smod 64).toNat = s ∧ (((Int32.ofInt (s : Int)).toInt64.toUInt64 &&& Int64.toUInt64 63).toBitVec % 64).toNat = s := by decide +kernel
theorem lt31 : ∀ s : Nat, s < 32 → ((Int32.ofInt (s : Int) &&& 31).toBitVec.smod 32).toNat = s ∧ (((Int32.ofInt (s : Int)).toUInt32 &&& Int32.toUInt32 31).toBitVec % 32).toNat = s := by decide +kernel
theorem bv_f (x : Int64) : BitVec.ofInt 64 x.toInt = x.toBitVec := BitVec.ofInt_int64ToInt x
theorem bt_and (x y : Int) (i : Nat) : bt (xw_landf x y) i = (bt x i && bt y i) := by
  unfold bt xw_landf
  rw [bv_f, Int64.toBitVec_and, BitVec.getLsbD_and]
  rfl
theorem bt_or (x y : Int) (i : Nat) : bt (xw_lorf x y) i = (bt x i || bt y i) := by
  unfold bt xw_lorf
  rw [bv_f, Int64.toBitVec_or, BitVec.getLsbD_or]
  rfl
theorem bt_xor (x y : Int) (i : Nat) : bt (xw_lxorf x y) i = (bt x i ^^ bt y i) := by
  unfold bt xw_lxorf
  rw [bv_f, Int64.toBitVec_xor, BitVec.getLsbD_xor]
  rfl
theorem bt_shl (x : Int) {s : Nat} (hs : s < 64) (i : Nat) : bt (xw_lshlf x (s : Int)) i = (decide (i < 64) && (decide (s ≤ i) && bt x (i - s))) := by
  unfold bt xw_lshlf
  rw [bv_f, Int64.toBitVec_shiftLeft, BitVec.shiftLeft_eq', (lt63 s hs).1, BitVec.getLsbD_shiftLeft, Int64.toBitVec_ofInt, Bool.and_assoc]
  congr 2
  rw [← decide_not]
  congr 1
  exact propext Nat.not_lt
theorem bt_ushr (x : Int) {s : Nat} (hs : s < 64) (i : Nat) : bt (xw_lushrf x (s : Int)) i = bt x (s + i) := by
  unfold bt xw_lushrf
  rw [bv_f]
  show (((Int64.ofInt x).toUInt64 >>> ((Int32.ofInt (s : Int)).toInt64.toUInt64 &&& Int64.toUInt64 63)).toBitVec).getLsbD i = _
  rw [UInt64.toBitVec_shiftRight, BitVec.ushiftRight_eq', (lt63 s hs).2, BitVec.getLsbD_ushiftRight]
  rfl
theorem land_w (x y : Int) : w64 (xw_landf x y) = xw_landf x y := w64_ti _
theorem lor_w (x y : Int) : w64 (xw_lorf x y) = xw_lorf x y := w64_ti _
theorem lxor_w (x y : Int) : w64 (xw_lxorf x y) = xw_lxorf x y := w64_ti _
theorem lshl_w (x y : Int) : w64 (xw_lshlf x y) = xw_lshlf x y := w64_ti _
theorem lshr_w (x y : Int) : w64 (xw_lshrf x y) = xw_lshrf x y := w64_ti _
theorem lushr_w (x y : Int) : w64 (xw_lushrf x y) = xw_lushrf x y := w64_ti _
theorem bt_m1 {i : Nat} (h : i < 64) : bt (-1) i = true := by
  unfold bt
  rw [show BitVec.ofInt 64 (-1) = BitVec.allOnes 64 from rfl, BitVec.getLsbD_allOnes]
  exact decide_eq_true h
/-- ints -/
theorem iand_w (x y : Int) : w32 (xw_iandf x y) = xw_iandf x y := w32_ti _
theorem ior_w (x y : Int) : w32 (xw_iorf x y) = xw_iorf x y := w32_ti _
theorem ixor_w (x y : Int) : w32 (xw_ixorf x y) = xw_ixorf x y := w32_ti _
theorem ishl_w (x y : Int) : w32 (xw_ishlf x y) = xw_ishlf x y := w32_ti _
theorem ishr_w (x y : Int) : w32 (xw_ishrf x y) = xw_ishrf x y := w32_ti _
theorem iushr_w (x y : Int) : w32 (xw_iushrf x y) = xw_iushrf x y := w32_ti _
theorem ishr_d {x : Int} (hx : w32 x = x) {s : Nat} (hs : s < 32) : xw_ishrf x (s : Int) = x / (2 ^ s : Nat) := by
  unfold xw_ishrf
  show (Int32.ofInt x >>> (Int32.ofInt (s : Int) &&& 31)).toBitVec.toInt = _
  rw [Int32.toBitVec_shiftRight, BitVec.toInt_sshiftRight', (lt31 s hs).1, Int.shiftRight_eq_div_pow]
  congr 1
  show (Int32.ofInt x).toInt = x
  rw [w32_t, hx]
theorem bv32_nn {x : Int} (h : 0 ≤ x) (h2 : x < 2147483648) : (Int32.ofInt x).toBitVec.toNat = x.toNat := by
  rw [Int32.toBitVec_ofInt, BitVec.toNat_ofInt]
  congr 1
  exact Int.emod_eq_of_lt h (by omega)
theorem i32_nn {b : BitVec 32} (h : b.toNat < 2147483648) : b.toInt = b.toNat := by
  rw [BitVec.toInt_eq_toNat_cond, if_pos (by omega)]
theorem iand_n {x y : Int} (hx : 0 ≤ x) (hx2 : x < 2147483648) (hy : 0 ≤ y) (hy2 : y < 2147483648) : xw_iandf x y = ((x.toNat &&& y.toNat : Nat) : Int) := by
  unfold xw_iandf
  show (Int32.ofInt x &&& Int32.ofInt y).toBitVec.toInt = _
  have e : (Int32.ofInt x &&& Int32.ofInt y).toBitVec.toNat = x.toNat &&& y.toNat := by rw [Int32.toBitVec_and, BitVec.toNat_and, bv32_nn hx hx2, bv32_nn hy hy2]
  have := @Nat.and_le_left x.toNat y.toNat
  rw [i32_nn (by omega), e]
theorem iand_m {x : Int} (hx : 0 ≤ x) (hx2 : x < 2147483648) {k : Nat} (hk : k < 31) {y : Int} (hy : y = (2 ^ k - 1 : Nat)) : xw_iandf x y = x % (2 ^ k : Nat) := by
  have hp : 2 ^ k ≤ 2 ^ 30 := Nat.pow_le_pow_right (by omega) (by omega)
  have hp1 : 0 < 2 ^ k := Nat.two_pow_pos k
  rw [iand_n hx hx2 (by omega) (by omega), show y.toNat = 2 ^ k - 1 from by omega, Nat.and_two_pow_sub_one_eq_mod, Int.natCast_emod, Int.toNat_of_nonneg hx]
