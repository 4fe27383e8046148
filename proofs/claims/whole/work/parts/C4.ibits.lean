/-! BITS of ints: the blanks of a row -/
def b3 (x : Int) (i : Nat) : Bool := (BitVec.ofInt 32 x).getLsbD i
theorem bv_g (x : Int32) : BitVec.ofInt 32 x.toInt = x.toBitVec := BitVec.ofInt_int32ToInt x
theorem b3_ext {x y : Int} (hx : w32 x = x) (hy : w32 y = y) (h : ∀ i, i < 32 → b3 x i = b3 y i) : x = y := by
  have e : BitVec.ofInt 32 x = BitVec.ofInt 32 y := BitVec.eq_of_getLsbD_eq (fun i hi => h i hi)
  have e2 : Int32.ofInt x = Int32.ofInt y := Int32.toBitVec_inj.mp (by rw [Int32.toBitVec_ofInt, Int32.toBitVec_ofInt]; exact e)
  rw [← hx, ← hy, ← w32_t, ← w32_t, e2]
theorem b3_and (x y : Int) (i : Nat) : b3 (xw_iandf x y) i = (b3 x i && b3 y i) := by
  unfold b3 xw_iandf
  rw [bv_g, Int32.toBitVec_and, BitVec.getLsbD_and]
  rfl
theorem b3_or (x y : Int) (i : Nat) : b3 (xw_iorf x y) i = (b3 x i || b3 y i) := by
  unfold b3 xw_iorf
  rw [bv_g, Int32.toBitVec_or, BitVec.getLsbD_or]
  rfl
theorem b3_shl (x : Int) {s : Nat} (hs : s < 32) (i : Nat) : b3 (xw_ishlf x (s : Int)) i = (decide (i < 32) && (decide (s ≤ i) && b3 x (i - s))) := by
  unfold b3 xw_ishlf
  rw [bv_g, Int32.toBitVec_shiftLeft, BitVec.shiftLeft_eq', (lt31 s hs).1, BitVec.getLsbD_shiftLeft, Int32.toBitVec_ofInt, Bool.and_assoc]
  congr 2
  rw [← decide_not]
  congr 1
  exact propext Nat.not_lt
theorem b3_shr (x : Int) {s : Nat} (hs : s < 32) : b3 (xw_ishrf x (s : Int)) 0 = b3 x s := by
  unfold b3 xw_ishrf
  rw [bv_g, Int32.toBitVec_shiftRight, BitVec.sshiftRight_eq', (lt31 s hs).1, BitVec.getLsbD_sshiftRight, Int32.toBitVec_ofInt]
  rw [if_pos (by omega), Nat.add_zero]
  simp
theorem b3_1 : ∀ i : Nat, i < 32 → b3 1 i = decide (i = 0) := by decide
theorem ibit0 (x : Int) {s : Nat} (hs : s < 32) : xw_iandf (xw_ishrf x (s : Int)) 1 = 0 ↔ b3 x s = false := by
  constructor
  · intro h
    have e : b3 (xw_iandf (xw_ishrf x (s : Int)) 1) 0 = false := by rw [h]; rfl
    rw [b3_and, b3_shr x hs, b3_1 0 (by decide)] at e
    simpa using e
  · intro h
    refine b3_ext (iand_w _ _) rfl (fun i hi => ?_)
    rw [b3_and, b3_1 i hi]
    by_cases q : i = 0
    · rw [q, b3_shr x hs, h]; rfl
    · rw [decide_eq_false q, Bool.and_false]
      unfold b3
      rw [show BitVec.ofInt 32 0 = 0#32 from rfl, BitVec.getLsbD_zero]
theorem bks_b {p : Int → Bool} : ∀ n : Nat, n ≤ 24 → ∀ j : Nat, b3 (bks p 0 n) j = (decide (j < n) && p j) := by
  intro n
  induction n with
  | zero =>
    intro _ j
    show b3 0 j = _
    unfold b3
    rw [show BitVec.ofInt 32 0 = 0#32 from rfl, BitVec.getLsbD_zero, decide_eq_false (by omega)]; rfl
  | succ n ih =>
    intro hn j
    have IH := ih (by omega) j
    unfold bks
    by_cases q : p n = true
    · rw [if_pos q, b3_or, b3_shl 1 (by omega), IH]
      by_cases e : j = n
      · rw [e, Nat.sub_self, b3_1 0 (by decide), q, decide_eq_true (by omega : n < 32), decide_eq_true (Nat.le_refl n), decide_eq_true (by omega : n < n + 1)]
        simp
      · have z : (decide (j < 32) && (decide (n ≤ j) && b3 1 (j - n))) = false := by
          by_cases h1 : j < 32
          · by_cases h2 : n ≤ j
            · rw [b3_1 _ (by omega), decide_eq_false (by omega : ¬ j - n = 0), Bool.and_false, Bool.and_false]
            · rw [decide_eq_false h2, Bool.false_and, Bool.and_false]
          · rw [decide_eq_false h1, Bool.false_and]
        rw [z, Bool.or_false]
        congr 1
        exact decide_eq_decide.mpr ⟨fun _ => by omega, fun _ => by omega⟩
    · rw [if_neg q, IH]
      by_cases e : j = n
      · rw [e, Bool.eq_false_iff.mpr q, Bool.and_false, Bool.and_false]
      · congr 1
        exact decide_eq_decide.mpr ⟨fun _ => by omega, fun _ => by omega⟩
/-- the bit of an item in a row's blanks -/
theorem bks_bit {p : Int → Bool} {it i : Int} (it24 : it ≤ 24) (i0 : 0 ≤ i) (i1 : i < it) : xw_iandf (xw_ishrf (bks p 0 it.toNat) i) 1 = 0 ↔ p i = false := by
  have a := ibit0 (bks p 0 it.toNat) (s := i.toNat) (by omega)
  rw [Int.toNat_of_nonneg i0] at a
  rw [a, bks_b it.toNat (by omega), decide_eq_true (by omega : i.toNat < it.toNat), Int.toNat_of_nonneg i0, Bool.true_and]
