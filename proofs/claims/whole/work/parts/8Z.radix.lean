/-! VIEWS' NUMBERS IN MIXED RADIX: numbers and their places, which view comes next below a view -/
/-- the product of the last j radices -/
def mpw (lv : Int → Int) (D : Int) : Nat → Int
  | 0 => 1
  | j + 1 => mpw lv D j * (lv (D - 1 - (j : Nat)) + 1)
/-- the number of the last j places -/
def mlt (lv : Int → Int) (D : Int) (g : Int → Int) : Nat → Int
  | 0 => 0
  | j + 1 => g (D - 1 - (j : Nat)) * mpw lv D j + mlt lv D g j
section RDX
variable {lv g g' low : Int → Int} {D : Int}
theorem mpw_pos (hl : ∀ d, 0 ≤ d → d < D → 0 ≤ lv d) : ∀ j : Nat, (j : Int) ≤ D → 1 ≤ mpw lv D j := by
  intro j
  induction j with
  | zero => intro _; exact Int.le_refl _
  | succ j ih =>
    intro hj
    have a := ih (by omega)
    have b := hl (D - 1 - (j : Nat)) (by omega) (by omega)
    show 1 ≤ mpw lv D j * (lv (D - 1 - (j : Nat)) + 1)
    have := Int.mul_le_mul a (show (1 : Int) ≤ lv (D - 1 - (j : Nat)) + 1 by omega) (by omega) (by omega)
    omega
/-- places within bounds -/
def mdg (lv : Int → Int) (D : Int) (g : Int → Int) : Prop := ∀ d, 0 ≤ d → d < D → 0 ≤ g d ∧ g d ≤ lv d
theorem mlt_b (hl : ∀ d, 0 ≤ d → d < D → 0 ≤ lv d) (hg : mdg lv D g) : ∀ j : Nat, (j : Int) ≤ D → 0 ≤ mlt lv D g j ∧ mlt lv D g j < mpw lv D j := by
  intro j
  induction j with
  | zero => intro _; show (0 : Int) ≤ 0 ∧ (0 : Int) < 1; omega
  | succ j ih =>
    intro hj
    have a := ih (by omega)
    have b := hg (D - 1 - (j : Nat)) (by omega) (by omega)
    have p := mpw_pos hl j (by omega)
    show 0 ≤ g (D - 1 - (j : Nat)) * mpw lv D j + mlt lv D g j ∧ g (D - 1 - (j : Nat)) * mpw lv D j + mlt lv D g j < mpw lv D j * (lv (D - 1 - (j : Nat)) + 1)
    have q1 : 0 ≤ g (D - 1 - (j : Nat)) * mpw lv D j := Int.mul_nonneg b.1 (by omega)
    have q2 : g (D - 1 - (j : Nat)) * mpw lv D j ≤ lv (D - 1 - (j : Nat)) * mpw lv D j := Int.mul_le_mul_of_nonneg_right b.2 (by omega)
    rw [Int.mul_add, Int.mul_one, Int.mul_comm (mpw lv D j)]
    omega
theorem mlt_mono (hl : ∀ d, 0 ≤ d → d < D → 0 ≤ lv d) : ∀ j : Nat, (j : Int) ≤ D → (∀ d, D - (j : Nat) ≤ d → d < D → low d ≤ g d) → mlt lv D low j ≤ mlt lv D g j := by
  intro j
  induction j with
  | zero => intro _ _; exact Int.le_refl _
  | succ j ih =>
    intro hj h
    have a := ih (by omega) (fun d d0 d1 => h d (by omega) d1)
    have b := h (D - 1 - (j : Nat)) (by omega) (by omega)
    have p := mpw_pos hl j (by omega)
    show low (D - 1 - (j : Nat)) * mpw lv D j + mlt lv D low j ≤ g (D - 1 - (j : Nat)) * mpw lv D j + mlt lv D g j
    have := Int.mul_le_mul_of_nonneg_right b (show 0 ≤ mpw lv D j by omega)
    omega
theorem mlt_cg : ∀ j : Nat, (∀ d, D - (j : Nat) ≤ d → d < D → g d = g' d) → mlt lv D g j = mlt lv D g' j := by
  intro j
  induction j with
  | zero => intro _; rfl
  | succ j ih =>
    intro h
    show g (D - 1 - (j : Nat)) * mpw lv D j + mlt lv D g j = g' (D - 1 - (j : Nat)) * mpw lv D j + mlt lv D g' j
    rw [ih (fun d d0 d1 => h d (by omega) d1), h (D - 1 - (j : Nat)) (by omega) (by omega)]
/-- numbers that agree before the last j places -/
theorem mlt_hi (j : Nat) : ∀ i : Nat, (∀ d, D - ((j + i : Nat) : Int) ≤ d → d < D - (j : Nat) → g d = g' d) → mlt lv D g (j + i) - mlt lv D g j = mlt lv D g' (j + i) - mlt lv D g' j := by
  intro i
  induction i with
  | zero => intro _; simp
  | succ i ih =>
    intro h
    have a := ih (fun d d0 d1 => h d (by omega) d1)
    have e := h (D - 1 - ((j + i : Nat) : Int)) (by omega) (by omega)
    have q : ∀ f : Int → Int, mlt lv D f (j + (i + 1)) = f (D - 1 - ((j + i : Nat) : Int)) * mpw lv D (j + i) + mlt lv D f (j + i) := fun f => rfl
    rw [q g, q g', e]
    omega
theorem mpw_mul (j : Nat) : ∀ i : Nat, ∃ t, mpw lv D (j + 1 + i) = mpw lv D j * ((lv (D - 1 - (j : Nat)) + 1) * t) := by
  intro i
  induction i with
  | zero => exact ⟨1, by rw [Int.mul_one]; rfl⟩
  | succ i ih =>
    obtain ⟨t, ht⟩ := ih
    refine ⟨t * (lv (D - 1 - ((j + 1 + i : Nat) : Int)) + 1), ?_⟩
    show mpw lv D (j + 1 + i) * (lv (D - 1 - ((j + 1 + i : Nat) : Int)) + 1) = _
    rw [ht, Int.mul_assoc, Int.mul_assoc]
theorem vr_div (hl : ∀ d, 0 ≤ d → d < D → 0 ≤ lv d) (z : Int) : ∀ j : Nat, (j : Int) ≤ D → vr lv D z j = z / mpw lv D j := by
  intro j
  induction j with
  | zero => intro _; show z = z / 1; rw [Int.ediv_one]
  | succ j ih =>
    intro hj
    have p := mpw_pos hl j (by omega)
    show vr lv D z j / (lv (D - 1 - (j : Nat)) + 1) = z / (mpw lv D j * (lv (D - 1 - (j : Nat)) + 1))
    rw [ih (by omega), Int.ediv_ediv, if_neg (fun h => by have := h.1; omega), Int.sub_zero]
/-- a number's places are those it is made of -/
theorem mlt_dg (hl : ∀ d, 0 ≤ d → d < D → 0 ≤ lv d) (hg : mdg lv D g) (j : Nat) (hj : (j : Int) < D) : ∀ i : Nat, ((j + 1 + i : Nat) : Int) ≤ D → (mlt lv D g (j + 1 + i) / mpw lv D j) % (lv (D - 1 - (j : Nat)) + 1) = g (D - 1 - (j : Nat)) := by
  have p := mpw_pos hl j (by omega)
  have b := mlt_b hl hg j (by omega)
  have gb := hg (D - 1 - (j : Nat)) (by omega) (by omega)
  intro i
  induction i with
  | zero =>
    intro _
    show ((g (D - 1 - (j : Nat)) * mpw lv D j + mlt lv D g j) / mpw lv D j) % _ = _
    rw [Int.add_comm, Int.add_mul_ediv_right _ _ (by omega), Int.ediv_eq_zero_of_lt b.1 b.2, Int.zero_add]
    exact Int.emod_eq_of_lt gb.1 (by omega)
  | succ i ih =>
    intro hi
    obtain ⟨t, ht⟩ := mpw_mul (lv := lv) (D := D) j i
    show ((g (D - 1 - ((j + 1 + i : Nat) : Int)) * mpw lv D (j + 1 + i) + mlt lv D g (j + 1 + i)) / mpw lv D j) % _ = _
    rw [ht, Int.add_comm, show g (D - 1 - ((j + 1 + i : Nat) : Int)) * (mpw lv D j * ((lv (D - 1 - (j : Nat)) + 1) * t)) = mpw lv D j * ((lv (D - 1 - (j : Nat)) + 1) * (t * g (D - 1 - ((j + 1 + i : Nat) : Int)))) by
      rw [Int.mul_comm, Int.mul_assoc, Int.mul_assoc], Int.add_mul_ediv_left _ _ (by omega), Int.add_mul_emod_self_left]
    exact ih (by omega)
theorem vdg_mlt (hl : ∀ d, 0 ≤ d → d < D → 0 ≤ lv d) (hg : mdg lv D g) {d : Int} (d0 : 0 ≤ d) (d1 : d < D) : vdg lv D (mlt lv D g D.toNat) d = g d := by
  have q := mlt_dg hl hg (D - 1 - d).toNat (by omega) d.toNat (by omega)
  have e1 : (D - 1 - d).toNat + 1 + d.toNat = D.toNat := by omega
  have e2 : D - 1 - (((D - 1 - d).toNat : Nat) : Int) = d := by omega
  rw [e1, e2] at q
  unfold vdg
  rw [vr_div hl _ _ (by omega)]
  exact q
/-- a number is made of its places -/
theorem mod_mlt (hl : ∀ d, 0 ≤ d → d < D → 0 ≤ lv d) (z : Int) : ∀ j : Nat, (j : Int) ≤ D → z % mpw lv D j = mlt lv D (vdg lv D z) j := by
  intro j
  induction j with
  | zero => intro _; show z % 1 = 0; omega
  | succ j ih =>
    intro hj
    have p := mpw_pos hl j (by omega)
    have l0 := hl (D - 1 - (j : Nat)) (by omega) (by omega)
    have a := ih (by omega)
    have e : vdg lv D z (D - 1 - (j : Nat)) = (z / mpw lv D j) % (lv (D - 1 - (j : Nat)) + 1) := by
      unfold vdg
      rw [show (D - 1 - (D - 1 - (j : Nat))).toNat = j by omega, vr_div hl z j (by omega)]
    show z % (mpw lv D j * (lv (D - 1 - (j : Nat)) + 1)) = vdg lv D z (D - 1 - (j : Nat)) * mpw lv D j + mlt lv D (vdg lv D z) j
    rw [← a, e]
    generalize hA : mpw lv D j = A at *
    generalize hB : lv (D - 1 - (j : Nat)) + 1 = Bq at *
    have h1 := Int.emod_add_mul_ediv z A
    have h2 := Int.emod_add_mul_ediv (z / A) Bq
    have m1 := Int.emod_nonneg z (show A ≠ 0 by omega)
    have m2 := Int.emod_lt_of_pos z (show 0 < A by omega)
    have m3 := Int.emod_nonneg (z / A) (show Bq ≠ 0 by omega)
    have m4 := Int.emod_lt_of_pos (z / A) (show 0 < Bq by omega)
    have key : z = (z / A % Bq * A + z % A) + A * Bq * (z / A / Bq) := by
      calc z = z % A + A * (z / A) := h1.symm
        _ = z % A + A * (z / A % Bq + Bq * (z / A / Bq)) := by rw [h2]
        _ = _ := by rw [Int.mul_add, Int.mul_assoc, Int.mul_comm (z / A % Bq) A]; omega
    have bnd : 0 ≤ z / A % Bq * A + z % A ∧ z / A % Bq * A + z % A < A * Bq := by
      have q1 := Int.mul_nonneg m3 (show 0 ≤ A by omega)
      have q2 : z / A % Bq * A ≤ (Bq - 1) * A := Int.mul_le_mul_of_nonneg_right (by omega) (by omega)
      rw [Int.sub_mul, Int.one_mul, Int.mul_comm Bq A] at q2
      omega
    have := Int.add_mul_emod_self_left (z / A % Bq * A + z % A) (A * Bq) (z / A / Bq)
    rw [← key, Int.emod_eq_of_lt bnd.1 bnd.2] at this
    exact this
theorem mlt_vdg (hl : ∀ d, 0 ≤ d → d < D → 0 ≤ lv d) (hD : 0 ≤ D) {z : Int} (z0 : 0 ≤ z) (z1 : z < mpw lv D D.toNat) : mlt lv D (vdg lv D z) D.toNat = z := by
  rw [← mod_mlt hl z D.toNat (by omega), Int.emod_eq_of_lt z0 z1]
end RDX
