/-! A TABLE OF SLOTS, one after another tried; THE LIST of a column's different cells -/
theorem pig : ∀ (d T : Nat) (f : Nat → Nat), (∀ i, i < T → f i < d) → (∀ i j, i < T → j < T → f i = f j → i = j) → T ≤ d := by
  intro d
  induction d with
  | zero =>
    intro T f h _
    rcases T with _ | T
    · exact Nat.le_refl _
    · exact absurd (h 0 (by omega)) (by omega)
  | succ d ih =>
    intro T f h inj
    rcases T with _ | T
    · omega
    · have key := ih T (fun i => if f i = d then f T else f i) ?_ ?_
      · omega
      · intro i hi
        show (if f i = d then f T else f i) < d
        have h1 := h i (by omega)
        have h2 := h T (by omega)
        split
        · next e =>
          have : f T ≠ d := fun e2 => by
            have := inj i T (by omega) (by omega) (by omega)
            omega
          omega
        · omega
      · intro i j hi hj e
        have e : (if f i = d then f T else f i) = (if f j = d then f T else f j) := e
        split at e
        · next e1 =>
          split at e
          · next e2 => exact inj i j (by omega) (by omega) (by omega)
          · next e2 =>
            have := inj T j (by omega) (by omega) e
            omega
        · next e1 =>
          split at e
          · next e2 =>
            have := inj i T (by omega) (by omega) e
            omega
          · next e2 => exact inj i j (by omega) (by omega) e
/-- slots S, so many T, d entries, h where each begins to be sought -/
def HT (S : Int → Int) (T d : Int) (h : Int → Int) : Prop :=
  (∀ s, 0 ≤ s → s < T → S s = -1 ∨ (0 ≤ S s ∧ S s < d)) ∧
  (∀ s s', 0 ≤ s → s < T → 0 ≤ s' → s' < T → S s = S s' → S s ≠ -1 → s = s') ∧
  (∀ j, 0 ≤ j → j < d → ∃ r : Nat, S ((h j + r) % T) = j ∧ ∀ r' : Nat, r' < r → S ((h j + r') % T) ≠ -1)
theorem emod_inj {s T : Int} {r r' : Nat} (hr : (r : Int) < T) (hr' : (r' : Int) < T) (h : (s + r) % T = (s + r') % T) : r = r' := by
  have h1 := Int.emod_add_mul_ediv (s + r) T
  have h2 := Int.emod_add_mul_ediv (s + r') T
  have e : (r : Int) - r' = T * ((s + r) / T - (s + r') / T) := by rw [Int.mul_sub]; omega
  have hq : (s + r) / T - (s + r') / T = 0 := by
    generalize (s + (r : Int)) / T - (s + (r' : Int)) / T = q at e
    rcases Int.lt_trichotomy q 0 with hq | hq | hq
    · have : T * q ≤ T * (-1) := Int.mul_le_mul_of_nonneg_left (by omega) (by omega)
      omega
    · exact hq
    · have : T * 1 ≤ T * q := Int.mul_le_mul_of_nonneg_left (by omega) (by omega)
      omega
  rw [hq, Int.mul_zero] at e
  omega
theorem HT_free {S : Int → Int} {T d : Int} {h : Int → Int} (H : HT S T d h) (hd : d < T) (h0 : 0 ≤ d) (s0 : Int) : ∃ r : Nat, (r : Int) < T ∧ S ((s0 + r) % T) = -1 := by
  refine Classical.byContradiction (fun hn => ?_)
  have hn : ∀ r : Nat, (r : Int) < T → S ((s0 + r) % T) ≠ -1 := fun r hr e => hn ⟨r, hr, e⟩
  have hm : ∀ r : Nat, 0 ≤ (s0 + r) % T ∧ (s0 + r) % T < T := fun r => ⟨Int.emod_nonneg _ (by omega), Int.emod_lt_of_pos _ (by omega)⟩
  have hp := pig d.toNat T.toNat (fun r => (S ((s0 + r) % T)).toNat) ?_ ?_
  · omega
  · intro r hr
    have h1 := (H.1 _ (hm r).1 (hm r).2).resolve_left (hn r (by omega))
    show (S ((s0 + r) % T)).toNat < d.toNat
    omega
  · intro r r' hr hr' e
    have e : (S ((s0 + r) % T)).toNat = (S ((s0 + r') % T)).toNat := e
    have h1 := (H.1 _ (hm r).1 (hm r).2).resolve_left (hn r (by omega))
    have h2 := (H.1 _ (hm r').1 (hm r').2).resolve_left (hn r' (by omega))
    exact emod_inj (by omega) (by omega) (H.2.1 _ _ (hm r).1 (hm r).2 (hm r').1 (hm r').2 (by omega) (hn r (by omega)))
theorem HT_not {S : Int → Int} {T d : Int} {h : Int → Int} (H : HT S T d h) {s0 : Int} {r : Nat} (he : S ((s0 + r) % T) = -1) {P : Int → Prop} (hb : ∀ r' : Nat, r' < r → ¬ P (S ((s0 + r') % T))) (hP : ∀ j, 0 ≤ j → j < d → P j → h j = s0) : ∀ j, 0 ≤ j → j < d → ¬ P j := by
  intro j h0 h1 hj
  obtain ⟨q, h2, h3⟩ := H.2.2 j h0 h1
  rw [hP j h0 h1 hj] at h2 h3
  rcases Nat.lt_trichotomy q r with hq | hq | hq
  · exact hb q hq (h2 ▸ hj)
  · subst hq
    rw [he] at h2
    omega
  · exact h3 r hq he
theorem HT_add {S : Int → Int} {T d : Int} {h h' : Int → Int} (H : HT S T d h) (hd : 0 ≤ d) (hT : 0 < T) {s0 : Int} {r : Nat} (he : S ((s0 + r) % T) = -1) (hb : ∀ r' : Nat, r' < r → S ((s0 + r') % T) ≠ -1) (hh : ∀ j, 0 ≤ j → j < d → h' j = h j) (hd' : h' d = s0) : HT (fun s => if s = (s0 + r) % T then d else S s) T (d + 1) h' := by
  refine ⟨?_, ?_, ?_⟩
  · intro s h1 h2
    show (if s = (s0 + r) % T then d else S s) = -1 ∨ 0 ≤ (if s = (s0 + r) % T then d else S s) ∧ (if s = (s0 + r) % T then d else S s) < d + 1
    split
    · exact Or.inr ⟨hd, by omega⟩
    · rcases H.1 s h1 h2 with e | e
      · exact Or.inl e
      · exact Or.inr ⟨e.1, by omega⟩
  · intro s s' h1 h2 h3 h4 e hn
    have e : (if s = (s0 + r) % T then d else S s) = (if s' = (s0 + r) % T then d else S s') := e
    have hn : (if s = (s0 + r) % T then d else S s) ≠ -1 := hn
    split at e
    · next e1 =>
      split at e
      · next e2 => exact e1.trans e2.symm
      · next e2 =>
        rcases H.1 s' h3 h4 with q | q <;> omega
    · next e1 =>
      rw [if_neg e1] at hn
      split at e
      · next e2 =>
        rcases H.1 s h1 h2 with q | q <;> omega
      · next e2 => exact H.2.1 s s' h1 h2 h3 h4 e hn
  · intro j h1 h2
    by_cases hj : j = d
    · subst hj
      refine ⟨r, ?_, fun r' hr' => ?_⟩
      · rw [hd']
        exact if_pos rfl
      · rw [hd']
        show (if (s0 + (r' : Int)) % T = (s0 + r) % T then j else S ((s0 + r') % T)) ≠ -1
        split
        · omega
        · exact hb r' hr'
    · obtain ⟨q, h3, h4⟩ := H.2.2 j h1 (by omega)
      refine ⟨q, ?_, fun r' hr' => ?_⟩
      · rw [hh j h1 (by omega)]
        show (if (h j + (q : Int)) % T = (s0 + r) % T then d else S ((h j + q) % T)) = j
        rw [if_neg, h3]
        intro e
        rw [e, he] at h3
        omega
      · rw [hh j h1 (by omega)]
        show (if (h j + (r' : Int)) % T = (s0 + r) % T then d else S ((h j + r') % T)) ≠ -1
        split
        · omega
        · exact h4 r' hr'
theorem HT_0 {S : Int → Int} {T : Int} {h : Int → Int} (hS : ∀ s, 0 ≤ s → s < T → S s = -1) : HT S T 0 h := ⟨fun s h1 h2 => Or.inl (hS s h1 h2), fun s s' h1 h2 _ _ _ hn => absurd (hS s h1 h2) hn, fun j h1 h2 => by omega⟩
theorem HT_cg {S S' : Int → Int} {T d : Int} {h h' : Int → Int} (hT : 0 < T) (H : HT S T d h) (hS : ∀ s, 0 ≤ s → s < T → S' s = S s) (hh : ∀ j, 0 ≤ j → j < d → h' j = h j) : HT S' T d h' := by
  have hm : ∀ x : Int, 0 ≤ x % T ∧ x % T < T := fun x => ⟨Int.emod_nonneg _ (by omega), Int.emod_lt_of_pos _ hT⟩
  refine ⟨fun s h1 h2 => ?_, fun s s' h1 h2 h3 h4 => ?_, fun j h1 h2 => ?_⟩
  · rw [hS s h1 h2]
    exact H.1 s h1 h2
  · rw [hS s h1 h2, hS s' h3 h4]
    exact H.2.1 s s' h1 h2 h3 h4
  · obtain ⟨r, h3, h4⟩ := H.2.2 j h1 h2
    refine ⟨r, ?_, fun r' hr' => ?_⟩
    · rw [hh j h1 h2, hS _ (hm _).1 (hm _).2]
      exact h3
    · rw [hh j h1 h2, hS _ (hm _).1 (hm _).2]
      exact h4 r' hr'
/-- how many different cells -/
def dst (f : Int → Int) : Nat → Nat
  | 0 => 0
  | k + 1 => dst f k + (if (List.range k).any (fun j => f j == f k) = true then 0 else 1)
theorem dst_any {f : Int → Int} {k : Nat} : (List.range k).any (fun j => f j == f k) = true ↔ ∃ j : Nat, j < k ∧ f j = f k := by
  rw [List.any_eq_true]
  constructor
  · rintro ⟨j, h1, h2⟩
    exact ⟨j, List.mem_range.mp h1, by simpa using h2⟩
  · rintro ⟨j, h1, h2⟩
    exact ⟨j, List.mem_range.mpr h1, by simpa using h2⟩
theorem dst_le (f : Int → Int) (k : Nat) : dst f k ≤ k := by
  induction k with
  | zero => exact Nat.le_refl _
  | succ k ih => unfold dst; split <;> omega
theorem dst_pos (f : Int → Int) {k : Nat} (hk : 0 < k) : 0 < dst f k := by
  induction k with
  | zero => omega
  | succ k ih =>
    unfold dst
    rcases k with _ | k
    · rw [if_neg (by rw [dst_any]; rintro ⟨j, h, _⟩; omega)]
      omega
    · have := ih (by omega)
      omega
/-- the numbers of shifts -/
theorem lushr_d (x : Int) {s : Nat} (hs : s < 64) (h0 : 0 < s) : xw_lushrf x (s : Int) = (x % 18446744073709551616) / (2 ^ s : Nat) := by
  have hp : (2 : Nat) ≤ 2 ^ s := by
    have := Nat.pow_le_pow_right (n := 2) (by omega) (show 1 ≤ s by omega)
    omega
  have hx : 0 ≤ x % 18446744073709551616 ∧ x % 18446744073709551616 < 18446744073709551616 := ⟨by omega, by omega⟩
  have h1 : 0 ≤ (x % 18446744073709551616) / ((2 ^ s : Nat) : Int) := Int.ediv_nonneg hx.1 (by omega)
  have h2 : (x % 18446744073709551616) / ((2 ^ s : Nat) : Int) < 9223372036854775808 := by
    rw [Int.ediv_lt_iff_lt_mul (by omega)]
    have : (9223372036854775808 : Int) * 2 ≤ 9223372036854775808 * ((2 ^ s : Nat) : Int) := Int.mul_le_mul_of_nonneg_left (by omega) (by omega)
    omega
  refine bt_ext (lushr_w _ _) (w64_id (by omega) (by omega)) (fun i hi => ?_)
  rw [bt_ushr x hs, bt_nn (x := x % 18446744073709551616 / ((2 ^ s : Nat) : Int)) h1, decide_eq_true hi, Bool.true_and]
  unfold bt
  rw [← BitVec.testBit_toNat, BitVec.toNat_ofInt, show (x % 18446744073709551616 / ((2 ^ s : Nat) : Int)).toNat = (x % ((2 ^ 64 : Nat) : Int)).toNat / 2 ^ s from by
    show _ = (x % 18446744073709551616).toNat / 2 ^ s
    obtain ⟨k, hk⟩ := Int.eq_ofNat_of_zero_le hx.1
    rw [hk, ← Int.natCast_ediv, Int.toNat_natCast, Int.toNat_natCast], Nat.testBit_div_two_pow]
  congr 1
  exact Nat.add_comm _ _
theorem hob_sh : ∀ b : Nat, b < 12 → 1 ≤ b → xw_iushrf (-2147483648) (32 - (b : Int)) = ((2 ^ (b - 1) : Nat) : Int) := by decide +kernel
/-- highestOneBit -/
theorem hob_ok {B : Nat} {n : Int} {m : xw_M} (h1 : 1 ≤ n) (h2 : n ≤ 1024) : ∃ k : Nat, k ≤ 10 ∧ ((2 ^ k : Nat) : Int) ≤ n ∧ n < ((2 ^ (k + 1) : Nat) : Int) ∧ yf186 B n m = some (.inl ((2 ^ k : Nat) : Int), m) := by
  obtain ⟨b, h3, h4, h5⟩ := nlz32 (B := B) (m := m) (x := n) (w32_id (by omega) (by omega))
  rw [Int.emod_eq_of_lt (by omega) (by omega)] at h3
  have hb := isnb_le (k := 11) h3 (by show n < 2048; omega)
  have hb1 : 1 ≤ b := by
    rcases h3 with ⟨q1, q2, q3⟩
    by_cases e : b = 0
    · subst e
      have : n < 1 := q2
      omega
    · omega
  have h6 := h3.2.2.resolve_left (by omega)
  have h7 := h3.2.1
  refine ⟨b.toNat - 1, by omega, h6, by rw [show b.toNat - 1 + 1 = b.toNat from by omega]; exact h7, ?_⟩
  unfold yf186
  rw [h5]
  simp only [xB_ret]
  have e := hob_sh b.toNat (by omega) (by omega)
  rw [show ((b.toNat : Nat) : Int) = b from by omega] at e
  have hp : (2 : Nat) ^ (b.toNat - 1) ≤ 2 ^ 10 := Nat.pow_le_pow_right (by omega) (by omega)
  have hp1 : 0 < 2 ^ (b.toNat - 1) := Nat.two_pow_pos _
  rw [e, iand_n (by omega) (by omega) (by omega) (by omega), Int.toNat_natCast]
  have ht : n.toNat.testBit (b.toNat - 1) = true := by
    rw [Nat.testBit_eq_decide_div_mod_eq]
    have hq : n.toNat / 2 ^ (b.toNat - 1) = 1 := by
      refine (Nat.div_eq_iff (by omega)).mpr ⟨by omega, ?_⟩
      have : 2 ^ b.toNat = 2 * 2 ^ (b.toNat - 1) := by
        rw [← Nat.pow_succ', show (b.toNat - 1).succ = b.toNat from by omega]
      omega
    rw [hq]
    rfl
  refine congrArg (fun z : Nat => some (Sum.inl (z : Int), m)) (Nat.eq_of_testBit_eq (fun i => ?_))
  rw [Nat.testBit_and, Nat.testBit_two_pow]
  by_cases hi : b.toNat - 1 = i
  · rw [← hi, ht]
    rfl
  · rw [decide_eq_false hi, Bool.and_false]
