/-! THE TAPE: take and put, bit by bit -/
def bW (W : Int → Int) (p : Int) : Bool := bt (W (p / 64)) (p % 64).toNat
def tkN (f : Nat → Bool) : Nat → Nat
  | 0 => 0
  | n + 1 => 2 ^ n * (f n).toNat + tkN f n
theorem tkN_lt (f : Nat → Bool) (n : Nat) : tkN f n < 2 ^ n := by
  induction n with
  | zero => exact Nat.one_pos
  | succ n ih =>
    unfold tkN
    have : (f n).toNat ≤ 1 := by cases f n <;> decide
    have h2 : 2 ^ n * (f n).toNat ≤ 2 ^ n * 1 := Nat.mul_le_mul_left _ this
    rw [Nat.pow_succ]
    omega
theorem tkN_bit (f : Nat → Bool) (n i : Nat) : (tkN f n).testBit i = (decide (i < n) && f i) := by
  induction n with
  | zero => rw [show tkN f 0 = 0 from rfl, Nat.zero_testBit, decide_eq_false (by omega)]; rfl
  | succ n ih =>
    unfold tkN
    by_cases h : f n = true
    · rw [h, Bool.toNat_true, Nat.mul_one]
      rcases Nat.lt_trichotomy i n with hi | hi | hi
      · rw [Nat.testBit_two_pow_add_gt hi, ih, decide_eq_true hi, decide_eq_true (by omega : i < n + 1)]
      · subst hi
        rw [Nat.testBit_two_pow_add_eq, ih, decide_eq_false (by omega), decide_eq_true (by omega : i < i + 1), h]
        rfl
      · have hl := tkN_lt f n
        rw [Nat.testBit_lt_two_pow (Nat.lt_of_lt_of_le (show 2 ^ n + tkN f n < 2 ^ (n + 1) by rw [Nat.pow_succ]; omega) (Nat.pow_le_pow_right (by omega) (by omega))), decide_eq_false (by omega)]
        rfl
    · have h0 : f n = false := by simpa using h
      rw [h0, Bool.toNat_false, Nat.mul_zero, Nat.zero_add, ih]
      by_cases hi : i = n
      · subst hi
        rw [h0]
        simp
      · have e : (i < n) = (i < n + 1) := propext ⟨fun _ => by omega, fun _ => by omega⟩
        simp only [e]
theorem tk_ex : ∃ g : (Int → Int) → Int → Nat → Int, ∀ W p n, g W p n = w64 (tkN (fun i => bW W (p + i)) n : Nat) := ⟨_, fun _ _ _ => rfl⟩
/-- the number in n bits from p on (chosen, so that nothing unfolds it) -/
noncomputable def tk : (Int → Int) → Int → Nat → Int := Classical.choose tk_ex
theorem tk_def (W : Int → Int) (p : Int) (n : Nat) : tk W p n = w64 (tkN (fun i => bW W (p + i)) n : Nat) := Classical.choose_spec tk_ex W p n
theorem tk_w (W : Int → Int) (p : Int) (n : Nat) : w64 (tk W p n) = tk W p n := by
  rw [tk_def]
  exact w64_w _
theorem bt_tk (W : Int → Int) (p : Int) {n : Nat} (i : Nat) (hi : i < 64) : bt (tk W p n) i = (decide (i < n) && bW W (p + i)) := by
  rw [tk_def, bt_w, bt_nn (by omega), decide_eq_true hi, Int.toNat_natCast, tkN_bit]
  rfl
theorem tk_eq {W : Int → Int} {p v : Int} {n : Nat} (hv : w64 v = v) (h : ∀ i, i < n → i < 64 → bW W (p + i) = bt v i) (h2 : ∀ i, n ≤ i → i < 64 → bt v i = false) : tk W p n = v := by
  refine bt_ext (tk_w _ _ _) hv (fun i hi => ?_)
  rw [bt_tk W p i hi]
  by_cases hn : i < n
  · rw [decide_eq_true hn, h i hn hi]
    rfl
  · rw [decide_eq_false hn, h2 i (by omega) hi]
    rfl
theorem tk_cg {W W' : Int → Int} {p p' : Int} {n : Nat} (h : ∀ i : Nat, i < n → bW W (p + i) = bW W' (p' + i)) : tk W p n = tk W' p' n := by
  rw [tk_def, tk_def]
  have : ∀ k, k ≤ n → tkN (fun i => bW W (p + i)) k = tkN (fun i => bW W' (p' + i)) k := by
    intro k
    induction k with
    | zero => intro _; rfl
    | succ k ih =>
      intro hk
      show 2 ^ k * (bW W (p + (k : Nat))).toNat + tkN _ k = 2 ^ k * (bW W' (p' + (k : Nat))).toNat + tkN _ k
      rw [ih (by omega), h k (by omega)]
  rw [this n (Nat.le_refl _)]
theorem tk_nn {W : Int → Int} {p : Int} {n : Nat} (hn : n < 64) : 0 ≤ tk W p n ∧ tk W p n < 2 ^ n := by
  have h := tkN_lt (fun i => bW W (p + i)) n
  have h2 : (2 : Nat) ^ n ≤ 2 ^ 63 := Nat.pow_le_pow_right (by omega) (by omega)
  rw [tk_def, w64_id (by omega) (by omega)]
  refine ⟨by omega, ?_⟩
  have : ((2 : Nat) ^ n : Nat) = ((2 : Int) ^ n) := by simp
  omega
/-- a number that fits in n bits -/
def fitb (v : Int) (n : Nat) : Prop := w64 v = v ∧ ∀ i, n ≤ i → i < 64 → bt v i = false
theorem fitb_nn {v : Int} {n : Nat} (h0 : 0 ≤ v) (h1 : v.toNat < 2 ^ n) (hn : n < 64) : fitb v n := by
  have h2 : (2 : Nat) ^ n ≤ 2 ^ 63 := Nat.pow_le_pow_right (by omega) (by omega)
  refine ⟨w64_id (by omega) (by omega), fun i hi hi2 => ?_⟩
  rw [bt_nn h0, Nat.testBit_lt_two_pow (Nat.lt_of_lt_of_le h1 (Nat.pow_le_pow_right (by omega) hi)), Bool.and_false]
theorem fitb_64 {v : Int} (h : w64 v = v) : fitb v 64 := ⟨h, fun i hi hi2 => by omega⟩
theorem ishr6 {x : Int} (hx : 0 ≤ x) (hx2 : x < 2147483648) : xw_ishrf x 6 = x / 64 := ishr_d (w32_id (by omega) hx2) (s := 6) (by decide)
theorem iand63 {x : Int} (hx : 0 ≤ x) (hx2 : x < 2147483648) : xw_iandf x 63 = x % 64 := iand_m hx hx2 (k := 6) (by decide) rfl
theorem bt_ushrI (x : Int) {s : Int} (h0 : 0 ≤ s) (h : s < 64) (i : Nat) : bt (xw_lushrf x s) i = bt x (s.toNat + i) := by
  obtain ⟨k, rfl⟩ := Int.eq_ofNat_of_zero_le h0
  exact bt_ushr x (by omega) i
theorem bt_shlI (x : Int) {s : Int} (h0 : 0 ≤ s) (h : s < 64) (i : Nat) : bt (xw_lshlf x s) i = (decide (i < 64) && (decide (s.toNat ≤ i) && bt x (i - s.toNat))) := by
  obtain ⟨k, rfl⟩ := Int.eq_ofNat_of_zero_le h0
  exact bt_shl x (by omega) i
theorem bt_J (m : xw_M) (a k : Int) (i : Nat) : bt (xJ m a k) i = bt (m a k) i := bt_w _ _
/-- a tape, its words, how many -/
def tpo (B : Nat) (t w l : Int) : Prop := xw_obb 11 t = true ∧ xw_rf t 0 = w ∧ xw_obb 17 w = true ∧ xw_le B w = l ∧ w ≠ t ∧ 0 ≤ l ∧ l ≤ 262144
theorem tp518 {B : Nat} (h : B ≤ 512) : tpo B 518 517 (B * 512 : Nat) := ⟨by decide, by decide, by decide, by unfold xw_le xw_ln; simp only [show xw_ly (Int.toNat 517) = (17, 0, 1, 0, []) from by decide]; simp, by decide, by omega, by omega⟩
theorem tp530 {B : Nat} (h : B ≤ 512) : tpo B 530 516 (B * 512 : Nat) := ⟨by decide, by decide, by decide, by unfold xw_le xw_ln; simp only [show xw_ly (Int.toNat 516) = (17, 0, 1, 0, []) from by decide]; simp, by decide, by omega, by omega⟩
theorem tp524 {B : Nat} : tpo B 524 (xw_rf 524 0) 512 := ⟨by decide, rfl, by decide, rfl, by decide, by omega, by omega⟩
section TAPE
variable {B : Nat} {t w l p n v : Int} {m : xw_M}
theorem take_ok (T : tpo B t w l) (h0 : 0 ≤ p) (hp : xR m t 2 = p) (hl : xR m t 1 = 64 * l) (hn : 0 < n) (hn2 : n ≤ 64) (hf : p + n ≤ 64 * l) : yf19 B t n m = some (.inl (tk (m w) p n.toNat), xw_u m t 2 (p + n)) := by
  obtain ⟨t1, t2, t3, t4, t5, t6, t7⟩ := T
  have e1 : xw_ishrf p 6 = p / 64 := ishr6 h0 (by omega)
  have e2 : xw_iandf p 63 = p % 64 := iand63 h0 (by omega)
  have e3 : w32 (64 * l - p) = 64 * l - p := w32_id (by omega) (by omega)
  have e4 : w32 (p % 64 + n) = p % 64 + n := w32_id (by omega) (by omega)
  unfold yf19 yk19_71
  rw [hp, hl, t2, t4, e1, e2, e3, e4, if_neg (by omega), if_pos t1, if_neg (by omega), if_pos ⟨by omega, by omega⟩, if_pos t3]
  split
  · next h =>
    rw [if_pos ⟨by omega, by omega⟩]
    refine congrArg (fun z => some (Sum.inl z, xw_u m t 2 (p + n))) ?_
    refine bt_ext (land_w _ _) (tk_w _ _ _) (fun i hi => ?_)
    rw [bt_tk _ _ _ hi, bt_and, bt_or, bt_ushrI _ (by omega) (by omega), bt_shlI _ (by omega) (by omega), bt_ushrI _ (by omega) (by omega), bt_J, bt_J, decide_eq_true hi]
    unfold bW
    by_cases hin : i < n.toNat
    · rw [decide_eq_true hin, bt_m1 (by omega), Bool.and_true, Bool.true_and, Bool.true_and]
      by_cases hs : p % 64 + i < 64
      · rw [decide_eq_false (by omega), Bool.false_and, Bool.or_false, show (p + (i : Int)) / 64 = p / 64 from by omega, show ((p + (i : Int)) % 64).toNat = (p % 64).toNat + i from by omega]
      · rw [decide_eq_true (by omega), bt_ge (by omega), Bool.true_and, Bool.false_or, show (p + (i : Int)) / 64 = p / 64 + 1 from by omega, show ((p + (i : Int)) % 64).toNat = i - (64 - p % 64).toNat from by omega]
    · rw [decide_eq_false hin, bt_ge (by omega : 64 ≤ (64 - n).toNat + i), Bool.and_false, Bool.false_and]
  · next h =>
    refine congrArg (fun z => some (Sum.inl z, xw_u m t 2 (p + n))) ?_
    refine bt_ext (land_w _ _) (tk_w _ _ _) (fun i hi => ?_)
    rw [bt_tk _ _ _ hi, bt_and, bt_ushrI _ (by omega) (by omega), bt_ushrI _ (by omega) (by omega), bt_J]
    unfold bW
    by_cases hin : i < n.toNat
    · rw [decide_eq_true hin, bt_m1 (by omega), Bool.and_true, Bool.true_and, show (p + (i : Int)) / 64 = p / 64 from by omega, show ((p + (i : Int)) % 64).toNat = (p % 64).toNat + i from by omega]
    · rw [decide_eq_false hin, bt_ge (by omega : 64 ≤ (64 - n).toNat + i), Bool.and_false, Bool.false_and]
theorem take_0 : yf19 B t 0 m = some (.inl 0, m) := by
  unfold yf19
  rw [if_pos rfl]
/-- a put that fits -/
theorem put_bits {W W' : Int → Int} (h0 : 0 ≤ p) (hn : 0 < n) (hn2 : n ≤ 64)
    (h1 : ∀ j, bt (W' (p / 64)) j = (bt (W (p / 64)) j || (decide (j < 64) && (decide ((p % 64).toNat ≤ j) && (bt v (j - (p % 64).toNat) && decide (j - (p % 64).toNat < n.toNat))))))
    (h2 : ∀ j, j < 64 → bt (W' (p / 64 + 1)) j = (bt (W (p / 64 + 1)) j || (bt v ((64 - p % 64).toNat + j) && decide ((64 - p % 64).toNat + j < n.toNat))))
    (h3 : ∀ k, k ≠ p / 64 → k ≠ p / 64 + 1 → W' k = W k) (q : Int) (hq : 0 ≤ q) : bW W' q = (bW W q || (decide (p ≤ q ∧ q < p + n) && bt v (q - p).toNat)) := by
  unfold bW
  have hj : (q % 64).toNat < 64 := by omega
  by_cases e1 : q / 64 = p / 64
  · rw [e1, h1, decide_eq_true hj, Bool.true_and]
    congr 1
    by_cases hp : (p % 64).toNat ≤ (q % 64).toNat
    · rw [decide_eq_true hp, Bool.true_and, show (q % 64).toNat - (p % 64).toNat = (q - p).toNat from by omega, Bool.and_comm]
      congr 2
      exact propext ⟨fun _ => ⟨by omega, by omega⟩, fun _ => by omega⟩
    · rw [decide_eq_false hp, decide_eq_false (show ¬ (p ≤ q ∧ q < p + n) from by omega)]
      rfl
  · by_cases e2 : q / 64 = p / 64 + 1
    · rw [e2, h2 _ hj, show (64 - p % 64).toNat + (q % 64).toNat = (q - p).toNat from by omega, Bool.and_comm (bt v _)]
      congr 3
      exact propext ⟨fun _ => ⟨by omega, by omega⟩, fun _ => by omega⟩
    · rw [h3 _ e1 e2, decide_eq_false (show ¬ (p ≤ q ∧ q < p + n) from by omega), Bool.false_and, Bool.or_false]
theorem bt_part (v : Int) (hn : 0 < n) (hn2 : n ≤ 64) (j : Nat) : bt (xw_landf v (xw_lushrf (-1) (64 - n))) j = (bt v j && decide (j < n.toNat)) := by
  rw [bt_and, bt_ushrI _ (by omega) (by omega)]
  congr 1
  by_cases h : j < n.toNat
  · rw [bt_m1 (by omega), decide_eq_true h]
  · rw [bt_ge (by omega), decide_eq_false h]
/-- what a put leaves -/
def putR (m m' : xw_M) (t w p n v : Int) : Prop := xR m' t 2 = p + n ∧ (∀ k, k ≠ 2 → m' t k = m t k) ∧ (∀ a, a ≠ t → a ≠ w → m' a = m a) ∧ (∀ q, 0 ≤ q → bW (m' w) q = (bW (m w) q || (decide (p ≤ q ∧ q < p + n) && bt v (q - p).toNat)))
theorem put_ok (T : tpo B t w l) (h0 : 0 ≤ p) (hp : xR m t 2 = p) (hl : xR m t 1 = 64 * l) (ho : xR m t 3 = 0) (hn : 0 ≤ n) (hn2 : n ≤ 64) (hf : p + n ≤ 64 * l) : ∃ m', yf152 B t v n m = some (.inl 0, m') ∧ putR m m' t w p n v := by
  obtain ⟨t1, t2, t3, t4, t5, t6, t7⟩ := T
  have e1 : xw_ishrf p 6 = p / 64 := ishr6 h0 (by omega)
  have e2 : xw_iandf p 63 = p % 64 := iand63 h0 (by omega)
  have e3 : w32 (64 * l - p) = 64 * l - p := w32_id (by omega) (by omega)
  have e4 : w32 (p % 64 + n) = p % 64 + n := w32_id (by omega) (by omega)
  unfold yf152
  rw [if_pos t1, hp, hl, e3, if_neg (by omega)]
  unfold yk152_18 yk152_104
  rw [if_pos t1, ho, if_pos rfl]
  by_cases hz : n = 0
  · rw [if_pos hz]
    refine ⟨m, rfl, by rw [hp, hz]; omega, fun _ _ => rfl, fun _ _ _ => rfl, fun q hq => ?_⟩
    rw [decide_eq_false (show ¬ (p ≤ q ∧ q < p + n) from by omega), Bool.false_and, Bool.or_false]
  rw [if_neg hz, hp, t2, t4, e1, e2, e4, if_pos ⟨by omega, by omega⟩, if_pos t3]
  have tw : ¬ t = w := fun e => t5 e.symm
  split
  · next h =>
    rw [if_pos ⟨by omega, by omega⟩]
    refine ⟨_, rfl, ?_, ?_, ?_, ?_⟩
    · rw [xR_u, if_pos ⟨rfl, rfl⟩]
      have : xR (xw_u (xw_u m w (p / 64) (xw_lorf (xJ m w (p / 64)) (xw_lshlf (xw_landf v (xw_lushrf (-1) (64 - n))) (p % 64)))) w (p / 64 + 1) (xw_lorf (xJ (xw_u m w (p / 64) (xw_lorf (xJ m w (p / 64)) (xw_lshlf (xw_landf v (xw_lushrf (-1) (64 - n))) (p % 64)))) w (p / 64 + 1)) (xw_lushrf (xw_landf v (xw_lushrf (-1) (64 - n))) (64 - p % 64)))) t 2 = p := by
        rw [xR_u, if_neg (fun e => tw e.1), xR_u, if_neg (fun e => tw e.1), hp]
      rw [this, w32_id (by omega) (by omega)]
    · intro k hk
      unfold xw_u
      rw [if_neg (fun e => hk e.2), if_neg (fun e => tw e.1), if_neg (fun e => tw e.1)]
    · intro a ha ha2
      rw [xu_c ha, xu_c ha2, xu_c ha2]
    · rw [xu_c t5]
      refine put_bits h0 (by omega) hn2 ?_ ?_ ?_
      · intro j
        rw [show (xw_u (xw_u m w (p / 64) (xw_lorf (xJ m w (p / 64)) (xw_lshlf (xw_landf v (xw_lushrf (-1) (64 - n))) (p % 64)))) w (p / 64 + 1) (xw_lorf (xJ (xw_u m w (p / 64) (xw_lorf (xJ m w (p / 64)) (xw_lshlf (xw_landf v (xw_lushrf (-1) (64 - n))) (p % 64)))) w (p / 64 + 1)) (xw_lushrf (xw_landf v (xw_lushrf (-1) (64 - n))) (64 - p % 64)))) w (p / 64) = xw_lorf (xJ m w (p / 64)) (xw_lshlf (xw_landf v (xw_lushrf (-1) (64 - n))) (p % 64)) from by
          unfold xw_u
          rw [if_neg (by omega), if_pos ⟨rfl, rfl⟩], bt_or, bt_J, bt_shlI _ (by omega) (by omega), bt_part v (by omega) hn2]
      · intro j hj
        rw [xw_us, bt_or, bt_J, bt_ushrI _ (by omega) (by omega), bt_part v (by omega) hn2]
        congr 2
        unfold xw_u
        rw [if_neg (by omega)]
      · intro k hk hk2
        unfold xw_u
        rw [if_neg (fun e => hk2 e.2), if_neg (fun e => hk e.2)]
  · next h =>
    refine ⟨_, rfl, ?_, ?_, ?_, ?_⟩
    · rw [xR_u, if_pos ⟨rfl, rfl⟩]
      have : xR (xw_u m w (p / 64) (xw_lorf (xJ m w (p / 64)) (xw_lshlf (xw_landf v (xw_lushrf (-1) (64 - n))) (p % 64)))) t 2 = p := by
        rw [xR_u, if_neg (fun e => tw e.1), hp]
      rw [this, w32_id (by omega) (by omega)]
    · intro k hk
      unfold xw_u
      rw [if_neg (fun e => hk e.2), if_neg (fun e => tw e.1)]
    · intro a ha ha2
      rw [xu_c ha, xu_c ha2]
    · rw [xu_c t5]
      refine put_bits h0 (by omega) hn2 ?_ ?_ ?_
      · intro j
        rw [xw_us, bt_or, bt_J, bt_shlI _ (by omega) (by omega), bt_part v (by omega) hn2]
      · intro j hj
        rw [decide_eq_false (by omega), Bool.and_false, Bool.or_false]
        unfold xw_u
        rw [if_neg (by omega)]
      · intro k hk hk2
        unfold xw_u
        rw [if_neg (fun e => hk e.2)]
/-- a put that doesn't fit, or behind one -/
theorem put_over (T : tpo B t w l) (h : xR m t 3 = 1 ∨ w32 (xR m t 1 - xR m t 2) < n) : ∃ m', yf152 B t v n m = some (.inl 0, m') ∧ xR m' t 3 = 1 ∧ (∀ k, k ≠ 3 → m' t k = m t k) ∧ (∀ a, a ≠ t → m' a = m a) := by
  obtain ⟨t1, t2, t3, t4, t5, t6, t7⟩ := T
  unfold yf152
  rw [if_pos t1]
  by_cases hc : w32 (xR m t 1 - xR m t 2) < n
  · rw [if_pos hc]
    unfold yk152_18
    have hq : xR (xw_u m t 3 1) t 3 = 1 := by
      rw [xR_u, if_pos ⟨rfl, rfl⟩]
      decide
    rw [if_pos t1, hq, if_neg (by decide)]
    refine ⟨_, rfl, hq, fun k hk => ?_, fun a ha => xu_c ha⟩
    unfold xw_u
    rw [if_neg (fun e => hk e.2)]
  · rw [if_neg hc]
    have h1 : xR m t 3 = 1 := h.resolve_right hc
    unfold yk152_18
    rw [if_pos t1, h1, if_neg (by decide)]
    exact ⟨m, rfl, h1, fun _ _ => rfl, fun _ _ => rfl⟩
end TAPE
