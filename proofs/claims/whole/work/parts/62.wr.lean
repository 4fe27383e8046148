/-! WRITING ON THE FRESH TAPE (518, its words 517), reading on the other (530, its words 516) -/
theorem msk_ex : ∃ g : Int → Nat → Int, ∀ v n, g v n = w64 (tkN (bt v) n : Nat) := ⟨_, fun _ _ => rfl⟩
/-- the lowest n bits (chosen, so that nothing unfolds it) -/
noncomputable def msk : Int → Nat → Int := Classical.choose msk_ex
theorem msk_def (v : Int) (n : Nat) : msk v n = w64 (tkN (bt v) n : Nat) := Classical.choose_spec msk_ex v n
theorem tkN_bt (v : Int) {n : Nat} (hn : n ≤ 64) : tkN (bt v) n = (v % (2 ^ n : Nat)).toNat := by
  refine Nat.eq_of_testBit_eq (fun i => ?_)
  have e : (v % ((2 ^ n : Nat) : Int)).toNat = (v % ((2 ^ 64 : Nat) : Int)).toNat % 2 ^ n := by
    have hd : ((2 ^ n : Nat) : Int) ∣ ((2 ^ 64 : Nat) : Int) := Int.natCast_dvd_natCast.mpr (Nat.pow_dvd_pow 2 hn)
    have h0 : 0 ≤ v % ((2 ^ 64 : Nat) : Int) := Int.emod_nonneg _ (by decide)
    have h1 := Int.emod_emod_of_dvd v hd
    rw [← h1, Int.toNat_emod h0 (by omega), Int.toNat_natCast]
  rw [tkN_bit, e, Nat.testBit_mod_two_pow]
  congr 1
theorem msk_e (v : Int) {n : Nat} (hn : n ≤ 64) : msk v n = w64 (v % (2 ^ n : Nat)) := by
  rw [msk_def, tkN_bt v hn]
  congr 1
  have : 0 < 2 ^ n := Nat.two_pow_pos n
  have : 0 ≤ v % ((2 ^ n : Nat) : Int) := Int.emod_nonneg _ (by omega)
  omega
theorem msk_64 {v : Int} (h : w64 v = v) : msk v 64 = v := by
  rw [msk_e v (by decide)]
  have := w64_cg h
  unfold w64 at h ⊢
  unfold xw_rJ at this
  omega
/-- what was put, as a number without a sign below 2 ^ n -/
theorem msk_u {u : Int} {n : Nat} (hn : n ≤ 64) (h0 : 0 ≤ u) (h1 : u < (2 ^ n : Nat)) : msk (w64 u) n = w64 u := by
  rw [msk_e _ hn]
  have hp : 0 < 2 ^ n := Nat.two_pow_pos n
  have hd : ((2 ^ n : Nat) : Int) ∣ ((2 ^ 64 : Nat) : Int) := Int.natCast_dvd_natCast.mpr (Nat.pow_dvd_pow 2 hn)
  obtain ⟨k, hk⟩ := hd
  have e : w64 u % ((2 ^ n : Nat) : Int) = u := by
    have h2 : w64 u = u - 18446744073709551616 * ((u + 9223372036854775808) / 18446744073709551616) := by unfold w64; omega
    rw [h2, show (18446744073709551616 : Int) = ((2 ^ 64 : Nat) : Int) from rfl, hk, Int.mul_assoc, Int.sub_mul_emod_self_left]
    exact Int.emod_eq_of_lt h0 h1
  rw [e]
theorem msk_nn {v : Int} {n : Nat} (h0 : 0 ≤ v) (h1 : v < (2 ^ n : Nat)) (hn : n < 64) : msk v n = v := by
  have h2 : (2 : Nat) ^ n ≤ 2 ^ 63 := Nat.pow_le_pow_right (by omega) (by omega)
  have : w64 v = v := w64_id (by omega) (by omega)
  have h := msk_u (Nat.le_of_lt hn) h0 h1
  rw [this] at h
  exact h
theorem msk_32 (v : Int) : w32 (msk v 32) = w32 v := by
  rw [msk_e v (by decide)]
  unfold w32 w64
  omega
theorem msk_8 (v : Int) : w8 (msk v 8) = w8 v := by
  rw [msk_e v (by decide)]
  unfold w8 w64
  omega
theorem tk_put {W : Int → Int} {p v : Int} {n : Nat} (h : ∀ i : Nat, i < n → bW W (p + i) = bt v i) : tk W p n = msk v n := by
  rw [tk_def, msk_def]
  have : ∀ k, k ≤ n → tkN (fun i => bW W (p + i)) k = tkN (bt v) k := by
    intro k
    induction k with
    | zero => intro _; rfl
    | succ k ih =>
      intro hk
      show 2 ^ k * (bW W (p + (k : Nat))).toNat + tkN _ k = 2 ^ k * (bt v k).toNat + tkN _ k
      rw [ih (by omega), h k (by omega)]
  rw [this n (Nat.le_refl _)]
/-- the fresh tape stands at p, with nothing behind it -/
def ws (B : Nat) (m : xw_M) (p : Int) : Prop := xR m 518 1 = 64 * (B * 512 : Nat) ∧ xR m 518 2 = p ∧ xR m 518 3 = 0 ∧ 0 ≤ p ∧ ∀ q, p ≤ q → q < 64 * (B * 512 : Nat) → bW (m 517) q = false
/-- only the fresh tape's words from p on, and its place, are others -/
def fr (m m' : xw_M) (p : Int) : Prop := (∀ a, a ≠ 517 → a ≠ 518 → m' a = m a) ∧ (∀ k, k ≠ 2 → m' 518 k = m 518 k) ∧ (∀ q, 0 ≤ q → q < p → bW (m' 517) q = bW (m 517) q)
theorem fr_refl (m : xw_M) (p : Int) : fr m m p := ⟨fun _ _ _ => rfl, fun _ _ => rfl, fun _ _ _ => rfl⟩
theorem fr_trans {m m1 m2 : xw_M} {p p1 : Int} (h : fr m m1 p) (h2 : fr m1 m2 p1) (hp : p ≤ p1) : fr m m2 p := ⟨fun a h1 h3 => (h2.1 a h1 h3).trans (h.1 a h1 h3), fun k hk => (h2.2.1 k hk).trans (h.2.1 k hk), fun q h0 hq => (h2.2.2 q h0 (by omega)).trans (h.2.2 q h0 hq)⟩
theorem fr_tk {m m' : xw_M} {p q : Int} {n : Nat} (h : fr m m' p) (h0 : 0 ≤ q) (h1 : q + n ≤ p) : tk (m' 517) q n = tk (m 517) q n := tk_cg (fun i hi => h.2.2 _ (by omega) (by omega))
theorem put_ws {B : Nat} (hB : B ≤ 512) {m : xw_M} {p v n : Int} (h : ws B m p) (hn : 0 ≤ n) (hn2 : n ≤ 64) (hf : p + n ≤ 64 * (B * 512 : Nat)) : ∃ m', yf152 B 518 v n m = some (.inl 0, m') ∧ ws B m' (p + n) ∧ fr m m' p ∧ tk (m' 517) p n.toNat = msk v n.toNat := by
  obtain ⟨h1, h2, h3, h4, h5⟩ := h
  obtain ⟨m', e, r1, r2, r3, r4⟩ := put_ok (v := v) (tp518 hB) h4 h2 h1 h3 hn hn2 hf
  refine ⟨m', e, ⟨?_, r1, ?_, by omega, ?_⟩, ⟨fun a ha hb => r3 a hb ha, r2, ?_⟩, ?_⟩
  · unfold xR at h1 ⊢
    rw [r2 1 (by decide)]
    exact h1
  · unfold xR at h3 ⊢
    rw [r2 3 (by decide)]
    exact h3
  · intro q hq hq2
    rw [r4 q (by omega), h5 q (by omega) hq2, decide_eq_false (by omega)]
    rfl
  · intro q hq hq2
    rw [r4 q hq, decide_eq_false (by omega), Bool.false_and, Bool.or_false]
  · refine tk_put (fun i hi => ?_)
    rw [r4 _ (by omega), h5 _ (by omega) (by omega), decide_eq_true (by omega), Bool.false_or, Bool.true_and]
    congr 1
    omega
/-- how many binary digits -/
def isnb (u : Int) (b : Int) : Prop := 0 ≤ b ∧ u < (2 ^ b.toNat : Nat) ∧ (b = 0 ∨ ((2 ^ (b.toNat - 1) : Nat) : Int) ≤ u)
theorem isnb_uniq {u b c : Int} (h : isnb u b) (k : isnb u c) : b = c := by
  have key : ∀ {b c : Int}, isnb u b → isnb u c → ¬ b < c := by
    intro b c h k hl
    obtain ⟨h1, h2, h3⟩ := h
    obtain ⟨k1, k2, k3⟩ := k
    rcases k3 with rfl | k3
    · omega
    · have : (2 : Nat) ^ b.toNat ≤ 2 ^ (c.toNat - 1) := Nat.pow_le_pow_right (by omega) (by omega)
      omega
  have := key h k
  have := key k h
  omega
theorem isnb_0 : isnb 0 0 := ⟨by decide, by decide, Or.inl rfl⟩
theorem isnb_div {x b : Int} {k : Nat} (h : isnb (x / (2 ^ k : Nat)) b) (hp : 0 < x / ((2 ^ k : Nat) : Int)) : isnb x (b + k) := by
  obtain ⟨h1, h2, h3⟩ := h
  have hk : (0 : Int) < ((2 ^ k : Nat) : Int) := by have := Nat.two_pow_pos k; omega
  have hb : b ≠ 0 := by
    intro e
    subst e
    have : ((2 ^ (0 : Int).toNat : Nat) : Int) = 1 := rfl
    omega
  have h3 := h3.resolve_left hb
  refine ⟨by omega, ?_, Or.inr ?_⟩
  · rw [show (b + k).toNat = b.toNat + k from by omega, Nat.pow_add, Int.natCast_mul]
    exact (Int.ediv_lt_iff_lt_mul hk).mp h2
  · rw [show (b + k).toNat - 1 = (b.toNat - 1) + k from by omega, Nat.pow_add, Int.natCast_mul]
    exact (Int.le_ediv_iff_mul_le hk).mp h3
theorem iushr_d {x : Int} (hx : 0 ≤ x) (hx2 : x < 2147483648) {s : Nat} (hs : s < 32) : xw_iushrf x (s : Int) = x / (2 ^ s : Nat) := by
  unfold xw_iushrf
  show ((Int32.ofInt x).toUInt32 >>> ((Int32.ofInt (s : Int)).toUInt32 &&& Int32.toUInt32 31)).toBitVec.toInt = _
  have e : ((Int32.ofInt x).toUInt32 >>> ((Int32.ofInt (s : Int)).toUInt32 &&& Int32.toUInt32 31)).toBitVec.toNat = x.toNat / 2 ^ s := by
    rw [UInt32.toBitVec_shiftRight, BitVec.ushiftRight_eq', (lt31 s hs).2, BitVec.toNat_ushiftRight, Nat.shiftRight_eq_div_pow]
    exact congrArg (fun z => z / 2 ^ s) (bv32_nn hx hx2)
  have := Nat.div_le_self x.toNat (2 ^ s)
  rw [i32_nn (by omega), e, Int.natCast_ediv, Int.toNat_of_nonneg hx]
section NLZ
variable {B : Nat} {m : xw_M} {x n : Int}
theorem nlz73 (h0 : 0 < x) (h1 : x < 4) (hn : 0 ≤ n ∧ n ≤ 31) : ∃ b, isnb x b ∧ yk118_73 B x n m = some (.inl (w32 (n + 1 - b)), m) := by
  unfold yk118_73
  rw [show xw_iushrf x 1 = x / ((2 ^ 1 : Nat) : Int) from iushr_d (s := 1) (by omega) (by omega) (by decide)]
  rcases (by omega : x = 1 ∨ x = 2 ∨ x = 3) with rfl | rfl | rfl
  · exact ⟨1, ⟨by decide, by decide, Or.inr (by decide)⟩, congrArg (fun z => some (Sum.inl (w32 z), m)) (by show n - 0 = n + 1 - 1; omega)⟩
  · exact ⟨2, ⟨by decide, by decide, Or.inr (by decide)⟩, congrArg (fun z => some (Sum.inl (w32 z), m)) (by show n - 1 = n + 1 - 2; omega)⟩
  · exact ⟨2, ⟨by decide, by decide, Or.inr (by decide)⟩, congrArg (fun z => some (Sum.inl (w32 z), m)) (by show n - 1 = n + 1 - 2; omega)⟩
theorem nlz61 (h0 : 0 < x) (h1 : x < 16) (hn : 2 ≤ n ∧ n ≤ 31) : ∃ b, isnb x b ∧ yk118_61 B x n m = some (.inl (w32 (n + 1 - b)), m) := by
  unfold yk118_61
  by_cases h : x < 4
  · rw [if_pos h]
    exact nlz73 h0 h ⟨by omega, hn.2⟩
  · rw [if_neg h, show xw_iushrf x 2 = x / ((2 ^ 2 : Nat) : Int) from iushr_d (s := 2) (by omega) (by omega) (by decide), w32_id (by omega) (by omega)]
    obtain ⟨b, h2, h3⟩ := nlz73 (B := B) (m := m) (x := x / ((2 ^ 2 : Nat) : Int)) (n := n + -2) (by omega) (by omega) (by omega)
    exact ⟨b + (2 : Nat), isnb_div h2 (by omega), h3.trans (congrArg (fun z => some (Sum.inl (w32 z), m)) (by omega))⟩
theorem nlz48 (h0 : 0 < x) (h1 : x < 256) (hn : 6 ≤ n ∧ n ≤ 31) : ∃ b, isnb x b ∧ yk118_48 B x n m = some (.inl (w32 (n + 1 - b)), m) := by
  unfold yk118_48
  by_cases h : x < 16
  · rw [if_pos h]
    exact nlz61 h0 h ⟨by omega, hn.2⟩
  · rw [if_neg h, show xw_iushrf x 4 = x / ((2 ^ 4 : Nat) : Int) from iushr_d (s := 4) (by omega) (by omega) (by decide), w32_id (by omega) (by omega)]
    obtain ⟨b, h2, h3⟩ := nlz61 (B := B) (m := m) (x := x / ((2 ^ 4 : Nat) : Int)) (n := n + -4) (by omega) (by omega) (by omega)
    exact ⟨b + (4 : Nat), isnb_div h2 (by omega), h3.trans (congrArg (fun z => some (Sum.inl (w32 z), m)) (by omega))⟩
theorem nlz33 (h0 : 0 < x) (h1 : x < 65536) (hn : 14 ≤ n ∧ n ≤ 31) : ∃ b, isnb x b ∧ yk118_33 B x n m = some (.inl (w32 (n + 1 - b)), m) := by
  unfold yk118_33
  by_cases h : x < 256
  · rw [if_pos h]
    exact nlz48 h0 h ⟨by omega, hn.2⟩
  · rw [if_neg h, show xw_iushrf x 8 = x / ((2 ^ 8 : Nat) : Int) from iushr_d (s := 8) (by omega) (by omega) (by decide), w32_id (by omega) (by omega)]
    obtain ⟨b, h2, h3⟩ := nlz48 (B := B) (m := m) (x := x / ((2 ^ 8 : Nat) : Int)) (n := n + -8) (by omega) (by omega) (by omega)
    exact ⟨b + (8 : Nat), isnb_div h2 (by omega), h3.trans (congrArg (fun z => some (Sum.inl (w32 z), m)) (by omega))⟩
theorem isnb_le {x b : Int} {k : Nat} (h : isnb x b) (hx : x < (2 ^ k : Nat)) : b ≤ k := by
  obtain ⟨h1, h2, h3⟩ := h
  by_cases hb : b ≤ k
  · exact hb
  · exfalso
    rcases h3 with rfl | h3
    · omega
    · have : (2 : Nat) ^ k ≤ 2 ^ (b.toNat - 1) := Nat.pow_le_pow_right (by omega) (by omega)
      omega
/-- leading zeros of an int, as a number without a sign -/
theorem nlz32 (hx : w32 x = x) : ∃ b, isnb (x % 4294967296) b ∧ b ≤ 32 ∧ yf118 B x m = some (.inl (32 - b), m) := by
  have hr := w32_cg hx
  unfold xw_rg at hr
  unfold yf118
  by_cases h : 0 < x
  · rw [if_pos h, Int.emod_eq_of_lt (by omega) (by omega)]
    by_cases h2 : x < 65536
    · rw [if_pos h2]
      obtain ⟨b, h3, h4⟩ := nlz33 (B := B) (m := m) h h2 (n := 31) (by omega)
      have hb := isnb_le (k := 16) h3 (by show x < 65536; exact h2)
      exact ⟨b, h3, by omega, h4.trans (congrArg (fun z => some (Sum.inl z, m)) (by rw [w32_id] <;> have := h3.1 <;> omega))⟩
    · rw [if_neg h2, show xw_iushrf x 16 = x / ((2 ^ 16 : Nat) : Int) from iushr_d (s := 16) (by omega) (by omega) (by decide)]
      obtain ⟨b, h3, h4⟩ := nlz33 (B := B) (m := m) (x := x / ((2 ^ 16 : Nat) : Int)) (n := 15) (by omega) (by omega) (by omega)
      have hb := isnb_le (k := 16) h3 (by show _ < (65536 : Int); omega)
      exact ⟨b + (16 : Nat), isnb_div h3 (by omega), by omega, h4.trans (congrArg (fun z => some (Sum.inl z, m)) (by rw [w32_id] <;> have := h3.1 <;> omega))⟩
  · rw [if_neg h]
    by_cases h2 : x = 0
    · rw [if_pos h2, h2]
      exact ⟨0, isnb_0, by decide, rfl⟩
    · rw [if_neg h2]
      refine ⟨32, ⟨by decide, ?_, Or.inr ?_⟩, by decide, rfl⟩
      · show x % 4294967296 < 4294967296
        omega
      · show (2147483648 : Int) ≤ x % 4294967296
        omega
theorem lushr32 (x : Int) : w32 (xw_lushrf x 32) = w32 (x / 4294967296) := by
  have e : xw_lushrf x 32 = (x % 18446744073709551616) / 4294967296 := by
    refine bt_ext (lushr_w _ _) (w64_id (by omega) (by omega)) (fun i hi => ?_)
    rw [bt_ushrI x (by decide) (by decide), bt_nn (x := x % 18446744073709551616 / 4294967296) (by omega), decide_eq_true hi, Bool.true_and]
    unfold bt
    rw [← BitVec.testBit_toNat, BitVec.toNat_ofInt, show ((x % 18446744073709551616) / 4294967296).toNat = (x % ((2 ^ 64 : Nat) : Int)).toNat / 2 ^ 32 from by
      show _ = (x % 18446744073709551616).toNat / 4294967296
      omega, Nat.testBit_div_two_pow]
    congr 1
    exact Nat.add_comm _ _
  rw [e]
  unfold w32
  omega
/-- bitsOf -/
theorem bitsOf_ok : ∃ b, isnb (x % 18446744073709551616) b ∧ b ≤ 64 ∧ yf116 B x m = some (.inl b, m) := by
  unfold yf116 yf117
  rw [lushr32]
  by_cases h : w32 (x / 4294967296) = 0
  · rw [if_pos h]
    obtain ⟨b, h1, h2, h3⟩ := nlz32 (B := B) (m := m) (w32_w x)
    have hb := h1.1
    rw [h3]
    simp only [xB_ret]
    refine ⟨b, ?_, by omega, ?_⟩
    · have : w32 x % 4294967296 = x % 18446744073709551616 := by unfold w32 at h ⊢; omega
      rw [← this]
      exact h1
    · rw [w32_id (x := 32 + (32 - b)) (by omega) (by omega), w32_id (by omega) (by omega)]
      exact congrArg (fun z => some (Sum.inl z, m)) (by omega)
  · rw [if_neg h]
    obtain ⟨b, h1, h2, h3⟩ := nlz32 (B := B) (m := m) (w32_w (x / 4294967296))
    have hb := h1.1
    rw [h3]
    simp only [xB_ret]
    refine ⟨b + (32 : Nat), ?_, by omega, ?_⟩
    · have e : w32 (x / 4294967296) % 4294967296 = x % 18446744073709551616 / ((2 ^ 32 : Nat) : Int) := by
        show _ = x % 18446744073709551616 / 4294967296
        unfold w32
        omega
      rw [e] at h1
      refine isnb_div h1 ?_
      show 0 < x % 18446744073709551616 / 4294967296
      unfold w32 at h
      omega
    · rw [w32_id (by omega) (by omega)]
      exact congrArg (fun z => some (Sum.inl z, m)) (by omega)
end NLZ
