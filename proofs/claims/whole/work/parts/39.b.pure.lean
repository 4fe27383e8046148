/-! THE PURE BASE: memory as numbers by place, outcomes, what trees of outcomes say, loops -/
abbrev xw_M : Type := Int → Int → Int
def xw_cl (a : Int) : Nat := (xw_ly a.toNat).1
def xw_ln (B : Nat) (a : Nat) : Nat := (xw_ly a).2.1 + bif Nat.beq a 516 || Nat.beq a 517 then B * 512 else 0
def xw_le (B : Nat) (a : Int) : Int := (xw_ln B a.toNat : Int)
def xw_kd (a k : Int) : Nat := xw_kof (xw_ly a.toNat) k.toNat
def xw_u (m : xw_M) (a k v : Int) : xw_M := fun a' k' => if a' = a ∧ k' = k then v else m a' k'
def xw_rg (x : Int) : Prop := -2147483648 ≤ x ∧ x < 2147483648
def xw_rJ (x : Int) : Prop := -9223372036854775808 ≤ x ∧ x < 9223372036854775808
def xw_ob (t : Nat) (a : Int) : Prop := 0 ≤ a ∧ a < 605 ∧ xw_cl a = t
def xw_rf (a q : Int) : Int := (xw_kd a q : Int) - 5
theorem xw_us {m : xw_M} {a k v : Int} : xw_u m a k v a k = v := if_pos ⟨rfl, rfl⟩
theorem xw_un {m : xw_M} {a k v a' k' w : Int} (h : ¬ (a' = a ∧ k' = k)) (r : m a' k' = w) : xw_u m a k v a' k' = w := (if_neg h).trans r
def xw_obb (t : Nat) (a : Int) : Bool := decide (0 ≤ a) && (decide (a < 605) && Nat.beq (xw_cl a) t)
theorem xw_obd {t : Nat} {a : Int} (h : xw_obb t a = true) : xw_ob t a := by
  unfold xw_obb at h
  rw [Bool.and_eq_true, Bool.and_eq_true] at h
  exact ⟨of_decide_eq_true h.1, of_decide_eq_true h.2.1, Nat.eq_of_beq_eq_true h.2.2⟩
def xw_iandf (x y : Int) : Int := ((fun x y => x &&& y : Int32 → Int32 → Int32) (Int32.ofInt x) (Int32.ofInt y)).toInt
def xw_iorf (x y : Int) : Int := ((fun x y => x ||| y : Int32 → Int32 → Int32) (Int32.ofInt x) (Int32.ofInt y)).toInt
def xw_ixorf (x y : Int) : Int := ((fun x y => x ^^^ y : Int32 → Int32 → Int32) (Int32.ofInt x) (Int32.ofInt y)).toInt
def xw_ishlf (x y : Int) : Int := ((fun x y => x <<< (y &&& 31) : Int32 → Int32 → Int32) (Int32.ofInt x) (Int32.ofInt y)).toInt
def xw_ishrf (x y : Int) : Int := ((fun x y => x >>> (y &&& 31) : Int32 → Int32 → Int32) (Int32.ofInt x) (Int32.ofInt y)).toInt
def xw_iushrf (x y : Int) : Int := ((fun x y => (x.toUInt32 >>> (y.toUInt32 &&& Int32.toUInt32 31)).toInt32 : Int32 → Int32 → Int32) (Int32.ofInt x) (Int32.ofInt y)).toInt
def xw_landf (x y : Int) : Int := ((fun x y => x &&& y : Int64 → Int64 → Int64) (Int64.ofInt x) (Int64.ofInt y)).toInt
def xw_lorf (x y : Int) : Int := ((fun x y => x ||| y : Int64 → Int64 → Int64) (Int64.ofInt x) (Int64.ofInt y)).toInt
def xw_lxorf (x y : Int) : Int := ((fun x y => x ^^^ y : Int64 → Int64 → Int64) (Int64.ofInt x) (Int64.ofInt y)).toInt
def xw_lshlf (x y : Int) : Int := ((fun x y => x <<< (y.toInt64 &&& 63) : Int64 → Int32 → Int64) (Int64.ofInt x) (Int32.ofInt y)).toInt
def xw_lshrf (x y : Int) : Int := ((fun x y => x >>> (y.toInt64 &&& 63) : Int64 → Int32 → Int64) (Int64.ofInt x) (Int32.ofInt y)).toInt
def xw_lushrf (x y : Int) : Int := ((fun x y => (x.toUInt64 >>> (y.toInt64.toUInt64 &&& Int64.toUInt64 63)).toInt64 : Int64 → Int32 → Int64) (Int64.ofInt x) (Int32.ofInt y)).toInt
def xw_i2cf (x : Int) : Int := ((Int32.ofInt x).toUInt32 % 65536).toInt32.toInt
def w32 (x : Int) : Int := (x + 2147483648) % 4294967296 - 2147483648
def w64 (x : Int) : Int := (x + 9223372036854775808) % 18446744073709551616 - 9223372036854775808
def w8 (x : Int) : Int := (x + 128) % 256 - 128
theorem w32_id {x : Int} (h1 : -2147483648 ≤ x) (h2 : x < 2147483648) : w32 x = x := by unfold w32; omega
theorem w64_id {x : Int} (h1 : -9223372036854775808 ≤ x) (h2 : x < 9223372036854775808) : w64 x = x := by unfold w64; omega
theorem w32_rg (x : Int) : xw_rg (w32 x) := by unfold w32 xw_rg; omega
theorem w64_rg (x : Int) : xw_rJ (w64 x) := by unfold w64 xw_rJ; omega
theorem w32_w (x : Int) : w32 (w32 x) = w32 x := by unfold w32; omega
theorem w64_w (x : Int) : w64 (w64 x) = w64 x := by unfold w64; omega
theorem w32_8 (x : Int) : w32 (w8 x) = w8 x := by unfold w32 w8; omega
theorem w8_8 (x : Int) : w8 (w8 x) = w8 x := by unfold w8; omega
theorem w8_bm (x : Int) : x.bmod 256 = w8 x := by unfold w8 Int.bmod; dsimp only; split <;> omega
theorem w32_bm (x : Int) : x.bmod 4294967296 = w32 x := by unfold w32 Int.bmod; dsimp only; split <;> omega
theorem w64_bm (x : Int) : x.bmod 18446744073709551616 = w64 x := by unfold w64 Int.bmod; dsimp only; split <;> omega
theorem w32_cg {x : Int} (h : w32 x = x) : xw_rg x := h ▸ w32_rg x
theorem w64_cg {x : Int} (h : w64 x = x) : xw_rJ x := h ▸ w64_rg x
theorem w64_32 {x : Int} (h : w32 x = x) : w64 x = x := w64_id (by have := (w32_cg h).1; omega) (by have := (w32_cg h).2; omega)
theorem w32_of {x : Int} (h : xw_rg x) : w32 x = x := w32_id h.1 h.2
theorem w64_of {x : Int} (h : xw_rJ x) : w64 x = x := w64_id h.1 h.2
theorem w32_t (x : Int) : (Int32.ofInt x).toInt = w32 x := by rw [Int32.toInt_ofInt]; exact w32_bm x
theorem w64_t (x : Int) : (Int64.ofInt x).toInt = w64 x := by rw [Int64.toInt_ofInt]; exact w64_bm x
theorem w32_ti (x : Int32) : w32 x.toInt = x.toInt := by rw [← w32_t, Int32.ofInt_toInt]
theorem w64_ti (x : Int64) : w64 x.toInt = x.toInt := by rw [← w64_t, Int64.ofInt_toInt]
theorem w32_dv {x y : Int} (hx : w32 x = x) (h : 0 ≤ x ∧ 0 < y) : w32 (x / y) = x / y := w32_id (by have := Int.ediv_nonneg h.1 (Int.le_of_lt h.2); omega) (by have := Int.ediv_le_self y h.1; have := (w32_cg hx).2; omega)
theorem w32_md {x y : Int} (hy : w32 y = y) (h : 0 ≤ x ∧ 0 < y) : w32 (x % y) = x % y := w32_id (by have := Int.emod_nonneg x (show y ≠ 0 by omega); omega) (by have := Int.emod_lt_of_pos x h.2; have := (w32_cg hy).2; omega)
theorem w64_md {x y : Int} (hy : w64 y = y) (h : 0 ≤ x ∧ 0 < y) : w64 (x % y) = x % y := w64_id (by have := Int.emod_nonneg x (show y ≠ 0 by omega); omega) (by have := Int.emod_lt_of_pos x h.2; have := (w64_cg hy).2; omega)
theorem w32_mx {x y : Int} (hx : w32 x = x) (hy : w32 y = y) : w32 (max x y) = max x y := w32_id (by have := (w32_cg hx).1; omega) (by have := (w32_cg hx).2; have := (w32_cg hy).2; omega)
theorem w32_mn {x y : Int} (hx : w32 x = x) (hy : w32 y = y) : w32 (min x y) = min x y := w32_id (by have := (w32_cg hx).1; have := (w32_cg hy).1; omega) (by have := (w32_cg hx).2; omega)
theorem w64_mx {x y : Int} (hx : w64 x = x) (hy : w64 y = y) : w64 (max x y) = max x y := w64_id (by have := (w64_cg hx).1; omega) (by have := (w64_cg hx).2; have := (w64_cg hy).2; omega)
theorem w64_mn {x y : Int} (hx : w64 x = x) (hy : w64 y = y) : w64 (min x y) = min x y := w64_id (by have := (w64_cg hx).1; have := (w64_cg hy).1; omega) (by have := (w64_cg hx).2; omega)
def xR (m : xw_M) (a k : Int) : Int := w32 (m a k)
def xJ (m : xw_M) (a k : Int) : Int := w64 (m a k)
theorem w32_xR (m : xw_M) (a k : Int) : w32 (xR m a k) = xR m a k := w32_w _
theorem w64_xJ (m : xw_M) (a k : Int) : w64 (xJ m a k) = xJ m a k := w64_w _
theorem xw_obne {t t' : Nat} {a a' k k' : Int} (h : xw_ob t a) (h' : xw_ob t' a') (hn : t ≠ t') : ¬ (a' = a ∧ k' = k) := fun e => hn (by rw [← h.2.2, ← h'.2.2, e.1])
theorem xw_zr {v : Int} (h : v = 0 ∨ v = 1) : xw_rg v := by rcases h with rfl | rfl <;> exact ⟨by decide, by decide⟩
/-- the three Strings, by their letters -/
def xw_sl (k : Nat) : List Nat := match k with
  | 0 => [100, 105, 109, 101, 110, 115, 105, 111, 110, 32, 109, 101, 97, 115, 117, 114, 101, 32, 109, 101, 109, 98, 101, 114, 32, 115, 101, 108, 101, 99, 116, 32, 119, 104, 101, 114, 101, 32, 103, 114, 111, 117, 112, 32, 98, 121, 32, 114, 111, 108, 108, 117, 112, 32, 99, 117, 98, 101, 32, 103, 114, 111, 117, 112, 105, 110, 103, 32, 115, 117, 109, 32, 99, 111, 117, 110, 116, 32, 109, 105, 110, 32, 109, 97, 120, 32, 97, 110, 100, 32, 111, 114, 32, 110, 111, 116, 32, 98, 101, 116, 119, 101, 101, 110, 32, 105, 110, 32]
  | 1 => [40, 41, 44, 59, 46, 42, 61, 60, 62]
  | _ => [32, 100, 105, 109, 101, 110, 115, 105, 111, 110, 32, 109, 101, 97, 115, 117, 114, 101, 32, 109, 101, 109, 98, 101, 114, 32, 115, 101, 108, 101, 99, 116, 32, 119, 104, 101, 114, 101, 32, 103, 114, 111, 117, 112, 32, 98, 121, 32, 114, 111, 108, 108, 117, 112, 32, 99, 117, 98, 101, 32, 103, 114, 111, 117, 112, 105, 110, 103, 32, 115, 117, 109, 32, 99, 111, 117, 110, 116, 32, 109, 105, 110, 32, 109, 97, 120, 32, 97, 110, 100, 32, 111, 114, 32, 110, 111, 116, 32, 98, 101, 116, 119, 101, 101, 110, 32, 105, 110, 32]
def xw_chr (k : Nat) (i : Int) : Int := ((xw_sl k).getD i.toNat 0 : Nat)
theorem xw_slb (k : Nat) : ∀ c ∈ xw_sl k, c < 128 := by
  have h : ∀ l : List Nat, l.all (fun c => Nat.blt c 128) = true → ∀ c ∈ l, c < 128 := fun l hl c hc => Nat.le_of_ble_eq_true (List.all_eq_true.mp hl c hc)
  match k with
  | 0 => exact h _ rfl
  | 1 => exact h _ rfl
  | _ + 2 => exact h _ rfl
theorem xw_chb (k : Nat) (i : Int) : 0 ≤ xw_chr k i ∧ xw_chr k i < 128 := by
  unfold xw_chr
  rw [List.getD_eq_getElem?_getD]
  cases hq : (xw_sl k)[i.toNat]? with
  | none => exact ⟨by decide, by decide⟩
  | some c =>
    have := xw_slb k c (List.mem_of_getElem? hq)
    exact ⟨by show (0 : Int) ≤ (c : Int); omega, by show (c : Int) < 128; omega⟩
theorem w32_chr (k : Nat) (i : Int) : w32 (xw_chr k i) = xw_chr k i := w32_id (by have := (xw_chb k i).1; omega) (by have := (xw_chb k i).2; omega)
abbrev xw_cpok (sp ls dp ld n : Int) : Prop := 0 ≤ n ∧ 0 ≤ sp ∧ sp + n ≤ ls ∧ 0 ≤ dp ∧ dp + n ≤ ld
def xw_cp (m : xw_M) (a sp b dp n : Int) : xw_M := fun a' k' => if a' = b ∧ dp ≤ k' ∧ k' < dp + n then m a (k' - dp + sp) else m a' k'
/-- the bytes that are copied are bytes -/
def xw_byo (m : xw_M) (a sp n : Int) : Bool := (List.range n.toNat).all (fun k => decide (w8 (xR m a (sp + (k : Int))) = xR m a (sp + (k : Int))))
def xw_byg (t : Nat) (m : xw_M) (a sp n : Int) : Bool := bif Nat.beq t 18 then xw_byo m a sp n else true
def xw_t3 (t : Nat) : Bool := Nat.beq t 16 || (Nat.beq t 17 || Nat.beq t 18)
abbrev xO : Type := (Int ⊕ Nat) × xw_M
abbrev xP : Type := Option xO
/-- the values of a kind: 0 none, 1 int, 2 long, 3 cell, 4 boolean -/
def xcn (k : Nat) (v : Int) : Prop := match k with
  | 0 => v = 0
  | 1 => w32 v = v
  | 2 => w64 v = v
  | 4 => v = 0 ∨ v = 1
  | _ => True
def xcan (k : Nat) (o : xO) : Prop := match o.1 with
  | .inl v => xcn k v
  | .inr _ => True
/-- what follows a call: its value and memory go on, its exception goes out -/
def xB (o : xP) (F : Int → xw_M → xP) : xP := match o with
  | some (.inl v, m) => F v m
  | some (.inr t, m) => some (.inr t, m)
  | none => none
/-- what follows a call: a value goes on, an exception is caught -/
def xT (o : xP) (F : Int → xw_M → xP) (G : Nat → xw_M → xP) : xP := match o with
  | some (.inl v, m) => F v m
  | some (.inr t, m) => G t m
  | none => none
/-- a call, by the law, of a method that doesn't throw -/
def xN (o : xP) (F : Int → xw_M → xP) : xP := match o with
  | some (.inl v, m) => F v m
  | _ => none
/-- the script -/
def xZs (xs : Nat → Int32) (i : Int) : Int := (xs i.toNat).toInt
/-- what holds of an outcome -/
def xH (o : xP) (Q : Int → xw_M → Prop) (X : Nat → xw_M → Prop) : Prop := match o with
  | some (.inl v, m) => Q v m
  | some (.inr t, m) => X t m
  | none => False
theorem xH_ret {v : Int} {m : xw_M} {Q : Int → xw_M → Prop} {X : Nat → xw_M → Prop} : xH (some (.inl v, m)) Q X = Q v m := rfl
theorem xH_thr {t : Nat} {m : xw_M} {Q : Int → xw_M → Prop} {X : Nat → xw_M → Prop} : xH (some (.inr t, m)) Q X = X t m := rfl
theorem xH_none {Q : Int → xw_M → Prop} {X : Nat → xw_M → Prop} : xH none Q X = False := rfl
theorem xH_B {o : xP} {F : Int → xw_M → xP} {Q : Int → xw_M → Prop} {X : Nat → xw_M → Prop} : xH (xB o F) Q X = xH o (fun v m => xH (F v m) Q X) X := by
  cases o with
  | none => rfl
  | some z => obtain ⟨z, m⟩ := z; cases z <;> rfl
theorem xH_if {c : Prop} [Decidable c] {a b : xP} {Q : Int → xw_M → Prop} {X : Nat → xw_M → Prop} : xH (if c then a else b) Q X ↔ (c → xH a Q X) ∧ (¬ c → xH b Q X) := by
  by_cases h : c
  · rw [if_pos h]
    exact ⟨fun k => ⟨fun _ => k, fun n => absurd h n⟩, fun k => k.1 h⟩
  · rw [if_neg h]
    exact ⟨fun k => ⟨fun n => absurd n h, fun _ => k⟩, fun k => k.2 h⟩
theorem xH_g {c : Prop} [Decidable c] {a : xP} {Q : Int → xw_M → Prop} {X : Nat → xw_M → Prop} : xH (if c then a else none) Q X ↔ c ∧ xH a Q X := by
  by_cases h : c
  · rw [if_pos h]
    exact ⟨fun k => ⟨h, k⟩, fun k => k.2⟩
  · rw [if_neg h]
    exact ⟨fun k => k.elim, fun k => h k.1⟩
theorem xH_mono {o : xP} {Q Q' : Int → xw_M → Prop} {X X' : Nat → xw_M → Prop} (h : xH o Q X) (h1 : ∀ v m, Q v m → Q' v m) (h2 : ∀ t m, X t m → X' t m) : xH o Q' X' := by
  cases o with
  | none => exact h
  | some z =>
    obtain ⟨z, m⟩ := z
    cases z with
    | inl v => exact h1 v m h
    | inr t => exact h2 t m h
theorem xH_call {o : xP} {F : Int → xw_M → xP} {Q Q' : Int → xw_M → Prop} {X X' : Nat → xw_M → Prop} (h : xH o Q' X') (h1 : ∀ v m, Q' v m → xH (F v m) Q X) (h2 : ∀ t m, X' t m → X t m) : xH (xB o F) Q X := by
  rw [xH_B]
  exact xH_mono h h1 h2
theorem xB_ret {v : Int} {m : xw_M} {F : Int → xw_M → xP} : xB (some (.inl v, m)) F = F v m := rfl
theorem xB_thr {t : Nat} {m : xw_M} {F : Int → xw_M → xP} : xB (some (.inr t, m)) F = some (.inr t, m) := rfl
theorem xB_none {F : Int → xw_M → xP} : xB none F = none := rfl
theorem xB_if {c : Prop} [Decidable c] {a b : xP} {F : Int → xw_M → xP} : xB (if c then a else b) F = if c then xB a F else xB b F := by
  by_cases h : c
  · rw [if_pos h, if_pos h]
  · rw [if_neg h, if_neg h]
theorem xR_u {m : xw_M} {a k v a' k' : Int} : xR (xw_u m a k v) a' k' = if a' = a ∧ k' = k then w32 v else xR m a' k' := by
  unfold xR xw_u
  split <;> rfl
theorem xJ_u {m : xw_M} {a k v a' k' : Int} : xJ (xw_u m a k v) a' k' = if a' = a ∧ k' = k then w64 v else xJ m a' k' := by
  unfold xJ xw_u
  split <;> rfl
theorem xu_c {m : xw_M} {a k v a' : Int} (h : a' ≠ a) : (xw_u m a k v) a' = m a' := by
  funext k'
  unfold xw_u
  rw [if_neg (fun e => h e.1)]
def xl0 (F : (xw_M → xP) → xw_M → xP) : Nat → xw_M → xP
  | 0 => fun _ => none
  | n + 1 => F (xl0 F n)
theorem xl0_rule {F : (xw_M → xP) → xw_M → xP} {Q : Int → xw_M → Prop} {X : Nat → xw_M → Prop} (I : xw_M → Prop) (mu : xw_M → Nat) (h : ∀ r m, I m → (∀ m', I m' → mu m' < mu m → xH (r m') Q X) → xH (F r m) Q X) : ∀ n m, I m → mu m < n → xH (xl0 F n m) Q X := by
  intro n
  induction n with
  | zero => intro m _ hm; omega
  | succ n ih => exact fun m hi hm => h _ m hi (fun m' hi' hm' => ih m' hi' (by omega))
def xl1 (F : (Int → xw_M → xP) → Int → xw_M → xP) : Nat → Int → xw_M → xP
  | 0 => fun _ _ => none
  | n + 1 => F (xl1 F n)
theorem xl1_rule {F : (Int → xw_M → xP) → Int → xw_M → xP} {Q : Int → xw_M → Prop} {X : Nat → xw_M → Prop} (I : Int → xw_M → Prop) (mu : Int → xw_M → Nat) (h : ∀ r x0 m, I x0 m → (∀ y0 m', I y0 m' → mu y0 m' < mu x0 m → xH (r y0 m') Q X) → xH (F r x0 m) Q X) : ∀ n x0 m, I x0 m → mu x0 m < n → xH (xl1 F n x0 m) Q X := by
  intro n
  induction n with
  | zero => intro x0 m _ hm; omega
  | succ n ih => exact fun x0 m hi hm => h _ x0 m hi (fun y0 m' hi' hm' => ih y0 m' hi' (by omega))
def xl2 (F : (Int → Int → xw_M → xP) → Int → Int → xw_M → xP) : Nat → Int → Int → xw_M → xP
  | 0 => fun _ _ _ => none
  | n + 1 => F (xl2 F n)
theorem xl2_rule {F : (Int → Int → xw_M → xP) → Int → Int → xw_M → xP} {Q : Int → xw_M → Prop} {X : Nat → xw_M → Prop} (I : Int → Int → xw_M → Prop) (mu : Int → Int → xw_M → Nat) (h : ∀ r x0 x1 m, I x0 x1 m → (∀ y0 y1 m', I y0 y1 m' → mu y0 y1 m' < mu x0 x1 m → xH (r y0 y1 m') Q X) → xH (F r x0 x1 m) Q X) : ∀ n x0 x1 m, I x0 x1 m → mu x0 x1 m < n → xH (xl2 F n x0 x1 m) Q X := by
  intro n
  induction n with
  | zero => intro x0 x1 m _ hm; omega
  | succ n ih => exact fun x0 x1 m hi hm => h _ x0 x1 m hi (fun y0 y1 m' hi' hm' => ih y0 y1 m' hi' (by omega))
def xl3 (F : (Int → Int → Int → xw_M → xP) → Int → Int → Int → xw_M → xP) : Nat → Int → Int → Int → xw_M → xP
  | 0 => fun _ _ _ _ => none
  | n + 1 => F (xl3 F n)
theorem xl3_rule {F : (Int → Int → Int → xw_M → xP) → Int → Int → Int → xw_M → xP} {Q : Int → xw_M → Prop} {X : Nat → xw_M → Prop} (I : Int → Int → Int → xw_M → Prop) (mu : Int → Int → Int → xw_M → Nat) (h : ∀ r x0 x1 x2 m, I x0 x1 x2 m → (∀ y0 y1 y2 m', I y0 y1 y2 m' → mu y0 y1 y2 m' < mu x0 x1 x2 m → xH (r y0 y1 y2 m') Q X) → xH (F r x0 x1 x2 m) Q X) : ∀ n x0 x1 x2 m, I x0 x1 x2 m → mu x0 x1 x2 m < n → xH (xl3 F n x0 x1 x2 m) Q X := by
  intro n
  induction n with
  | zero => intro x0 x1 x2 m _ hm; omega
  | succ n ih => exact fun x0 x1 x2 m hi hm => h _ x0 x1 x2 m hi (fun y0 y1 y2 m' hi' hm' => ih y0 y1 y2 m' hi' (by omega))
def xl4 (F : (Int → Int → Int → Int → xw_M → xP) → Int → Int → Int → Int → xw_M → xP) : Nat → Int → Int → Int → Int → xw_M → xP
  | 0 => fun _ _ _ _ _ => none
  | n + 1 => F (xl4 F n)
theorem xl4_rule {F : (Int → Int → Int → Int → xw_M → xP) → Int → Int → Int → Int → xw_M → xP} {Q : Int → xw_M → Prop} {X : Nat → xw_M → Prop} (I : Int → Int → Int → Int → xw_M → Prop) (mu : Int → Int → Int → Int → xw_M → Nat) (h : ∀ r x0 x1 x2 x3 m, I x0 x1 x2 x3 m → (∀ y0 y1 y2 y3 m', I y0 y1 y2 y3 m' → mu y0 y1 y2 y3 m' < mu x0 x1 x2 x3 m → xH (r y0 y1 y2 y3 m') Q X) → xH (F r x0 x1 x2 x3 m) Q X) : ∀ n x0 x1 x2 x3 m, I x0 x1 x2 x3 m → mu x0 x1 x2 x3 m < n → xH (xl4 F n x0 x1 x2 x3 m) Q X := by
  intro n
  induction n with
  | zero => intro x0 x1 x2 x3 m _ hm; omega
  | succ n ih => exact fun x0 x1 x2 x3 m hi hm => h _ x0 x1 x2 x3 m hi (fun y0 y1 y2 y3 m' hi' hm' => ih y0 y1 y2 y3 m' hi' (by omega))
def xl5 (F : (Int → Int → Int → Int → Int → xw_M → xP) → Int → Int → Int → Int → Int → xw_M → xP) : Nat → Int → Int → Int → Int → Int → xw_M → xP
  | 0 => fun _ _ _ _ _ _ => none
  | n + 1 => F (xl5 F n)
theorem xl5_rule {F : (Int → Int → Int → Int → Int → xw_M → xP) → Int → Int → Int → Int → Int → xw_M → xP} {Q : Int → xw_M → Prop} {X : Nat → xw_M → Prop} (I : Int → Int → Int → Int → Int → xw_M → Prop) (mu : Int → Int → Int → Int → Int → xw_M → Nat) (h : ∀ r x0 x1 x2 x3 x4 m, I x0 x1 x2 x3 x4 m → (∀ y0 y1 y2 y3 y4 m', I y0 y1 y2 y3 y4 m' → mu y0 y1 y2 y3 y4 m' < mu x0 x1 x2 x3 x4 m → xH (r y0 y1 y2 y3 y4 m') Q X) → xH (F r x0 x1 x2 x3 x4 m) Q X) : ∀ n x0 x1 x2 x3 x4 m, I x0 x1 x2 x3 x4 m → mu x0 x1 x2 x3 x4 m < n → xH (xl5 F n x0 x1 x2 x3 x4 m) Q X := by
  intro n
  induction n with
  | zero => intro x0 x1 x2 x3 x4 m _ hm; omega
  | succ n ih => exact fun x0 x1 x2 x3 x4 m hi hm => h _ x0 x1 x2 x3 x4 m hi (fun y0 y1 y2 y3 y4 m' hi' hm' => ih y0 y1 y2 y3 y4 m' hi' (by omega))
def xl6 (F : (Int → Int → Int → Int → Int → Int → xw_M → xP) → Int → Int → Int → Int → Int → Int → xw_M → xP) : Nat → Int → Int → Int → Int → Int → Int → xw_M → xP
  | 0 => fun _ _ _ _ _ _ _ => none
  | n + 1 => F (xl6 F n)
theorem xl6_rule {F : (Int → Int → Int → Int → Int → Int → xw_M → xP) → Int → Int → Int → Int → Int → Int → xw_M → xP} {Q : Int → xw_M → Prop} {X : Nat → xw_M → Prop} (I : Int → Int → Int → Int → Int → Int → xw_M → Prop) (mu : Int → Int → Int → Int → Int → Int → xw_M → Nat) (h : ∀ r x0 x1 x2 x3 x4 x5 m, I x0 x1 x2 x3 x4 x5 m → (∀ y0 y1 y2 y3 y4 y5 m', I y0 y1 y2 y3 y4 y5 m' → mu y0 y1 y2 y3 y4 y5 m' < mu x0 x1 x2 x3 x4 x5 m → xH (r y0 y1 y2 y3 y4 y5 m') Q X) → xH (F r x0 x1 x2 x3 x4 x5 m) Q X) : ∀ n x0 x1 x2 x3 x4 x5 m, I x0 x1 x2 x3 x4 x5 m → mu x0 x1 x2 x3 x4 x5 m < n → xH (xl6 F n x0 x1 x2 x3 x4 x5 m) Q X := by
  intro n
  induction n with
  | zero => intro x0 x1 x2 x3 x4 x5 m _ hm; omega
  | succ n ih => exact fun x0 x1 x2 x3 x4 x5 m hi hm => h _ x0 x1 x2 x3 x4 x5 m hi (fun y0 y1 y2 y3 y4 y5 m' hi' hm' => ih y0 y1 y2 y3 y4 y5 m' hi' (by omega))
def xl7 (F : (Int → Int → Int → Int → Int → Int → Int → xw_M → xP) → Int → Int → Int → Int → Int → Int → Int → xw_M → xP) : Nat → Int → Int → Int → Int → Int → Int → Int → xw_M → xP
  | 0 => fun _ _ _ _ _ _ _ _ => none
  | n + 1 => F (xl7 F n)
theorem xl7_rule {F : (Int → Int → Int → Int → Int → Int → Int → xw_M → xP) → Int → Int → Int → Int → Int → Int → Int → xw_M → xP} {Q : Int → xw_M → Prop} {X : Nat → xw_M → Prop} (I : Int → Int → Int → Int → Int → Int → Int → xw_M → Prop) (mu : Int → Int → Int → Int → Int → Int → Int → xw_M → Nat) (h : ∀ r x0 x1 x2 x3 x4 x5 x6 m, I x0 x1 x2 x3 x4 x5 x6 m → (∀ y0 y1 y2 y3 y4 y5 y6 m', I y0 y1 y2 y3 y4 y5 y6 m' → mu y0 y1 y2 y3 y4 y5 y6 m' < mu x0 x1 x2 x3 x4 x5 x6 m → xH (r y0 y1 y2 y3 y4 y5 y6 m') Q X) → xH (F r x0 x1 x2 x3 x4 x5 x6 m) Q X) : ∀ n x0 x1 x2 x3 x4 x5 x6 m, I x0 x1 x2 x3 x4 x5 x6 m → mu x0 x1 x2 x3 x4 x5 x6 m < n → xH (xl7 F n x0 x1 x2 x3 x4 x5 x6 m) Q X := by
  intro n
  induction n with
  | zero => intro x0 x1 x2 x3 x4 x5 x6 m _ hm; omega
  | succ n ih => exact fun x0 x1 x2 x3 x4 x5 x6 m hi hm => h _ x0 x1 x2 x3 x4 x5 x6 m hi (fun y0 y1 y2 y3 y4 y5 y6 m' hi' hm' => ih y0 y1 y2 y3 y4 y5 y6 m' hi' (by omega))
def xl8 (F : (Int → Int → Int → Int → Int → Int → Int → Int → xw_M → xP) → Int → Int → Int → Int → Int → Int → Int → Int → xw_M → xP) : Nat → Int → Int → Int → Int → Int → Int → Int → Int → xw_M → xP
  | 0 => fun _ _ _ _ _ _ _ _ _ => none
  | n + 1 => F (xl8 F n)
theorem xl8_rule {F : (Int → Int → Int → Int → Int → Int → Int → Int → xw_M → xP) → Int → Int → Int → Int → Int → Int → Int → Int → xw_M → xP} {Q : Int → xw_M → Prop} {X : Nat → xw_M → Prop} (I : Int → Int → Int → Int → Int → Int → Int → Int → xw_M → Prop) (mu : Int → Int → Int → Int → Int → Int → Int → Int → xw_M → Nat) (h : ∀ r x0 x1 x2 x3 x4 x5 x6 x7 m, I x0 x1 x2 x3 x4 x5 x6 x7 m → (∀ y0 y1 y2 y3 y4 y5 y6 y7 m', I y0 y1 y2 y3 y4 y5 y6 y7 m' → mu y0 y1 y2 y3 y4 y5 y6 y7 m' < mu x0 x1 x2 x3 x4 x5 x6 x7 m → xH (r y0 y1 y2 y3 y4 y5 y6 y7 m') Q X) → xH (F r x0 x1 x2 x3 x4 x5 x6 x7 m) Q X) : ∀ n x0 x1 x2 x3 x4 x5 x6 x7 m, I x0 x1 x2 x3 x4 x5 x6 x7 m → mu x0 x1 x2 x3 x4 x5 x6 x7 m < n → xH (xl8 F n x0 x1 x2 x3 x4 x5 x6 x7 m) Q X := by
  intro n
  induction n with
  | zero => intro x0 x1 x2 x3 x4 x5 x6 x7 m _ hm; omega
  | succ n ih => exact fun x0 x1 x2 x3 x4 x5 x6 x7 m hi hm => h _ x0 x1 x2 x3 x4 x5 x6 x7 m hi (fun y0 y1 y2 y3 y4 y5 y6 y7 m' hi' hm' => ih y0 y1 y2 y3 y4 y5 y6 y7 m' hi' (by omega))
def xl9 (F : (Int → Int → Int → Int → Int → Int → Int → Int → Int → xw_M → xP) → Int → Int → Int → Int → Int → Int → Int → Int → Int → xw_M → xP) : Nat → Int → Int → Int → Int → Int → Int → Int → Int → Int → xw_M → xP
  | 0 => fun _ _ _ _ _ _ _ _ _ _ => none
  | n + 1 => F (xl9 F n)
theorem xl9_rule {F : (Int → Int → Int → Int → Int → Int → Int → Int → Int → xw_M → xP) → Int → Int → Int → Int → Int → Int → Int → Int → Int → xw_M → xP} {Q : Int → xw_M → Prop} {X : Nat → xw_M → Prop} (I : Int → Int → Int → Int → Int → Int → Int → Int → Int → xw_M → Prop) (mu : Int → Int → Int → Int → Int → Int → Int → Int → Int → xw_M → Nat) (h : ∀ r x0 x1 x2 x3 x4 x5 x6 x7 x8 m, I x0 x1 x2 x3 x4 x5 x6 x7 x8 m → (∀ y0 y1 y2 y3 y4 y5 y6 y7 y8 m', I y0 y1 y2 y3 y4 y5 y6 y7 y8 m' → mu y0 y1 y2 y3 y4 y5 y6 y7 y8 m' < mu x0 x1 x2 x3 x4 x5 x6 x7 x8 m → xH (r y0 y1 y2 y3 y4 y5 y6 y7 y8 m') Q X) → xH (F r x0 x1 x2 x3 x4 x5 x6 x7 x8 m) Q X) : ∀ n x0 x1 x2 x3 x4 x5 x6 x7 x8 m, I x0 x1 x2 x3 x4 x5 x6 x7 x8 m → mu x0 x1 x2 x3 x4 x5 x6 x7 x8 m < n → xH (xl9 F n x0 x1 x2 x3 x4 x5 x6 x7 x8 m) Q X := by
  intro n
  induction n with
  | zero => intro x0 x1 x2 x3 x4 x5 x6 x7 x8 m _ hm; omega
  | succ n ih => exact fun x0 x1 x2 x3 x4 x5 x6 x7 x8 m hi hm => h _ x0 x1 x2 x3 x4 x5 x6 x7 x8 m hi (fun y0 y1 y2 y3 y4 y5 y6 y7 y8 m' hi' hm' => ih y0 y1 y2 y3 y4 y5 y6 y7 y8 m' hi' (by omega))
def xl10 (F : (Int → Int → Int → Int → Int → Int → Int → Int → Int → Int → xw_M → xP) → Int → Int → Int → Int → Int → Int → Int → Int → Int → Int → xw_M → xP) : Nat → Int → Int → Int → Int → Int → Int → Int → Int → Int → Int → xw_M → xP
  | 0 => fun _ _ _ _ _ _ _ _ _ _ _ => none
  | n + 1 => F (xl10 F n)
theorem xl10_rule {F : (Int → Int → Int → Int → Int → Int → Int → Int → Int → Int → xw_M → xP) → Int → Int → Int → Int → Int → Int → Int → Int → Int → Int → xw_M → xP} {Q : Int → xw_M → Prop} {X : Nat → xw_M → Prop} (I : Int → Int → Int → Int → Int → Int → Int → Int → Int → Int → xw_M → Prop) (mu : Int → Int → Int → Int → Int → Int → Int → Int → Int → Int → xw_M → Nat) (h : ∀ r x0 x1 x2 x3 x4 x5 x6 x7 x8 x9 m, I x0 x1 x2 x3 x4 x5 x6 x7 x8 x9 m → (∀ y0 y1 y2 y3 y4 y5 y6 y7 y8 y9 m', I y0 y1 y2 y3 y4 y5 y6 y7 y8 y9 m' → mu y0 y1 y2 y3 y4 y5 y6 y7 y8 y9 m' < mu x0 x1 x2 x3 x4 x5 x6 x7 x8 x9 m → xH (r y0 y1 y2 y3 y4 y5 y6 y7 y8 y9 m') Q X) → xH (F r x0 x1 x2 x3 x4 x5 x6 x7 x8 x9 m) Q X) : ∀ n x0 x1 x2 x3 x4 x5 x6 x7 x8 x9 m, I x0 x1 x2 x3 x4 x5 x6 x7 x8 x9 m → mu x0 x1 x2 x3 x4 x5 x6 x7 x8 x9 m < n → xH (xl10 F n x0 x1 x2 x3 x4 x5 x6 x7 x8 x9 m) Q X := by
  intro n
  induction n with
  | zero => intro x0 x1 x2 x3 x4 x5 x6 x7 x8 x9 m _ hm; omega
  | succ n ih => exact fun x0 x1 x2 x3 x4 x5 x6 x7 x8 x9 m hi hm => h _ x0 x1 x2 x3 x4 x5 x6 x7 x8 x9 m hi (fun y0 y1 y2 y3 y4 y5 y6 y7 y8 y9 m' hi' hm' => ih y0 y1 y2 y3 y4 y5 y6 y7 y8 y9 m' hi' (by omega))
def xl11 (F : (Int → Int → Int → Int → Int → Int → Int → Int → Int → Int → Int → xw_M → xP) → Int → Int → Int → Int → Int → Int → Int → Int → Int → Int → Int → xw_M → xP) : Nat → Int → Int → Int → Int → Int → Int → Int → Int → Int → Int → Int → xw_M → xP
  | 0 => fun _ _ _ _ _ _ _ _ _ _ _ _ => none
  | n + 1 => F (xl11 F n)
theorem xl11_rule {F : (Int → Int → Int → Int → Int → Int → Int → Int → Int → Int → Int → xw_M → xP) → Int → Int → Int → Int → Int → Int → Int → Int → Int → Int → Int → xw_M → xP} {Q : Int → xw_M → Prop} {X : Nat → xw_M → Prop} (I : Int → Int → Int → Int → Int → Int → Int → Int → Int → Int → Int → xw_M → Prop) (mu : Int → Int → Int → Int → Int → Int → Int → Int → Int → Int → Int → xw_M → Nat) (h : ∀ r x0 x1 x2 x3 x4 x5 x6 x7 x8 x9 x10 m, I x0 x1 x2 x3 x4 x5 x6 x7 x8 x9 x10 m → (∀ y0 y1 y2 y3 y4 y5 y6 y7 y8 y9 y10 m', I y0 y1 y2 y3 y4 y5 y6 y7 y8 y9 y10 m' → mu y0 y1 y2 y3 y4 y5 y6 y7 y8 y9 y10 m' < mu x0 x1 x2 x3 x4 x5 x6 x7 x8 x9 x10 m → xH (r y0 y1 y2 y3 y4 y5 y6 y7 y8 y9 y10 m') Q X) → xH (F r x0 x1 x2 x3 x4 x5 x6 x7 x8 x9 x10 m) Q X) : ∀ n x0 x1 x2 x3 x4 x5 x6 x7 x8 x9 x10 m, I x0 x1 x2 x3 x4 x5 x6 x7 x8 x9 x10 m → mu x0 x1 x2 x3 x4 x5 x6 x7 x8 x9 x10 m < n → xH (xl11 F n x0 x1 x2 x3 x4 x5 x6 x7 x8 x9 x10 m) Q X := by
  intro n
  induction n with
  | zero => intro x0 x1 x2 x3 x4 x5 x6 x7 x8 x9 x10 m _ hm; omega
  | succ n ih => exact fun x0 x1 x2 x3 x4 x5 x6 x7 x8 x9 x10 m hi hm => h _ x0 x1 x2 x3 x4 x5 x6 x7 x8 x9 x10 m hi (fun y0 y1 y2 y3 y4 y5 y6 y7 y8 y9 y10 m' hi' hm' => ih y0 y1 y2 y3 y4 y5 y6 y7 y8 y9 y10 m' hi' (by omega))
def xl12 (F : (Int → Int → Int → Int → Int → Int → Int → Int → Int → Int → Int → Int → xw_M → xP) → Int → Int → Int → Int → Int → Int → Int → Int → Int → Int → Int → Int → xw_M → xP) : Nat → Int → Int → Int → Int → Int → Int → Int → Int → Int → Int → Int → Int → xw_M → xP
  | 0 => fun _ _ _ _ _ _ _ _ _ _ _ _ _ => none
  | n + 1 => F (xl12 F n)
theorem xl12_rule {F : (Int → Int → Int → Int → Int → Int → Int → Int → Int → Int → Int → Int → xw_M → xP) → Int → Int → Int → Int → Int → Int → Int → Int → Int → Int → Int → Int → xw_M → xP} {Q : Int → xw_M → Prop} {X : Nat → xw_M → Prop} (I : Int → Int → Int → Int → Int → Int → Int → Int → Int → Int → Int → Int → xw_M → Prop) (mu : Int → Int → Int → Int → Int → Int → Int → Int → Int → Int → Int → Int → xw_M → Nat) (h : ∀ r x0 x1 x2 x3 x4 x5 x6 x7 x8 x9 x10 x11 m, I x0 x1 x2 x3 x4 x5 x6 x7 x8 x9 x10 x11 m → (∀ y0 y1 y2 y3 y4 y5 y6 y7 y8 y9 y10 y11 m', I y0 y1 y2 y3 y4 y5 y6 y7 y8 y9 y10 y11 m' → mu y0 y1 y2 y3 y4 y5 y6 y7 y8 y9 y10 y11 m' < mu x0 x1 x2 x3 x4 x5 x6 x7 x8 x9 x10 x11 m → xH (r y0 y1 y2 y3 y4 y5 y6 y7 y8 y9 y10 y11 m') Q X) → xH (F r x0 x1 x2 x3 x4 x5 x6 x7 x8 x9 x10 x11 m) Q X) : ∀ n x0 x1 x2 x3 x4 x5 x6 x7 x8 x9 x10 x11 m, I x0 x1 x2 x3 x4 x5 x6 x7 x8 x9 x10 x11 m → mu x0 x1 x2 x3 x4 x5 x6 x7 x8 x9 x10 x11 m < n → xH (xl12 F n x0 x1 x2 x3 x4 x5 x6 x7 x8 x9 x10 x11 m) Q X := by
  intro n
  induction n with
  | zero => intro x0 x1 x2 x3 x4 x5 x6 x7 x8 x9 x10 x11 m _ hm; omega
  | succ n ih => exact fun x0 x1 x2 x3 x4 x5 x6 x7 x8 x9 x10 x11 m hi hm => h _ x0 x1 x2 x3 x4 x5 x6 x7 x8 x9 x10 x11 m hi (fun y0 y1 y2 y3 y4 y5 y6 y7 y8 y9 y10 y11 m' hi' hm' => ih y0 y1 y2 y3 y4 y5 y6 y7 y8 y9 y10 y11 m' hi' (by omega))
def xl13 (F : (Int → Int → Int → Int → Int → Int → Int → Int → Int → Int → Int → Int → Int → xw_M → xP) → Int → Int → Int → Int → Int → Int → Int → Int → Int → Int → Int → Int → Int → xw_M → xP) : Nat → Int → Int → Int → Int → Int → Int → Int → Int → Int → Int → Int → Int → Int → xw_M → xP
  | 0 => fun _ _ _ _ _ _ _ _ _ _ _ _ _ _ => none
  | n + 1 => F (xl13 F n)
theorem xl13_rule {F : (Int → Int → Int → Int → Int → Int → Int → Int → Int → Int → Int → Int → Int → xw_M → xP) → Int → Int → Int → Int → Int → Int → Int → Int → Int → Int → Int → Int → Int → xw_M → xP} {Q : Int → xw_M → Prop} {X : Nat → xw_M → Prop} (I : Int → Int → Int → Int → Int → Int → Int → Int → Int → Int → Int → Int → Int → xw_M → Prop) (mu : Int → Int → Int → Int → Int → Int → Int → Int → Int → Int → Int → Int → Int → xw_M → Nat) (h : ∀ r x0 x1 x2 x3 x4 x5 x6 x7 x8 x9 x10 x11 x12 m, I x0 x1 x2 x3 x4 x5 x6 x7 x8 x9 x10 x11 x12 m → (∀ y0 y1 y2 y3 y4 y5 y6 y7 y8 y9 y10 y11 y12 m', I y0 y1 y2 y3 y4 y5 y6 y7 y8 y9 y10 y11 y12 m' → mu y0 y1 y2 y3 y4 y5 y6 y7 y8 y9 y10 y11 y12 m' < mu x0 x1 x2 x3 x4 x5 x6 x7 x8 x9 x10 x11 x12 m → xH (r y0 y1 y2 y3 y4 y5 y6 y7 y8 y9 y10 y11 y12 m') Q X) → xH (F r x0 x1 x2 x3 x4 x5 x6 x7 x8 x9 x10 x11 x12 m) Q X) : ∀ n x0 x1 x2 x3 x4 x5 x6 x7 x8 x9 x10 x11 x12 m, I x0 x1 x2 x3 x4 x5 x6 x7 x8 x9 x10 x11 x12 m → mu x0 x1 x2 x3 x4 x5 x6 x7 x8 x9 x10 x11 x12 m < n → xH (xl13 F n x0 x1 x2 x3 x4 x5 x6 x7 x8 x9 x10 x11 x12 m) Q X := by
  intro n
  induction n with
  | zero => intro x0 x1 x2 x3 x4 x5 x6 x7 x8 x9 x10 x11 x12 m _ hm; omega
  | succ n ih => exact fun x0 x1 x2 x3 x4 x5 x6 x7 x8 x9 x10 x11 x12 m hi hm => h _ x0 x1 x2 x3 x4 x5 x6 x7 x8 x9 x10 x11 x12 m hi (fun y0 y1 y2 y3 y4 y5 y6 y7 y8 y9 y10 y11 y12 m' hi' hm' => ih y0 y1 y2 y3 y4 y5 y6 y7 y8 y9 y10 y11 y12 m' hi' (by omega))


