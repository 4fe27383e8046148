/-! operations on numbers; ends of methods; calls -/
theorem xw_iande (x y : Int) : (fun x y => x &&& y : Int32 → Int32 → Int32) (Int32.ofInt x) (Int32.ofInt y) = Int32.ofInt (xw_iandf x y) := (Int32.ofInt_toInt _).symm
theorem xw_iore (x y : Int) : (fun x y => x ||| y : Int32 → Int32 → Int32) (Int32.ofInt x) (Int32.ofInt y) = Int32.ofInt (xw_iorf x y) := (Int32.ofInt_toInt _).symm
theorem xw_ixore (x y : Int) : (fun x y => x ^^^ y : Int32 → Int32 → Int32) (Int32.ofInt x) (Int32.ofInt y) = Int32.ofInt (xw_ixorf x y) := (Int32.ofInt_toInt _).symm
theorem xw_ishle (x y : Int) : (fun x y => x <<< (y &&& 31) : Int32 → Int32 → Int32) (Int32.ofInt x) (Int32.ofInt y) = Int32.ofInt (xw_ishlf x y) := (Int32.ofInt_toInt _).symm
theorem xw_ishre (x y : Int) : (fun x y => x >>> (y &&& 31) : Int32 → Int32 → Int32) (Int32.ofInt x) (Int32.ofInt y) = Int32.ofInt (xw_ishrf x y) := (Int32.ofInt_toInt _).symm
theorem xw_iushre (x y : Int) : (fun x y => (x.toUInt32 >>> (y.toUInt32 &&& Int32.toUInt32 31)).toInt32 : Int32 → Int32 → Int32) (Int32.ofInt x) (Int32.ofInt y) = Int32.ofInt (xw_iushrf x y) := (Int32.ofInt_toInt _).symm
theorem xw_lande (x y : Int) : (fun x y => x &&& y : Int64 → Int64 → Int64) (Int64.ofInt x) (Int64.ofInt y) = Int64.ofInt (xw_landf x y) := (Int64.ofInt_toInt _).symm
theorem xw_lore (x y : Int) : (fun x y => x ||| y : Int64 → Int64 → Int64) (Int64.ofInt x) (Int64.ofInt y) = Int64.ofInt (xw_lorf x y) := (Int64.ofInt_toInt _).symm
theorem xw_lxore (x y : Int) : (fun x y => x ^^^ y : Int64 → Int64 → Int64) (Int64.ofInt x) (Int64.ofInt y) = Int64.ofInt (xw_lxorf x y) := (Int64.ofInt_toInt _).symm
theorem xw_lshle (x y : Int) : (fun x y => x <<< (y.toInt64 &&& 63) : Int64 → Int32 → Int64) (Int64.ofInt x) (Int32.ofInt y) = Int64.ofInt (xw_lshlf x y) := (Int64.ofInt_toInt _).symm
theorem xw_lshre (x y : Int) : (fun x y => x >>> (y.toInt64 &&& 63) : Int64 → Int32 → Int64) (Int64.ofInt x) (Int32.ofInt y) = Int64.ofInt (xw_lshrf x y) := (Int64.ofInt_toInt _).symm
theorem xw_lushre (x y : Int) : (fun x y => (x.toUInt64 >>> (y.toInt64.toUInt64 &&& Int64.toUInt64 63)).toInt64 : Int64 → Int32 → Int64) (Int64.ofInt x) (Int32.ofInt y) = Int64.ofInt (xw_lushrf x y) := (Int64.ofInt_toInt _).symm
theorem xw_i2ce (x : Int) : ((Int32.ofInt x).toUInt32 % 65536).toInt32 = Int32.ofInt (xw_i2cf x) := (Int32.ofInt_toInt _).symm
theorem xw_idn {y : Int} (hy : 0 < y ∧ y < 2147483648) : ¬ Int32.ofInt y = 0 := by
  intro e
  have := congrArg Int32.toInt e
  rw [xw_ti ⟨by omega, hy.2⟩] at this
  have h0 : (0 : Int32).toInt = 0 := rfl
  omega
theorem xw_idv {x y : Int} (hx : 0 ≤ x ∧ x < 2147483648) (hy : 0 < y ∧ y < 2147483648) : Int32.ofInt x / Int32.ofInt y = Int32.ofInt (x / y) := by
  have hx1 : (Int32.ofInt x).toInt = x := xw_ti ⟨by omega, hx.2⟩
  have hy1 : (Int32.ofInt y).toInt = y := xw_ti ⟨by omega, hy.2⟩
  have hq0 : 0 ≤ x / y := Int.ediv_nonneg hx.1 (by omega)
  have hq1 : x / y ≤ x := Int.ediv_le_self y hx.1
  apply Int32.toInt_inj.mp
  rw [Int32.toInt_div_of_ne_right _ _ (fun e => by
    have := congrArg Int32.toInt e
    rw [hy1] at this
    have h0 : (-1 : Int32).toInt = -1 := rfl
    omega), hx1, hy1, xw_ti ⟨by omega, by omega⟩, Int.tdiv_eq_ediv_of_nonneg hx.1]
theorem xw_irm {x y : Int} (hx : 0 ≤ x ∧ x < 2147483648) (hy : 0 < y ∧ y < 2147483648) : Int32.ofInt x - Int32.ofInt x / Int32.ofInt y * Int32.ofInt y = Int32.ofInt (x % y) := by
  rw [xw_idv hx hy, ← Int32.ofInt_mul, ← Int32.ofInt_sub, Int.emod_def, Int.mul_comm]
theorem xw_ldn {y : Int} (hy : 0 < y ∧ y < 9223372036854775808) : ¬ Int64.ofInt y = 0 := by
  intro e
  have := congrArg Int64.toInt e
  rw [xw_tj ⟨by omega, hy.2⟩] at this
  have h0 : (0 : Int64).toInt = 0 := rfl
  omega
theorem xw_ldv {x y : Int} (hx : 0 ≤ x ∧ x < 9223372036854775808) (hy : 0 < y ∧ y < 9223372036854775808) : Int64.ofInt x / Int64.ofInt y = Int64.ofInt (x / y) := by
  have hx1 : (Int64.ofInt x).toInt = x := xw_tj ⟨by omega, hx.2⟩
  have hy1 : (Int64.ofInt y).toInt = y := xw_tj ⟨by omega, hy.2⟩
  have hq0 : 0 ≤ x / y := Int.ediv_nonneg hx.1 (by omega)
  have hq1 : x / y ≤ x := Int.ediv_le_self y hx.1
  apply Int64.toInt_inj.mp
  rw [Int64.toInt_div_of_ne_right _ _ (fun e => by
    have := congrArg Int64.toInt e
    rw [hy1] at this
    have h0 : (-1 : Int64).toInt = -1 := rfl
    omega), hx1, hy1, xw_tj ⟨by omega, by omega⟩, Int.tdiv_eq_ediv_of_nonneg hx.1]
theorem xw_lrm {x y : Int} (hx : 0 ≤ x ∧ x < 9223372036854775808) (hy : 0 < y ∧ y < 9223372036854775808) : Int64.ofInt x - Int64.ofInt x / Int64.ofInt y * Int64.ofInt y = Int64.ofInt (x % y) := by
  rw [xw_ldv hx hy, ← Int64.ofInt_mul, ← Int64.ofInt_sub, Int.emod_def, Int.mul_comm]
theorem xw_idivn {y : Int} (hy : 0 < y ∧ y < 2147483648) : ¬ Int32.ofInt y = 0 := xw_idn hy
theorem xw_iremn {y : Int} (hy : 0 < y ∧ y < 2147483648) : ¬ Int32.ofInt y = 0 := xw_idn hy
theorem xw_lremn {y : Int} (hy : 0 < y ∧ y < 9223372036854775808) : ¬ Int64.ofInt y = 0 := xw_ldn hy
theorem xw_idive {x y : Int} (hx : 0 ≤ x ∧ x < 2147483648) (hy : 0 < y ∧ y < 2147483648) : (fun x y => x / y : Int32 → Int32 → Int32) (Int32.ofInt x) (Int32.ofInt y) = Int32.ofInt (x / y) := xw_idv hx hy
theorem xw_ireme {x y : Int} (hx : 0 ≤ x ∧ x < 2147483648) (hy : 0 < y ∧ y < 2147483648) : (fun x y => x - x / y * y : Int32 → Int32 → Int32) (Int32.ofInt x) (Int32.ofInt y) = Int32.ofInt (x % y) := xw_irm hx hy
theorem xw_lreme {x y : Int} (hx : 0 ≤ x ∧ x < 9223372036854775808) (hy : 0 < y ∧ y < 9223372036854775808) : (fun x y => x - x / y * y : Int64 → Int64 → Int64) (Int64.ofInt x) (Int64.ofInt y) = Int64.ofInt (x % y) := xw_lrm hx hy
theorem xw_rtZ {v : Int} (h : v = 0 ∨ v = 1) : xm_rt (some .boolean) .ireturn [xi v] = some (some (xi v)) := by
  rcases h with rfl | rfl <;> rfl
theorem xw_swd {v dd lo hi : Int} {offs : Array Int} {pc t : Nat} (h : xw_rg v) (h2 : v < lo ∨ hi < v) (ht : (if 0 ≤ (pc : Int) + dd then some ((pc : Int) + dd).toNat else none) = some t) : xm_sw dd lo hi offs (pc, [], [xi v], [], 0) = some (.inl (t, [], [], [], 0)) := by
  unfold xm_sw xm_go
  dsimp only
  rw [if_pos (by rw [xw_ti h]; exact h2)]
  split at ht
  · next h3 =>
    rw [if_pos h3]
    cases ht
    rfl
  · cases ht
theorem xw_okZ {xs : Nat → Int32} {SL t q : Nat} {v : Int} (hft : xq_ft t q = .boolean) (h : v = 0 ∨ v = 1) : (xm_gg xs SL).2.1 t q (xi v) = true := by
  show xm_okv t q (xi v) = true
  unfold xm_okv
  rw [xq_fte, hft]
  rcases h with rfl | rfl <;> rfl
theorem xw_okI {xs : Nat → Int32} {SL t q : Nat} {v : Int} (hft : xq_ft t q = .int) : (xm_gg xs SL).2.1 t q (xi v) = true := by
  show xm_okv t q (xi v) = true
  unfold xm_okv
  rw [xq_fte, hft, decide_eq_true (show narrow .int (xi v) = xi v from rfl)]
  rfl
theorem xw_okJ {xs : Nat → Int32} {SL t q : Nat} {v : Int} (hft : xq_ft t q = .long) : (xm_gg xs SL).2.1 t q (xj v) = true := by
  show xm_okv t q (xj v) = true
  unfold xm_okv
  rw [xq_fte, hft, decide_eq_true (show narrow .long (xj v) = xj v from rfl)]
  rfl
theorem xw_okM {xs : Nat → Int32} {SL t q : Nat} {v : Int} {ty : FieldType} (hft : xq_ft t q = ty) (h1 : narrow ty (xa v) = xa v) (h2 : fits ty (xa v) = true) : (xm_gg xs SL).2.1 t q (xa v) = true := by
  show xm_okv t q (xa v) = true
  unfold xm_okv
  rw [xq_fte, hft, decide_eq_true h1]
  exact h2
theorem xw_rtI {v : Int} : xm_rt (some .int) .ireturn [xi v] = some (some (xi v)) := if_pos rfl
theorem xw_rfn {a i : Int} (h : 5 ≤ xw_kd a i) : (xw_rf a i).toNat = xw_kd a i - 5 := by
  unfold xw_rf
  omega
theorem xw_he (B : Nat) (m : xw_M) (ex c : xm_H) : xw_h B m ex ++ c = xw_h B m (ex ++ c) := by
  unfold xw_h
  exact List.append_assoc _ _ _
section XC
variable {B : Nat} {G : xm_G} {P : xm_P} {d j pc : Nat} {M M' : xm_M} {L L' : xm_L} {st : List Value} {m m' : xw_M} {ex : xm_H} {ns : Nat} {r : xw_R} {E : xm_E} {v : Option Value}
theorem xw_thr (hE : P.1 j pc = some E) (hk : xm_kind E = 3) (hM : M.2.2.1 = []) (hc : 606 + ex.length ≤ xm_cm) (hs : ns + 6 ≤ xm_sm) : xw B G P d j M pc L [] m ex ns (.inr (605 + ex.length), xw_h B m (ex ++ [(E.2.2.1, List.replicate 6 .null)]), ns + 6) := by
  intro loc hl
  have h := xr_thr (G := G) (P := P) (d := d) (j := j) (M := M) (S := (pc, loc, [], xw_h B m ex, ns)) hE hk ⟨hM, rfl, by show (xw_h B m ex).length + 1 ≤ xm_cm; rw [xw_hl]; omega, hs⟩
  have e : (xw_h B m ex).length = 605 + ex.length := xw_hl B m ex
  rw [← xw_he, ← e]
  exact h
/-- a method's contract: it returns v and leaves the memory m' -/
def xwR (B : Nat) (G : xm_G) (P : xm_P) (d j : Nat) (M : xm_M) (as : List Value) (m : xw_M) (v : Option Value) (m' : xw_M) : Prop := ∀ ex ns, xr G P d j M (0, xm_args 0 as, [], xw_h B m ex, ns) (.inl v, xw_h B m' ex, ns)
/-- it throws the exception t -/
def xwX (B : Nat) (G : xm_G) (P : xm_P) (d j : Nat) (M : xm_M) (as : List Value) (m : xw_M) (t : Nat) (m' : xw_M) : Prop := ∀ ex ns, 606 + ex.length ≤ xm_cm → ns + 6 ≤ xm_sm → xr G P d j M (0, xm_args 0 as, [], xw_h B m ex, ns) (.inr (605 + ex.length), xw_h B m' (ex ++ [(t, List.replicate 6 .null)]), ns + 6)
def xw_cat (l : List Value) : Nat := (l.map (fun v => v.category)).sum
theorem xw_rcv0 {as : List Value} {h : xm_H} {n : Nat} (hs : Nat.ble (xw_cat as) n = true) : xm_rcv n 0 as h = true := by
  unfold xm_rcv
  rw [decide_eq_true (show (as.map (fun v => v.category)).sum ≤ n from Nat.le_of_ble_eq_true hs)]
  rfl
theorem xw_rcv1 {as : List Value} {a : Int} {n t : Nat} (ho : xw_ob t a) (hs : Nat.ble (xw_cat (xa a :: as)) n = true) : xm_rcv n (t + 1) (xa a :: as) (xw_h B m ex) = true := by
  unfold xm_rcv
  rw [decide_eq_true (show ((xa a :: as).map (fun v => v.category)).sum ≤ n from Nat.le_of_ble_eq_true hs), if_neg (by omega)]
  dsimp only
  rw [xw_get (a := a.toNat) (by have := ho.1; have := ho.2.1; omega)]
  show (true && ((xw_ly a.toNat).1 + 1 == t + 1)) = true
  rw [show (xw_ly a.toNat).1 = t from ho.2.2]
  simp
theorem xw_call {q n : Nat} {as st1 : List Value} (hE : P.1 j pc = some E) (hk : xm_kind E = 2) (hq : E.2.2.1 = q) (hn : E.2.2.2 = n) (hl : Nat.ble n st.length = true) (hs : Nat.ble (xw_cat (st.drop n)) 8 = true) (hlt : Nat.blt q 1000 = true) (hM : P.2.1 q = some M') (has : (st.take n).reverse = as) (hst : st.drop n = st1) (hr : ∀ ex, xm_rcv M'.1 M'.2.2.2 as (xw_h B m ex) = true)
    (h : xwR B G P d q M' as m v m') (k : xw B G P (d + 1) j M (pc + 3) L (v.toList ++ st1) m' ex ns r) : xw B G P (d + 1) j M pc L st m ex ns r := by
  subst hq hn has hst
  intro loc hlo
  exact xr_call hE hk ⟨Nat.le_of_ble_eq_true hl, Nat.le_of_ble_eq_true hs⟩ (by have := Nat.le_of_ble_eq_true hlt; omega) hM (hr ex) (h ex ns) (k loc hlo)
theorem xw_callT {q n t : Nat} {as : List Value} (hE : P.1 j pc = some E) (hk : xm_kind E = 2) (hq : E.2.2.1 = q) (hn : E.2.2.2 = n) (hl : Nat.ble n st.length = true) (hs : Nat.ble (xw_cat (st.drop n)) 8 = true) (hlt : Nat.blt q 1000 = true) (hM : P.2.1 q = some M') (has : (st.take n).reverse = as) (hr : ∀ ex, xm_rcv M'.1 M'.2.2.2 as (xw_h B m ex) = true)
    (hno : M.2.2.1 = []) (hc : 606 + ex.length ≤ xm_cm) (hsl : ns + 6 ≤ xm_sm) (h : xwX B G P d q M' as m t m') : xw B G P (d + 1) j M pc L st m ex ns (.inr (605 + ex.length), xw_h B m' (ex ++ [(t, List.replicate 6 .null)]), ns + 6) := by
  subst hq hn has
  intro loc hlo
  exact xr_callT (t := t) (vs := List.replicate 6 .null) hE hk ⟨Nat.le_of_ble_eq_true hl, Nat.le_of_ble_eq_true hs⟩ (by have := Nat.le_of_ble_eq_true hlt; omega) hM (hr ex) (h ex ns hc hsl) (by rw [← xw_he, ← xw_hl B m' ex, List.getElem?_append_right (Nat.le_refl _), Nat.sub_self]; rfl) hno
theorem xw_callC {q n t p : Nat} {as : List Value} (hE : P.1 j pc = some E) (hk : xm_kind E = 2) (hq : E.2.2.1 = q) (hn : E.2.2.2 = n) (hl : Nat.ble n st.length = true) (hs : Nat.ble (xw_cat (st.drop n)) 8 = true) (hlt : Nat.blt q 1000 = true) (hM : P.2.1 q = some M') (has : (st.take n).reverse = as) (hr : ∀ ex, xm_rcv M'.1 M'.2.2.2 as (xw_h B m ex) = true)
    (hne : M.2.2.1 ≠ []) (hp : xm_hd pc t M.2.2.1 = some p) (hc : 606 + ex.length ≤ xm_cm) (hsl : ns + 6 ≤ xm_sm) (h : xwX B G P d q M' as m t m') (k : xw B G P (d + 1) j M p L [.ref (605 + ex.length)] m' (ex ++ [(t, List.replicate 6 .null)]) (ns + 6) r) : xw B G P (d + 1) j M pc L st m ex ns r := by
  subst hq hn has
  intro loc hlo
  exact xr_callC (t := t) (vs := List.replicate 6 .null) hE hk ⟨Nat.le_of_ble_eq_true hl, Nat.le_of_ble_eq_true hs⟩ (by have := Nat.le_of_ble_eq_true hlt; omega) hM (hr ex) (h ex ns hc hsl) (by rw [← xw_he, ← xw_hl B m' ex, List.getElem?_append_right (Nat.le_refl _), Nat.sub_self]; rfl) hne hp (k loc hlo)
/-- Math.max, Math.min -/
theorem xw_nt {q n : Nat} {as st1 : List Value} (hE : P.1 j pc = some E) (hk : xm_kind E = 2) (hq : E.2.2.1 = q) (hn : E.2.2.2 = n) (hl : Nat.ble n st.length = true) (hs : Nat.ble (xw_cat (st.drop n)) 8 = true) (hge : Nat.ble 1000 q = true) (has : (st.take n).reverse = as) (hst : st.drop n = st1) (h : P.2.2 q as (xw_h B m ex) = some (v, xw_h B m' ex)) (k : xw B G P d j M (pc + 3) L (v.toList ++ st1) m' ex ns r) : xw B G P d j M pc L st m ex ns r := by
  subst hq hn has hst
  intro loc hlo
  exact xr_nat hE hk ⟨Nat.le_of_ble_eq_true hl, Nat.le_of_ble_eq_true hs⟩ (Nat.le_of_ble_eq_true hge) h (k loc hlo)
theorem xw_maxI {i c1 : Nat} {x y : Int} (hE : P.1 j pc = some (.invokestatic i, c1, 1001, 2)) (hP : P.2.2 = xm_nat) (hx : xw_rg x) (hy : xw_rg y) (hs : Nat.ble (xw_cat st) 8 = true) (k : xw B G P d j M (pc + 3) L (xi (max x y) :: st) m ex ns r) : xw B G P d j M pc L (xi y :: xi x :: st) m ex ns r :=
  xw_nt (v := some (xi (max x y))) (st1 := st) hE rfl rfl rfl rfl hs rfl rfl rfl (by rw [hP]; show some (some (Value.int (if Int32.ofInt x < Int32.ofInt y then Int32.ofInt y else Int32.ofInt x)), _) = _; rw [show (if Int32.ofInt x < Int32.ofInt y then Int32.ofInt y else Int32.ofInt x) = Int32.ofInt (max x y) from by
    by_cases h : x < y
    · rw [if_pos ((xw_lt hx hy).mpr h), Int.max_eq_right (by omega)]
    · rw [if_neg (fun e => h ((xw_lt hx hy).mp e)), Int.max_eq_left (by omega)]]) k
theorem xw_minI {i c1 : Nat} {x y : Int} (hE : P.1 j pc = some (.invokestatic i, c1, 1002, 2)) (hP : P.2.2 = xm_nat) (hx : xw_rg x) (hy : xw_rg y) (hs : Nat.ble (xw_cat st) 8 = true) (k : xw B G P d j M (pc + 3) L (xi (min x y) :: st) m ex ns r) : xw B G P d j M pc L (xi y :: xi x :: st) m ex ns r :=
  xw_nt (v := some (xi (min x y))) (st1 := st) hE rfl rfl rfl rfl hs rfl rfl rfl (by rw [hP]; show some (some (Value.int (if Int32.ofInt y < Int32.ofInt x then Int32.ofInt y else Int32.ofInt x)), _) = _; rw [show (if Int32.ofInt y < Int32.ofInt x then Int32.ofInt y else Int32.ofInt x) = Int32.ofInt (min x y) from by
    by_cases h : y < x
    · rw [if_pos ((xw_lt hy hx).mpr h), Int.min_eq_right (by omega)]
    · rw [if_neg (fun e => h ((xw_lt hy hx).mp e)), Int.min_eq_left (by omega)]]) k
theorem xw_ltJ {x y : Int} (hx : xw_rJ x) (hy : xw_rJ y) : (Int64.ofInt x < Int64.ofInt y) ↔ x < y := by
  rw [Int64.lt_iff_toInt_lt, xw_tj hx, xw_tj hy]
theorem xw_maxJ {i c1 : Nat} {x y : Int} (hE : P.1 j pc = some (.invokestatic i, c1, 1003, 2)) (hP : P.2.2 = xm_nat) (hx : xw_rJ x) (hy : xw_rJ y) (hs : Nat.ble (xw_cat st) 8 = true) (k : xw B G P d j M (pc + 3) L (xj (max x y) :: st) m ex ns r) : xw B G P d j M pc L (xj y :: xj x :: st) m ex ns r :=
  xw_nt (v := some (xj (max x y))) (st1 := st) hE rfl rfl rfl rfl hs rfl rfl rfl (by rw [hP]; show some (some (Value.long (if Int64.ofInt y < Int64.ofInt x then Int64.ofInt x else Int64.ofInt y)), _) = _; rw [show (if Int64.ofInt y < Int64.ofInt x then Int64.ofInt x else Int64.ofInt y) = Int64.ofInt (max x y) from by
    by_cases h : y < x
    · rw [if_pos ((xw_ltJ hy hx).mpr h), Int.max_eq_left (by omega)]
    · rw [if_neg (fun e => h ((xw_ltJ hy hx).mp e)), Int.max_eq_right (by omega)]]) k
theorem xw_minJ {i c1 : Nat} {x y : Int} (hE : P.1 j pc = some (.invokestatic i, c1, 1004, 2)) (hP : P.2.2 = xm_nat) (hx : xw_rJ x) (hy : xw_rJ y) (hs : Nat.ble (xw_cat st) 8 = true) (k : xw B G P d j M (pc + 3) L (xj (min x y) :: st) m ex ns r) : xw B G P d j M pc L (xj y :: xj x :: st) m ex ns r :=
  xw_nt (v := some (xj (min x y))) (st1 := st) hE rfl rfl rfl rfl hs rfl rfl rfl (by rw [hP]; show some (some (Value.long (if Int64.ofInt y < Int64.ofInt x then Int64.ofInt y else Int64.ofInt x)), _) = _; rw [show (if Int64.ofInt y < Int64.ofInt x then Int64.ofInt y else Int64.ofInt x) = Int64.ofInt (min x y) from by
    by_cases h : y < x
    · rw [if_pos ((xw_ltJ hy hx).mpr h), Int.min_eq_right (by omega)]
    · rw [if_neg (fun e => h ((xw_ltJ hy hx).mp e)), Int.min_eq_left (by omega)]]) k
/-- into a method -/
theorem xw_into {as : List Value} (h : ∀ ex ns, xw B G P d j M 0 (xm_args 0 as) [] m ex ns (.inl v, xw_h B m' ex, ns)) (hu : xw_has (xm_args 0 as) (xm_args 0 as)) : xwR B G P d j M as m v m' := fun ex ns => h ex ns _ hu
theorem xw_intoX {as : List Value} {t : Nat} (h : ∀ ex ns, 606 + ex.length ≤ xm_cm → ns + 6 ≤ xm_sm → xw B G P d j M 0 (xm_args 0 as) [] m ex ns (.inr (605 + ex.length), xw_h B m' (ex ++ [(t, List.replicate 6 .null)]), ns + 6)) (hu : xw_has (xm_args 0 as) (xm_args 0 as)) : xwX B G P d j M as m t m' := fun ex ns hc hs => h ex ns hc hs _ hu
end XC
