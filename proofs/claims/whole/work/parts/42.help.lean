/-! help for the rules -/
/-- in every cell of the class t the place q is of the kind kd -/
def xw_ck (t q kd : Nat) : Bool := (List.range 605).all (fun a => !(Nat.beq (xw_ly a).1 t) || (Nat.blt q (xw_ly a).2.1 && Nat.beq (xw_kof (xw_ly a) q) kd))
def xw_cr (t q : Nat) : Bool := (List.range 605).all (fun a => !(Nat.beq (xw_ly a).1 t) || (Nat.blt q (xw_ly a).2.1 && Nat.ble 5 (xw_kof (xw_ly a) q)))
theorem xw_ckok {t q kd : Nat} (h : xw_ck t q kd = true) {a : Int} (ho : xw_ob t a) : q < (xw_ly a.toNat).2.1 ∧ xw_kd a q = kd := by
  have := List.all_eq_true.mp h a.toNat (List.mem_range.mpr (by have := ho.1; have := ho.2.1; omega))
  rw [show (xw_ly a.toNat).1 = t from ho.2.2] at this
  simp only [Nat.beq_refl, Bool.not_true, Bool.false_or, Bool.and_eq_true] at this
  exact ⟨Nat.le_of_ble_eq_true this.1, Nat.eq_of_beq_eq_true this.2⟩
theorem xw_crok {t q : Nat} (h : xw_cr t q = true) {a : Int} (ho : xw_ob t a) : q < (xw_ly a.toNat).2.1 ∧ 5 ≤ xw_kd a q := by
  have := List.all_eq_true.mp h a.toNat (List.mem_range.mpr (by have := ho.1; have := ho.2.1; omega))
  rw [show (xw_ly a.toNat).1 = t from ho.2.2] at this
  simp only [Nat.beq_refl, Bool.not_true, Bool.false_or, Bool.and_eq_true] at this
  exact ⟨Nat.le_of_ble_eq_true this.1, Nat.le_of_ble_eq_true this.2⟩
theorem xw_lq {B a q : Nat} (h : q < (xw_ly a).2.1) : q < xw_ln B a := Nat.lt_of_lt_of_le h (Nat.le_add_right _ _)
theorem xw_lnb {B : Nat} (hB : B ≤ 512) (a : Nat) (ha : a < 605) : xw_ln B a ≤ 1000000 := by
  have h : (List.range 605).all (fun a => Nat.ble (xw_ly a).2.1 160000) = true := by decide +kernel
  have h1 := Nat.le_of_ble_eq_true (List.all_eq_true.mp h a (List.mem_range.mpr ha))
  unfold xw_ln
  cases (Nat.beq a 516 || Nat.beq a 517)
  · show _ + 0 ≤ _
    omega
  · show _ + B * 512 ≤ _
    omega
/-- the cell that a place that never changes has -/
theorem xw_eil {x : Int} (h : xw_rg x) : (Int32.ofInt x).toInt64 = Int64.ofInt x := by
  apply Int64.toInt_inj.mp
  rw [Int32.toInt_toInt64, xw_ti h, xw_tj ⟨by have := h.1; omega, by have := h.2; omega⟩]
theorem xw_eib (x : Int) : (Int32.ofInt x).toInt8.toInt32 = Int32.ofInt (x.bmod 256) := by
  rw [Int32.toInt8_ofInt]
  apply Int32.toInt_inj.mp
  have h1 : -128 ≤ x.bmod 256 := Int.le_bmod (by decide)
  have h2 : x.bmod 256 < 128 := Int.bmod_lt (by decide)
  rw [Int8.toInt_toInt32, Int8.toInt_ofInt, xw_ti ⟨by omega, by omega⟩]
def xw_cm (x y : Int) : Int := if x < y then -1 else if x = y then 0 else 1
theorem xw_cmr (x y : Int) : xw_rg (xw_cm x y) := by
  unfold xw_cm xw_rg
  split
  · omega
  · split <;> omega
theorem xw_cme {x y : Int} (hx : xw_rJ x) (hy : xw_rJ y) : lg_cmp (Int64.ofInt x) (Int64.ofInt y) = Int32.ofInt (xw_cm x y) := by
  have hl : (Int64.ofInt y < Int64.ofInt x) ↔ y < x := by rw [Int64.lt_iff_toInt_lt, xw_tj hx, xw_tj hy]
  have he : (Int64.ofInt x = Int64.ofInt y) ↔ x = y := by rw [← Int64.toInt_inj, xw_tj hx, xw_tj hy]
  unfold lg_cmp xw_cm
  by_cases h1 : y < x
  · rw [if_pos (hl.mpr h1), if_neg (by omega), if_neg (by omega)]
    rfl
  · rw [if_neg (fun e => h1 (hl.mp e))]
    by_cases h2 : x = y
    · rw [if_pos (he.mpr h2), if_neg (by omega), if_pos h2]
      rfl
    · rw [if_neg (fun e => h2 (he.mp e)), if_pos (by omega)]
      rfl
theorem xw_swe {pc t : Nat} {v : Value} {dd lo hi : Int} {offs : Array Int} {loc : xm_L} {st : List Value} {h0 : xm_H} {ns : Nat} (h : xm_sw dd lo hi offs (pc, [], [v], [], 0) = some (.inl (t, [], [], [], 0))) : xm_sw dd lo hi offs (pc, loc, v :: st, h0, ns) = some (.inl (t, loc, st, h0, ns)) := by
  cases v with
  | int x =>
    unfold xm_sw xm_go at h ⊢
    dsimp only at h ⊢
    split at h
    · next hc =>
      rw [if_pos hc]
      split at h
      · next h2 =>
        rw [if_pos h2]
        cases h
        rfl
      · cases h
    · next hc =>
      rw [if_neg hc]
      split at h
      · next o ho =>
        split at h
        · next h2 =>
          rw [if_pos h2]
          cases h
          rfl
        · cases h
      · cases h
  | _ => cases h
theorem xw_gfe {B : Nat} {m : xw_M} {ex : xm_H} {ns pc t q : Nat} {a : Int} {v : Value} {loc : xm_L} {st : List Value} (h0 : 0 ≤ a ∧ a < 605) (hc : xw_cl a = t) (hq : q < xw_ln B a.toNat) (hv : xw_dec (xw_kd a q) (m a q) = v) : xm_gf t q (pc, loc, xa a :: st, xw_h B m ex, ns) = some (.inl (pc + 3, loc, v :: st, xw_h B m ex, ns)) := by
  unfold xm_gf
  dsimp only
  rw [xw_get (a := a.toNat) (by omega)]
  dsimp only
  rw [if_pos (show (xw_ly a.toNat).1 = t from hc), xw_vg hq, Int.toNat_of_nonneg h0.1]
  rw [show xw_dec (xw_kof (xw_ly a.toNat) q) (m a q) = v from hv]
  rfl
theorem xw_pfe {B : Nat} {m : xw_M} {ex : xm_H} {ns pc t q : Nat} {a x : Int} {v : Value} {loc : xm_L} {st : List Value} {ok : Value → Bool} (h0 : 0 ≤ a ∧ a < 605) (hc : xw_cl a = t) (hq : q < xw_ln B a.toNat) (hv : xw_dec (xw_kd a q) x = v) (hok : ok v = true) : xm_pf ok t q (pc, loc, v :: xa a :: st, xw_h B m ex, ns) = some (.inl (pc + 3, loc, st, xw_h B (xw_u m a q x) ex, ns)) := by
  have hs := xw_set (B := B) (m := m) (ex := ex) (a := a.toNat) (k := q) (v := x) (by omega)
  rw [Int.toNat_of_nonneg h0.1, show xw_dec (xw_kof (xw_ly a.toNat) q) x = v from hv] at hs
  unfold xm_pf
  dsimp only
  rw [xw_get (a := a.toNat) (by omega)]
  dsimp only
  rw [if_pos ⟨show (xw_ly a.toNat).1 = t from hc, by rw [xw_vl]; exact hq, hok⟩, hs]
  rfl
theorem xw_lene {B : Nat} {m : xw_M} {ex : xm_H} {ns pc S : Nat} {a : Int} {loc : xm_L} {st : List Value} (h0 : 0 ≤ a ∧ a < 605) (hc : 16 ≤ xw_cl a ∧ xw_cl a < 24) : xm_al S (pc, loc, xa a :: st, xw_h B m ex, ns) = some (.inl (pc + 1, loc, xi (xw_le B a) :: st, xw_h B m ex, ns)) := by
  unfold xm_al
  dsimp only
  rw [xw_get (a := a.toNat) (by omega)]
  dsimp only
  rw [if_pos (show 16 ≤ (xw_ly a.toNat).1 ∧ (xw_ly a.toNat).1 < 24 from hc), xw_vl]
  rfl
theorem xw_alde {B : Nat} {m : xw_M} {ex : xm_H} {ns pc : Nat} {a x : Int} {v : Value} {T : Nat → Bool} {loc : xm_L} {st : List Value} (h0 : 0 ≤ a ∧ a < 605) (hc : T (xw_cl a) = true) (hx : 0 ≤ x ∧ x < xw_le B a) (hn : xw_ln B a.toNat ≤ 1000000) (hv : xw_dec (xw_kd a x) (m a x) = v) : xm_ald T (pc, loc, xi x :: xa a :: st, xw_h B m ex, ns) = some (.inl (pc + 1, loc, v :: st, xw_h B m ex, ns)) := by
  have hx2 : x < (xw_ln B a.toNat : Int) := hx.2
  unfold xm_ald
  dsimp only
  rw [xw_get (a := a.toNat) (by omega)]
  dsimp only
  rw [if_pos ⟨show T (xw_ly a.toNat).1 = true from hc, by rw [xw_vl]; exact xw_in hx.1 hx2 hn⟩, xw_nn ⟨by omega, by omega⟩ hx.1, xw_vg (by omega), Int.toNat_of_nonneg h0.1, Int.toNat_of_nonneg hx.1]
  rw [show xw_dec (xw_kof (xw_ly a.toNat) x.toNat) (m a x) = v from hv]
  rfl
theorem xw_aldi {B : Nat} {m : xw_M} {ex : xm_H} {ns pc S : Nat} {xs : Nat → Int32} {a x : Int} {v : Value} {loc : xm_L} {st : List Value} (h0 : 0 ≤ a ∧ a < 605) (hc : xw_cl a = 16) (hx : 0 ≤ x ∧ x < xw_le B a) (hn : xw_ln B a.toNat ≤ 1000000) (hv : xw_dec (xw_kd a x) (m a x) = v) : xm_sld xs S (pc, loc, xi x :: xa a :: st, xw_h B m ex, ns) = some (.inl (pc + 1, loc, v :: st, xw_h B m ex, ns)) := by
  have h1 := xw_alde (T := fun t => t == 16) (pc := pc) (loc := loc) (st := st) (ns := ns) (ex := ex) h0 (by show (xw_cl a == 16) = true; rw [hc]; rfl) hx hn hv
  unfold xm_sld
  exact h1
theorem xw_aste {B : Nat} {m : xw_M} {ex : xm_H} {ns pc : Nat} {a x y : Int} {v : Value} {T : Nat → Bool} {nar : Nat → Value → Option Value} {loc : xm_L} {st : List Value} (h0 : 0 ≤ a ∧ a < 605) (hc : T (xw_cl a) = true) (hx : 0 ≤ x ∧ x < xw_le B a) (hn : xw_ln B a.toNat ≤ 1000000) (hv : nar (xw_cl a) v = some (xw_dec (xw_kd a x) y)) : xm_ast T nar (pc, loc, v :: xi x :: xa a :: st, xw_h B m ex, ns) = some (.inl (pc + 1, loc, st, xw_h B (xw_u m a x y) ex, ns)) := by
  have hx2 : x < (xw_ln B a.toNat : Int) := hx.2
  have hs := xw_set (B := B) (m := m) (ex := ex) (a := a.toNat) (k := x.toNat) (v := y) (by omega)
  rw [Int.toNat_of_nonneg h0.1, Int.toNat_of_nonneg hx.1] at hs
  unfold xm_ast
  dsimp only
  rw [xw_get (a := a.toNat) (by omega)]
  dsimp only
  rw [if_pos ⟨show T (xw_ly a.toNat).1 = true from hc, by rw [xw_vl]; exact xw_in hx.1 hx2 hn⟩, show nar (xw_ly a.toNat).1 v = some (xw_dec (xw_kof (xw_ly a.toNat) x.toNat) y) from hv]
  dsimp only
  rw [xw_nn ⟨by omega, by omega⟩ hx.1, hs]
  rfl
theorem xw_nBe {a : Int} (hc : xw_cl a = 18) (v : Int) : xm_nB (xw_cl a) (xi v) = some (xi (v.bmod 256)) := by
  rw [hc]
  show some (Value.int (Int32.ofInt v).toInt8.toInt32) = _
  rw [xw_eib]
theorem xw_nZe {a v : Int} (hc : xw_cl a = 19) (hv : v = 0 ∨ v = 1) : xm_nB (xw_cl a) (xi v) = some (xi v) := by
  rw [hc]
  rcases hv with rfl | rfl <;> rfl

/-- arrays of numbers: all their places are of one kind -/
def xw_t4 (t : Nat) : Nat := bif Nat.beq t 17 then 1 else 0
def xw_akb : Bool := (List.range 605).all (fun a => Nat.blt (xw_ly a).1 16 || (Nat.blt 19 (xw_ly a).1 || (Nat.beq (xw_ly a).2.2.1 (xw_t4 (xw_ly a).1) && (Nat.beq (xw_ly a).2.2.2.1 0 && (xw_ly a).2.2.2.2.isEmpty))))
theorem xw_akt : xw_akb = true := by decide +kernel
theorem xw_akc {t : Nat} {a : Int} (ho : xw_ob t a) (h1 : 16 ≤ t) (h2 : t ≤ 19) (k : Int) : xw_kd a k = xw_t4 t := by
  have h := List.all_eq_true.mp xw_akt a.toNat (List.mem_range.mpr (by have := ho.1; have := ho.2.1; omega))
  rw [show (xw_ly a.toNat).1 = t from ho.2.2] at h
  have b1 : Nat.blt t 16 = false := by
    cases hc : Nat.blt t 16 with
    | false => rfl
    | true => exact absurd (Nat.le_of_ble_eq_true hc) (by omega)
  have b2 : Nat.blt 19 t = false := by
    cases hc : Nat.blt 19 t with
    | false => rfl
    | true => exact absurd (Nat.le_of_ble_eq_true hc) (by omega)
  rw [b1, b2] at h
  simp only [Bool.false_or, Bool.and_eq_true] at h
  obtain ⟨e1, e2, e3⟩ := h
  have e1 := Nat.eq_of_beq_eq_true e1
  have e2 := Nat.eq_of_beq_eq_true e2
  have e3 := List.isEmpty_iff.mp e3
  unfold xw_kd xw_kof
  rw [e3]
  dsimp only
  rw [e1, e2]
  omega
