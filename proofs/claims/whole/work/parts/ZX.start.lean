/-! THE CONSTRUCTORS: the symbolic run of the law up to its loop; the heap behind it is the memory m0 -/
def xz_K : Instr → List (List Value × Value)
  | .imul => [([.int 512, .float 0], .float 100), ([.int 64, .float 100], .float 101)]
  | _ => []
def xz_u (xs : Nat → Int32) (L : Nat) : xy_U := (fun i => bif Nat.ble 1000 i then xs (i - 1000) else bif Nat.beq i 0 then xs 0 else bif Nat.beq i 100 then xs 0 * 512 else bif Nat.beq i 101 then xs 0 * 512 * 64 else L.toInt32, fun _ => 0, id)
theorem xz_u1 (xs : Nat → Int32) (L i : Nat) : (xz_u xs L).1 i = bif Nat.ble 1000 i then xs (i - 1000) else bif Nat.beq i 0 then xs 0 else bif Nat.beq i 100 then xs 0 * 512 else bif Nat.beq i 101 then xs 0 * 512 * 64 else L.toInt32 := rfl
theorem xz_Kok (xs : Nat → Int32) (L : Nat) : ∀ i, ∀ q ∈ xz_K i, xy_e i (q.1.map (xy_v (xz_u xs L))) = some (xy_v (xz_u xs L) q.2) := by
  intro i q hq
  cases i <;> first | exact absurd hq List.not_mem_nil | skip
  case imul =>
    rcases List.mem_cons.mp hq with rfl | hq
    · rfl
    · rcases List.mem_cons.mp hq with rfl | hq
      · rfl
      · exact absurd hq List.not_mem_nil
def xz_sc (v : Value) (j : Nat) : Value := bif Nat.beq j 0 then v else .float (UInt32.ofNat (j + 1000))
def xz_N (B : List (Value × Nat × Nat)) (v : Value) (L : Nat) : xy_N := (xz_K, B, 0, xz_sc v, L)
def xz_s0 : xy_S := (0, [(0, .retAddr 9)], [], (xy_e0 10, 0), 0)
def xz_run (B : List (Value × Nat × Nat)) (v : Value) (L : Nat) (C : xy_Q) : Option (List (xy_Q × xy_O)) := xy_run (xz_N B v L) xq_P 2000 (fun _ pc => Nat.beq pc 33) 201 349 (8, ret, [], 0) xz_s0 C
/-- what a place of a cell has behind the constructors -/
def xz_sv (vB vT : Value) (a k kd : Nat) : Value := bif (Nat.beq a 508 && Nat.beq k 0) || (Nat.beq a 536 && Nat.beq k 49) then vB else bif (Nat.beq a 518 || Nat.beq a 530) && Nat.beq k 1 then vT else match kd with
  | 0 => .int (Int32.ofInt (m0 0 a k))
  | 1 => .long (Int64.ofInt (m0 0 a k))
  | 2 => .ref (m0 0 a k).toNat
  | 3 => .null
  | 4 => .retAddr 2
  | n + 5 => .ref n
def xz_lay (vB vL vT : Value) (a : Nat) : xm_C := bif Nat.ble 16 (xw_ly a).1 && Nat.ble (xw_ly a).1 19 then ((xw_ly a).1 + 64, [bif Nat.beq a 516 || Nat.beq a 517 then vL else .int (Int32.ofNat (xw_ly a).2.1), bif Nat.beq (xw_ly a).1 17 then .long 0 else .int 0])
  else bif Nat.beq a 4 then (87, [.int 8, .null, .retAddr 7, .ref 197, .retAddr 6, .ref 171, .retAddr 5, .ref 145, .retAddr 4, .ref 119, .retAddr 3, .ref 93, .retAddr 2, .ref 67, .retAddr 1, .ref 41, .retAddr 0, .ref 15])
  else ((xw_ly a).1, (List.range (xw_ly a).2.1).map (fun k => xz_sv vB vT a k (xw_kof (xw_ly a) k)))
def xz_one (vB vL vT : Value) (q : xy_Q × xy_O) : Bool := match q.2 with
  | .inr (pc, loc, st, sh, n) => Nat.beq pc 33 && (decide (loc = [(4, .int 1), (3, .ref 604), (2, .ref 536), (1, .ref 0), (0, .retAddr 9)]) && (st.isEmpty && (Nat.beq sh.2 605 && (Nat.ble n 2400000 && (List.range 605).all (fun a => decide (xy_hg sh a = some (xz_lay vB vL vT a)))))))
  | _ => false
def xz_all (vB vL vT : Value) : Option (List (xy_Q × xy_O)) → Bool
  | some l => l.all (xz_one vB vL vT)
  | none => false
def xz_B : List (Value × Nat × Nat) := [(.float 100, 8192, 262144)]
def xz_C0 : xy_Q := [(2, .int 0, .float 99, true)]
def xz_Cm : xy_Q := [(0, .float 0, .int 16, false), (0, .int 16, .float 0, true), (0, .float 0, .int 512, true), (0, .int 512, .float 0, false), (2, .int 0, .float 99, true)]
def xz_Ca : xy_Q := [(0, .float 0, .int 16, true), (0, .int 16, .float 0, false), (0, .float 0, .int 512, true), (0, .int 512, .float 0, false), (2, .int 0, .float 99, true)]
def xz_Cd : xy_Q := [(0, .float 0, .int 16, false), (0, .int 16, .float 0, true), (0, .float 0, .int 512, false), (0, .int 512, .float 0, true), (2, .int 0, .float 99, true)]
theorem xz_e0 : xz_all (.int 16) (.int 8192) (.int 524288) (xz_run [] (.int 0) 0 []) = true := by decide +kernel
theorem xz_em : xz_all (.float 0) (.float 100) (.float 101) (xz_run xz_B (.float 0) 4000 xz_Cm) = true := by decide +kernel
theorem xz_ea : xz_all (.int 16) (.int 8192) (.int 524288) (xz_run [] (.float 0) 4000 xz_Ca) = true := by decide +kernel
theorem xz_ed : xz_all (.int 512) (.int 262144) (.int 16777216) (xz_run [] (.float 0) 4000 xz_Cd) = true := by decide +kernel
theorem xz_eb : xz_all (.int 16) (.int 8192) (.int 524288) (xz_run [] (.int 16) 4000 xz_C0) = true := by decide +kernel
theorem xz_ec : xz_all (.int 512) (.int 262144) (.int 16777216) (xz_run [] (.int 512) 4000 xz_C0) = true := by decide +kernel
theorem xz_scok {xs : Nat → Int32} {L : Nat} {v : Value} (hL : L ≤ 3073) (hv : 0 < L → xy_v (xz_u xs L) v = .int (xs 0)) : ∀ j, j < L → xy_v (xz_u xs L) (xz_sc v j) = .int (xs j) := by
  intro j hj
  unfold xz_sc
  cases hb : Nat.beq j 0 with
  | true =>
    rw [Nat.eq_of_beq_eq_true hb]
    exact hv (by omega)
  | false =>
    have h1 : (UInt32.ofNat (j + 1000)).toNat = j + 1000 := UInt32.toNat_ofNat_of_lt' (by show j + 1000 < 4294967296; omega)
    show Value.int ((xz_u xs L).1 (UInt32.ofNat (j + 1000)).toNat) = _
    rw [h1, xz_u1, Nat.ble_eq_true_of_le (by omega), cond_true, Nat.add_sub_cancel]
theorem xz_m0 {B a k : Nat} (h1 : ¬ (a = 508 ∧ k = 0)) (h2 : ¬ (a = 536 ∧ k = 49)) (h3 : ¬ ((a = 518 ∨ a = 530) ∧ k = 1)) : m0 0 a k = m0 B a k := by
  unfold m0
  by_cases c0 : (a : Int) = 0
  · rw [if_pos c0, if_pos c0]
  rw [if_neg c0, if_neg c0]
  by_cases c1 : (a : Int) = 1
  · rw [if_pos c1, if_pos c1]
  rw [if_neg c1, if_neg c1]
  by_cases c2 : (a : Int) = 508
  · have k0 : ¬ (k : Int) = 0 := fun e => h1 ⟨by omega, by omega⟩
    rw [if_pos c2, if_pos c2, if_neg k0, if_neg k0]
  rw [if_neg c2, if_neg c2]
  by_cases c3 : (a : Int) = 518
  · have k0 : ¬ (k : Int) = 1 := fun e => h3 ⟨by omega, by omega⟩
    rw [if_pos c3, if_pos c3, if_neg k0, if_neg k0]
  rw [if_neg c3, if_neg c3]
  by_cases c4 : (a : Int) = 524
  · rw [if_pos c4, if_pos c4]
  rw [if_neg c4, if_neg c4]
  by_cases c5 : (a : Int) = 530
  · have k0 : ¬ (k : Int) = 1 := fun e => h3 ⟨by omega, by omega⟩
    rw [if_pos c5, if_pos c5, if_neg k0, if_neg k0]
  rw [if_neg c5, if_neg c5]
  by_cases c6 : (a : Int) = 536
  · have k0 : ¬ (k : Int) = 49 := fun e => h2 ⟨by omega, by omega⟩
    rw [if_pos c6, if_pos c6]
    by_cases d1 : (k : Int) = 7
    · rw [if_pos d1, if_pos d1]
    rw [if_neg d1, if_neg d1]
    by_cases d2 : (k : Int) = 22
    · rw [if_pos d2, if_pos d2]
    rw [if_neg d2, if_neg d2]
    by_cases d3 : (k : Int) = 23
    · rw [if_pos d3, if_pos d3]
    rw [if_neg d3, if_neg d3, if_neg k0, if_neg k0]
  rw [if_neg c6, if_neg c6]
theorem xz_c64 : (List.range 605).all (fun a => Nat.blt (xw_ly a).1 24) = true := by decide +kernel
section XZ
variable {B : Nat} {xs : Nat → Int32} {L : Nat} {vB vL vT : Value}
theorem xz_cell (hB : B ≤ 512) (eB : xy_v (xz_u xs L) vB = xi (B : Int)) (eL : (xy_I (xz_u xs L) vL).toNatClampNeg = B * 512) (eT : xy_v (xz_u xs L) vT = xi (64 * (B * 512 : Nat))) (a : Nat) (ha : a < 605) : xy_c (xz_u xs L) (xz_lay vB vL vT a) = ((xw_ly a).1, xw_vs B (m0 B) a) := by
  unfold xz_lay
  cases h16 : (Nat.ble 16 (xw_ly a).1 && Nat.ble (xw_ly a).1 19) with
  | true =>
    rw [cond_true]
    have h17 := h16
    rw [Bool.and_eq_true] at h17
    have t1 := Nat.le_of_ble_eq_true h17.1
    have t2 := Nat.le_of_ble_eq_true h17.2
    have hz : m0 B (a : Int) = fun _ => 0 := m0_z ⟨fun e => by
        rw [show a = 0 by omega] at h16; exact absurd h16 (by decide +kernel), fun e => by
        rw [show a = 1 by omega] at h16; exact absurd h16 (by decide +kernel), fun e => by
        rw [show a = 508 by omega] at h16; exact absurd h16 (by decide +kernel), fun e => by
        rw [show a = 518 by omega] at h16; exact absurd h16 (by decide +kernel), fun e => by
        rw [show a = 524 by omega] at h16; exact absurd h16 (by decide +kernel), fun e => by
        rw [show a = 530 by omega] at h16; exact absurd h16 (by decide +kernel), fun e => by
        rw [show a = 536 by omega] at h16; exact absurd h16 (by decide +kernel)⟩
    have hk : ∀ k, xw_kof (xw_ly a) k = xw_t4 (xw_ly a).1 := fun k => xw_kc (a := (a : Int)) (t := (xw_ly a).1) ⟨by omega, by omega, rfl⟩ t1 t2 k
    have hlen : (xy_I (xz_u xs L) (bif Nat.beq a 516 || Nat.beq a 517 then vL else .int (Int32.ofNat (xw_ly a).2.1))).toNatClampNeg = xw_ln B a := by
      unfold xw_ln
      cases hs : (Nat.beq a 516 || Nat.beq a 517) with
      | true =>
        rw [cond_true, cond_true, eL]
        rw [Bool.or_eq_true] at hs
        rcases hs with hs | hs
        · rw [Nat.eq_of_beq_eq_true hs]
          exact (Nat.zero_add _).symm
        · rw [Nat.eq_of_beq_eq_true hs]
          exact (Nat.zero_add _).symm
      | false =>
        rw [cond_false, cond_false]
        have hm := xw_lnb hB a ha
        unfold xw_ln at hm
        rw [hs, cond_false] at hm
        show (Int32.ofNat (xw_ly a).2.1).toNatClampNeg = _
        rw [Int32.toNatClampNeg_ofNat_of_lt (by omega)]
        rfl
    unfold xy_c
    rw [if_neg (by show ¬ (xw_ly a).1 + 64 < 64; omega)]
    refine Prod.ext (show (xw_ly a).1 + 64 - 64 = (xw_ly a).1 by omega) ?_
    show List.replicate (xy_I (xz_u xs L) (bif Nat.beq a 516 || Nat.beq a 517 then vL else .int (Int32.ofNat (xw_ly a).2.1))).toNatClampNeg (xy_v (xz_u xs L) (bif Nat.beq (xw_ly a).1 17 then .long 0 else .int 0)) = xw_vs B (m0 B) a
    rw [hlen]
    apply List.ext_getElem?
    intro q
    rw [List.getElem?_replicate]
    by_cases hq : q < xw_ln B a
    · rw [if_pos hq, xw_vg hq, hk, hz]
      unfold xw_t4
      cases Nat.beq (xw_ly a).1 17 <;> rfl
    · rw [if_neg hq, List.getElem?_eq_none (by rw [xw_vl]; omega)]
  | false =>
    rw [cond_false]
    cases h4 : Nat.beq a 4 with
    | true =>
      rw [Nat.eq_of_beq_eq_true h4, cond_true]
      rfl
    | false =>
      rw [cond_false]
      unfold xy_c
      rw [if_pos (by have := Nat.le_of_ble_eq_true (List.all_eq_true.mp xz_c64 a (List.mem_range.mpr ha)); show (xw_ly a).1 < 64; omega)]
      refine Prod.ext rfl ?_
      show ((List.range (xw_ly a).2.1).map (fun k => xz_sv vB vT a k (xw_kof (xw_ly a) k))).map (xy_v (xz_u xs L)) = xw_vs B (m0 B) a
      have hln : xw_ln B a = (xw_ly a).2.1 := by
        unfold xw_ln
        cases hs : (Nat.beq a 516 || Nat.beq a 517) with
        | true =>
          exfalso
          rw [Bool.or_eq_true] at hs
          rcases hs with hs | hs
          · rw [Nat.eq_of_beq_eq_true hs] at h16; exact absurd h16 (by decide +kernel)
          · rw [Nat.eq_of_beq_eq_true hs] at h16; exact absurd h16 (by decide +kernel)
        | false => rfl
      rw [List.map_map]
      unfold xw_vs
      rw [hln]
      refine List.map_congr_left (fun k _ => ?_)
      show xy_v (xz_u xs L) (xz_sv vB vT a k (xw_kof (xw_ly a) k)) = xw_dec (xw_kof (xw_ly a) k) (m0 B a k)
      unfold xz_sv
      cases s1 : ((Nat.beq a 508 && Nat.beq k 0) || (Nat.beq a 536 && Nat.beq k 49)) with
      | true =>
        rw [cond_true, eB]
        rw [Bool.or_eq_true, Bool.and_eq_true, Bool.and_eq_true] at s1
        rcases s1 with ⟨e1, e2⟩ | ⟨e1, e2⟩
        · rw [Nat.eq_of_beq_eq_true e1, Nat.eq_of_beq_eq_true e2]
          rfl
        · rw [Nat.eq_of_beq_eq_true e1, Nat.eq_of_beq_eq_true e2]
          rfl
      | false =>
        rw [cond_false]
        cases s2 : ((Nat.beq a 518 || Nat.beq a 530) && Nat.beq k 1) with
        | true =>
          rw [cond_true, eT]
          rw [Bool.and_eq_true, Bool.or_eq_true] at s2
          rcases s2 with ⟨e1 | e1, e2⟩
          · rw [Nat.eq_of_beq_eq_true e1, Nat.eq_of_beq_eq_true e2]
            rfl
          · rw [Nat.eq_of_beq_eq_true e1, Nat.eq_of_beq_eq_true e2]
            rfl
        | false =>
          rw [cond_false]
          have hm : m0 0 a k = m0 B a k := xz_m0 (fun e => by rw [e.1, e.2] at s1; exact absurd s1 (by decide)) (fun e => by rw [e.1, e.2] at s1; exact absurd s1 (by decide)) (fun e => by
            rw [e.2] at s2
            rcases e.1 with e1 | e1
            · rw [e1] at s2; exact absurd s2 (by decide)
            · rw [e1] at s2; exact absurd s2 (by decide))
          rw [hm]
          generalize xw_kof (xw_ly a) k = kd
          match kd with
          | 0 => rfl
          | 1 => rfl
          | 2 => rfl
          | 3 => rfl
          | 4 => rfl
          | n + 5 => rfl
theorem xz_heap (hB : B ≤ 512) (eB : xy_v (xz_u xs L) vB = xi (B : Int)) (eL : (xy_I (xz_u xs L) vL).toNatClampNeg = B * 512) (eT : xy_v (xz_u xs L) vT = xi (64 * (B * 512 : Nat))) {sh : xy_W} {h : xm_H} (H : xy_H (xz_u xs L) 0 [] sh h) (hs : sh.2 = 605) (hc : ∀ a, a < 605 → xy_hg sh a = some (xz_lay vB vL vT a)) : h = xw_h B (m0 B) [] := by
  obtain ⟨h1, h2, -⟩ := H
  have hl : h.length = 605 := by rw [hs] at h2; simpa using h2
  apply List.ext_getElem?
  intro i
  by_cases hi : i < 605
  · rw [xw_get hi]
    have h3 := h1 i _ (hc i hi)
    rw [xz_cell hB eB eL eT i hi] at h3
    exact h3
  · rw [List.getElem?_eq_none (by omega), List.getElem?_eq_none (by rw [xw_hl]; show 605 + 0 ≤ i; omega)]
theorem xz_fin {Bd : List (Value × Nat × Nat)} {v : Value} {Lm : Nat} {C : xy_Q} (hB : B ≤ 512) (hL : L ≤ 3073) (he : xz_all vB vL vT (xz_run Bd v Lm C) = true) (hC : xy_ok (xz_u xs L) C) (hBd : ∀ q ∈ Bd, xy_isI q.1 = true ∧ ¬ xy_I (xz_u xs L) q.1 < 0 ∧ q.2.1 ≤ (xy_I (xz_u xs L) q.1).toNatClampNeg ∧ (xy_I (xz_u xs L) q.1).toNatClampNeg ≤ q.2.2) (hv : 0 < L → xy_v (xz_u xs L) v = .int (xs 0)) (hn : xy_Nl (xz_u xs L) Lm L) (eB : xy_v (xz_u xs L) vB = xi (B : Int)) (eL : (xy_I (xz_u xs L) vL).toNatClampNeg = B * 512) (eT : xy_v (xz_u xs L) vT = xi (64 * (B * 512 : Nat))) :
    ∃ n', n' ≤ 2400000 ∧ ∀ r, xr (xm_gg xs L) xq_P 201 349 (8, ret, [], 0) (33, [(4, .int 1), (3, .ref 604), (2, .ref 536), (1, .ref 0), (0, .retAddr 9)], [], xw_h B (m0 B) [], n') r → xr (xm_gg xs L) xq_P 201 349 (8, ret, [], 0) (0, [(0, .retAddr 9)], [], [], 0) r := by
  unfold xz_all at he
  split at he
  · next l hl =>
    have hN : xy_Nok (xz_u xs L) (xz_N Bd v Lm) xs L [] := ⟨xz_Kok xs L, hBd, Nat.le_refl _, xz_scok hL hv, hn⟩
    have hA : xy_A (xz_u xs L) 0 [] := ⟨fun a b hab => hab, fun k _ => by show k = 0 + (k - 0); omega⟩
    have hH : xy_H (xz_u xs L) 0 [] xz_s0.2.2.2.1 [] := ⟨fun k c hk => absurd (xy_hlt hk) (Nat.not_lt_zero k), rfl, Nat.le_refl _, Nat.zero_le _, fun a ha => absurd ha (Nat.not_lt_zero a)⟩
    obtain ⟨q, hq, hq1, hout⟩ := xy_sound (P := xq_P) rfl hN hA _ _ _ _ _ _ _ _ hl hC [] 0 hH (Nat.le_refl _)
    have h1 := List.all_eq_true.mp he q hq
    obtain ⟨C', o⟩ := q
    unfold xz_one at h1
    split at h1
    · next pc loc st sh n heq =>
      simp only [Bool.and_eq_true] at h1
      obtain ⟨e1, e2, e3, e4, e5, e6⟩ := h1
      have heq2 : o = .inr (pc, loc, st, sh, n) := heq
      rw [heq2] at hout
      obtain ⟨h', n', H', hn', hr⟩ := hout
      have e3' : st = [] := List.isEmpty_iff.mp e3
      have hh := xz_heap hB eB eL eT H' (Nat.eq_of_beq_eq_true e4) (fun a ha => of_decide_eq_true (List.all_eq_true.mp e6 a (List.mem_range.mpr ha)))
      rw [Nat.eq_of_beq_eq_true e1, of_decide_eq_true e2, e3', hh] at hr
      exact ⟨n', Nat.le_trans hn' (Nat.le_of_ble_eq_true e5), hr⟩
    · cases h1
  · cases he
end XZ
