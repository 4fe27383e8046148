/-! SYMBOLIC RUNS over closed data: '.float i' stands for an unknown int, '.double i' for an unknown long, '.ref k' for the k-th cell of the footprint; an array may lie as its length, its default and what was put, the newest first (its class number and 64) -/
/-- a valuation: ints, longs, places -/
abbrev xy_U : Type := (Nat → Int32) × (Nat → Int64) × (Nat → Nat)
def xy_v (u : xy_U) : Value → Value
  | .float i => .int (u.1 i.toNat)
  | .double i => .long (u.2.1 i.toNat)
  | .ref k => .ref (u.2.2 k)
  | v => v
def xy_isI : Value → Bool
  | .int _ => true
  | .float _ => true
  | _ => false
def xy_isJ : Value → Bool
  | .long _ => true
  | .double _ => true
  | _ => false
/-- a number that is known -/
def xy_kn : Value → Bool
  | .int _ => true
  | .long _ => true
  | _ => false
/-- the same in every valuation -/
def xy_fx : Value → Bool
  | .int _ => true
  | .long _ => true
  | .null => true
  | .retAddr _ => true
  | _ => false
def xy_I (u : xy_U) (v : Value) : Int32 := match xy_v u v with
  | .int x => x
  | _ => 0
def xy_J (u : xy_U) (v : Value) : Int64 := match xy_v u v with
  | .long x => x
  | _ => 0
def xy_ov (u : xy_U) (b : List Value) : List Value → List Value
  | .retAddr k :: v :: r => (xy_ov u b r).set k (xy_v u v)
  | _ => b
def xy_at (j : Nat) (dv : Value) : List Value → Value
  | .retAddr k :: v :: r => bif Nat.beq k j then v else xy_at j dv r
  | _ => dv
def xy_ar (u : xy_U) (vs : List Value) : List Value := match vs with
  | n :: dv :: l => xy_ov u (List.replicate (xy_I u n).toNatClampNeg (xy_v u dv)) l
  | _ => []
def xy_c (u : xy_U) (c : xm_C) : xm_C := if c.1 < 64 then (c.1, c.2.map (xy_v u)) else (c.1 - 64, xy_ar u c.2)
/-- a footprint: a tree of at most 1024 cells, and how many there are -/
def xy_T : Nat → Type
  | 0 => Option xm_C
  | n + 1 => xy_T n × xy_T n
def xy_e0 : (n : Nat) → xy_T n
  | 0 => (none : Option xm_C)
  | n + 1 => (xy_e0 n, xy_e0 n)
def xy_get : (n : Nat) → xy_T n → Nat → Option xm_C
  | 0, t, _ => t
  | n + 1, t, k => bif Nat.blt k (2 ^ n) then xy_get n (Prod.fst t) k else xy_get n (Prod.snd t) (k - 2 ^ n)
def xy_set : (n : Nat) → xy_T n → Nat → xm_C → xy_T n
  | 0, _, _, c => (some c : Option xm_C)
  | n + 1, t, k, c => bif Nat.blt k (2 ^ n) then (xy_set n (Prod.fst t) k c, Prod.snd t) else (Prod.fst t, xy_set n (Prod.snd t) (k - 2 ^ n) c)
abbrev xy_W : Type := xy_T 10 × Nat
def xy_hg (h : xy_W) (a : Nat) : Option xm_C := bif Nat.blt a h.2 then xy_get 10 h.1 a else none
def xy_hs (h : xy_W) (a : Nat) (c : xm_C) : xy_W := (xy_set 10 h.1 a c, h.2)
def xy_ha (h : xy_W) (c : xm_C) : xy_W := (xy_set 10 h.1 h.2 c, h.2 + 1)
def xy_hl (h : xy_W) : List xm_C → xy_W
  | [] => h
  | c :: l => xy_hl (xy_ha h c) l
abbrev xy_S : Type := Nat × xm_L × List Value × xy_W × Nat
/-- the footprint lies in the heap; the rest is as at the start -/
def xy_H (u : xy_U) (n0 : Nat) (h0 : xm_H) (sh : xy_W) (h : xm_H) : Prop :=
  (∀ k c, xy_hg sh k = some c → h[u.2.2 k]? = some (xy_c u c)) ∧ h.length + n0 = h0.length + sh.2 ∧ n0 ≤ sh.2 ∧ sh.2 ≤ 1024 ∧ (∀ a, a < h0.length → (∀ k, k < n0 → u.2.2 k ≠ a) → h[a]? = h0[a]?)
/-- places: different, and those of new cells behind the start -/
def xy_A (u : xy_U) (n0 : Nat) (h0 : xm_H) : Prop := (∀ a b, u.2.2 a = u.2.2 b → a = b) ∧ ∀ k, n0 ≤ k → u.2.2 k = h0.length + (k - n0)
/-- what is known: results of operations (operands, the top first), bounds of ints, a bound of the start's length, the script, its length -/
abbrev xy_N : Type := (Instr → List (List Value × Value)) × List (Value × Nat × Nat) × Nat × (Nat → Value) × Nat
def xy_G0 : xm_G := (fun _ => [], fun _ _ _ => false, fun _ => 0, 0)
def xy_x : Option xm_A → Option Value
  | some (.inl (_, _, [v], _, _)) => some v
  | _ => none
/-- what a computing instruction gives for its operands -/
def xy_e (i : Instr) (ops : List Value) : Option Value := xy_x (xm_next xy_G0 0 none (i, 1, 0, 0) (0, [], ops, [], 0))
def xy_ary : Instr → Nat
  | .iadd => 2
  | .isub => 2
  | .imul => 2
  | .iand => 2
  | .ior => 2
  | .ixor => 2
  | .ishl => 2
  | .ishr => 2
  | .iushr => 2
  | .idiv => 2
  | .irem => 2
  | .ladd => 2
  | .lsub => 2
  | .lmul => 2
  | .land => 2
  | .lor => 2
  | .lxor => 2
  | .lrem => 2
  | .lshl => 2
  | .lshr => 2
  | .lushr => 2
  | .lcmp => 2
  | .lneg => 1
  | .i2l => 1
  | .l2i => 1
  | .i2b => 1
  | .i2c => 1
  | _ => 0
def xy_lk (N : xy_N) (i : Instr) (ops : List Value) : Option Value := bif ops.all xy_kn then (match xy_e i ops with
    | some v => bif xy_kn v then some v else none
    | none => none) else match (N.1 i).find? (fun q => decide (q.1 = ops)) with
  | some q => some q.2
  | none => none
/-- what is known of the path: 0: a < b, 1: a = b -/
abbrev xy_Q : Type := List (Nat × Value × Value × Bool)
def xy_t (u : xy_U) (k : Nat) (a b : Value) : Bool := bif Nat.beq k 1 then decide (xy_I u a = xy_I u b) else decide (xy_I u a < xy_I u b)
def xy_ok (u : xy_U) (C : xy_Q) : Prop := ∀ q ∈ C, xy_t u q.1 q.2.1 q.2.2.1 = q.2.2.2
/-- bounds of an unknown int: 2: below it, true; 3: not below it, false; the newest is the nearest -/
def xy_mh (C : xy_Q) (x : Int32) (b : Value) (both : Bool) : Option (Option Bool) := match C.find? (fun q => Nat.beq q.1 3 && decide (q.2.2.1 = b)) with
  | some (_, .int h, _, false) => if h ≤ x then some (some false) else bif both then some none else none
  | _ => none
def xy_mq (C : xy_Q) (a b : Value) : Option (Option Bool) := match a with
  | .int x => (match C.find? (fun q => Nat.beq q.1 2 && decide (q.2.2.1 = b)) with
      | some (_, .int l, _, true) => if x ≤ l then some (some true) else xy_mh C x b true
      | _ => xy_mh C x b false)
  | _ => none
def xy_q (C : xy_Q) (k : Nat) (a b : Value) : Option Bool := match a, b with
  | .int x, .int y => some (bif Nat.beq k 1 then decide (x = y) else decide (x < y))
  | _, _ => match (bif Nat.beq k 0 then xy_mq C a b else none) with
    | some r => r
    | none => match C.find? (fun q => Nat.beq q.1 k && (decide (q.2.1 = a) && decide (q.2.2.1 = b))) with
      | some q => some q.2.2.2
      | none => none
def xy_pk (k : Nat) (a : Value) (t : Bool) : Nat := match a with
  | .int _ => bif Nat.beq k 0 then (bif t then 2 else 3) else k
  | _ => k
def xy_sp {α : Type} (C : xy_Q) (k : Nat) (a b : Value) (f : Bool → α) : List (xy_Q × α) := match xy_q C k a b with
  | some t => [(C, f t)]
  | none => [((xy_pk k a true, a, b, true) :: C, f true), ((xy_pk k a false, a, b, false) :: C, f false)]
def xy_1 (C : xy_Q) (s : xy_S) : Option xm_A → Option (List (xy_Q × xy_S))
  | some (.inl (pc, loc, st, _, _)) => some [(C, (pc, loc, st, s.2.2.2))]
  | _ => none
def xy_gi (s : xy_S) (t : Nat) (r : List Value) (b : Bool) : xy_S := (bif b then t else s.1 + 3, s.2.1, r, s.2.2.2)
def xy_ic (C : xy_Q) (t k : Nat) (sw neg : Bool) (s : xy_S) : Option (List (xy_Q × xy_S)) := match s.2.2.1 with
  | y :: x :: r => bif xy_isI x && xy_isI y then some (xy_sp C k (bif sw then y else x) (bif sw then x else y) (fun b => xy_gi s t r (xor b neg))) else none
  | _ => none
def xy_if (C : xy_Q) (t k : Nat) (sw neg : Bool) (s : xy_S) : Option (List (xy_Q × xy_S)) := match s.2.2.1 with
  | x :: r => bif xy_isI x then some (xy_sp C k (bif sw then .int 0 else x) (bif sw then x else .int 0) (fun b => xy_gi s t r (xor b neg))) else none
  | _ => none
def xy_cp (N : xy_N) (C : xy_Q) (i : Instr) (m : Nat) (s : xy_S) : Option (List (xy_Q × xy_S)) := bif Nat.ble m s.2.2.1.length then (match xy_lk N i (s.2.2.1.take m) with
    | some v => some [(C, (s.1 + 1, s.2.1, v :: s.2.2.1.drop m, s.2.2.2))]
    | none => none) else none
def xy_ldI (C : xy_Q) (len i : Nat) (s : xy_S) : Option (List (xy_Q × xy_S)) := match xm_lg s.2.1 i with
  | some v => bif xy_isI v then some [(C, (s.1 + len, s.2.1, v :: s.2.2.1, s.2.2.2))] else none
  | none => none
def xy_ldJ (C : xy_Q) (len i : Nat) (s : xy_S) : Option (List (xy_Q × xy_S)) := match xm_lg s.2.1 i with
  | some v => bif xy_isJ v then some [(C, (s.1 + len, s.2.1, v :: s.2.2.1, s.2.2.2))] else none
  | none => none
def xy_stI (C : xy_Q) (nL len i : Nat) (s : xy_S) : Option (List (xy_Q × xy_S)) := match s.2.2.1 with
  | v :: r => bif xy_isI v && Nat.blt i nL then some [(C, (s.1 + len, xm_s1 s.2.1 i v, r, s.2.2.2))] else none
  | _ => none
def xy_stJ (C : xy_Q) (nL len i : Nat) (s : xy_S) : Option (List (xy_Q × xy_S)) := match s.2.2.1 with
  | v :: r => bif xy_isJ v && Nat.blt (i + 1) nL then some [(C, (s.1 + len, xm_s2 s.2.1 i v, r, s.2.2.2))] else none
  | _ => none
def xy_inc (N : xy_N) (C : xy_Q) (nL len i : Nat) (n : Int) (s : xy_S) : Option (List (xy_Q × xy_S)) := match xm_lg s.2.1 i with
  | some v => bif xy_isI v && Nat.blt i nL then (match xy_lk N .iadd [.int (Int32.ofInt n), v] with
      | some w => bif xy_isI w then some [(C, (s.1 + len, xm_s1 s.2.1 i w, s.2.2))] else none
      | none => none) else none
  | none => none
def xy_okv (t k : Nat) (v : Value) : Bool := match v with
  | .float _ => (match xq_ft t k with
      | .int => true
      | _ => false)
  | .double _ => (match xq_ft t k with
      | .long => true
      | _ => false)
  | .int x => (match xq_ft t k with
      | .int => true
      | .boolean => decide (x = 0) || decide (x = 1)
      | _ => false)
  | .long _ => (match xq_ft t k with
      | .long => true
      | _ => false)
  | _ => (match xq_ft t k with
      | .object _ => true
      | .array _ => true
      | _ => false)
def xy_gf (C : xy_Q) (t k : Nat) (s : xy_S) : Option (List (xy_Q × xy_S)) := match s.2.2.1 with
  | .ref a :: r => (match xy_hg s.2.2.2.1 a with
      | some (t', vs) => bif Nat.beq t' t && Nat.blt t 64 then (match vs[k]? with
          | some v => some [(C, (s.1 + 3, s.2.1, v :: r, s.2.2.2))]
          | none => none) else none
      | none => none)
  | _ => none
def xy_pf (C : xy_Q) (t k : Nat) (s : xy_S) : Option (List (xy_Q × xy_S)) := match s.2.2.1 with
  | v :: .ref a :: r => (match xy_hg s.2.2.2.1 a with
      | some (t', vs) => bif Nat.beq t' t && (Nat.blt t 64 && (Nat.blt k vs.length && xy_okv t k v)) then some [(C, (s.1 + 3, s.2.1, r, xy_hs s.2.2.2.1 a (t', vs.set k v), s.2.2.2.2))] else none
      | none => none)
  | _ => none
/-- room for c more cells and b more slots -/
def xy_rm (N : xy_N) (s : xy_S) (c b : Nat) : Bool := Nat.ble (s.2.2.2.1.2 + c) 1024 && (Nat.ble (N.2.2.1 + s.2.2.2.1.2 + c) xm_cm && Nat.ble (s.2.2.2.2 + b) xm_sm)
def xy_new (N : xy_N) (C : xy_Q) (t : Nat) (fs : List Value) (s : xy_S) : Option (List (xy_Q × xy_S)) :=
  bif Nat.blt t 64 && (xy_rm N s 1 fs.length && fs.all xy_fx) then some [(C, (s.1 + 3, s.2.1, .ref s.2.2.2.1.2 :: s.2.2.1, xy_ha s.2.2.2.1 (t, fs), s.2.2.2.2 + fs.length))] else none
def xy_bd (N : xy_N) (n : Value) : Option (Nat × Nat) := match n with
  | .int x => if x < 0 then none else some (x.toNatClampNeg, x.toNatClampNeg)
  | n => match N.2.1.find? (fun q => decide (q.1 = n)) with
    | some q => some q.2
    | none => none
def xy_na (N : xy_N) (C : xy_Q) (len t : Nat) (dv : Value) (s : xy_S) : Option (List (xy_Q × xy_S)) := match s.2.2.1 with
  | n :: r => (match xy_bd N n with
      | some (_, hi) => bif Nat.ble (hi * 8) 536870912 && xy_rm N s 1 hi then some [(C, (s.1 + len, s.2.1, .ref s.2.2.2.1.2 :: r, xy_ha s.2.2.2.1 (t + 64, [n, dv]), s.2.2.2.2 + hi))] else none
      | none => none)
  | _ => none
def xy_ma (N : xy_N) (C : xy_Q) (t w : Nat) (dv : Value) (s : xy_S) : Option (List (xy_Q × xy_S)) := match s.2.2.1 with
  | .int k :: .int n :: r => if ¬ n < 0 ∧ ¬ k < 0 ∧ n.toNatClampNeg * 8 ≤ 536870912 ∧ k.toNatClampNeg * 8 ≤ 536870912 ∧ xy_rm N s (1 + n.toNatClampNeg) (n.toNatClampNeg + n.toNatClampNeg * k.toNatClampNeg) = true then
      some [(C, (s.1 + 4, s.2.1, .ref s.2.2.2.1.2 :: r, xy_hl s.2.2.2.1 ((t, (List.range n.toNatClampNeg).map (fun i => Value.ref (s.2.2.2.1.2 + 1 + i))) :: List.replicate n.toNatClampNeg (w + 64, [.int k, dv])), s.2.2.2.2 + (n.toNatClampNeg + n.toNatClampNeg * k.toNatClampNeg)))] else none
  | _ => none
/-- the script's length: 4000 stands for one that is not known, at least 1 -/
def xy_sn (n : Nat) : Value := bif Nat.beq n 4000 then .float 99 else .int n.toInt32
def xy_sm (n : Nat) : Nat := bif Nat.beq n 4000 then 1 else n
def xy_al (N : xy_N) (C : xy_Q) (s : xy_S) : Option (List (xy_Q × xy_S)) := match s.2.2.1 with
  | .ref a :: r => (match xy_hg s.2.2.2.1 a with
      | some (t, vs) => bif Nat.ble 16 t && Nat.blt t 24 then some [(C, (s.1 + 1, s.2.1, .int vs.length.toInt32 :: r, s.2.2.2))] else bif Nat.ble 80 t && Nat.blt t 88 then (match vs with
          | n :: _ :: _ => (match xy_bd N n with
              | some _ => some [(C, (s.1 + 1, s.2.1, n :: r, s.2.2.2))]
              | none => none)
          | _ => none) else none
      | none => none)
  | .retAddr 9 :: r => some [(C, (s.1 + 1, s.2.1, xy_sn N.2.2.2.2 :: r, s.2.2.2))]
  | _ => none
def xy_ald (N : xy_N) (C : xy_Q) (T : Nat → Bool) (s : xy_S) : Option (List (xy_Q × xy_S)) := match s.2.2.1 with
  | .int j :: .ref a :: r => (match xy_hg s.2.2.2.1 a with
      | some (t, vs) => bif Nat.blt t 64 then (bif T t && xm_in j vs.length then (match vs[j.toNatClampNeg]? with
            | some v => some [(C, (s.1 + 1, s.2.1, v :: r, s.2.2.2))]
            | none => none) else none) else bif T (t - 64) then (match vs with
          | n :: dv :: l => (match xy_bd N n with
              | some (lo, _) => bif xm_in j lo then some [(C, (s.1 + 1, s.2.1, xy_at j.toNatClampNeg dv l :: r, s.2.2.2))] else none
              | none => none)
          | _ => none) else none
      | none => none)
  | _ => none
def xy_sld (N : xy_N) (C : xy_Q) (s : xy_S) : Option (List (xy_Q × xy_S)) := match s.2.2.1 with
  | .int j :: .retAddr 9 :: r => bif xm_in j (xy_sm N.2.2.2.2) then some [(C, (s.1 + 1, s.2.1, N.2.2.2.1 j.toNatClampNeg :: r, s.2.2.2))] else none
  | _ => xy_ald N C (fun t => t == 16) s
def xy_nI (_ : xy_W) (_ : Nat) (v : Value) : Option Value := bif xy_isI v then some v else none
def xy_nJ (_ : xy_W) (_ : Nat) (v : Value) : Option Value := bif xy_isJ v then some v else none
def xy_nB (N : xy_N) (_ : xy_W) (t : Nat) (v : Value) : Option Value := bif xy_isI v then (bif Nat.beq t 18 then xy_lk N .i2b [v] else xy_lk N .iand [.int 1, v]) else none
def xy_nD (h : xy_W) (t : Nat) (v : Value) : Option Value := match v with
  | .ref b => bif Nat.beq t 23 then (match xy_hg h b with
      | some (3, _) => some (.ref b)
      | _ => none) else none
  | _ => none
def xy_ast (N : xy_N) (C : xy_Q) (T : Nat → Bool) (nar : xy_W → Nat → Value → Option Value) (s : xy_S) : Option (List (xy_Q × xy_S)) := match s.2.2.1 with
  | v :: .int j :: .ref a :: r => (match xy_hg s.2.2.2.1 a with
      | some (t, vs) => bif Nat.blt t 64 then (bif T t && xm_in j vs.length then (match nar s.2.2.2.1 t v with
            | some w => some [(C, (s.1 + 1, s.2.1, r, xy_hs s.2.2.2.1 a (t, vs.set j.toNatClampNeg w), s.2.2.2.2))]
            | none => none) else none) else bif T (t - 64) then (match vs with
          | n :: dv :: l => (match xy_bd N n with
              | some (lo, _) => bif xm_in j lo then (match nar s.2.2.2.1 (t - 64) v with
                  | some w => bif decide (w = xy_at j.toNatClampNeg dv l) then some [(C, (s.1 + 1, s.2.1, r, s.2.2.2))] else some [(C, (s.1 + 1, s.2.1, r, xy_hs s.2.2.2.1 a (t, n :: dv :: .retAddr j.toNatClampNeg :: w :: l), s.2.2.2.2))]
                  | none => none) else none
              | none => none)
          | _ => none) else none
      | none => none)
  | _ => none
def xy_swg (s : xy_S) (o : Int) (r : List Value) : xy_S := (((s.1 : Int) + o).toNat, s.2.1, r, s.2.2.2)
def xy_swl (C : xy_Q) (x : Value) (s : xy_S) (r : List Value) (d : Int) : Int → List Int → List (xy_Q × xy_S)
  | _, [] => [(C, xy_swg s d r)]
  | k, o :: os => match xy_q C 1 x (.int (Int32.ofInt k)) with
    | some true => [(C, xy_swg s o r)]
    | some false => xy_swl C x s r d (k + 1) os
    | none => ((1, x, .int (Int32.ofInt k), true) :: C, xy_swg s o r) :: xy_swl ((1, x, .int (Int32.ofInt k), false) :: C) x s r d (k + 1) os
def xy_sw (C : xy_Q) (d lo hi : Int) (offs : Array Int) (s : xy_S) : Option (List (xy_Q × xy_S)) := match s.2.2.1 with
  | .int x :: _ => xy_1 C s (xm_sw d lo hi offs (s.1, s.2.1, s.2.2.1, [], 0))
  | .float i :: r => bif decide (-2147483648 ≤ lo ∧ hi ≤ 2147483647 ∧ (offs.size : Int) = hi - lo + 1) && ((d :: offs.toList).all (fun o => decide (0 ≤ (s.1 : Int) + o))) then some (xy_swl C (.float i) s r d lo offs.toList) else none
  | _ => none
def xy_next (N : xy_N) (nL : Nat) (ret : Option FieldType) (E : xm_E) (s : xy_S) (C : xy_Q) : Option (List (xy_Q × xy_S)) := match E.1 with
  | .iconst _ => xy_1 C s (xm_next xy_G0 nL ret E (s.1, s.2.1, s.2.2.1, [], 0))
  | .bipush _ => xy_1 C s (xm_next xy_G0 nL ret E (s.1, s.2.1, s.2.2.1, [], 0))
  | .sipush _ => xy_1 C s (xm_next xy_G0 nL ret E (s.1, s.2.1, s.2.2.1, [], 0))
  | .lconst _ => xy_1 C s (xm_next xy_G0 nL ret E (s.1, s.2.1, s.2.2.1, [], 0))
  | .aconst_null => xy_1 C s (xm_next xy_G0 nL ret E (s.1, s.2.1, s.2.2.1, [], 0))
  | .ldc _ => xy_1 C s (xm_next xy_G0 nL ret E (s.1, s.2.1, s.2.2.1, [], 0))
  | .ldc2_w _ => xy_1 C s (xm_next xy_G0 nL ret E (s.1, s.2.1, s.2.2.1, [], 0))
  | .ldc_w _ => xy_1 C s (xm_next xy_G0 nL ret E (s.1, s.2.1, s.2.2.1, [], 0))
  | .iload i => xy_ldI C 2 i s
  | .iload_n i => xy_ldI C 1 i s
  | .lload i => xy_ldJ C 2 i s
  | .lload_n i => xy_ldJ C 1 i s
  | .aload _ => xy_1 C s (xm_next xy_G0 nL ret E (s.1, s.2.1, s.2.2.1, [], 0))
  | .aload_n _ => xy_1 C s (xm_next xy_G0 nL ret E (s.1, s.2.1, s.2.2.1, [], 0))
  | .istore i => xy_stI C nL 2 i s
  | .istore_n i => xy_stI C nL 1 i s
  | .lstore i => xy_stJ C nL 2 i s
  | .lstore_n i => xy_stJ C nL 1 i s
  | .astore _ => xy_1 C s (xm_next xy_G0 nL ret E (s.1, s.2.1, s.2.2.1, [], 0))
  | .astore_n _ => xy_1 C s (xm_next xy_G0 nL ret E (s.1, s.2.1, s.2.2.1, [], 0))
  | .iinc i n => xy_inc N C nL E.2.1 i n s
  | .dup => xy_1 C s (xm_next xy_G0 nL ret E (s.1, s.2.1, s.2.2.1, [], 0))
  | .pop => xy_1 C s (xm_next xy_G0 nL ret E (s.1, s.2.1, s.2.2.1, [], 0))
  | .dup_x1 => xy_1 C s (xm_next xy_G0 nL ret E (s.1, s.2.1, s.2.2.1, [], 0))
  | .dup_x2 => xy_1 C s (xm_next xy_G0 nL ret E (s.1, s.2.1, s.2.2.1, [], 0))
  | .dup2 => xy_1 C s (xm_next xy_G0 nL ret E (s.1, s.2.1, s.2.2.1, [], 0))
  | .pop2 => xy_1 C s (xm_next xy_G0 nL ret E (s.1, s.2.1, s.2.2.1, [], 0))
  | .ifCond .eq _ => xy_if C E.2.2.1 1 false false s
  | .ifCond .ne _ => xy_if C E.2.2.1 1 false true s
  | .ifCond .lt _ => xy_if C E.2.2.1 0 false false s
  | .ifCond .ge _ => xy_if C E.2.2.1 0 false true s
  | .ifCond .gt _ => xy_if C E.2.2.1 0 true false s
  | .ifCond .le _ => xy_if C E.2.2.1 0 true true s
  | .if_icmp .eq _ => xy_ic C E.2.2.1 1 false false s
  | .if_icmp .ne _ => xy_ic C E.2.2.1 1 false true s
  | .if_icmp .lt _ => xy_ic C E.2.2.1 0 false false s
  | .if_icmp .ge _ => xy_ic C E.2.2.1 0 false true s
  | .if_icmp .gt _ => xy_ic C E.2.2.1 0 true false s
  | .if_icmp .le _ => xy_ic C E.2.2.1 0 true true s
  | .ifnonnull _ => xy_1 C s (xm_next xy_G0 nL ret E (s.1, s.2.1, s.2.2.1, [], 0))
  | .goto _ => xy_1 C s (xm_next xy_G0 nL ret E (s.1, s.2.1, s.2.2.1, [], 0))
  | .tableswitch d lo hi offs => xy_sw C d lo hi offs s
  | .getfield _ => xy_gf C E.2.2.1 E.2.2.2 s
  | .putfield _ => xy_pf C E.2.2.1 E.2.2.2 s
  | .new _ => xy_new N C E.2.2.1 (xq_dv E.2.2.1) s
  | .newarray .int => xy_na N C 2 16 (.int 0) s
  | .newarray .long => xy_na N C 2 17 (.long 0) s
  | .newarray .byte => xy_na N C 2 18 (.int 0) s
  | .newarray .boolean => xy_na N C 2 19 (.int 0) s
  | .anewarray _ => xy_na N C 3 23 .null s
  | .multianewarray _ 2 => bif Nat.beq E.2.2.1 20 then xy_ma N C 20 16 (.int 0) s else bif Nat.beq E.2.2.1 21 then xy_ma N C 21 17 (.long 0) s else bif Nat.beq E.2.2.1 22 then xy_ma N C 22 18 (.int 0) s else none
  | .arraylength => xy_al N C s
  | .iaload => xy_sld N C s
  | .laload => xy_ald N C (fun t => t == 17) s
  | .baload => xy_ald N C (fun t => t == 18 || t == 19) s
  | .aaload => xy_ald N C (fun t => decide (20 ≤ t ∧ t < 24)) s
  | .iastore => xy_ast N C (fun t => t == 16) xy_nI s
  | .lastore => xy_ast N C (fun t => t == 17) xy_nJ s
  | .bastore => xy_ast N C (fun t => t == 18 || t == 19) (xy_nB N) s
  | .aastore => xy_ast N C (fun t => t == 23) xy_nD s
  | i => bif Nat.beq (xy_ary i) 0 then none else xy_cp N C i (xy_ary i) s
def xy_rt (ret : Option FieldType) (i : Instr) (st : List Value) : Option (Option Value) := match st with
  | [.float x] => (match i with
      | .ireturn => bif decide (ret = some .int) then some (some (.float x)) else none
      | _ => none)
  | [.double x] => (match i with
      | .lreturn => bif decide (ret = some .long) then some (some (.double x)) else none
      | _ => none)
  | _ => xm_rt ret i st
def xy_rcv (nL t : Nat) (as : List Value) (h : xy_W) : Bool := Nat.ble ((as.map (fun v => v.category)).sum) nL && bif Nat.beq t 0 then true else match as with
  | .ref b :: _ => (match xy_hg h b with
      | some (w, _) => Nat.blt w 64 && Nat.beq (w + 1) t
      | none => false)
  | _ => false
/-- natives: the answers, each with what is known then -/
def xy_nat (C : xy_Q) (k : Nat) (as : List Value) : Option (List (xy_Q × Option Value)) := bif Nat.beq k 1000 then (match as with
    | [.ref _] => some [(C, none)]
    | _ => none) else bif Nat.beq k 1001 then (match as with
    | [x, y] => bif xy_isI x && xy_isI y then some (xy_sp C 0 x y (fun b => some (bif b then y else x))) else none
    | _ => none) else bif Nat.beq k 1002 then (match as with
    | [x, y] => bif xy_isI x && xy_isI y then some (xy_sp C 0 y x (fun b => some (bif b then y else x))) else none
    | _ => none) else none
/-- how a run ends: it returned or threw, or it stands at a stop -/
abbrev xy_O : Type := ((Option Value ⊕ Nat) × xy_W × Nat) ⊕ xy_S
def xy_cc {α β : Type} (f : α → Option (List β)) : List α → Option (List β)
  | [] => some []
  | a :: l => match f a with
    | none => none
    | some x => match xy_cc f l with
      | none => none
      | some y => some (x ++ y)
/-- the same; the only one of a list is taken as it is: no pile grows then -/
def xy_ct {α β : Type} (f : α → Option (List β)) : List α → Option (List β)
  | [q] => f q
  | l => xy_cc f l
def xy_run (N : xy_N) (P : xm_P) : Nat → (Nat → Nat → Bool) → Nat → Nat → xm_M → xy_S → xy_Q → Option (List (xy_Q × xy_O))
  | 0, _, _, _, _, _, _ => none
  | n + 1, stop, d, j, M, s, C => bif stop n s.1 then some [(C, .inr s)] else match P.1 j s.1 with
    | none => none
    | some E => match xm_kind E with
      | 0 => (match xy_next N M.1 M.2.1 E s C with
          | none => none
          | some l => xy_ct (fun q => xy_run N P n stop d j M q.2 q.1) l)
      | 1 => (match xy_rt M.2.1 E.1 s.2.2.1 with
          | some v => some [(C, .inl (.inl v, s.2.2.2))]
          | none => none)
      | 2 => if E.2.2.2 ≤ s.2.2.1.length ∧ ((s.2.2.1.drop E.2.2.2).map (fun v => v.category)).sum ≤ 8 then
          (if 1000 ≤ E.2.2.1 then (match xy_nat C E.2.2.1 (s.2.2.1.take E.2.2.2).reverse with
              | none => none
              | some l => xy_ct (fun q => xy_run N P n stop d j M (s.1 + 3, s.2.1, q.2.toList ++ s.2.2.1.drop E.2.2.2, s.2.2.2) q.1) l)
            else match d with
            | 0 => none
            | d' + 1 => match P.2.1 E.2.2.1 with
              | none => none
              | some M' => if xy_rcv M'.1 M'.2.2.2 (s.2.2.1.take E.2.2.2).reverse s.2.2.2.1 = true then (match xy_run N P n (fun _ _ => false) d' E.2.2.1 M' (0, xm_args 0 (s.2.2.1.take E.2.2.2).reverse, [], s.2.2.2) C with
                | none => none
                | some l => xy_ct (fun q => match q.2 with
                    | .inl (.inl v, h', ns') => xy_run N P n stop d j M (s.1 + 3, s.2.1, v.toList ++ s.2.2.1.drop E.2.2.2, h', ns') q.1
                    | .inl (.inr a, h', ns') => (match xy_hg h' a with
                        | some (t, _) => if t < 64 then (match M.2.2.1 with
                            | [] => some [(q.1, .inl (.inr a, h', ns'))]
                            | _ => (match xm_hd s.1 t M.2.2.1 with
                                | some p => xy_run N P n stop d j M (p, s.2.1, [.ref a], h', ns') q.1
                                | none => none)) else none
                        | none => none)
                    | .inr _ => none) l) else none)
          else none
      | _ => if M.2.2.1 = [] ∧ s.2.2.1 = [] ∧ E.2.2.1 < 64 ∧ xy_rm N s 1 6 = true then some [(C, .inl (.inr s.2.2.2.1.2, xy_ha s.2.2.2.1 (E.2.2.1, List.replicate 6 .null), s.2.2.2.2 + 6))] else none
