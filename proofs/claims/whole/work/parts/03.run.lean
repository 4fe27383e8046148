/-! what an instruction does, and a run -/
/-- the classes' fields' default values, the check of a value that is put, by class and place; the script -/
abbrev xm_G : Type := (Nat → List Value) × (Nat → Nat → Value → Bool) × (Nat → Int32) × Nat
def xm_next (G : xm_G) (nL : Nat) (ret : Option FieldType) (E : xm_E) (s : xm_S) : Option xm_A := match E.1 with
  | .iconst n => xm_psh 1 (.int (Int32.ofInt n)) s
  | .bipush n => xm_psh 2 (.int (Int8.ofInt n).toInt32) s
  | .sipush n => xm_psh 3 (.int (Int16.ofInt n).toInt32) s
  | .lconst n => xm_psh 1 (.long (Int64.ofNat n)) s
  | .aconst_null => xm_psh 1 .null s
  | .ldc _ => if E.2.2.1 = 0 then xm_psh 2 (.int (Int32.ofNat E.2.2.2)) s else if E.2.2.1 = 1 ∧ E.2.2.2 < 3 then xm_psh 2 (.retAddr E.2.2.2) s else none
  | .ldc2_w _ => xm_psh 3 (.long (Int64.ofNat E.2.2.2)) s
  | .ldc_w _ => xm_psh 3 (.int (Int32.ofNat E.2.2.2)) s
  | .iload i => xm_ldI 2 i s
  | .iload_n i => xm_ldI 1 i s
  | .lload i => xm_ldJ 2 i s
  | .lload_n i => xm_ldJ 1 i s
  | .aload i => xm_ldA 2 i s
  | .aload_n i => xm_ldA 1 i s
  | .istore i => xm_stI nL 2 i s
  | .istore_n i => xm_stI nL 1 i s
  | .lstore i => xm_stJ nL 2 i s
  | .lstore_n i => xm_stJ nL 1 i s
  | .astore i => xm_stA nL 2 i s
  | .astore_n i => xm_stA nL 1 i s
  | .iinc i n => xm_inc nL E.2.1 i n s
  | .iadd => xm_ii (fun x y => x + y) s
  | .isub => xm_ii (fun x y => x - y) s
  | .imul => xm_ii (fun x y => x * y) s
  | .iand => xm_ii (fun x y => x &&& y) s
  | .ior => xm_ii (fun x y => x ||| y) s
  | .ixor => xm_ii (fun x y => x ^^^ y) s
  | .ishl => xm_ii (fun x y => x <<< (y &&& 31)) s
  | .ishr => xm_ii (fun x y => x >>> (y &&& 31)) s
  | .iushr => xm_ii (fun x y => (x.toUInt32 >>> (y.toUInt32 &&& Int32.toUInt32 31)).toInt32) s
  | .idiv => xm_iz (fun x y => x / y) s
  | .irem => xm_iz (fun x y => x - x / y * y) s
  | .ladd => xm_jj (fun x y => x + y) s
  | .lsub => xm_jj (fun x y => x - y) s
  | .lmul => xm_jj (fun x y => x * y) s
  | .land => xm_jj (fun x y => x &&& y) s
  | .lor => xm_jj (fun x y => x ||| y) s
  | .lxor => xm_jj (fun x y => x ^^^ y) s
  | .lrem => xm_jz (fun x y => x - x / y * y) s
  | .lneg => xm_j1 (fun x => .long (-x)) s
  | .lshl => xm_ji (fun x y => x <<< (y.toInt64 &&& 63)) s
  | .lshr => xm_ji (fun x y => x >>> (y.toInt64 &&& 63)) s
  | .lushr => xm_ji (fun x y => (x.toUInt64 >>> (y.toInt64.toUInt64 &&& Int64.toUInt64 63)).toInt64) s
  | .lcmp => xm_cmp s
  | .i2l => xm_i1 (fun x => .long x.toInt64) s
  | .l2i => xm_j1 (fun x => .int x.toInt32) s
  | .i2b => xm_i1 (fun x => .int x.toInt8.toInt32) s
  | .i2c => xm_i1 (fun x => .int (x.toUInt32 % 65536).toInt32) s
  | .dup => xm_dup s
  | .pop => xm_pop s
  | .dup_x1 => xm_dx1 s
  | .dup_x2 => xm_dx2 s
  | .dup2 => xm_du2 s
  | .pop2 => xm_po2 s
  | .ifCond .eq _ => xm_if E.2.2.1 (fun x => decide (x = 0)) s
  | .ifCond .ne _ => xm_if E.2.2.1 (fun x => !decide (x = 0)) s
  | .ifCond .lt _ => xm_if E.2.2.1 (fun x => decide (x < 0)) s
  | .ifCond .ge _ => xm_if E.2.2.1 (fun x => decide (0 ≤ x)) s
  | .ifCond .gt _ => xm_if E.2.2.1 (fun x => decide (0 < x)) s
  | .ifCond .le _ => xm_if E.2.2.1 (fun x => decide (x ≤ 0)) s
  | .if_icmp .eq _ => xm_ic E.2.2.1 (fun x y => decide (x = y)) s
  | .if_icmp .ne _ => xm_ic E.2.2.1 (fun x y => !decide (x = y)) s
  | .if_icmp .lt _ => xm_ic E.2.2.1 (fun x y => decide (x < y)) s
  | .if_icmp .ge _ => xm_ic E.2.2.1 (fun x y => decide (y ≤ x)) s
  | .if_icmp .gt _ => xm_ic E.2.2.1 (fun x y => decide (y < x)) s
  | .if_icmp .le _ => xm_ic E.2.2.1 (fun x y => decide (x ≤ y)) s
  | .ifnonnull _ => xm_nn E.2.2.1 s
  | .goto _ => xm_go (E.2.2.1, s.2)
  | .tableswitch d lo hi offs => xm_sw d lo hi offs s
  | .getfield _ => xm_gf E.2.2.1 E.2.2.2 s
  | .putfield _ => xm_pf (G.2.1 E.2.2.1 E.2.2.2) E.2.2.1 E.2.2.2 s
  | .new _ => xm_new E.2.2.1 (G.1 E.2.2.1) s
  | .newarray .int => xm_na 2 16 (.int 0) s
  | .newarray .long => xm_na 2 17 (.long 0) s
  | .newarray .byte => xm_na 2 18 (.int 0) s
  | .newarray .boolean => xm_na 2 19 (.int 0) s
  | .anewarray _ => xm_na 3 23 .null s
  | .multianewarray _ 2 => if E.2.2.1 = 20 then xm_ma 20 16 (.int 0) s else if E.2.2.1 = 21 then xm_ma 21 17 (.long 0) s else if E.2.2.1 = 22 then xm_ma 22 18 (.int 0) s else none
  | .arraylength => xm_al G.2.2.2 s
  | .iaload => xm_sld G.2.2.1 G.2.2.2 s
  | .laload => xm_ald (fun t => t == 17) s
  | .baload => xm_ald (fun t => t == 18 || t == 19) s
  | .aaload => xm_ald (fun t => decide (20 ≤ t ∧ t < 24)) s
  | .iastore => xm_ast (fun t => t == 16) xm_nI s
  | .lastore => xm_ast (fun t => t == 17) xm_nJ s
  | .bastore => xm_ast (fun t => t == 18 || t == 19) xm_nB s
  | .aastore => xm_ast (fun t => t == 23) (xm_nD s.2.2.2.1) s
  | .invokevirtual _ => xm_call E.2.2.1 E.2.2.2 s
  | .invokespecial _ => xm_call E.2.2.1 E.2.2.2 s
  | .invokestatic _ => xm_call E.2.2.1 E.2.2.2 s
  | .ireturn => xm_ret ret s
  | .lreturn => xm_ret ret s
  | .areturn => xm_ret ret s
  | .return_ => if s.2.2.1 = [] ∧ ret = none then some (.inr (.inl none)) else none
  | _ => none
/-- the locals at a method's entry -/
def xm_args : Nat → List Value → xm_L
  | _, [] => []
  | i, v :: vs => (i, v) :: xm_args (if v.category = 2 then i + 2 else i + 1) vs
/-- a method: its locals, what it gives, its handlers (from, to, handler, class), its receiver's class and 1 (0: not asked) -/
abbrev xm_M : Type := Nat × Option FieldType × List (Nat × Nat × Nat × Nat) × Nat
/-- a handler for the class t at pc -/
def xm_hd (pc t : Nat) (hs : List (Nat × Nat × Nat × Nat)) : Option Nat := match hs with
  | [] => none
  | (a, b, q, u) :: r => if a ≤ pc ∧ pc < b then (if u = t then some q else xm_hd pc t r) else xm_hd pc t r
/-- no handler covers pc -/
def xm_un (pc : Nat) (hs : List (Nat × Nat × Nat × Nat)) : Bool := hs.all (fun x => !(decide (x.1 ≤ pc) && decide (pc < x.2.1)))
/-- the members that are taken as one step: the constructor of Object, a String constant's length and signs, arraycopy -/
abbrev xm_N : Type := Nat → List Value → xm_H → Option (Option Value × xm_H)
/-- the program: its instructions, its methods, its natives -/
abbrev xm_P : Type := (Nat → Nat → Option xm_E) × (Nat → Option xm_M) × xm_N
/-- 0: goes on; 1: a return; 2: a call; 3: 'throw new X()' in one step (the instruction is the 'new', X one of the two exceptions 14, 15) -/
def xm_kind (E : xm_E) : Nat := match E.1 with
  | .ireturn => 1
  | .lreturn => 1
  | .areturn => 1
  | .return_ => 1
  | .invokevirtual _ => 2
  | .invokespecial _ => 2
  | .invokestatic _ => 2
  | .new _ => if 14 ≤ E.2.2.1 then 3 else 0
  | _ => 0
def xm_rt (ret : Option FieldType) (i : Instr) (st : List Value) : Option (Option Value) := match i with
  | .ireturn => (match st with
      | [.int x] => (match ret with
          | some ty => if narrow ty (.int x) = .int x then some (some (.int x)) else none
          | none => none)
      | _ => none)
  | .lreturn => (match st with
      | [.long x] => if ret = some .long then some (some (.long x)) else none
      | _ => none)
  | .areturn => (match st with
      | [.ref x] => (match ret with
          | some (.object _) => some (some (.ref x))
          | _ => none)
      | _ => none)
  | .return_ => (match st with
      | [] => if ret = none then some none else none
      | _ => none)
  | _ => none
def xm_rcv (nL t : Nat) (as : List Value) (h : xm_H) : Bool := decide ((as.map (fun v => v.category)).sum ≤ nL) && if t = 0 then true else match as with
  | .ref b :: _ => (match h[b]? with
      | some (u, _) => u + 1 == t
      | none => false)
  | _ => false
def xm_run (G : xm_G) (P : xm_P) : Nat → Nat → Nat → xm_M → xm_S → Option ((Option Value ⊕ Nat) × xm_H × Nat)
  | 0, _, _, _, _ => none
  | n + 1, d, j, M, s => match P.1 j s.1 with
    | none => none
    | some E => match xm_kind E with
      | 0 => (match xm_next G M.1 M.2.1 E s with
          | some (.inl s') => xm_run G P n d j M s'
          | _ => none)
      | 1 => (match xm_rt M.2.1 E.1 s.2.2.1 with
          | some v => some (.inl v, s.2.2.2)
          | none => none)
      | 2 => if E.2.2.2 ≤ s.2.2.1.length ∧ ((s.2.2.1.drop E.2.2.2).map (fun v => v.category)).sum ≤ 8 then
          (if 1000 ≤ E.2.2.1 then (match P.2.2 E.2.2.1 (s.2.2.1.take E.2.2.2).reverse s.2.2.2.1 with
              | some (v, h') => xm_run G P n d j M (s.1 + 3, s.2.1, v.toList ++ s.2.2.1.drop E.2.2.2, h', s.2.2.2.2)
              | none => none)
            else match d with
            | 0 => none
            | d' + 1 => match P.2.1 E.2.2.1 with
              | none => none
              | some M' => if xm_rcv M'.1 M'.2.2.2 (s.2.2.1.take E.2.2.2).reverse s.2.2.2.1 = true then (match xm_run G P n d' E.2.2.1 M' (0, xm_args 0 (s.2.2.1.take E.2.2.2).reverse, [], s.2.2.2) with
                | none => none
                | some (.inl v, h', ns') => xm_run G P n d j M (s.1 + 3, s.2.1, v.toList ++ s.2.2.1.drop E.2.2.2, h', ns')
                | some (.inr a, h', ns') => (match h'[a]? with
                    | some (t, _) => (match M.2.2.1 with
                        | [] => some (.inr a, h', ns')
                        | _ => (match xm_hd s.1 t M.2.2.1 with
                            | some q => xm_run G P n d j M (q, s.2.1, [.ref a], h', ns')
                            | none => if xm_un s.1 M.2.2.1 = true then some (.inr a, h', ns') else none))
                    | none => none)) else none)
          else none
      | _ => if M.2.2.1 = [] ∧ s.2.2.1 = [] ∧ s.2.2.2.1.length + 1 ≤ xm_cm ∧ s.2.2.2.2 + 6 ≤ xm_sm then some (.inr s.2.2.2.1.length, s.2.2.2.1 ++ [(E.2.2.1, List.replicate 6 .null)], s.2.2.2.2 + 6) else none
