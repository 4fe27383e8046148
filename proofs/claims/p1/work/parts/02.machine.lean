/-! THE PURE MACHINE: a cell is a number for its class and its values (an object's fields in the order of its table, an array's elements); a reference is the place of a cell in the list; '.retAddr i' stands for the i-th cell from outside (a String constant, the script). -/
abbrev xm_C : Type := Nat × List Value
abbrev xm_H : Type := List xm_C
abbrev xm_L : Type := List (Nat × Value)
/-- pc, locals, operand stack, heap, slots made -/
abbrev xm_S : Type := Nat × xm_L × List Value × xm_H × Nat
/-- an instruction, its length, and two numbers that its links gave -/
abbrev xm_E : Type := Instr × Nat × Nat × Nat
/-- it goes on, returns, calls (method, arguments, what is left on the stack) -/
abbrev xm_A : Type := xm_S ⊕ (Option Value ⊕ (Nat × List Value × List Value))
def xm_cm : Nat := 600002
def xm_sm : Nat := 7302198
def xm_lg (loc : xm_L) (i : Nat) : Option Value := (loc.find? (fun q => q.1 == i)).map (fun q => q.2)
def xm_s1 (loc : xm_L) (i : Nat) (v : Value) : xm_L := (i, v) :: loc.filter (fun q => !(q.1 == i) && !(q.1 + 1 == i && q.2.category == 2))
def xm_s2 (loc : xm_L) (i : Nat) (v : Value) : xm_L := (i, v) :: loc.filter (fun q => !(q.1 == i) && (!(q.1 == i + 1) && !(q.1 + 1 == i && q.2.category == 2)))
def xm_isA : Value → Bool
  | .ref _ => true
  | .null => true
  | .retAddr _ => true
  | _ => false
def xm_go (s : xm_S) : Option xm_A := some (.inl s)
def xm_ldI (len i : Nat) (s : xm_S) : Option xm_A := match xm_lg s.2.1 i with
  | some (.int x) => xm_go (s.1 + len, s.2.1, .int x :: s.2.2.1, s.2.2.2)
  | _ => none
def xm_ldJ (len i : Nat) (s : xm_S) : Option xm_A := match xm_lg s.2.1 i with
  | some (.long x) => xm_go (s.1 + len, s.2.1, .long x :: s.2.2.1, s.2.2.2)
  | _ => none
def xm_ldA (len i : Nat) (s : xm_S) : Option xm_A := match xm_lg s.2.1 i with
  | some v => if xm_isA v then xm_go (s.1 + len, s.2.1, v :: s.2.2.1, s.2.2.2) else none
  | _ => none
def xm_stI (nL len i : Nat) (s : xm_S) : Option xm_A := match s.2.2.1 with
  | .int x :: r => if i < nL then xm_go (s.1 + len, xm_s1 s.2.1 i (.int x), r, s.2.2.2) else none
  | _ => none
def xm_stJ (nL len i : Nat) (s : xm_S) : Option xm_A := match s.2.2.1 with
  | .long x :: r => if i + 1 < nL then xm_go (s.1 + len, xm_s2 s.2.1 i (.long x), r, s.2.2.2) else none
  | _ => none
def xm_stA (nL len i : Nat) (s : xm_S) : Option xm_A := match s.2.2.1 with
  | v :: r => if xm_isA v && decide (i < nL) then xm_go (s.1 + len, xm_s1 s.2.1 i v, r, s.2.2.2) else none
  | _ => none
def xm_inc (nL len i : Nat) (n : Int) (s : xm_S) : Option xm_A := match xm_lg s.2.1 i with
  | some (.int x) => if i < nL then xm_go (s.1 + len, xm_s1 s.2.1 i (.int (x + Int32.ofInt n)), s.2.2) else none
  | _ => none
def xm_psh (len : Nat) (v : Value) (s : xm_S) : Option xm_A := xm_go (s.1 + len, s.2.1, v :: s.2.2.1, s.2.2.2)
def xm_ii (f : Int32 → Int32 → Int32) (s : xm_S) : Option xm_A := match s.2.2.1 with
  | .int y :: .int x :: r => xm_go (s.1 + 1, s.2.1, .int (f x y) :: r, s.2.2.2)
  | _ => none
def xm_iz (f : Int32 → Int32 → Int32) (s : xm_S) : Option xm_A := match s.2.2.1 with
  | .int y :: .int x :: r => if y = 0 then none else xm_go (s.1 + 1, s.2.1, .int (f x y) :: r, s.2.2.2)
  | _ => none
def xm_jj (f : Int64 → Int64 → Int64) (s : xm_S) : Option xm_A := match s.2.2.1 with
  | .long y :: .long x :: r => xm_go (s.1 + 1, s.2.1, .long (f x y) :: r, s.2.2.2)
  | _ => none
def xm_jz (f : Int64 → Int64 → Int64) (s : xm_S) : Option xm_A := match s.2.2.1 with
  | .long y :: .long x :: r => if y = 0 then none else xm_go (s.1 + 1, s.2.1, .long (f x y) :: r, s.2.2.2)
  | _ => none
def xm_ji (f : Int64 → Int32 → Int64) (s : xm_S) : Option xm_A := match s.2.2.1 with
  | .int y :: .long x :: r => xm_go (s.1 + 1, s.2.1, .long (f x y) :: r, s.2.2.2)
  | _ => none
def xm_i1 (f : Int32 → Value) (s : xm_S) : Option xm_A := match s.2.2.1 with
  | .int x :: r => xm_go (s.1 + 1, s.2.1, f x :: r, s.2.2.2)
  | _ => none
def xm_j1 (f : Int64 → Value) (s : xm_S) : Option xm_A := match s.2.2.1 with
  | .long x :: r => xm_go (s.1 + 1, s.2.1, f x :: r, s.2.2.2)
  | _ => none
def xm_cmp (s : xm_S) : Option xm_A := match s.2.2.1 with
  | .long y :: .long x :: r => xm_go (s.1 + 1, s.2.1, .int (lg_cmp x y) :: r, s.2.2.2)
  | _ => none
/-- a branch on the top int -/
def xm_if (t : Nat) (P : Int32 → Bool) (s : xm_S) : Option xm_A := match s.2.2.1 with
  | .int x :: r => xm_go (if P x then t else s.1 + 3, s.2.1, r, s.2.2.2)
  | _ => none
/-- a branch on the two top ints -/
def xm_ic (t : Nat) (P : Int32 → Int32 → Bool) (s : xm_S) : Option xm_A := match s.2.2.1 with
  | .int y :: .int x :: r => xm_go (if P x y then t else s.1 + 3, s.2.1, r, s.2.2.2)
  | _ => none
def xm_nn (t : Nat) (s : xm_S) : Option xm_A := match s.2.2.1 with
  | .ref _ :: r => xm_go (t, s.2.1, r, s.2.2.2)
  | .null :: r => xm_go (s.1 + 3, s.2.1, r, s.2.2.2)
  | _ => none
def xm_sw (d lo hi : Int) (offs : Array Int) (s : xm_S) : Option xm_A := match s.2.2.1 with
  | .int x :: r =>
    if x.toInt < lo ∨ hi < x.toInt then
      (if 0 ≤ (s.1 : Int) + d then xm_go (((s.1 : Int) + d).toNat, s.2.1, r, s.2.2.2) else none)
    else match offs[(x.toInt - lo).toNat]? with
      | some o => if 0 ≤ (s.1 : Int) + o then xm_go (((s.1 : Int) + o).toNat, s.2.1, r, s.2.2.2) else none
      | none => none
  | _ => none
def xm_c1 (v : Value) : Bool := v.category == 1
def xm_dup (s : xm_S) : Option xm_A := match s.2.2.1 with
  | v :: r => if xm_c1 v then xm_go (s.1 + 1, s.2.1, v :: v :: r, s.2.2.2) else none
  | _ => none
def xm_pop (s : xm_S) : Option xm_A := match s.2.2.1 with
  | v :: r => if xm_c1 v then xm_go (s.1 + 1, s.2.1, r, s.2.2.2) else none
  | _ => none
def xm_dx1 (s : xm_S) : Option xm_A := match s.2.2.1 with
  | v :: w :: r => if xm_c1 v && xm_c1 w then xm_go (s.1 + 1, s.2.1, v :: w :: v :: r, s.2.2.2) else none
  | _ => none
def xm_dx2 (s : xm_S) : Option xm_A := match s.2.2.1 with
  | v :: w :: z :: r => if xm_c1 v && (xm_c1 w && xm_c1 z) then xm_go (s.1 + 1, s.2.1, v :: w :: z :: v :: r, s.2.2.2) else none
  | _ => none
def xm_du2 (s : xm_S) : Option xm_A := match s.2.2.1 with
  | v :: r => if xm_c1 v then (match r with
      | w :: r' => if xm_c1 w then xm_go (s.1 + 1, s.2.1, v :: w :: v :: w :: r', s.2.2.2) else none
      | _ => none) else xm_go (s.1 + 1, s.2.1, v :: v :: r, s.2.2.2)
  | _ => none
def xm_po2 (s : xm_S) : Option xm_A := match s.2.2.1 with
  | v :: r => if xm_c1 v then (match r with
      | w :: r' => if xm_c1 w then xm_go (s.1 + 1, s.2.1, r', s.2.2.2) else none
      | _ => none) else xm_go (s.1 + 1, s.2.1, r, s.2.2.2)
  | _ => none
/-- the field k of an object of the class t -/
def xm_gf (t k : Nat) (s : xm_S) : Option xm_A := match s.2.2.1 with
  | .ref a :: r => (match s.2.2.2.1[a]? with
      | some (t', vs) => if t' = t then (match vs[k]? with
          | some v => xm_go (s.1 + 3, s.2.1, v :: r, s.2.2.2)
          | none => none) else none
      | none => none)
  | _ => none
def xm_pf (ok : Value → Bool) (t k : Nat) (s : xm_S) : Option xm_A := match s.2.2.1 with
  | v :: .ref a :: r => (match s.2.2.2.1[a]? with
      | some (t', vs) => if t' = t ∧ k < vs.length ∧ ok v = true then xm_go (s.1 + 3, s.2.1, r, s.2.2.2.1.set a (t', vs.set k v), s.2.2.2.2) else none
      | none => none)
  | _ => none
/-- an object of the class t, of such fields -/
def xm_new (t : Nat) (fs : List Value) (s : xm_S) : Option xm_A :=
  if s.2.2.2.1.length + 1 ≤ xm_cm ∧ s.2.2.2.2 + fs.length ≤ xm_sm then xm_go (s.1 + 3, s.2.1, .ref s.2.2.2.1.length :: s.2.2.1, s.2.2.2.1 ++ [(t, fs)], s.2.2.2.2 + fs.length) else none
/-- an array of the class t, filled with v -/
def xm_na (len t : Nat) (v : Value) (s : xm_S) : Option xm_A := match s.2.2.1 with
  | .int n :: r => if ¬ n < 0 ∧ n.toNatClampNeg * 8 ≤ 536870912 ∧ s.2.2.2.1.length + 1 ≤ xm_cm ∧ s.2.2.2.2 + n.toNatClampNeg ≤ xm_sm then
      xm_go (s.1 + len, s.2.1, .ref s.2.2.2.1.length :: r, s.2.2.2.1 ++ [(t, List.replicate n.toNatClampNeg v)], s.2.2.2.2 + n.toNatClampNeg) else none
  | _ => none
/-- an array of the class t of n arrays of the class u, each of k values v -/
def xm_ma (t u : Nat) (v : Value) (s : xm_S) : Option xm_A := match s.2.2.1 with
  | .int k :: .int n :: r => if ¬ n < 0 ∧ ¬ k < 0 ∧ n.toNatClampNeg * 8 ≤ 536870912 ∧ k.toNatClampNeg * 8 ≤ 536870912 ∧ s.2.2.2.1.length + 1 + n.toNatClampNeg ≤ xm_cm ∧ s.2.2.2.2 + n.toNatClampNeg + n.toNatClampNeg * k.toNatClampNeg ≤ xm_sm then
      xm_go (s.1 + 4, s.2.1, .ref s.2.2.2.1.length :: r, s.2.2.2.1 ++ (t, (List.range n.toNatClampNeg).map (fun i => Value.ref (s.2.2.2.1.length + 1 + i))) :: List.replicate n.toNatClampNeg (u, List.replicate k.toNatClampNeg v), s.2.2.2.2 + n.toNatClampNeg + n.toNatClampNeg * k.toNatClampNeg) else none
  | _ => none
/-- which arrays: 16 int, 17 long, 18 byte, 19 boolean, 20 int[], 21 long[], 22 byte[], 23 Dimension -/
def xm_al (L : Nat) (s : xm_S) : Option xm_A := match s.2.2.1 with
  | .ref a :: r => (match s.2.2.2.1[a]? with
      | some (t, vs) => if 16 ≤ t ∧ t < 24 then xm_go (s.1 + 1, s.2.1, .int vs.length.toInt32 :: r, s.2.2.2) else none
      | none => none)
  | .retAddr 9 :: r => xm_go (s.1 + 1, s.2.1, .int L.toInt32 :: r, s.2.2.2)
  | _ => none
def xm_in (j : Int32) (n : Nat) : Bool := decide (¬ (j < 0 ∨ n ≤ j.toNatClampNeg))
def xm_ald (T : Nat → Bool) (s : xm_S) : Option xm_A := match s.2.2.1 with
  | .int j :: .ref a :: r => (match s.2.2.2.1[a]? with
      | some (t, vs) => if T t = true ∧ xm_in j vs.length = true then (match vs[j.toNatClampNeg]? with
          | some v => xm_go (s.1 + 1, s.2.1, v :: r, s.2.2.2)
          | none => none) else none
      | none => none)
  | _ => none
/-- the script's own element -/
def xm_sld (xs : Nat → Int32) (L : Nat) (s : xm_S) : Option xm_A := match s.2.2.1 with
  | .int j :: .retAddr 9 :: r => if xm_in j L = true then xm_go (s.1 + 1, s.2.1, .int (xs j.toNatClampNeg) :: r, s.2.2.2) else none
  | _ => xm_ald (fun t => t == 16) s
def xm_ast (T : Nat → Bool) (nar : Nat → Value → Option Value) (s : xm_S) : Option xm_A := match s.2.2.1 with
  | v :: .int j :: .ref a :: r => (match s.2.2.2.1[a]? with
      | some (t, vs) => if T t = true ∧ xm_in j vs.length = true then (match nar t v with
          | some w => xm_go (s.1 + 1, s.2.1, r, s.2.2.2.1.set a (t, vs.set j.toNatClampNeg w), s.2.2.2.2)
          | none => none) else none
      | none => none)
  | _ => none
def xm_nI (_ : Nat) : Value → Option Value
  | .int x => some (.int x)
  | _ => none
def xm_nJ (_ : Nat) : Value → Option Value
  | .long x => some (.long x)
  | _ => none
/-- bastore: bytes and booleans -/
def xm_nB (t : Nat) : Value → Option Value
  | .int x => if t = 18 then some (narrow .byte (.int x)) else some (narrow .boolean (.int x))
  | _ => none
/-- aastore: a Dimension into its array -/
def xm_nD (h : xm_H) (t : Nat) : Value → Option Value
  | .ref b => if t = 23 then (match h[b]? with
      | some (3, _) => some (.ref b)
      | _ => none) else none
  | _ => none
/-- a call: n arguments are taken -/
def xm_call (j n : Nat) (s : xm_S) : Option xm_A :=
  if n ≤ s.2.2.1.length ∧ ((s.2.2.1.drop n).map (fun v => v.category)).sum ≤ 8 then some (.inr (.inr (j, (s.2.2.1.take n).reverse, s.2.2.1.drop n))) else none
def xm_ret (ret : Option FieldType) (s : xm_S) : Option xm_A := match s.2.2.1 with
  | [v] => (match ret with
      | some ty => if narrow ty v = v ∧ fits ty v = true then some (.inr (.inl (some v))) else none
      | none => none)
  | _ => none
