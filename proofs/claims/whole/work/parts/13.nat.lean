/-! String.length, String.charAt and System.arraycopy as one step each: the three Strings as they lie at the start -/
def xn_sb (k : Nat) : List Nat := match k with
  | 0 => [100, 105, 109, 101, 110, 115, 105, 111, 110, 32, 109, 101, 97, 115, 117, 114, 101, 32, 109, 101, 109, 98, 101, 114, 32, 115, 101, 108, 101, 99, 116, 32, 119, 104, 101, 114, 101, 32, 103, 114, 111, 117, 112, 32, 98, 121, 32, 114, 111, 108, 108, 117, 112, 32, 99, 117, 98, 101, 32, 103, 114, 111, 117, 112, 105, 110, 103, 32, 115, 117, 109, 32, 99, 111, 117, 110, 116, 32, 109, 105, 110, 32, 109, 97, 120, 32, 97, 110, 100, 32, 111, 114, 32, 110, 111, 116, 32, 98, 101, 116, 119, 101, 101, 110, 32, 105, 110, 32]
  | 1 => [40, 41, 44, 59, 46, 42, 61, 60, 62]
  | _ => [32, 100, 105, 109, 101, 110, 115, 105, 111, 110, 32, 109, 101, 97, 115, 117, 114, 101, 32, 109, 101, 109, 98, 101, 114, 32, 115, 101, 108, 101, 99, 116, 32, 119, 104, 101, 114, 101, 32, 103, 114, 111, 117, 112, 32, 98, 121, 32, 114, 111, 108, 108, 117, 112, 32, 99, 117, 98, 101, 32, 103, 114, 111, 117, 112, 105, 110, 103, 32, 115, 117, 109, 32, 99, 111, 117, 110, 116, 32, 109, 105, 110, 32, 109, 97, 120, 32, 97, 110, 100, 32, 111, 114, 32, 110, 111, 116, 32, 98, 101, 116, 119, 101, 101, 110, 32, 105, 110, 32]
theorem xn_sbl (k : Nat) : (xn_sb k).length < 128 := by
  unfold xn_sb
  split <;> decide
def xn_fm : String := "Ljava/util/function/BiFunction;"
/-- a field of String's, read in the cell -/
def xn_fd (s : State) (n d : String) (cell : Cell) (v : Value) : Prop := ∃ (cf i : Nat) (k : Class) (f : Field), s.fieldFound? str n d = some (cf, k, i, f) ∧ f.isStatic = false ∧ cell.vm ≠ .unknown ∧ cell.vm.isStatics = false ∧ s.vm.assignable cell.cls cf = true ∧ cell.slots[f.slot]? = some v
/-- the String a with the letters bs, whose array is at d -/
def xn_S (n0 a : Nat) (bs : List Nat) (s : State) : Prop := ∃ (d : Nat) (cell arr : Cell), a < n0 ∧ d < n0 ∧ s.heap[a]? = some cell ∧ s.heap[d]? = some arr ∧ (Cond.exactly (.arg 0) str).before #[.ref a] s = true ∧ xn_fd s "coder" "B" cell (.int 0) ∧ xn_fd s "value" "[B" cell (.ref d) ∧ s.isArrayOf arr .byte ∧ arr.vm ≠ .unknown ∧ arr.slots.size = bs.length ∧
  ∀ j : Nat, j < bs.length → arr.slots[j]? = some (.int (Int32.ofNat (bs.getD j 0)))
def xn_st (n0 : Nat) (s : State) (cls name desc : String) (v : Value) : Prop := Lib.Cold.StaticIs s cls name desc v
/-- what a state knows of the start -/
def xn_B (n0 : Nat) (s0 U : State) : Prop := s0.WarmedH U.vm ∧ s0.heap.size = n0 ∧ ∀ q : Nat, q < n0 → U.heap[q]? = s0.heap[q]?
theorem xn_fd.moved {s0 U : State} {n d : String} {cell : Cell} {v : Value} (h : xn_fd s0 n d cell v) (hv : s0.vm.Alike U.vm) : xn_fd U n d cell v := by
  obtain ⟨cf, i, k, f, h1, h2, h3, h4, h5, h6⟩ := h
  obtain ⟨k', hk', -⟩ := State.fieldFound?_setVm hv h1
  exact ⟨cf, i, k', f, hk', h2, h3, h4, by rw [hv.assignable]; exact h5, h6⟩
theorem xn_fd.eval {U : State} {n d : String} {cell : Cell} {v : Value} {a : Nat} {args : Array Value} (h : xn_fd U n d cell v) (hc : U.heap[a]? = some cell) (ha : args[0]? = some (.ref a)) : (Term.field (.arg 0) str n d).eval args U none [] U = some v := by
  obtain ⟨cf, i, k, f, h1, h2, h3, h4, h5, h6⟩ := h
  exact Term.field_eval h1 ha h2 hc h3 h4 h5 h6
theorem xn_exm {s0 U : State} {a : Nat} {args : Array Value} (hv : s0.vm.Alike U.vm) (hh : U.heap[a]? = s0.heap[a]?) (ha : args[0]? = some (.ref a)) (h : (Cond.exactly (.arg 0) str).before #[.ref a] s0 = true) : (Cond.exactly (.arg 0) str).before args U = true := by
  rw [← Cond.exactly_arg_setVm hv] at h
  have e1 : (Term.arg 0).eval args U none [] U = some (.ref a) := ha
  have e2 : (Term.arg 0).eval #[.ref a] (s0.setVm U.vm) none [] (s0.setVm U.vm) = some (.ref a) := rfl
  simp only [Cond.before, Cond.holds, Cond.value, e1] at h ⊢
  simp only [e2, State.vm_setVm, State.heap_setVm] at h
  cases hc : U.vm.findClass str with
  | none => simp [hc] at h
  | some c =>
    simp only [hc] at h ⊢
    rw [hh]
    exact h
theorem xn_S.moved {n0 a : Nat} {bs : List Nat} {s0 U : State} (h : xn_S n0 a bs s0) (hB : xn_B n0 s0 U) : xn_S n0 a bs U := by
  obtain ⟨d, cell, arr, h1, h2, h3, h4, h5, h6, h7, h8, h9⟩ := h
  have hv := hB.1.alike
  exact ⟨d, cell, arr, h1, h2, by rw [hB.2.2 a h1]; exact h3, by rw [hB.2.2 d h2]; exact h4, xn_exm hv (hB.2.2 a h1) rfl h5, h6.moved hv, h7.moved hv, State.isArrayOf_alike hv h8, h9⟩
theorem xn_stm {n0 : Nat} {s0 U : State} {cls name desc : String} {v : Value} (h : Lib.Cold.StaticIs s0 cls name desc v) (hB : xn_B n0 s0 U) : Lib.Cold.StaticIs U cls name desc v := by
  obtain ⟨cf, i, k, f, a1, cell1, h1, h2, h3, h4, h5, h6, h7⟩ := h
  obtain ⟨k', hk', he⟩ := State.fieldFound?_setVm hB.1.alike h1
  have hlt : a1 < s0.heap.size := (Array.getElem?_eq_some_iff.mp h5).1
  exact ⟨cf, i, k', f, a1, cell1, hk', h2, by rw [he]; exact h3, by rw [he]; exact h4, by rw [hB.2.2 a1 (by rw [← hB.2.1]; exact hlt)]; exact h5, h6, h7⟩
/-- an instance method with its code declares its name -/
theorem xn_decl {U : State} {args A1 A2 : Array Value} {y : MethodName} {bytes : ByteArray} {ml : Nat} {ret : Option FieldType} (h1 : (Cond.instanceMethod y).before A1 U = true) (h2 : (Cond.code y bytes ml ret).before A2 U = true) : (Cond.declares y).before args U = true := by
  obtain ⟨mk, mt, q1, q2, q3, -⟩ := Cond.instanceMethod_spec h1
  obtain ⟨mt', ck, r1, -, -, -, -, -, -, r8⟩ := Cond.code_spec q1 h2
  cases q2.symm.trans r1
  simp [Cond.before, Cond.holds, Cond.value, q1, q2, q3, r8]
theorem xn_sig {U : State} {A : Array Value} {y : MethodName} {bytes : ByteArray} {ml : Nat} {ret : Option FieldType} (h2 : (Cond.code y bytes ml ret).before A U = true) : Lib.Cold.Sig U y := by
  obtain ⟨mk, q1⟩ := Cond.code_named h2
  obtain ⟨mt', ck, r1, -, -, -, -, -, -, r8⟩ := Cond.code_spec q1 h2
  exact ⟨mk, mt', q1, r1, r8⟩
def xn_nw : List Cond := [.code Lib.Str.length.name Lib.String.length.code 1 (some .int), .instanceMethod Lib.Str.length.name, .selects str Lib.Str.length.name Lib.Str.length.name, .code Lib.String.coder.name Lib.String.coder.code 1 (some .byte), .instanceMethod Lib.String.coder.name, .selects str Lib.String.coder.name Lib.String.coder.name,
  .methodLink str 335 Lib.String.coder.name, .fieldLink str 9 str "value" "[B", .fieldLink str 15 str "coder" "B", .fieldLink str 38 str "COMPACT_STRINGS" "Z", .initialized str, .initialized sl1, .initialized pre_,
  .code Lib.Str.charAt.name Lib.Str.charAt.code 2 (some .char), .instanceMethod Lib.Str.charAt.name, .selects str Lib.Str.charAt.name Lib.Str.charAt.name, .methodLink str 492 Lib.Str.isLatin1.name, .instanceMethod Lib.Str.isLatin1.name, .selects str Lib.Str.isLatin1.name Lib.Str.isLatin1.name, .code Lib.Str.isLatin1.name Lib.String.isLatin1.code 1 (some .boolean),
  .methodLink str 495 Lib.SL1.charAt.name, .static Lib.SL1.charAt.name, .code Lib.SL1.charAt.name Lib.SL1.charAt.code 2 (some .char), .methodLink sl1 9 Lib.Str.checkIndex.name, .static Lib.Str.checkIndex.name, .code Lib.Str.checkIndex.name Lib.Str.checkIndex.code 2 none,
  .fieldLink str 1053 pre_ "SIOOBE_FORMATTER" xn_fm, .methodLink str 1059 Lib.Preconditions.checkIndex.name, .static Lib.Preconditions.checkIndex.name, .code Lib.Preconditions.checkIndex.name Lib.Preconditions.checkIndex.code 3 (some .int),
  .native arraycopyName, .static arraycopyName, .initialized "java/lang/System"]
theorem xn_nw_in : ∀ w ∈ xn_nw, w ∈ lw_tbl ∧ xs_wd w = true := by
  have h : xn_nw.all (fun w => decide (w ∈ lw_tbl) && xs_wd w) = true := by decide +kernel
  intro w hw
  have := List.all_eq_true.mp h w hw
  rw [Bool.and_eq_true] at this
  exact ⟨of_decide_eq_true this.1, this.2⟩
