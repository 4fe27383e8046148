/-! String.length as one step -/
section XN1
variable {p : Program} {l : Launch} {e : Env} {R : Room} {s s0 : State} {m : MethodId} {args A0 : Array Value} {below : List Frame} {meth : Method} {c : Code} {H : Heap} {locs : List Loc} {cells slots : Nat} {Q : State → Prop}
variable {cc : ByteArray} {pc : Nat} {ls : Array Slot} {rest : List Value}
theorem xn_at {U : State} (hts : ∀ w ∈ lw_tbl, w.before A0 s0 = true) (hW : s0.WarmedH U.vm) {A : Array Value} {w : Cond} (h : w ∈ xn_nw) : w.before A U = true := xs_mv hW (xn_nw_in w h).2 (hts w (xn_nw_in w h).1)
/-- a pure callee: nothing made, nothing written -/
def xn_E (_ : Array Value) (first : State) (_ : Outcome) (t : State) (L : List Loc) (k n : Nat) : Prop := L = [] ∧ k = 0 ∧ n = 0 ∧ t.heap = first.heap ∧ t.slotsUsed = first.slotsUsed
theorem xn_pure {a : Array Value} {first t : State} {o : Outcome} (h : PureEnd first o t) : ∃ L k n, FrameEnd first o t L k n ∧ xn_E a first o t L k n := by
  obtain ⟨h1, h2, h3⟩ := h
  have e2 := State.sameBut_nil.mp h3
  refine ⟨[], 0, 0, ⟨h1, h2, h3.sameButNew 0 0⟩, rfl, rfl, rfl, ?_, ?_⟩
  · have := congrArg (fun z : State => z.heap) e2
    exact this
  · have := congrArg (fun z : State => z.slotsUsed) e2
    exact this
def xn_Pre (R : Room) (n0 : Nat) (s0 : State) (as : Array Value) (A : Pt) (a : Array Value) : Prop := a = as ∧ A.cells ≤ R.cells ∧ A.slots ≤ R.slots ∧ xn_B n0 s0 A.U
def xn_Post (r : Value) (A : Pt) (_ : Array Value) (v : Option Value) (B : Pt) : Prop := v = some r ∧ ∃ vm', B = (A.U.setVm vm', A.locs, A.cells, A.slots)
theorem xn_lenB {n0 a : Nat} {bs : List Nat} {W0 : Nat} (hts : ∀ w ∈ lw_tbl, w.before A0 s0 = true) (hS : xn_S n0 a bs s0) (hz : Lib.Cold.StaticIs s0 str "COMPACT_STRINGS" "Z" (.int 1)) (hframes : 2 ≤ R.frames) (hlocals : W0 + 36 ≤ R.locals) :
    Back l R p e below s args Lib.Str.length.name 3 W0 (xn_Pre R n0 s0 #[.ref a]) (xn_Post (.int bs.length.toInt32)) := by
  obtain ⟨d, cell, arr, h1, h2, h3, h4, h5, h6, h7, h8, h9, h10, h11⟩ := hS
  have P0 : ∀ U : State, xn_B n0 s0 U → Lib.Cold.length.P a d 1 arr #[.ref a] U := fun U hB => by
    have hv := hB.1.alike
    have hcell : U.heap[a]? = some cell := by rw [hB.2.2 a h1]; exact h3
    refine ⟨rfl, (h7.moved hv).eval hcell rfl, by rw [hB.2.2 d h2]; exact h4, State.isArrayOf_alike hv h8, ?_, rfl, xn_stm hz hB, by decide, (h6.moved hv).eval hcell rfl⟩
    simp only [Lib.Cold.coder.spec, Cond.before_and, Bool.and_eq_true]
    exact ⟨xn_at hts hB.1 (by simp [xn_nw]), rfl, xn_at hts hB.1 (by simp [xn_nw]), xn_at hts hB.1 (by simp [xn_nw])⟩
  refine Back.of_free (S := Lib.Cold.length.spec) (bytes := Lib.String.length.code) (maxL := 1) (ret := some .int) (E := xn_E) (Lib.Cold.length.met l a d 1 arr) hframes (by show W0 + (1 + 11) + 24 ≤ _; omega) ?_ ?_ (fun _ _ _ _ _ _ _ _ _ => trivial) (fun _ _ _ _ h => xn_pure h.1) ?_
  · rintro m' meth' c' A a' X ⟨rfl, g1, g2, hB⟩
    refine ⟨?_, xn_at hts hB.1 (by simp [xn_nw]), xn_at hts hB.1 (w := .initialized str) (by simp [xn_nw]), g1, g2⟩
    simp only [Lib.Cold.length.spec, Cond.before_and, Bool.and_eq_true]
    exact ⟨xn_at hts hB.1 (by simp [xn_nw]), rfl, xn_exm hB.1.alike (hB.2.2 a h1) rfl h5, xn_at hts hB.1 (by simp [xn_nw]), xn_at hts hB.1 (by simp [xn_nw]), xn_decl (A1 := #[]) (A2 := #[]) (xn_at hts hB.1 (w := .instanceMethod Lib.String.coder.name) (by simp [xn_nw])) (xn_at hts hB.1 (w := .code Lib.String.coder.name Lib.String.coder.code 1 (some .byte)) (by simp [xn_nw])), xn_at hts hB.1 (by simp [xn_nw]), xn_at hts hB.1 (by simp [xn_nw]), xn_at hts hB.1 (by simp [xn_nw])⟩
  · rintro m' meth' c' A a' g mk X ⟨rfl, g1, g2, hB⟩
    exact P0 _ hB
  · rintro m' meth' c' A a' g mk v t L k n X ⟨rfl, g1, g2, hB⟩ hq hf ⟨rfl, rfl, rfl, q4, q5⟩
    have := hq.2
    cases this
    refine ⟨by rw [h10], t.vm, ?_⟩
    have e1 : t.heap = A.U.heap := q4
    have e2 : t.slotsUsed = A.U.slotsUsed := q5
    rw [e1, e2, List.append_nil]
    rfl
theorem xn_chrB {n0 a : Nat} {bs : List Nat} {W0 : Nat} {i : Int32} {fmt : Value} (hts : ∀ w ∈ lw_tbl, w.before A0 s0 = true) (hS : xn_S n0 a bs s0) (hbs : bs.length < 2 ^ 31) (hz : Lib.Cold.StaticIs s0 str "COMPACT_STRINGS" "Z" (.int 1)) (hfm : Lib.Cold.StaticIs s0 pre_ "SIOOBE_FORMATTER" xn_fm fmt) (hfr : fmt = .null ∨ ∃ q, fmt = .ref q) (hi : ¬ (i < 0 ∨ bs.length ≤ i.toNatClampNeg)) (hframes : 4 ≤ R.frames) (hlocals : W0 + 85 ≤ R.locals) :
    Back l R p e below s args Lib.Str.charAt.name 3 W0 (xn_Pre R n0 s0 #[.ref a, .int i]) (xn_Post (.int ((Int32.ofNat (bs.getD i.toNatClampNeg 0) &&& 255).toUInt32.toUInt16.toUInt32.toInt32))) := by
  obtain ⟨d, cell, arr, h1, h2, h3, h4, h5, h6, h7, h8, h9, h10, h11⟩ := hS
  have hi1 : ¬ i < 0 := fun h => hi (Or.inl h)
  have hi2 : i.toNatClampNeg < bs.length := Nat.not_le.mp fun h => hi (Or.inr h)
  have P0 : ∀ U : State, xn_B n0 s0 U → Lib.Cold.charAt.P a d i (Int32.ofNat (bs.getD i.toNatClampNeg 0)) 1 fmt arr #[.ref a, .int i] U := fun U hB => by
    have hv := hB.1.alike
    have hcell : U.heap[a]? = some cell := by rw [hB.2.2 a h1]; exact h3
    refine ⟨rfl, (h7.moved hv).eval hcell rfl, xn_sig (A := #[]) (xn_at hts hB.1 (w := .code Lib.SL1.charAt.name Lib.SL1.charAt.code 2 (some .char)) (by simp [xn_nw])), ?_, ⟨rfl, xn_stm hz hB, by decide, (h6.moved hv).eval hcell rfl⟩, ?_, rfl, by rw [hB.2.2 d h2]; exact h4, State.isArrayOf_alike hv h8, h9, by rw [h10]; exact hi, h11 _ hi2, xn_sig (A := #[]) (xn_at hts hB.1 (w := .code Lib.Str.checkIndex.name Lib.Str.checkIndex.code 2 none) (by simp [xn_nw])), ?_, rfl, xn_stm hfm hB, xn_sig (A := #[]) (xn_at hts hB.1 (w := .code Lib.Preconditions.checkIndex.name Lib.Preconditions.checkIndex.code 3 (some .int)) (by simp [xn_nw])), ?_⟩
    · simp only [Lib.Cold.isLatin1.spec, Cond.before_and, Bool.and_eq_true]
      exact ⟨xn_at hts hB.1 (by simp [xn_nw]), rfl, xn_at hts hB.1 (by simp [xn_nw]), xn_at hts hB.1 (by simp [xn_nw])⟩
    · simp only [Lib.Cold.latin1.spec, Cond.before_and, Bool.and_eq_true]
      exact ⟨xn_at hts hB.1 (by simp [xn_nw]), rfl, xn_at hts hB.1 (by simp [xn_nw]), xn_at hts hB.1 (by simp [xn_nw]), xn_at hts hB.1 (by simp [xn_nw])⟩
    · simp only [Lib.Cold.checkIndex.spec, Cond.before_and, Bool.and_eq_true]
      exact ⟨xn_at hts hB.1 (by simp [xn_nw]), rfl, xn_at hts hB.1 (by simp [xn_nw, xn_fm]), xn_at hts hB.1 (by simp [xn_nw]), xn_at hts hB.1 (by simp [xn_nw]), xn_at hts hB.1 (by simp [xn_nw])⟩
    · simp only [Lib.Preconditions.checkIndex.spec, Cond.before_and, Bool.and_eq_true]
      refine ⟨xn_at hts hB.1 (w := .code Lib.Preconditions.checkIndex.name Lib.Preconditions.checkIndex.code 3 (some .int)) (by simp [xn_nw]), rfl, rfl, rfl, ?_, ?_, ?_⟩
      · rcases hfr with rfl | ⟨q, rfl⟩ <;> rfl
      · have e : (0 : Int32) ≤ i := Int32.not_lt.mp hi1
        simp [Cond.before, Cond.holds, Cond.value, Term.eval, e]
      · have e : i < arr.slots.size.toInt32 := by
          rw [h10, Int32.lt_iff_toInt_lt]
          have a1 : (bs.length.toInt32).toInt = (bs.length : Int) := toInt_of rfl hbs
          rw [a1]
          have a2 : i.toInt = ((i.toInt.toNat : Nat) : Int) := by
            have := Int32.le_iff_toInt_le.mp (Int32.not_lt.mp hi1)
            rw [Int32.toInt_zero] at this
            omega
          have a3 : i.toInt.toNat < bs.length := hi2
          omega
        simp [Cond.before, Cond.holds, Cond.value, Term.eval, e]
  refine Back.of_free (S := Lib.Cold.charAt.spec) (bytes := Lib.Str.charAt.code) (maxL := 2) (ret := some .char) (E := xn_E) (Lib.Cold.charAt.met l a d i (Int32.ofNat (bs.getD i.toNatClampNeg 0)) 1 fmt arr) hframes (by show W0 + (2 + 11) + 72 ≤ _; omega) ?_ ?_ (fun _ _ _ _ _ _ _ _ _ => trivial) (fun _ _ _ _ h => xn_pure h.1) ?_
  · rintro m' meth' c' A a' X ⟨rfl, g1, g2, hB⟩
    refine ⟨?_, xn_at hts hB.1 (by simp [xn_nw]), xn_at hts hB.1 (w := .initialized str) (by simp [xn_nw]), g1, g2⟩
    simp only [Lib.Cold.charAt.spec, Cond.before_and, Bool.and_eq_true]
    exact ⟨xn_at hts hB.1 (by simp [xn_nw]), rfl, xn_exm hB.1.alike (hB.2.2 a h1) rfl h5, xn_at hts hB.1 (by simp [xn_nw]), xn_decl (A1 := #[]) (A2 := #[]) (xn_at hts hB.1 (w := .instanceMethod Lib.Str.isLatin1.name) (by simp [xn_nw])) (xn_at hts hB.1 (w := .code Lib.Str.isLatin1.name Lib.String.isLatin1.code 1 (some .boolean)) (by simp [xn_nw])), xn_at hts hB.1 (by simp [xn_nw]), xn_at hts hB.1 (by simp [xn_nw]), xn_at hts hB.1 (by simp [xn_nw]), xn_at hts hB.1 (by simp [xn_nw]), xn_at hts hB.1 (by simp [xn_nw]), xn_at hts hB.1 (by simp [xn_nw]), xn_at hts hB.1 (by simp [xn_nw])⟩
  · rintro m' meth' c' A a' g mk X ⟨rfl, g1, g2, hB⟩
    exact P0 _ hB
  · rintro m' meth' c' A a' g mk v t L k n X ⟨rfl, g1, g2, hB⟩ hq hf ⟨rfl, rfl, rfl, q4, q5⟩
    have := hq.2
    cases this
    refine ⟨rfl, t.vm, ?_⟩
    have e1 : t.heap = A.U.heap := q4
    have e2 : t.slotsUsed = A.U.slotsUsed := q5
    rw [e1, e2, List.append_nil]
    rfl
/-- a call of one of the two on a String, out of its Back -/
theorem xn_virt {y : MethodName} {own : String} {index n0 a : Nat} {argsL : List Value} {r : Value} {bs : List Nat} {W0 : Nat} (hy : y.cls ≠ "java/lang/invoke/MethodHandle" ∧ y.cls ≠ "java/lang/invoke/VarHandle") (hts : ∀ w ∈ lw_tbl, w.before A0 s0 = true) (hS : xn_S n0 a bs s0) (hexec : p.tables.exec = Jvm.exec) (hb : c.code = cc) (hml : c.maxLocals = ls.size) (hown : s.vm.findClass own = some m.cls) (hlink : (Cond.methodLink own index y).before args s = true)
    (hinst : (Cond.instanceMethod y).before args s = true) (hsel : (Cond.selects str y y).before args s = true) {bytes : ByteArray} {ml : Nat} {ret : Option FieldType} (hcode : (Cond.code y bytes ml ret).before args s = true) (hW0 : s0.WarmedH s.vm) (hsz : s0.heap.size = n0) (hH : ∀ q : Nat, q < n0 → H[q]? = s0.heap[q]?) (hc : cells ≤ R.cells) (hs : slots ≤ R.slots)
    (hlen : ∀ sig, parseMethodDescriptor y.desc = some sig → argsL.length = sig.parameters.length) (hB : Back l R p e below s args y 3 W0 (xn_Pre R n0 s0 (.ref a :: argsL).toArray) (xn_Post r)) (hwd : (rest.map fun v => v.category).sum ≤ W0) (hdg : decode cc pc = .ok (.invokevirtual index, 3))
    (kk : W p l e R s m args below meth c H locs cells slots Q (F0 m (pc + 3) ls (r :: rest))) : W p l e R s m args below meth c H locs cells slots Q (F0 m pc ls (argsL.reverse ++ .ref a :: rest)) := by
  intro T hT X
  obtain ⟨d, cell, arr, h1, h2, h3, h4, h5, -⟩ := hS
  have hx := xn_exm (args := #[.ref a]) (U := T) (State.WarmedH.trans hW0 X.warmed).alike (by rw [hT]; exact hH a h1) rfl h5
  obtain ⟨a', c1, cl, k1, q1, q2, q3, q4, q5, q6, -⟩ := Cond.exactly_spec hx
  have ha : a' = a := by
    have : (some (Value.ref a) : Option Value) = some (.ref a') := q1
    cases this
    rfl
  subst ha
  have hcB : s.vm.findClass str = some c1 := by rw [← X.warmed.alike.findClass]; exact q2
  obtain ⟨v, vm1, B, hW1, X', ⟨rfl, vm', rfl⟩, hst⟩ := X.virtualBack hexec hown hlink (xn_decl hinst hcode) (notFace_of_selects hsel) hsel hinst hy hB hcB ⟨cl, q3, q6, q5⟩ (g := F0 m pc ls (argsL.reverse ++ .ref a' :: rest)) rfl (by rw [hml]) (s₀ := T.setTop (F0 m pc ls (argsL.reverse ++ .ref a' :: rest))) (Steps.refl _) (argsL := argsL) (rest := rest) hlen rfl (by show 2 * 0 + _ ≤ W0; omega) (by rw [hb]; exact hdg)
    (fun vm1 h1' => ⟨rfl, hc, hs, State.WarmedH.trans hW0 h1', hsz, fun q hq => by
      show T.heap[q]? = _
      rw [hT]; exact hH q hq⟩)
  obtain ⟨t, a1, b1⟩ := kk ((T.setVm vm1).setVm vm') hT X'
  exact ⟨t, hst.trans a1, b1⟩
end XN1
