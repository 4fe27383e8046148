/-! a method by its words; a call -/
def xt_hs (own : String) : List (Nat × Nat × Nat × Nat) → List (Nat × Nat × Nat × Nat) → Prop
  | [], [] => True
  | a :: as, q :: qs => a.1 = q.1 ∧ a.2.1 = q.2.1 ∧ a.2.2.1 = q.2.2.1 ∧ a.2.2.2 ≠ 0 ∧ 14 ≤ q.2.2.2 ∧ q.2.2.2 < 16 ∧ Cond.classLink own a.2.2.2 (xt_cn q.2.2.2) ∈ lw_tbl ∧ xt_hs own as qs
  | _, _ => False
def xt_mok (y : MethodName) (cc : ByteArray) (M : xm_M) : Prop :=
  ((Cond.code y cc M.1 M.2.1 ∈ lw_tbl ∧ M.2.2.1 = []) ∨ ∃ hc, Cond.codeWith y cc M.1 M.2.1 hc ∈ lw_tbl ∧ xt_hs y.cls hc M.2.2.1) ∧ Cond.initialized y.cls ∈ lw_tbl ∧ plainName y.cls = true ∧ (y.cls ≠ "java/lang/invoke/MethodHandle" ∧ y.cls ≠ "java/lang/invoke/VarHandle") ∧ M.1 ≤ 40
def xs_ml (own : String) (i : Nat) (y : MethodName) : Prop := Cond.methodLink own i y ∈ lw_tbl ∨ Cond.methodLinkNest own i y (xt_host own) ∈ lw_tbl
def xt_pn (y : MethodName) (n : Nat) : Prop := (parseMethodDescriptor y.desc).map (fun d => d.parameters.length) = some n
/-- what the tables must say of a call of the method y, of n arguments in all -/
def xt_cv (y : MethodName) (M : xm_M) (n : Nat) : Prop := Cond.instanceMethod y ∈ lw_tbl ∧ Cond.selects y.cls y y ∈ lw_tbl ∧ 1 ≤ n ∧ xt_pn y (n - 1) ∧ ∃ t, M.2.2.2 = t + 1 ∧ t < 14 ∧ xt_cn t = y.cls
def xt_ci (y : MethodName) (cc : ByteArray) (M : xm_M) (n : Nat) : Prop := Cond.instanceMethod y ∈ lw_tbl ∧ y.name = "<init>" ∧ 1 ≤ n ∧ xt_pn y (n - 1) ∧ (∃ t, M.2.2.2 = t + 1) ∧ Cond.code y cc M.1 none ∈ lw_tbl
def xt_cs (y : MethodName) (n : Nat) : Prop := Cond.static y ∈ lw_tbl ∧ xt_pn y n
def xt_call (own : String) (y : MethodName) (cc : ByteArray) (M : xm_M) (i : Instr) (n : Nat) : Prop := match i with
  | .invokevirtual ix => xs_ml own ix y ∧ xt_cv y M n
  | .invokespecial ix => xs_ml own ix y ∧ xt_ci y cc M n
  | .invokestatic ix => xs_ml own ix y ∧ xt_cs y n
  | _ => False
section XS11
variable {Z : xs_Z} {p : Program} {l : Launch} {e : Env} {R : Room} {s : State} {m : MethodId} {args : Array Value} {below : List Frame} {meth : Method} {c : Code} {T : State} {locs : List Loc} {cells slots : Nat} {cc : ByteArray}
/-- the method in the tables of s -/
theorem xs_meth {y : MethodName} {M : xm_M} (hw : xs_ws args s) (hM : xt_mok y cc M) : ∃ (mk : MethodId) (mt : Method) (ck : Code) (hc : List (Nat × Nat × Nat × Nat)), s.methodNamed? y = some mk ∧ s.vm.method? mk = some mt ∧ mt.code = some ck ∧ ck.code = cc ∧ ck.maxLocals = M.1 ∧ mt.sig.returnType = M.2.1 ∧ mt.locks = false ∧ parseMethodDescriptor y.desc = some mt.sig ∧
    ck.exceptionTable.toList.map (fun h => (h.startPc, h.endPc, h.handlerPc, h.catchType)) = hc ∧ xt_hs y.cls hc M.2.2.1 := by
  obtain ⟨hM, -⟩ := hM
  rcases hM with ⟨h1, h2⟩ | ⟨hc, h1, h2⟩
  · have hcode := hw _ h1 rfl
    obtain ⟨mk, hn⟩ := Cond.code_named hcode
    obtain ⟨mt, ck, q1, q2, q3, q4, q5, q6, q7, q8⟩ := Cond.code_spec hn hcode
    refine ⟨mk, mt, ck, [], hn, q1, q2, q3, q4, q5, q6, q8, ?_, by rw [h2]; trivial⟩
    have : ck.exceptionTable = #[] := by simpa using q7
    rw [this]
    rfl
  · have hcode := hw _ h1 rfl
    obtain ⟨mk, mt, ck, hn, q1, q2, q3, q4, q5, q6, q7, q8⟩ := Cond.codeWith_spec hcode
    exact ⟨mk, mt, ck, hc, hn, q1, q2, q3, q4, q6, q7, q8, q5, h2⟩
theorem xs_hrows {pl : Platform} (hpl : pl.magicAccessors = ({} : Platform).magicAccessors) (hw : xs_ws args s) (hK : xs_K Z s) {own : String} {d : ClassId} (hown : s.vm.findClass own = some d) :
    ∀ (es : List ExceptionTableEntry) (hs : List (Nat × Nat × Nat × Nat)), xt_hs own (es.map (fun h => (h.startPc, h.endPc, h.handlerPc, h.catchType))) hs → xs_rows pl s d Z es hs := by
  intro es
  induction es with
  | nil =>
    intro hs h
    cases hs with
    | nil => trivial
    | cons _ _ => exact h.elim
  | cons x es ih =>
    intro hs h
    cases hs with
    | nil => exact h.elim
    | cons q hs =>
      obtain ⟨h1, h2, h3, h4, h5, h6, h7, h8⟩ := h
      refine ⟨h1, h2, h3, h4, h5, h6, ?_, ih hs h8⟩
      obtain ⟨c', hc', hcl⟩ := Cond.classLink_spec hown (hw _ h7 rfl) pl hpl
      have : c' = Z.2.2.1 q.2.2.2 := Option.some.inj (hc'.symm.trans (hK.2.2 _ h6).1)
      rw [← this]
      exact hcl
theorem xs_args (as : List Value) : ∀ i, lv_args i (as.map (xs_tr Z)) = xs_trl Z (xm_args i as) := by
  induction as with
  | nil => intro i; rfl
  | cons v vs ih =>
    intro i
    show (i, xs_tr Z v) :: lv_args (if (xs_tr Z v).category = 2 then i + 2 else i + 1) (vs.map (xs_tr Z)) = (i, xs_tr Z v) :: xs_trl Z (xm_args (if v.category = 2 then i + 2 else i + 1) vs)
    rw [xs_cat, ih]
theorem xs_sl (as : List Value) : (lg_sl (as.map (xs_tr Z))).length = (as.map (fun v => v.category)).sum := by
  induction as with
  | nil => rfl
  | cons v vs ih =>
    have h1 : (lg_sl ((v :: vs).map (xs_tr Z))).length = (if (xs_tr Z v).category = 2 then [Slot.val (xs_tr Z v), .second] else [Slot.val (xs_tr Z v)]).length + (lg_sl (vs.map (xs_tr Z))).length := by
      simp [lg_sl]
    rw [h1, ih, xs_cat]
    simp only [List.map_cons, List.sum_cons]
    rcases lv_cat v with h | h <;> simp [h]
/-- the instruction of a call finds its method -/
theorem xs_find_method (X : Stand p l e R s m args below meth c T locs cells slots) (hexec : p.tables.exec = Jvm.exec) (hw : xs_ws args s) (hK : xs_K Z s) {own : String} (hown : s.vm.findClass own = some m.cls) {y : MethodName} {cc' : ByteArray} {M : xm_M} {i : Instr} {n : Nat} (hM : xt_mok y cc' M) (hcall : xt_call own y cc' M i n)
    {h : xm_H} (hR : xs_R Z h T.heap) {as : List Value} (hn : as.length = n) (hrcv : xm_rcv M.1 M.2.2.2 as h = true) {mk : MethodId} {mt : Method} (hnamed : s.methodNamed? y = some mk) (hmt : s.vm.method? mk = some mt) (hsig : parseMethodDescriptor y.desc = some mt.sig)
    {g : JFrame} (hg : g.method = m) {rest : List Value} (hstack : g.stack = (as.map (xs_tr Z)).reverse ++ rest) (hd : decode c.code g.pc = .ok (i, 3)) :
    ∃ vm', Stand p l e R s m args below meth c (T.setVm vm') locs cells slots ∧ ∀ tg, (∀ acts, Steps p.tables e below (doInvoke e ((T.setVm vm').setTop { g with stack := rest }) acts mk (as.map (xs_tr Z)).toArray).1 tg) → Steps p.tables e below (T.setTop g) tg := by
  obtain ⟨-, hinit, -, hy, -⟩ := hM
  have recv : ∀ t, M.2.2.2 = t + 1 → ∃ b bs vs, as = .ref b :: bs ∧ h[b]? = some (t, vs) := by
    intro t ht
    unfold xm_rcv at hrcv
    rw [Bool.and_eq_true] at hrcv
    have h2 := hrcv.2
    rw [if_neg (by omega)] at h2
    split at h2
    · next b bs =>
      split at h2
      · next u vs hu =>
        have : u + 1 = M.2.2.2 := by simpa using h2
        have : u = t := by omega
        subst this
        exact ⟨b, bs, vs, rfl, hu⟩
      · cases h2
    · cases h2
  have pn : ∀ k, xt_pn y k → k = mt.sig.parameters.length := by
    intro k hk
    unfold xt_pn at hk
    rw [hsig] at hk
    exact (Option.some.inj hk).symm
  unfold xt_call at hcall
  split at hcall
  · obtain ⟨hl, hv1, hv2, hv3, hv4, t, ht, ht14, hcn⟩ := hcall
    obtain ⟨b, bs, vs, rfl, hbc⟩ := recv t ht
    obtain ⟨cell, g1, g2, g3, -⟩ := hR.2.2 b _ hbc
    have hlen : (bs.map (xs_tr Z)).length = mt.sig.parameters.length := by
      rw [List.length_map, ← pn _ hv4, ← hn, List.length_cons]; omega
    have hst : g.stack = (bs.map (xs_tr Z)).reverse ++ .ref (Z.1 + b) :: rest := by
      rw [hstack, List.map_cons, List.reverse_cons, List.append_assoc]; rfl
    obtain ⟨mk', methM, hnamed', hmethM, hstM, habM⟩ := Cond.instanceMethod_spec (hw _ hv1 rfl)
    cases hnamed.symm.trans hnamed'
    cases hmt.symm.trans hmethM
    obtain ⟨c2, r2, m2, q1, q2, q3, q4, kP, hkP, hkPi⟩ := Cond.selects_spec (hw _ hv2 rfl)
    have hcls : s.vm.findClass y.cls = some cell.cls := by rw [g3, ← hcn]; exact (hK.2.2 t (by omega)).1
    cases hcls.symm.trans q1
    cases (State.methodFound?_of_named hnamed hy).symm.trans q2
    cases hnamed.symm.trans q3
    have hselP : selectMethod e.platform s.vm cell.cls mk = .method mk := by rw [Launch.admits_selectMethod X.admits]; exact q4
    rcases hl with hl | hl
    · exact X.invokevirtual hexec hown (hw _ hl rfl) hnamed hmt hstM hkP hkPi hy (a := Z.1 + b) (cell := cell) g1 (fun z h => by rw [g2] at h; cases h) hselP hmt habM hkP hkPi (g := g) hg (argsL := bs.map (xs_tr Z)) (rest := rest) hlen hst hd
    · exact X.invokevirtualNest hexec hown (hw _ hl rfl) hnamed hmt hstM hkP hkPi hy (a := Z.1 + b) (cell := cell) g1 (fun z h => by rw [g2] at h; cases h) hselP hmt habM hkP hkPi (g := g) hg (argsL := bs.map (xs_tr Z)) (rest := rest) hlen hst hd
  · obtain ⟨hl, hv1, hv2, hv3, hv4, ⟨t, ht⟩, hcode⟩ := hcall
    obtain ⟨b, bs, vs, rfl, hbc⟩ := recv t ht
    have hlen : ∀ sig, parseMethodDescriptor y.desc = some sig → (bs.map (xs_tr Z)).length = sig.parameters.length := by
      intro sig hs
      rw [hsig] at hs
      cases hs
      rw [List.length_map, ← pn _ hv4, ← hn, List.length_cons]; omega
    have hst : g.stack = (bs.map (xs_tr Z)).reverse ++ .ref (Z.1 + b) :: rest := by
      rw [hstack, List.map_cons, List.reverse_cons, List.append_assoc]; rfl
    subst hg
    have hpl : e.platform.magicAccessors = ({} : Platform).magicAccessors := by rw [X.admits.platform]
    rcases hl with hl | hl
    · obtain ⟨mk', methM, cM, kP, vm₁, hnamed', hmethM, hcodeM, -, hlocalsM, -, hkP, -, hW₁, hstep₁⟩ := Steps.initColdArgs (e := e) X.here hexec X.warmed hpl hown hv2 hy (hw _ hl rfl) (hw _ hv1 rfl) (hw _ hcode rfl) (f := g) rfl hlen hst hd
      cases hnamed.symm.trans hnamed'
      exact ⟨vm₁, X.noted hW₁, hstep₁⟩
    · obtain ⟨mk', methM, cM, kP, vm₁, hnamed', hmethM, hcodeM, -, hlocalsM, -, hkP, -, hW₁, hstep₁⟩ := Steps.initColdArgsNest (e := e) X.here hexec X.warmed hpl hown hv2 hy (hw _ hl rfl) (hw _ hv1 rfl) (hw _ hcode rfl) (f := g) rfl hlen hst hd
      cases hnamed.symm.trans hnamed'
      exact ⟨vm₁, X.noted hW₁, hstep₁⟩
  · obtain ⟨hl, hv1, hv4⟩ := hcall
    have hlen : (as.map (xs_tr Z)).length = mt.sig.parameters.length := by
      rw [List.length_map, ← pn _ hv4, hn]
    have hstatic : mt.isStatic = true := Cond.static_spec hnamed hmt (hw _ hv1 rfl)
    obtain ⟨kP, hkP, -⟩ := className_of_methodNamed hnamed
    have hinitP : kP.init = .initialized := Cond.initialized_spec (findClass_of_methodNamed hnamed) hkP (hw _ hinit rfl)
    rcases hl with hl | hl
    · exact X.invokestatic hexec hown (hw _ hl rfl) hnamed hmt hstatic hkP hinitP hy (g := g) hg (argsL := as.map (xs_tr Z)) (rest := rest) hlen hstack hd
    · exact X.invokestaticNest hexec hown (hw _ hl rfl) hnamed hmt hstatic hkP hinitP hy (g := g) hg (argsL := as.map (xs_tr Z)) (rest := rest) hlen hstack hd
  · exact hcall.elim
end XS11
