/-! a method's end; a call; an exception that goes through a frame, or is caught there -/
def xs_o (Z : xs_Z) (r : Option Value ⊕ Nat) (o : Outcome) : Prop := match r with
  | .inl v => o = .returned (v.map (xs_tr Z))
  | .inr a => o = .threw (Z.1 + a)
/-- the end of a method that was entered at s with c0 cells of b0 slots -/
def xs_Q (Z : xs_Z) (below : List Frame) (s : State) (c0 b0 : Nat) (r : Option Value ⊕ Nat) (h : xm_H) (ns : Nat) : State → Prop := fun t =>
  ∃ (o : Outcome) (L : List Loc) (k n : Nat), t.status = .running ∧ Ended t below o ∧ xs_o Z r o ∧ s.WarmedH t.vm ∧ s.sameButNew ({ t with vm := s.vm } : State) L k n ∧ (∀ q ∈ L, Z.1 ≤ q.base) ∧ c0 + k = h.length ∧ b0 + n = ns ∧ xs_R Z h t.heap ∧ h.length ≤ xm_cm ∧ ns ≤ xm_sm
section XS7
variable {Z : xs_Z} {p : Program} {l : Launch} {e : Env} {R : Room} {s : State} {m : MethodId} {args : Array Value} {below : List Frame} {meth : Method} {c : Code} {Q : State → Prop} {nL c0 b0 : Nat} {cc : ByteArray} {S S' : xm_S}
theorem xs_mono {H : Heap} {locs : List Loc} {cells slots : Nat} {Q' : State → Prop} {g : JFrame} (h : ∀ t, Q t → Q' t) (k : W p l e R s m args below meth c H locs cells slots Q g) : W p l e R s m args below meth c H locs cells slots Q' g := by
  intro T hT X
  obtain ⟨t, a, b⟩ := k T hT X
  exact ⟨t, a, h t b⟩
theorem xs_end {ls : Array Slot} {H : Heap} {locs : List Loc} {cells slots : Nat} {r : Option Value} (I : xs_I Z nL c0 b0 S ls H locs cells slots) (t : State)
    (h : MQ below (fun _ _ o t => o = .returned (r.map (xs_tr Z)) ∧ t.heap = H) args s cells slots (fun q => Z.1 ≤ q) t) : xs_Q Z below s c0 b0 (.inl r) S.2.2.2.1 S.2.2.2.2 t := by
  obtain ⟨o, h1, h2, ⟨h3, h4⟩, L, ⟨-, h5, h6⟩, h7⟩ := h
  exact ⟨o, L, cells, slots, h1, h2, h3, h5, h6, h7, I.2.2.1, I.2.2.2.1, by rw [h4]; exact I.2.1, I.2.2.2.2.2.1, I.2.2.2.2.2.2⟩
theorem xs_ret {ret : Option FieldType} {v : Option Value} {i : Instr} (hexec : p.tables.exec = Jvm.exec) (hb : c.code = cc) (hr : meth.sig.returnType = ret) (hlocks : meth.locks = false) (hd : decode cc S.1 = .ok (i, 1))
    (h : xm_rt ret i S.2.2.1 = some v) : xs_W Z p l e R s m args below meth c (xs_Q Z below s c0 b0 (.inl v) S.2.2.2.1 S.2.2.2.2) nL c0 b0 S := by
  intro ls H locs cells slots I
  have hf : ∀ q ∈ locs, Z.1 ≤ q.base := I.2.2.2.2.1
  refine xs_mono (fun t ht => xs_end (args := args) I t ht) ?_
  unfold xm_rt at h
  split at h
  · split at h
    · next x hx =>
      split at h
      · next ty =>
        split at h
        · next hn =>
          cases h
          rw [hx]
          exact W.zret hexec hb hr hn (fun t ht _ => ⟨rfl, ht⟩) hf hd hlocks
        · cases h
      · cases h
    · cases h
  · split at h
    · next x hx =>
      split at h
      · next hty =>
        cases h
        subst hty
        rw [hx]
        exact W.lret hexec hb hr (fun t ht _ => ⟨rfl, ht⟩) hf hd hlocks
      · cases h
    · cases h
  · split at h
    · next x hx =>
      split at h
      · next C =>
        cases h
        rw [hx]
        exact W.aret hexec hb hr (Or.inl ⟨_, rfl⟩) (Or.inr ⟨_, rfl⟩) (fun t ht _ => ⟨rfl, ht⟩) hf hd hlocks
      · cases h
    · cases h
  · split at h
    · next hx =>
      split at h
      · next hty =>
        cases h
        subst hty
        rw [hx]
        exact W.vret hexec hb hr (fun t ht _ => ⟨rfl, ht⟩) hf hd hlocks
      · cases h
    · cases h
  · cases h
/-- into a method and out of it: X stands before the call in the frame g, the arguments taken off; the callee's own walk is given -/
theorem xs_enter {T : State} {locs : List Loc} {cells slots : Nat} (X : Stand p l e R s m args below meth c T locs cells slots) {g : JFrame} (hg : g.method = m) (hsize : g.locals.size = c.maxLocals) {ig : Instr} (hdg : decode c.code g.pc = .ok (ig, 3))
    {mk : MethodId} {methk : Method} {ck : Code} {a : Array Value} {R' : Room} (hmk : T.vm.method? mk = some methk) (hck : methk.code = some ck) (hlk : methk.locks = false) (hpk : T.plainMethod mk)
    (hframes : R'.frames + 1 ≤ R.frames) (hlocals : 2 * g.monitorRoom + (g.stack.map fun v => v.category).sum + (ck.maxLocals + 11) + R'.locals ≤ R.locals) (hcells : cells + R'.cells ≤ R.cells) (hslots : slots + R'.slots ≤ R.slots)
    {c1 b1 : Nat} {r : Option Value ⊕ Nat} {h' : xm_H} {ns' : Nat}
    (hW : W p l e R' (T.calling g mk a) mk a (.java g :: below) methk ck T.heap [] 0 0 (xs_Q Z (.java g :: below) (T.calling g mk a) c1 b1 r h' ns') (entryFrame mk a ck.maxLocals)) :
    ∃ (T' : State) (L : List Loc) (k n : Nat), Stand p l e R s m args below meth c T' (locs ++ L) (cells + k) (slots + n) ∧ (∀ q ∈ L, Z.1 ≤ q.base) ∧ c1 + k = h'.length ∧ b1 + n = ns' ∧ xs_R Z h' T'.heap ∧ h'.length ≤ xm_cm ∧ ns' ≤ xm_sm ∧
      (∀ v, r = .inl v → ∀ acts tg, Steps p.tables e below (T'.setTop { g with pc := g.pc + 3, stack := (v.map (xs_tr Z)).toList ++ g.stack }) tg → Steps p.tables e below (doInvoke e (T.setTop g) acts mk a).1 tg) ∧
      (∀ x, r = .inr x → ∀ acts tg, Steps p.tables e below ((T'.setTop g).pushFrame (.throwing (Z.1 + x))) tg → Steps p.tables e below (doInvoke e (T.setTop g) acts mk a).1 tg) := by
  obtain ⟨Y, hent⟩ := X.into hg hsize hdg a hmk hck hlk hpk hframes hlocals hcells hslots
  have hH : ((T.setTop g).pushFrame (.java (entryFrame mk a ck.maxLocals))).heap = T.heap := by
    show (T.setTop g).heap = T.heap
    rw [State.heap_setTop]
  obtain ⟨t, ⟨N, hN, hwN⟩, o, L, k, n, h1, h2, h3, h4, h5, h6, h7, h8, h9, h10, h11⟩ := hW _ hH Y
  have st : Steps p.tables e below (((T.setTop g).pushFrame (.java (entryFrame mk a ck.maxLocals))).setTop (entryFrame mk a ck.maxLocals)) t :=
    ⟨N, hN, fun j hj => by
      have := hwN j hj
      rw [show (Frame.java g :: below) = [Frame.java g] ++ below from rfl] at this
      exact this.weaken⟩
  cases r with
  | inl v =>
    have ho : o = .returned (v.map (xs_tr Z)) := h3
    subst ho
    obtain ⟨T', X', -, -, ht⟩ := X.outOf hg hdg h2 h4 h5
    refine ⟨T', L, k, n, X', h6, h7, h8, ?_, h10, h11, fun v' hv acts tg htg => ?_, (fun x hx => by cases hx)⟩
    · rw [ht, State.heap_setTop] at h9
      exact h9
    · cases hv
      rw [hent acts]
      refine st.trans ?_
      rw [ht]
      exact htg
  | inr x =>
    have ho : o = .threw (Z.1 + x) := h3
    subst ho
    obtain ⟨T', X', -, -, ht⟩ := X.outOfThrown hg h2 h4 h5
    refine ⟨T', L, k, n, X', h6, h7, h8, ?_, h10, h11, (fun v hv => by cases hv), fun x' hx acts tg htg => ?_⟩
    · rw [ht] at h9
      have : ((T'.setTop g).pushFrame (.throwing (Z.1 + x))).heap = T'.heap := by
        show (T'.setTop g).heap = T'.heap
        rw [State.heap_setTop]
      rw [this] at h9
      exact h9
    · cases hx
      rw [hent acts]
      refine st.trans ?_
      rw [ht]
      exact htg
/-- the rows of a handler table, as the pure machine has them -/
def xs_rows (pl : Platform) (s : State) (d : ClassId) (Z : xs_Z) : List ExceptionTableEntry → List (Nat × Nat × Nat × Nat) → Prop
  | [], [] => True
  | x :: es, q :: hs => x.startPc = q.1 ∧ x.endPc = q.2.1 ∧ x.handlerPc = q.2.2.1 ∧ x.catchType ≠ 0 ∧ 14 ≤ q.2.2.2 ∧ q.2.2.2 < 16 ∧ s.vm.ClassLinks pl d x.catchType (Z.2.2.1 q.2.2.2) ∧ xs_rows pl s d Z es hs
  | _, _ => False
/-- the two exceptions are apart -/
def xs_na (Z : xs_Z) (s : State) : Prop := s.vm.assignable (Z.2.2.1 14) (Z.2.2.1 15) = false ∧ s.vm.assignable (Z.2.2.1 15) (Z.2.2.1 14) = false
theorem xs_find {f : JFrame} {a : Addr} {cell : Cell} {t : Nat} (hK : xs_K Z s) (hna : xs_na Z s) (ht1 : 14 ≤ t) (ht2 : t < 16) (hv : cell.vm = .none) (hc : cell.cls = Z.2.2.1 t) :
    ∀ (es : List ExceptionTableEntry) (hs : List (Nat × Nat × Nat × Nat)) (S : State) (q : Nat), s.WarmedH S.vm → S.heap[a]? = some cell → xs_rows e.platform s f.method.cls Z es hs → xm_hd f.pc t hs = some q →
      ∃ vm', s.WarmedH vm' ∧ ∀ (Q : Handler → Pre) (E : CtlPost) (d : Bool) (acts : List Action), wp (findHandler.go f a es) Q E e d acts S ↔ Q (.found q) d acts (S.setVm vm') := by
  intro es
  induction es with
  | nil =>
    intro hs S q _ _ hr hq
    cases hs with
    | nil => cases hq
    | cons _ _ => exact hr.elim
  | cons x es ih =>
    intro hs S q hW hcell hr hq
    cases hs with
    | nil => exact hr.elim
    | cons y hs =>
      obtain ⟨r1, r2, r3, r4, r5, r6, r7, r8⟩ := hr
      obtain ⟨ya, yb, yq, yu⟩ := y
      dsimp only at r1 r2 r3 r5 r6 r7
      unfold xm_hd at hq
      have hobj : ∀ k, cell.vm ≠ .statics k := fun k h => by rw [hv] at h; cases h
      obtain ⟨k0, hk0, -⟩ := (hK.2.2 t ht2).2
      obtain ⟨k0', hk0', -⟩ := hW.alike.2.2 _ _ hk0
      by_cases hcov : ya ≤ f.pc ∧ f.pc < yb
      · rw [if_pos hcov] at hq
        obtain ⟨dk, _, _, kt, hd, _, _, _, _, hkt, _, hopen⟩ := r7.here
        obtain ⟨kt', hkt', -⟩ := hW.alike.2.2 _ _ hkt
        have hW2 := hW.noted hd hopen (State.rightAt_cls r7)
        obtain ⟨ha, htt⟩ := (resolveClass_links e.toSetting (hW.classLinks r7)).op (op := VmOp.resolveClass f.method.cls x.catchType) rfl
        have hal : S.vm.Alike (S.vm.noted f.method.cls x.catchType (.cls (Z.2.2.1 yu))) := (Vm.Alike.refl S.vm).noted _ _ _
        obtain ⟨k1', hk1', -⟩ := hal.2.2 _ _ hk0'
        obtain ⟨k2', hk2', -⟩ := hal.2.2 _ _ hkt'
        rw [← hc] at hk1'
        have hx : (decide (x.startPc ≤ f.pc) && decide (f.pc < x.endPc)) = true := by rw [r1, r2]; simp [hcov]
        by_cases hut : yu = t
        · rw [if_pos hut] at hq
          cases hq
          subst hut
          have hfit : (S.vm.noted f.method.cls x.catchType (.cls (Z.2.2.1 yu))).assignable cell.cls (Z.2.2.1 yu) = true := by
            rw [hal.assignable, hW.alike.assignable, hc]
            exact va_assign (hK.2.2 yu ht2)
          refine ⟨_, hW2, fun Q E d acts => ?_⟩
          rw [← r3]
          simp [findHandler.go, hx, r4, ha, htt, hcell, hobj, hk1', hk2', hfit, VmOp.dirties, VmOp.acts]
        · rw [if_neg hut] at hq
          have hno : (S.vm.noted f.method.cls x.catchType (.cls (Z.2.2.1 yu))).assignable cell.cls (Z.2.2.1 yu) = false := by
            rw [hal.assignable, hW.alike.assignable, hc]
            rcases (by omega : t = 14 ∧ yu = 15 ∨ t = 15 ∧ yu = 14) with ⟨rfl, rfl⟩ | ⟨rfl, rfl⟩
            · exact hna.1
            · exact hna.2
          obtain ⟨vm', hW', hgo⟩ := ih hs (S.setVm (S.vm.noted f.method.cls x.catchType (.cls (Z.2.2.1 yu)))) q hW2 hcell r8 hq
          refine ⟨vm', hW', fun Q E d acts => ?_⟩
          have := hgo Q E d acts
          simp [findHandler.go, hx, r4, ha, htt, hcell, hobj, hk1', hk2', hno, VmOp.dirties, VmOp.acts]
          exact this
      · rw [if_neg hcov] at hq
        obtain ⟨vm', hW', hgo⟩ := ih hs S q hW hcell r8 hq
        refine ⟨vm', hW', fun Q E d acts => ?_⟩
        have hx : covers x f.pc = false := by
          simp only [covers]
          rw [r1, r2]
          rw [← Bool.not_eq_true]
          simp only [Bool.and_eq_true, decide_eq_true_eq]
          exact hcov
        rw [W.findHandler_go_skip hx]
        exact hgo Q E d acts
theorem xs_caught {T : State} {locs : List Loc} {cells slots : Nat} (X : Stand p l e R s m args below meth c T locs cells slots) {g : JFrame} (hg : g.method = m) {a : Addr} {cell : Cell} {t q : Nat} {hs : List (Nat × Nat × Nat × Nat)} (hK : xs_K Z s) (hna : xs_na Z s) (ht1 : 14 ≤ t) (ht2 : t < 16)
    (hcell : T.heap[a]? = some cell) (hv : cell.vm = .none) (hc : cell.cls = Z.2.2.1 t) (hr : xs_rows e.platform s m.cls Z c.exceptionTable.toList hs) (hq : xm_hd g.pc t hs = some q) :
    ∃ vm', Stand p l e R s m args below meth c (T.setVm vm') locs cells slots ∧ ∀ tg, Steps p.tables e below ((T.setVm vm').setTop { g with pc := q, stack := [.ref a] }) tg → Steps p.tables e below ((T.setTop g).pushFrame (.throwing a)) tg := by
  subst hg
  obtain ⟨vm', hW', hf⟩ := xs_find (Z := Z) (e := e) (f := g) (a := a) hK hna ht1 ht2 hv hc c.exceptionTable.toList hs ((T.setTop g).pushFrame (.throwing a)) q X.warmed hcell hr hq
  refine ⟨vm', X.noted hW', fun tg htg => ?_⟩
  have hfind : ∀ (Q : Handler → Pre) (E : CtlPost) (d : Bool) (acts : List Action), wp (findHandler g a) Q E e d acts ((T.setTop g).pushFrame (.throwing a)) ↔ Q (.found q) d acts (((T.setTop g).pushFrame (.throwing a)).setVm vm') := fun Q E d acts => by
    rw [W.findHandler_eq (s := (T.setTop g).pushFrame (.throwing a)) (meth := meth) (code := c) X.method' X.code]
    exact hf Q E d acts
  obtain ⟨hgo, hw⟩ := X.here.throwing a
  refine Steps.head hgo hw ?_
  rw [stepThread_throwing (frames_entered X.here.top _)]
  have hstep : (stepThrowing e ((T.setTop g).pushFrame (.throwing a)) a (.java g :: T.frames.tail)).1 = ((((T.setTop g).pushFrame (.throwing a)).setVm vm').setFrames (.java { g with pc := q, stack := [.ref a] } :: T.frames.tail)) := by
    simp only [stepThrowing, searchFrame, vmDo]
    generalize hres : Sem.go _ e false [] ((T.setTop g).pushFrame (.throwing a)) = res
    obtain ⟨as, rfl, ha⟩ := Sem.eq_ok_of hres (a := Handler.found q) (s' := ((T.setTop g).pushFrame (.throwing a)).setVm vm') (acts' := []) (by simp [hfind _ _ _ _])
    rfl
  rw [hstep]
  obtain ⟨g₀, hfr⟩ := X.frames_eq
  have hfr' : (T.setVm vm').frames = .java g₀ :: below := hfr
  have e1 : (((T.setTop g).pushFrame (.throwing a)).setVm vm').setFrames (.java { g with pc := q, stack := [.ref a] } :: T.frames.tail) = (T.setVm vm').setTop { g with pc := q, stack := [.ref a] } := by
    rw [State.setTop_of_frames _ hfr', X.tail]
    rw [State.pushFrame, State.frames_setTop _ hfr, State.setTop_of_frames _ hfr, State.setFrames_setFrames]
    show ((T.setVm vm').setFrames _).setFrames _ = _
    rw [State.setFrames_setFrames]
  rw [e1]
  exact htg
end XS7
