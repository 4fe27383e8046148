/-! 'throw new X()' out of a method without handlers -/
section XS9
variable {Z : xs_Z} {p : Program} {l : Launch} {e : Env} {R : Room} {s : State} {m : MethodId} {args : Array Value} {below : List Frame} {meth : Method} {c : Code} {Q : State → Prop} {nL c0 b0 : Nat} {cc : ByteArray} {S S' : xm_S}
theorem xs_isref {C n d : String} {A : Nat → Prop} {H : Heap} (h : va_Zq C n d A s s.heap) : (Cond.isRef (.static C n d)).before args s = true := by
  rcases h with h | ⟨t, h⟩
  · obtain ⟨cf, kf, fi, f, a, cell, h1, h2, h3, h4, h5, h6, h7, -⟩ := h
    simp [Cond.before, Cond.holds, Cond.value, Term.eval, State.fieldNamed?, h1, h2, h4, h5, h6, h7]
  · obtain ⟨cf, kf, fi, f, a, cell, h1, h2, h3, h4, h5, h6, h7, -⟩ := h
    simp [Cond.before, Cond.holds, Cond.value, Term.eval, State.fieldNamed?, h1, h2, h4, h5, h6, h7]
theorem xs_throw (hexec : p.tables.exec = Jvm.exec) (hb : c.code = cc) (htr : e.platform.stackTraces = false) (hw : xs_ws args s) (hK : xs_K Z s) (hRc : R.cells = xm_cm - c0) (hRs : R.slots = xm_sm - b0) (hRf : 10 ≤ R.frames) (hRl : 200 ≤ R.locals) (hlocks : meth.locks = false) (hml : c.maxLocals = nL) (hs0 : s.heap.size = Z.1 + c0) (hstat : ∀ q, Z.1 ≤ q → ∀ cell, s.heap[q]? = some cell → cell.vm.isStatics = false)
    {own : String} {i ic t : Nat} (hown : s.vm.findClass own = some m.cls) (ht1 : 14 ≤ t) (ht2 : t < 16) (hl : Cond.classLink own i (xt_cn t) ∈ lw_tbl) (hat : ∀ a ∈ Bundle.ownAtoms0 own ic (xt_cn t) ["java/lang/RuntimeException", "java/lang/Exception"], a.before args s = true) (hfit : Bundle.fit (xt_cn t) = true)
    (hd0 : decode cc S.1 = .ok (.new i, 3)) (hd1 : decode cc (S.1 + 3) = .ok (.dup, 1)) (hd2 : decode cc (S.1 + 4) = .ok (.invokespecial ic, 3)) (hd3 : decode cc (S.1 + 7) = .ok (.athrow, 1)) (hout : c.exceptionTable.toList = []) (hx : S.2.2.1 = [])
    (hc1 : S.2.2.2.1.length + 1 ≤ xm_cm) (hc2 : S.2.2.2.2 + 6 ≤ xm_sm) :
    xs_W Z p l e R s m args below meth c (xs_Q Z below s c0 b0 (.inr S.2.2.2.1.length) (S.2.2.2.1 ++ [(t, List.replicate 6 .null)]) (S.2.2.2.2 + 6)) nL c0 b0 S := by
  intro ls H locs cells slots I
  rw [hx]
  have i1 := I.2.2.1
  have i2 := I.2.2.2.1
  have hsz := I.2.1.1
  have hi := xt_inst t ht2
  have hs6 : xt_sz t = 6 := if_neg (by omega)
  rw [hs6] at hi
  have hcl := hK.2.2 t ht2
  refine W.newcK hexec hb hown (hw _ hl rfl) (n := 6) (hw _ hi.1 rfl) (hw _ hi.2 rfl) rfl hd0 (by omega) (by omega) hcl.1 hsz fun H' kC hkC e1 z1 o1 => ?_
  refine lv_dup hexec hb (pc := S.1 + 3) (va := .ref (Z.1 + S.2.2.2.1.length)) (rest := []) hd1 rfl ?_
  intro T hT X
  have hloc : ∀ x ∈ locs, ∀ cell, s.heap[x.base]? = some cell → cell.vm.isStatics = false := fun x hx cell hc => hstat x.base (I.2.2.2.2.1 x hx) cell hc
  obtain ⟨vm', ce, L, X₂, hL, hce1, hce2, st⟩ := xs_ctor X hexec htr (own := own) (cls := xt_cn t) (names := ["java/lang/RuntimeException", "java/lang/Exception"]) (ic := ic) hown hfit (by decide +kernel) hat hloc (a := Z.1 + S.2.2.2.1.length) (cX := Z.2.2.1 t) (kX := kC) hcl.1 hkC (by rw [hT]; exact e1) (by omega)
    (g := F0 m (S.1 + 4) ls [.ref (Z.1 + S.2.2.2.1.length), .ref (Z.1 + S.2.2.2.1.length)]) rfl (by rw [hml]; exact I.1.1) (rest := [.ref (Z.1 + S.2.2.2.1.length)]) rfl (by rw [hb]; exact hd2) (by show 2 + 3 < R.frames; omega) (by show 2 * 0 + 1 + (13 * (2 + 1) + 41) ≤ R.locals; omega)
  obtain ⟨hwalk, hrun, hended, hWU, hsame⟩ := X₂.athrowLeaves hexec (g := F0 m (S.1 + 7) ls [.ref (Z.1 + S.2.2.2.1.length)]) rfl rfl rfl (by rw [hout]; exact fun _ h => by cases h) (a := Z.1 + S.2.2.2.1.length) (rest := []) rfl (by rw [hb]; exact hd3) hlocks
  refine ⟨_, st _ hwalk, .threw (Z.1 + S.2.2.2.1.length), locs ++ L, cells + 1, slots + 6, hrun, hended, rfl, hWU, hsame, fun q hq => ?_, ?_, by omega, ?_, ?_, hc2⟩
  · rcases List.mem_append.mp hq with h1 | h1
    · exact I.2.2.2.2.1 q h1
    · rw [hL q h1]
      exact Nat.le_add_right _ _
  · rw [List.length_append, List.length_singleton]; omega
  · have hlt : Z.1 + S.2.2.2.1.length < T.heap.size := by rw [hT, z1]; omega
    have e4 : ((T.setVm vm').setCell (Z.1 + S.2.2.2.1.length) ce).heap = T.heap.setIfInBounds (Z.1 + S.2.2.2.1.length) ce := rfl
    show xs_R Z _ ((T.setVm vm').setCell (Z.1 + S.2.2.2.1.length) ce).heap
    rw [e4, hT]
    refine I.2.1.push (by rw [Array.size_setIfInBounds, z1, hsz]) (fun q hq => ?_) ⟨ce, ?_, hce2, hce1, fun h16 => absurd h16 (by show ¬ 16 ≤ t; omega), fun h14 => absurd h14 (by show ¬ t < 14; omega)⟩
    · rw [Array.getElem?_setIfInBounds, if_neg (by omega)]
      exact o1 q (by omega)
    · rw [Array.getElem?_setIfInBounds, if_pos rfl, if_pos (by rw [z1]; omega)]
  · rw [List.length_append, List.length_singleton]; exact hc1
end XS9
