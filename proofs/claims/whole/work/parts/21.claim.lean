/-! the claim out of the pure machine's claim -/
def R_law : String := "CubeStoreLaw"
def lw_P (b : Addr) (xs : List Int32) (args : Array Value) (s : State) : Prop := args = #[.ref b] ∧ s.IntsAt b xs ∧ xs.length ≤ 3073 ∧ (Jvm.Cond.and given_1 narrow_1).before args s = true
def lw_Q (_ : Array Value) (s : State) (o : Outcome) (t : State) : Prop := o = .returned (some (.int 1)) ∧ Framed s o t [] 601024 7293000
def lw_Z (below : List Frame) (a : Array Value) (s : State) : State → Prop := fun t => ∃ o, t.status = .running ∧ Ended t below o ∧ lw_Q a s o t
/-- what holds at the law's entry: the machine, the code, the tables' words (any of lw_tbl by 'hts w (by decide +kernel)'), the script of L ints xs at the cell b, what the Statement gives of the start (any of its parts by flat_of_before) -/
def lw_At (p : Program) (s : State) (m : MethodId) (meth : Method) (c : Code) (b L : Nat) (xs : Nat → Int32) : Prop :=
  p.tables.exec = Jvm.exec ∧ c.code = code ∧ meth.sig.returnType = ret ∧ c.maxLocals = 8 ∧ s.vm.findClass R_law = some m.cls ∧ (∀ w ∈ lw_tbl, w.before #[Value.ref b] s = true) ∧ va_X b L xs s s.heap ∧ b < s.heap.size ∧ meth.locks = false ∧ (Jvm.Cond.and given_1 narrow_1).before #[Value.ref b] s = true ∧ c.exceptionTable.isEmpty = true ∧ meth.name = x.name
/-- THE CLAIM OF THE PURE MACHINE: on every script the law's method answers 1 -/
def xg_pure : Prop := ∀ (L : Nat) (xs : Nat → Int32), L ≤ 3073 → ∃ (n d : Nat) (h' : xm_H) (ns' : Nat), d ≤ 1000 ∧ xm_run (xm_gg xs L) xt_P n d 349 (8, ret, [], 0) (0, [(0, .retAddr 9)], [], [], 0) = some (.inl (some (.int 1)), h', ns')
theorem xg_G {p : Program} {s : State} {m : MethodId} {meth : Method} {c : Code} {l : Launch} {b L : Nat} {xs : Nat → Int32} (C0 : lw_At p s m meth c b L xs) (htr : ∀ e, l.admits e → e.platform.stackTraces = false) : xs_G (xg_Z s b) l s #[Value.ref b] L xs := by
  obtain ⟨-, -, -, -, -, hts, hX, hbl, -, hgv, -, -⟩ := C0
  have hs := flat_of_before _ hgv
  have hK := xg_K (b := b) hts
  have hA : ∀ a : Nat, a < s.heap.size → ¬ (xg_Z s b).1 ≤ a := fun a ha => Nat.not_le.mpr ha
  have he : xg_ex s b 9 = b := if_pos rfl
  refine ⟨⟨rfl, rfl⟩, hts, hK, ⟨?_, ?_⟩, ⟨?_, ?_⟩, ⟨?_, ?_⟩, fun i hi => ?_, htr, xg_W rfl (fun i hi => ?_) hts hgv⟩
  · exact xg_no (C := "java/lang/IllegalStateException") (D := "java/lang/IllegalArgumentException") (hK.2.2 14 (by omega)).1 (hK.2.2 15 (by omega)).1 (hs _ (by decide +kernel))
  · exact xg_no (C := "java/lang/IllegalArgumentException") (D := "java/lang/IllegalStateException") (hK.2.2 15 (by omega)).1 (hK.2.2 14 (by omega)).1 (hs _ (by decide +kernel))
  · show va_X (xg_ex s b 9) L xs s s.heap
    rw [he]
    exact hX
  · show xg_ex s b 9 < s.heap.size
    rw [he]
    exact hbl
  · exact va_Zqof (hts (.laysStatic "java/lang/Throwable" "UNASSIGNED_STACK" "[Ljava/lang/StackTraceElement;") (by decide +kernel)) (hts (.initialized "java/lang/Throwable") (by decide +kernel)) (hs (.isRef (.static "java/lang/Throwable" "UNASSIGNED_STACK" "[Ljava/lang/StackTraceElement;")) (by decide +kernel)) hA
  · exact va_Zqof (hts (.laysStatic "java/lang/Throwable" "SUPPRESSED_SENTINEL" "Ljava/util/List;") (by decide +kernel)) (hts (.initialized "java/lang/Throwable") (by decide +kernel)) (hs (.isRef (.static "java/lang/Throwable" "SUPPRESSED_SENTINEL" "Ljava/util/List;")) (by decide +kernel)) hA
  · have hne : ¬ i = 9 := by omega
    have hst : (Cond.stringRef (xt_sr i).1 (xt_sr i).2.1 (xt_sr i).2.2).before #[Value.ref b] s = true := by
      rcases (by omega : i = 0 ∨ i = 1 ∨ i = 2) with rfl | rfl | rfl <;> exact hts _ (by decide +kernel)
    have hex : (Cond.exactly (.string (xt_sr i).1 (xt_sr i).2.1) "java/lang/String").before #[Value.ref b] s = true := by
      rcases (by omega : i = 0 ∨ i = 1 ∨ i = 2) with rfl | rfl | rfl <;> exact hs _ (by decide +kernel)
    obtain ⟨a, ha, hR⟩ := xg_str hst hex
    have : xg_ex s b i = a := by
      unfold xg_ex
      rw [if_neg hne, ha]
    show vk_R _ _ _ (xg_ex s b i) s
    rw [this]
    exact hR
  · have hne : ¬ i = 9 := by omega
    have hst : (Cond.stringRef (xt_sr i).1 (xt_sr i).2.1 (xt_sr i).2.2).before #[Value.ref b] s = true := by
      rcases (by omega : i = 0 ∨ i = 1 ∨ i = 2) with rfl | rfl | rfl <;> exact hts _ (by decide +kernel)
    have hex : (Cond.exactly (.string (xt_sr i).1 (xt_sr i).2.1) "java/lang/String").before #[Value.ref b] s = true := by
      rcases (by omega : i = 0 ∨ i = 1 ∨ i = 2) with rfl | rfl | rfl <;> exact hs _ (by decide +kernel)
    obtain ⟨a, ha, hR⟩ := xg_str hst hex
    have : xg_ex s b i = a := by
      unfold xg_ex
      rw [if_neg hne, ha]
    show (xg_tm i).eval #[Value.ref b] s none [] s = some (.ref (xg_ex s b i))
    rw [this]
    exact ha
theorem whole_start (hpure : xg_pure) {p : Program} {e : Env} {s : State} {m : MethodId} {below : List Frame} {meth : Method} {c : Code} (l : Launch) (htr : ∀ e, l.admits e → e.platform.stackTraces = false) {b L : Nat} {xs : Nat → Int32} (hL : L ≤ 3073) (C0 : lw_At p s m meth c b L xs) : W p l e room_1 s m #[Value.ref b] below meth c s.heap [] 0 0 (lw_Z below #[Value.ref b] s) (entryFrame m ([Value.ref b] : List Value).toArray 8) := by
  obtain ⟨n, d, h', ns', hd, hrun⟩ := hpure L xs hL
  have G := xg_G C0 htr
  obtain ⟨hx, hb, hr, hml, hown, hts, hX, hbl, hlocks, hgv, hexc, hnm⟩ := C0
  have hRR : xs_R (xg_Z s b) [] s.heap := ⟨rfl, fun _ _ => rfl, fun k q hq => by cases hq⟩
  have hrm : room_1 = { frames := 2048, cells := 601024, slots := 7293000, locals := 84000 } := rfl
  have F : xs_F (xg_Z s b) s p e room_1 s m meth c (xt_Y 349) (xt_B 349) (8, ret, [], 0) d 0 0 := by
    refine ⟨hx, hb, hml, hr, hlocks, hown, hnm, State.WarmedH.refl s, ⟨rfl, rfl, by rw [hrm]; show d + 12 ≤ 2048; omega, by rw [hrm]; show 300 + 64 * d ≤ 84000; omega⟩, ⟨[], hRR, rfl⟩, ?_⟩
    have : c.exceptionTable = #[] := by simpa using hexc
    rw [this]
    trivial
  have hW := xs_main G xt_progok n d 349 (8, ret, [], 0) _ _ h' ns' hrun F (args := #[Value.ref b]) (below := below)
  rw [lg_entry_eq]
  have hent := lv_entry ([Value.ref b]) (n := 8) (show (1 : Nat) ≤ 8 by decide)
  have he : xg_ex s b 9 = b := if_pos rfl
  refine xs_mono (fun t ht => ?_) (hW _ s.heap [] 0 0 ⟨?_, hRR, rfl, rfl, (fun _ hq => by cases hq), Nat.zero_le _, Nat.zero_le _⟩)
  · obtain ⟨o, LL, k, n2, w1, w2, w3, w4, w5, w6, w7, w8, w9, w10, w11⟩ := ht
    have ho : o = .returned (some (.int 1)) := w3
    refine ⟨o, w1, w2, ho, ⟨_, ho⟩, w4, w5.weaken (fun y hy hlt => ?_) ?_ ?_⟩
    · exact absurd (w6 y hy) (Nat.not_le.mpr hlt)
    · show k ≤ xm_cm
      omega
    · show n2 ≤ xm_sm
      omega
  · show lv_has _ 8 [(0, Value.ref (xg_ex s b 9))]
    rw [he]
    exact hent
set_option maxHeartbeats 4000000 in
theorem lw_walk (hpure : xg_pure) (l : Launch) (htr : ∀ e, l.admits e → e.platform.stackTraces = false) (b : Addr) (xs : List Int32) : MetFree l x (headSpec (Jvm.Cond.code x code maxLocals ret :: tables_1) room_1) (lw_P b xs) (fun _ _ _ _ _ => True) lw_Q := by
  refine MetFree.of_bodyS (code := code) (maxLocals := maxLocals) (ret := ret) (by decide) ?_ ?_
  · intro args s m h hn
    obtain ⟨meth, c, h1, h2, h3, h4, h5, h6, -, -⟩ := Cond.code_spec hn (atoms_spec (ws := Jvm.Cond.code x code maxLocals ret :: tables_1) h _ List.mem_cons_self)
    exact ⟨meth, c, h1, h2, h3, h4, h5, h6⟩
  · intro p e s m args below meth c s₁ B hml0 hP _
    obtain ⟨rfl, hx, hbd, hgv⟩ := hP
    obtain ⟨scr, harrAt, hlist, hof, hsmall⟩ := hx
    obtain ⟨hcb, hkn, -, -⟩ := State.arrayAt?_spec harrAt
    have hown : s.vm.findClass R_law = some m.cls := findClass_of_methodNamed B.named
    have hts0 : ∀ c ∈ (Jvm.Cond.code x code maxLocals ret :: tables_1), c.before #[Value.ref b] s = true := atoms_spec (ws := Jvm.Cond.code x code maxLocals ret :: tables_1) B.pre
    have hts : ∀ w ∈ lw_tbl, w.before #[Value.ref b] s = true := k2_hts_sels lw_privs (fun w hw => hts0 w (List.mem_cons_of_mem _ hw)) lw_privs_ok
    have hml : c.maxLocals = 8 := B.maxLocals_eq (hts0 _ List.mem_cons_self)
    have X₀ : Stand p l e room_1 s m #[Value.ref b] below meth c s₁ [] 0 0 := Stand.of_body B
    have hh0 : s₁.heap = s.heap := by rw [B.state]; rfl
    have hsz : scr.slots.size = xs.length := by rw [← Array.length_toList, hlist, List.length_map]
    have hval : ∀ j : Nat, j < xs.length → scr.slots[j]? = some (.int (xs.getD j 0)) := fun j hj => by
      rw [← Array.getElem?_toList, hlist]
      simp [hj]
    have hbl : b < s.heap.size := (Array.getElem?_eq_some_iff.mp hcb).1
    have hX : va_X b xs.length (fun j => xs.getD j 0) s s.heap := ⟨scr, hcb, hof, hkn, hsz, hval⟩
    have K : W p l e room_1 s m #[Value.ref b] below meth c s₁.heap [] 0 0 (lw_Z below #[Value.ref b] s) (entryFrame m ([Value.ref b] : List Value).toArray 8) := by
      rw [hh0]
      exact whole_start hpure l htr hbd ⟨B.exec, B.bytes, B.returns, hml, hown, hts, hX, hbl, B.notSynchronized, hgv, BodyLoose.noHandlers B (hts0 _ List.mem_cons_self), (name_of_methodNamed B.named B.method).1⟩
    obtain ⟨t, a1, o, b1, b2, b3⟩ := K s₁ rfl X₀
    exact ⟨t, o, a1, b1, b2, b3⟩
theorem lw_pre_spec {args : Array Value} {s : State} (h : (Jvm.Cond.and given_1 narrow_1).before args s = true) (hr : rest_1_c.before args s = true) : ∃ (b : Addr) (xs : List Int32), lw_P b xs args s := by
  have hs := flat_of_before _ h
  have hq := flat_of_before _ hr
  have hc : (Cond.count 1).before args s = true := hs _ (by decide +kernel)
  have harr : (Cond.arrayOf (.arg 0) .int).before args s = true := hs _ (by decide +kernel)
  have hle : (Cond.le (.length (.arg 0)) (.int 3073)).before args s = true := hs _ (by decide +kernel)
  have hlen : (Cond.isInt (.length (.arg 0))).before args s = true := hq _ (by decide +kernel)
  have hall : (Cond.all (.arg 0) (.isInt (.elem (.arg 0) (.index 0)))).before args s = true := hq _ (by decide +kernel)
  obtain ⟨b, xs, hb, hx⟩ := State.ints_of_pre rfl harr hlen hall
  have hsm : xs.length < 2 ^ 31 := hx.choose_spec.2.2.2
  have hev : (Term.length (.arg 0)).eval args s none [] s = some (.int xs.length.toInt32) := hx.length_eval hb
  have hv := Cond.le_ints hev (show (Term.int 3073).eval args s none [] s = some (.int 3073) from rfl)
  have hd : xs.length.toInt32 ≤ 3073 := by
    simpa [Cond.before, Cond.holds, hv] using hle
  have hN : xs.length ≤ 3073 := (Int32.ofNat_le_ofNat hsm (by decide)).mp (show Int32.ofNat xs.length ≤ Int32.ofNat 3073 from hd)
  exact ⟨b, xs, Cond.one_arg hc (show args[0]? = some (.ref b) from hb), hx, hN, h⟩
theorem lw_comes (hpure : xg_pure) (l : Launch) (htr : ∀ e, l.admits e → e.platform.stackTraces = false) : Comes l x (Jvm.Cond.code x code maxLocals ret :: tables_1) room_1 (fun tb e args s => Calls_1 tb e args s ∧ rest_1 tb e args s ∧ Pre_1 tb e args s)
    (fun _ _ args s o t => lw_Q args s o t) := by
  intro p e ha hc hk s m args below hf hfit hheap happ hpre
  obtain ⟨b, xs, hP⟩ := lw_pre_spec hpre.2.2 hpre.2.1
  obtain ⟨k, o, h1, h2, h3, hQ⟩ := lw_walk hpure l htr b xs p e ha hc hk s m args below hf ((Spec.applies_iff_loose hf).mp happ).1 hP trivial
  exact ⟨k, o, h1, h2, h3, hQ⟩
theorem lw_frame {s t : State} {o : Outcome} {args : Array Value} (h : Framed s o t [] 601024 7293000) :
    Framed s o t (fieldLocs frame_1_writes args s ++ arrayLocs frame_1_arrays args s ++ staticLocs frame_1_statics s) 601024 7293000 := h
theorem lw_limb (hpure : xg_pure) (L : Cond) (hL : ∀ (args : Array Value) (s t : State), L.after args s (.returned (some (.int 1))) t = true) :
    ArmFor flags0 classFile x code maxLocals ret World_1 tables_1 room_1 Calls_1 rest_1 Pre_1
      (fun tb e a s o t => postC L tb e a s o t ∧ Framed s o t (fieldLocs frame_1_writes a s ++ arrayLocs frame_1_arrays a s ++ staticLocs frame_1_statics s) 601024 7293000) := by
  intro l hfl _ _ p e ha hc hk s m args below hf hfit hheap happ hpre
  obtain ⟨k, o, h1, h2, h3, rfl, hF⟩ := lw_comes hpure l (fun e' ha' => by
    obtain ⟨-, -, -, -, hp, -⟩ := ha'
    rw [hp]
    show l.stackTraces = false
    unfold Launch.stackTraces
    rw [hfl]
    decide) p e ha hc hk s m args below hf hfit hheap happ hpre
  exact ⟨k, _, h1, h2, h3, hL args s _, lw_frame hF⟩
