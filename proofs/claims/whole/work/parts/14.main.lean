/-! THE PURE MACHINE IS SOUND: what it computes, the machine does -/
def xm_nat : xm_N := fun k as h => if k = 1000 then (match as with
      | [.ref _] => some (none, h)
      | _ => none)
    else if k = 1001 then (match as with
      | [.int x, .int y] => some (some (.int (if x < y then y else x)), h)
      | _ => none)
    else if k = 1002 then (match as with
      | [.int x, .int y] => some (some (.int (if y < x then y else x)), h)
      | _ => none)
    else if k = 1003 then (match as with
      | [.long x, .long y] => some (some (.long (if y < x then x else y)), h)
      | _ => none)
    else if k = 1004 then (match as with
      | [.long x, .long y] => some (some (.long (if y < x then y else x)), h)
      | _ => none)
    else if k = 1005 then (match as with
      | [.retAddr i] => if i < 3 then some (some (.int (xn_sb i).length.toInt32), h) else none
      | _ => none)
    else if k = 1006 then (match as with
      | [.retAddr i, .int x] => if i < 3 ∧ ¬ (x < 0 ∨ (xn_sb i).length ≤ x.toNatClampNeg) then some (some (.int ((Int32.ofNat ((xn_sb i).getD x.toNatClampNeg 0) &&& 255).toUInt32.toUInt16.toUInt32.toInt32)), h) else none
      | _ => none)
    else if k = 1007 then (match as with
      | [.ref a, .int sp, .ref b, .int dp, .int n] => (match h[a]?, h[b]? with
        | some q, some q' => if xn_ok q.1 q'.1 q.2 q'.2 sp dp n = true then some (none, h.set b (q'.1, xn_cp q.2 q'.2 sp.toNatClampNeg dp.toNatClampNeg n.toNatClampNeg)) else none
        | _, _ => none)
      | _ => none)
    else none
def xt_nat (own : String) (i : Instr) (k n : Nat) : Prop :=
  (k = 1000 → n = 1 ∧ ∃ ix, i = .invokespecial ix ∧ Cond.methodLink own ix Lib.objectInit ∈ lw_tbl) ∧
  (k = 1001 → n = 2 ∧ ∃ ix, i = .invokestatic ix ∧ Cond.methodLink own ix Lib.Math.max.name ∈ lw_tbl) ∧
  (k = 1002 → n = 2 ∧ ∃ ix, i = .invokestatic ix ∧ Cond.methodLink own ix Lib.Math.min.name ∈ lw_tbl) ∧
  (k = 1003 → n = 2 ∧ ∃ ix, i = .invokestatic ix ∧ Cond.methodLink own ix Lib.MathLoose.max_long.x ∈ lw_tbl) ∧
  (k = 1004 → n = 2 ∧ ∃ ix, i = .invokestatic ix ∧ Cond.methodLink own ix Lib.MathLoose.min_long.x ∈ lw_tbl) ∧
  (k = 1005 → n = 1 ∧ ∃ ix, i = .invokevirtual ix ∧ Cond.methodLink own ix Lib.Str.length.name ∈ lw_tbl) ∧
  (k = 1006 → n = 2 ∧ ∃ ix, i = .invokevirtual ix ∧ Cond.methodLink own ix Lib.Str.charAt.name ∈ lw_tbl) ∧
  (k = 1007 → n = 5 ∧ ∃ ix, i = .invokestatic ix ∧ Cond.methodLink own ix arraycopyName ∈ lw_tbl)
/-- the members that are one step stand in the tables -/
def xt_nw : List Cond := [.instanceMethod Lib.objectInit, .code Lib.objectInit ⟨#[0xb1]⟩ 1 none, .initialized "java/lang/Math", .static Lib.Math.max.name, .code Lib.Math.max.name Lib.Math.max.code 2 (some .int), .static Lib.Math.min.name, .code Lib.Math.min.name Lib.Math.min.code 2 (some .int),
  .static Lib.MathLoose.max_long.x, .code Lib.MathLoose.max_long.x Lib.MathLoose.max_long.code 4 (some .long), .static Lib.MathLoose.min_long.x, .code Lib.MathLoose.min_long.x Lib.MathLoose.min_long.code 4 (some .long)]
theorem xt_nw_in : ∀ w ∈ xt_nw, w ∈ lw_tbl := by
  have h : xt_nw.all (fun w => decide (w ∈ lw_tbl)) = true := by decide +kernel
  intro w hw
  exact of_decide_eq_true (List.all_eq_true.mp h w hw)
/-- an atom of 'throw new': in the tables, or one of the two statics -/
def xt_oa (a : Cond) : Prop := (a ∈ lw_tbl ∧ xs_wd a = true) ∨ (∃ C, a = .castable C C ∧ a ∈ lw_tbl) ∨ (∃ x, a = .declares x ∧ a ∈ lw_tbl) ∨ (∃ C n d, a = .laysStatic C n d ∧ a ∈ lw_tbl) ∨ a = .isRef (.static Bundle.tN "UNASSIGNED_STACK" Bundle.steD) ∨ a = .isRef (.static Bundle.tN "SUPPRESSED_SENTINEL" Bundle.listD)
def xt_thr (y : MethodName) (cc : ByteArray) (pc : Nat) (E : xm_E) : Prop := ∃ i ic, E.1 = .new i ∧ E.2.2.1 < 16 ∧ decode cc (pc + 3) = .ok (.dup, 1) ∧ decode cc (pc + 4) = .ok (.invokespecial ic, 3) ∧ decode cc (pc + 7) = .ok (.athrow, 1) ∧ Bundle.fit (xt_cn E.2.2.1) = true ∧
  ∀ a ∈ Bundle.ownAtoms0 y.cls ic (xt_cn E.2.2.1) ["java/lang/RuntimeException", "java/lang/Exception"], xt_oa a
def xt_row (P : xm_P) (Y : Nat → MethodName) (bb : Nat → ByteArray) (j pc : Nat) (E : xm_E) : Prop := xt_ok (Y j) (bb j) pc E ∧ (xm_kind E = 2 → E.2.2.1 < 1000 → ∀ M, P.2.1 E.2.2.1 = some M → xt_call (Y j).cls (Y E.2.2.1) (bb E.2.2.1) M E.1 E.2.2.2) ∧ (xm_kind E = 2 → 1000 ≤ E.2.2.1 → xt_nat (Y j).cls E.1 E.2.2.1 E.2.2.2) ∧ (xm_kind E = 3 → xt_thr (Y j) (bb j) pc E)
def xt_prog (P : xm_P) (Y : Nat → MethodName) (bb : Nat → ByteArray) : Prop := (∀ j pc E, P.1 j pc = some E → xt_row P Y bb j pc E) ∧ (∀ k M, P.2.1 k = some M → xt_mok (Y k) (bb k) M) ∧ P.2.2 = xm_nat
/-- the Strings and what String's methods read -/
def xn_W (Z : xs_Z) (s0 : State) : Prop := Lib.Cold.StaticIs s0 str "COMPACT_STRINGS" "Z" (.int 1) ∧ (∃ fmt, Lib.Cold.StaticIs s0 pre_ "SIOOBE_FORMATTER" xn_fm fmt ∧ (fmt = .null ∨ ∃ q, fmt = .ref q)) ∧ ∀ i, i < 3 → xn_S Z.1 (Z.2.1 i) (xn_sb i) s0
/-- the start: what holds of the state s0 -/
def xs_G (Z : xs_Z) (l : Launch) (s0 : State) (A0 : Array Value) (L : Nat) (xs : Nat → Int32) : Prop := (Z.1 = s0.heap.size ∧ Z.2.2.2.2 = s0.heap) ∧ (∀ w ∈ lw_tbl, w.before A0 s0 = true) ∧ xs_K Z s0 ∧ xs_na Z s0 ∧ (va_X (Z.2.1 9) L xs s0 s0.heap ∧ Z.2.1 9 < Z.1) ∧
  (va_Zq Bundle.tN "UNASSIGNED_STACK" Bundle.steD (fun q => Z.1 ≤ q) s0 s0.heap ∧ va_Zq Bundle.tN "SUPPRESSED_SENTINEL" Bundle.listD (fun q => Z.1 ≤ q) s0 s0.heap) ∧ (∀ i, i < 3 → vk_R (xt_sr i).1 (xt_sr i).2.1 (xt_sr i).2.2 (Z.2.1 i) s0) ∧ (∀ e, l.admits e → e.platform.stackTraces = false) ∧ xn_W Z s0
/-- a frame of the method y, entered at s with c0 cells of b0 slots, d calls deep at the most -/
def xs_F (Z : xs_Z) (s0 : State) (p : Program) (e : Env) (R : Room) (s : State) (m : MethodId) (meth : Method) (c : Code) (y : MethodName) (cc : ByteArray) (M : xm_M) (d c0 b0 : Nat) : Prop :=
  p.tables.exec = Jvm.exec ∧ c.code = cc ∧ c.maxLocals = M.1 ∧ meth.sig.returnType = M.2.1 ∧ meth.locks = false ∧ s.vm.findClass y.cls = some m.cls ∧ meth.name = y.name ∧ s0.WarmedH s.vm ∧ (R.cells = xm_cm - c0 ∧ R.slots = xm_sm - b0 ∧ d + 12 ≤ R.frames ∧ 300 + 64 * d ≤ R.locals) ∧ (∃ hh, xs_R Z hh s.heap ∧ hh.length = c0) ∧ xs_rows e.platform s m.cls Z c.exceptionTable.toList M.2.2.1
section XS12
variable {Z : xs_Z} {p : Program} {l : Launch} {e : Env} {R : Room} {s s0 : State} {A0 : Array Value} {L : Nat} {xs : Nat → Int32} {m : MethodId} {args : Array Value} {below : List Frame} {meth : Method} {c : Code} {Q : State → Prop} {nL c0 b0 : Nat} {cc : ByteArray} {S S' : xm_S}
theorem xs_na.moved {u U : State} (hvm : u.vm.Alike U.vm) (h : xs_na Z u) : xs_na Z U := ⟨by rw [hvm.assignable]; exact h.1, by rw [hvm.assignable]; exact h.2⟩
theorem xs_own (G : xs_G Z l s0 A0 L xs) (hW : s0.WarmedH s.vm) {hh : xm_H} (hR : xs_R Z hh s.heap) {a : Cond} (h : xt_oa a) : a.before args s = true := by
  have hkept : ∀ q : Nat, q < s0.heap.size → ¬ Z.1 ≤ q → s.heap[q]? = s0.heap[q]? := fun q _ hq => by rw [hR.2.1 q (by omega), G.1.2]
  rcases h with ⟨h1, h2⟩ | ⟨C, rfl, h2⟩ | ⟨x, rfl, h2⟩ | ⟨C, n, d, rfl, h2⟩ | rfl | rfl
  · exact xs_mv hW h2 (G.2.1 _ h1)
  · exact va_Nw.use rfl (va_Nw.warmC hW (va_Nw.of rfl (G.2.1 _ h2)))
  · exact va_Nw.use rfl (va_Nw.warmD hW (va_Nw.of rfl (G.2.1 _ h2)))
  · obtain ⟨c, k, i, f, a, cell, hc, hi, hst, ha, hcell, hs, hcls, hlt, hty⟩ := Cond.laysStatic_spec (G.2.1 _ h2)
    obtain ⟨k', hi', hek⟩ := State.fieldFound?_setVm hW.alike hi
    have hal : a < s0.heap.size := (Array.getElem?_eq_some_iff.mp hcell).1
    have hc' : s.heap[a]? = some cell := by rw [hkept a hal (Nat.not_le.mpr (by rw [G.1.1]; exact hal))]; exact hcell
    exact Cond.laysStatic_of (s := s) (by rw [hW.alike.findClass]; exact hc) hi' hst (by rw [hek]; exact ha) hc' hs hcls hlt (by rw [hek]; exact hty)
  · exact xs_isref (H := s.heap) ((G.2.2.2.2.2.1.1.kept hkept).moved hW.alike)
  · exact xs_isref (H := s.heap) ((G.2.2.2.2.2.1.2.kept hkept).moved hW.alike)
theorem xs_split (st : List Value) (n : Nat) : st.map (xs_tr Z) = ((st.take n).reverse.map (xs_tr Z)).reverse ++ (st.drop n).map (xs_tr Z) := by
  rw [← List.map_reverse, List.reverse_reverse, ← List.map_append, List.take_append_drop]
theorem xs_cats (st : List Value) : ((st.map (xs_tr Z)).map (fun v => v.category)).sum = (st.map (fun v => v.category)).sum := by
  rw [List.map_map]
  congr 1
  exact List.map_congr_left (fun v _ => xs_cat Z v)
theorem xs_nat {own : String} {E : xm_E} {v : Option Value} {h' : xm_H} (hts : ∀ w ∈ lw_tbl, w.before A0 s0 = true) (hW0 : s0.WarmedH s.vm) (hz0 : Z.1 = s0.heap.size ∧ Z.2.2.2.2 = s0.heap) (hN : xn_W Z s0) (hK : xs_K Z s) (hexec : p.tables.exec = Jvm.exec) (hb : c.code = cc) (hml : c.maxLocals = nL) (hw : xs_ws args s) (hRc : R.cells = xm_cm - c0) (hRs : R.slots = xm_sm - b0) (hRf : 12 ≤ R.frames) (hRl : 300 ≤ R.locals) (hown : s.vm.findClass own = some m.cls) (hd : decode cc S.1 = .ok (E.1, 3)) (hn : xt_nat own E.1 E.2.2.1 E.2.2.2)
    (hsum : ((S.2.2.1.drop E.2.2.2).map (fun v => v.category)).sum ≤ 8)
    (h : xm_nat E.2.2.1 (S.2.2.1.take E.2.2.2).reverse S.2.2.2.1 = some (v, h')) (kk : xs_W Z p l e R s m args below meth c Q nL c0 b0 (S.1 + 3, S.2.1, v.toList ++ S.2.2.1.drop E.2.2.2, h', S.2.2.2.2)) : xs_W Z p l e R s m args below meth c Q nL c0 b0 S := by
  by_cases h7 : E.2.2.1 = 1007
  · obtain ⟨hn1, ix, hi, hl⟩ := hn.2.2.2.2.2.2.2 h7
    rw [hi] at hd
    unfold xm_nat at h
    rw [h7] at h
    simp only [reduceIte, Nat.reduceEqDiff] at h
    split at h
    · next a sp b dp n heq =>
      split at h
      · next q q' hq hq' =>
        split at h
        · next hok =>
          cases h
          have hx : S.2.2.1 = .int n :: .int dp :: .ref b :: .int sp :: .ref a :: S.2.2.1.drop E.2.2.2 := by
            have e1 : S.2.2.1.take E.2.2.2 = [.int n, .int dp, .ref b, .int sp, .ref a] := by
              rw [← List.reverse_reverse (S.2.2.1.take E.2.2.2), heq]
              rfl
            have e2 := (List.take_append_drop E.2.2.2 S.2.2.1).symm
            rw [e1] at e2
            exact e2
          exact xn_acp hexec hb hml hw hK hown hl hd (by omega) hx (by omega) hq hq' hok kk
        · cases h
      · cases h
    · cases h
  intro ls H locs cells slots I
  have hH0 : ∀ q : Nat, q < Z.1 → H[q]? = s0.heap[q]? := fun q hq => by rw [I.2.1.2.1 q hq, hz0.2]
  rw [xs_split S.2.2.1 E.2.2.2]
  have hs8 : (((S.2.2.1.drop E.2.2.2).map (xs_tr Z)).map (fun v => v.category)).sum ≤ 8 := by rw [xs_cats]; exact hsum
  have hls : c.maxLocals = ls.size := by rw [hml]; exact I.1.1.symm
  have i1 := I.2.2.1
  have i2 := I.2.2.2.1
  have i3 := I.2.2.2.2.2.1
  have i4 := I.2.2.2.2.2.2
  have w : ∀ c ∈ xt_nw, xs_wd c = true → c.before args s = true := fun c hc hg => hw c (xt_nw_in c hc) hg
  unfold xm_nat at h
  split at h
  · next hk =>
    obtain ⟨hn1, ix, hi, hl⟩ := hn.1 hk
    rw [hi] at hd
    split at h
    · next a heq =>
      cases h
      rw [heq]
      exact W.objInit (rest := (S.2.2.1.drop E.2.2.2).map (xs_tr Z)) hexec hb hown (hw _ hl rfl) (w _ (by simp [xt_nw]) rfl) (w _ (by simp [xt_nw]) rfl) rfl (by rw [hml]; exact I.1.1) rfl hd (by omega) (by show 2 * 0 + (((S.2.2.1.drop E.2.2.2).map (xs_tr Z)).map (fun v => v.category)).sum + 12 ≤ R.locals; omega) (kk ls H locs cells slots I)
    · cases h
  · split at h
    · next hk =>
      obtain ⟨hn1, ix, hi, hl⟩ := hn.2.1 hk
      rw [hi] at hd
      split at h
      · next x y heq =>
        cases h
        rw [heq]
        exact va_mmax (rest := (S.2.2.1.drop E.2.2.2).map (xs_tr Z)) hexec hb hls hown (hw _ hl rfl) (w _ (by simp [xt_nw]) rfl) (w _ (by simp [xt_nw]) rfl) (w _ (by simp [xt_nw]) rfl) (by omega) (by omega) (by omega) (by omega) hd (kk ls H locs cells slots I)
      · cases h
    · split at h
      · next hk =>
        obtain ⟨hn1, ix, hi, hl⟩ := hn.2.2.1 hk
        rw [hi] at hd
        split at h
        · next x y heq =>
          cases h
          rw [heq]
          exact va_mmin (rest := (S.2.2.1.drop E.2.2.2).map (xs_tr Z)) hexec hb hls hown (hw _ hl rfl) (w _ (by simp [xt_nw]) rfl) (w _ (by simp [xt_nw]) rfl) (w _ (by simp [xt_nw]) rfl) (by omega) (by omega) (by omega) (by omega) hd (kk ls H locs cells slots I)
        · cases h
      · split at h
        · next hk =>
          obtain ⟨hn1, ix, hi, hl⟩ := hn.2.2.2.1 hk
          rw [hi] at hd
          split at h
          · next x y heq =>
            cases h
            rw [heq]
            exact va_mmax_long (rest := (S.2.2.1.drop E.2.2.2).map (xs_tr Z)) hexec hb hls hown (hw _ hl rfl) (w _ (by simp [xt_nw]) rfl) (w _ (by simp [xt_nw]) rfl) (w _ (by simp [xt_nw]) rfl) (by omega) (by omega) (by omega) (by omega) hd (kk ls H locs cells slots I)
          · cases h
        · split at h
          · next hk =>
            obtain ⟨hn1, ix, hi, hl⟩ := hn.2.2.2.2.1 hk
            rw [hi] at hd
            split at h
            · next x y heq =>
              cases h
              rw [heq]
              exact va_mmin_long (rest := (S.2.2.1.drop E.2.2.2).map (xs_tr Z)) hexec hb hls hown (hw _ hl rfl) (w _ (by simp [xt_nw]) rfl) (w _ (by simp [xt_nw]) rfl) (w _ (by simp [xt_nw]) rfl) (by omega) (by omega) (by omega) (by omega) hd (kk ls H locs cells slots I)
            · cases h
          · split at h
            · next hk =>
              obtain ⟨hn1, ix, hi, hl⟩ := hn.2.2.2.2.2.1 hk
              rw [hi] at hd
              split at h
              · next i heq =>
                split at h
                · next hi3 =>
                  cases h
                  rw [heq]
                  exact xn_virt (rest := (S.2.2.1.drop E.2.2.2).map (xs_tr Z)) (argsL := []) (W0 := 8) (by decide) hts (hN.2.2 i hi3) hexec hb hls hown (hw _ hl rfl) (xn_at hts hW0 (by simp [xn_nw])) (xn_at hts hW0 (by simp [xn_nw])) (bytes := Lib.String.length.code) (ml := 1) (ret := some .int) (xn_at hts hW0 (by simp [xn_nw])) hW0 hz0.1.symm hH0 (by omega) (by omega)
                    (fun sig hs => by
                      have h : parseMethodDescriptor "()I" = some { parameters := [], returnType := some .int } := by decide +kernel
                      rw [show Lib.Str.length.name.desc = "()I" from rfl, h] at hs
                      rw [← Option.some.inj hs]; rfl) (xn_lenB hts (hN.2.2 i hi3) hN.1 (by omega) (by omega)) hs8 hd (kk ls H locs cells slots I)
                · cases h
              · cases h
            · split at h
              · next hk =>
                obtain ⟨hn1, ix, hi, hl⟩ := hn.2.2.2.2.2.2.1 hk
                rw [hi] at hd
                split at h
                · next i x heq =>
                  split at h
                  · next hi3 =>
                    cases h
                    rw [heq]
                    obtain ⟨fmt, f1, f2⟩ := hN.2.1
                    exact xn_virt (rest := (S.2.2.1.drop E.2.2.2).map (xs_tr Z)) (argsL := [.int x]) (W0 := 8) (by decide) hts (hN.2.2 i hi3.1) hexec hb hls hown (hw _ hl rfl) (xn_at hts hW0 (by simp [xn_nw])) (xn_at hts hW0 (by simp [xn_nw])) (bytes := Lib.Str.charAt.code) (ml := 2) (ret := some .char) (xn_at hts hW0 (by simp [xn_nw])) hW0 hz0.1.symm hH0 (by omega) (by omega)
                      (fun sig hs => by
                        have h : parseMethodDescriptor "(I)C" = some { parameters := [.int], returnType := some .char } := by decide +kernel
                        rw [show Lib.Str.charAt.name.desc = "(I)C" from rfl, h] at hs
                        rw [← Option.some.inj hs]; rfl) (xn_chrB hts (hN.2.2 i hi3.1) (by have := xn_sbl i; omega) hN.1 f1 f2 hi3.2 (by omega) (by omega)) hs8 hd (kk ls H locs cells slots I)
                  · cases h
                · cases h
              · first
                  | cases h
                  | (rw [if_neg h7] at h; cases h)
end XS12
