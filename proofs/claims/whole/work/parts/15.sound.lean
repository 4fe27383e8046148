/-! the theorem: a run of the pure machine is a run of the machine -/
theorem xs_rows_nil {pl : Platform} {s : State} {d : ClassId} {Z : xs_Z} {es : List ExceptionTableEntry} (h : xs_rows pl s d Z es []) : es = [] := by
  cases es with
  | nil => rfl
  | cons _ _ => exact h.elim
theorem xs_uncov {pl : Platform} {s : State} {d : ClassId} {Z : xs_Z} {pc : Nat} : ∀ (es : List ExceptionTableEntry) (hs : List (Nat × Nat × Nat × Nat)), xs_rows pl s d Z es hs → xm_un pc hs = true → ∀ x ∈ es, covers x pc = false := by
  intro es
  induction es with
  | nil => intro hs _ _ x hx; cases hx
  | cons y es ih =>
    intro hs hr hu x hx
    cases hs with
    | nil => exact hr.elim
    | cons q hs =>
      obtain ⟨r1, r2, -, -, -, -, -, r8⟩ := hr
      unfold xm_un at hu
      rw [List.all_cons, Bool.and_eq_true] at hu
      rcases List.mem_cons.mp hx with rfl | hx
      · have h1 := hu.1
        simp only [covers]
        rw [r1, r2]
        simpa only [Bool.not_eq_true'] using h1
      · exact ih hs r8 hu.2 x hx
section XS13
variable {Z : xs_Z} {l : Launch} {s0 : State} {A0 : Array Value} {L : Nat} {xs : Nat → Int32} {P : xm_P} {Y : Nat → MethodName} {bb : Nat → ByteArray}
/-- what a frame knows -/
theorem xs_know (G : xs_G Z l s0 A0 L xs) {p : Program} {e : Env} {R : Room} {s : State} {m : MethodId} {args : Array Value} {meth : Method} {c : Code} {y : MethodName} {cc : ByteArray} {M : xm_M} {d c0 b0 : Nat} (F : xs_F Z s0 p e R s m meth c y cc M d c0 b0) :
    xs_ws args s ∧ xs_K Z s ∧ xs_na Z s ∧ va_X (Z.2.1 9) L xs s Z.2.2.2.2 ∧ (∀ i, i < 3 → vk_R (xt_sr i).1 (xt_sr i).2.1 (xt_sr i).2.2 (Z.2.1 i) s) ∧ (∀ q, Z.1 ≤ q → ∀ cell, s.heap[q]? = some cell → cell.vm.isStatics = false) ∧ s.heap.size = Z.1 + c0 := by
  obtain ⟨-, -, -, -, -, -, -, hW, -, ⟨hh, hR, hl⟩, -⟩ := F
  refine ⟨xs_ws.moved hW G.2.1, G.2.2.1.moved hW.alike, G.2.2.2.1.moved hW.alike, by rw [G.1.2]; exact G.2.2.2.2.1.1.moved hW.alike, fun i hi => vk_R.warm hW (G.2.2.2.2.2.2.1 i hi), fun q hq cell hc => ?_, by rw [hR.1, hl]⟩
  have hlt : q < s.heap.size := (Array.getElem?_eq_some_iff.mp hc).1
  have hk : q - Z.1 < hh.length := by have := hR.1; omega
  obtain ⟨cell', h1, h2, -⟩ := hR.2.2 (q - Z.1) _ (List.getElem?_eq_getElem hk)
  rw [show Z.1 + (q - Z.1) = q by omega, hc] at h1
  cases h1
  rw [h2]
  rfl
set_option maxHeartbeats 4000000 in
theorem xs_main (G : xs_G Z l s0 A0 L xs) (hP : xt_prog P Y bb) : ∀ (n d j : Nat) (M : xm_M) (S : xm_S) (r : Option Value ⊕ Nat) (h' : xm_H) (ns' : Nat), xm_run (xm_gg xs L) P n d j M S = some (r, h', ns') →
    ∀ {p : Program} {e : Env} {R : Room} {s : State} {m : MethodId} {args : Array Value} {below : List Frame} {meth : Method} {c : Code} {c0 b0 : Nat}, xs_F Z s0 p e R s m meth c (Y j) (bb j) M d c0 b0 → xs_W Z p l e R s m args below meth c (xs_Q Z below s c0 b0 r h' ns') M.1 c0 b0 S := by
  intro n
  induction n with
  | zero => intro d j M S r h' ns' h; cases h
  | succ n ih =>
    intro d j M S r h' ns' h p e R s m args below meth c c0 b0 F
    obtain ⟨hw, hK, hna, hX, hst, hstat, hsz⟩ := xs_know (args := args) G F
    have F0' := F
    obtain ⟨hexec, hb, hml, hr, hlocks, hown, hnm, hW0, ⟨hRc, hRs, hRf, hRl⟩, ⟨hh, hRs0, hhl⟩, hrows⟩ := F
    unfold xm_run at h
    split at h
    · cases h
    · next E hE =>
      obtain ⟨hok, hcall, hnat, hthr⟩ := hP.1 j S.1 E hE
      split at h
      · next hk =>
        split at h
        · next S' hS' => exact xs_step hexec hb hw hK hX G.2.2.2.2.1.2 hst hRc hRs hown hnm hk hok hS' (ih d j M S' r h' ns' h F0')
        · cases h
      · next hk =>
        split at h
        · next v hv =>
          have h2 := Option.some.inj h
          have e1 : Sum.inl v = r := congrArg Prod.fst h2
          have e2 : S.2.2.2.1 = h' := congrArg (fun q => q.2.1) h2
          have e3 : S.2.2.2.2 = ns' := congrArg (fun q => q.2.2) h2
          subst e1
          subst e2
          subst e3
          have hd : decode (bb j) S.1 = .ok (E.1, 1) := by
            obtain ⟨hd, hl, -⟩ := hok
            obtain ⟨i, len, x, z⟩ := E
            dsimp only at hd hl ⊢
            have hl1 : len = 1 := by
              cases i <;> first | (simpa [xt_ln] using hl) | (exact absurd hv (by simp [xm_rt]))
            rw [hl1] at hd
            exact hd
          exact xs_ret hexec hb hr hlocks hd hv
        · cases h
      · next hk =>
        have hd : decode (bb j) S.1 = .ok (E.1, 3) := by
          obtain ⟨hd, hl, -⟩ := hok
          obtain ⟨i, len, x, z⟩ := E
          dsimp only at hd hl ⊢
          have hl1 : len = 3 := by
            cases i <;> first | (simpa [xt_ln] using hl) | (exact absurd hk (by simp [xm_kind]))
          rw [hl1] at hd
          exact hd
        split at h
        · next hsum =>
          obtain ⟨hlen, hsum⟩ := hsum
          split at h
          · next hge =>
            split at h
            · next v hh' hv =>
              rw [hP.2.2] at hv
              exact xs_nat G.2.1 hW0 G.1 G.2.2.2.2.2.2.2.2 hK hexec hb hml hw hRc hRs (by omega) (by omega) hown hd (hnat hk hge) hsum hv (ih d j M _ r h' ns' h F0')
            · cases h
          · next hge =>
            split at h
            · cases h
            · next d' =>
              split at h
              · cases h
              · next M' hM' =>
                split at h
                · next hrcv =>
                  have hmok := hP.2.1 _ _ hM'
                  have hcl := hcall hk (by omega) M' hM'
                  intro ls H locs cells slots I
                  intro T hT X
                  have i1 := I.2.2.1
                  have i2 := I.2.2.2.1
                  have i3 := I.2.2.2.2.2.1
                  have i4 := I.2.2.2.2.2.2
                  obtain ⟨mk, mt, ck, hc, hnamed, hmt, hck, hcb, hcl', hret', hlk', hsig', hexc, hhs⟩ := xs_meth (args := args) hw hmok
                  have hasn : (S.2.2.1.take E.2.2.2).reverse.length = E.2.2.2 := by rw [List.length_reverse, List.length_take]; omega
                  obtain ⟨vm', X', st1⟩ := xs_find_method X hexec hw hK hown hmok hcl (h := S.2.2.2.1) (by rw [hT]; exact I.2.1) hasn hrcv hnamed hmt hsig' (g := F0 m S.1 ls (S.2.2.1.map (xs_tr Z))) rfl (rest := (S.2.2.1.drop E.2.2.2).map (xs_tr Z)) (xs_split _ _) (by rw [hb]; exact hd)
                  have hal : s.vm.Alike (T.setVm vm').vm := X'.warmed.alike
                  have hmkT : (T.setVm vm').vm.method? mk = some mt := by rw [hal.method?]; exact hmt
                  have hnamedT : (T.setVm vm').methodNamed? (Y E.2.2.1) = some mk := X'.named hnamed
                  have hpk : (T.setVm vm').plainMethod mk := State.plainMethod.of_named (plainFor_of_name hmok.2.2.1) hnamedT hmkT
                  have hHT : (T.setVm vm').heap = H := hT
                  -- the callee's frame
                  have hWc : s0.WarmedH ((T.setVm vm').calling (F0 m S.1 ls ((S.2.2.1.drop E.2.2.2).map (xs_tr Z))) mk ((S.2.2.1.take E.2.2.2).reverse.map (xs_tr Z)).toArray).vm := State.WarmedH.trans hW0 X'.warmed
                  have hsum' : (((S.2.2.1.drop E.2.2.2).map (xs_tr Z)).map (fun v => v.category)).sum ≤ 8 := by rw [xs_cats]; exact hsum
                  have hM40 := hmok.2.2.2.2
                  have hcm : cells + (xm_cm - S.2.2.2.1.length) ≤ R.cells := by omega
                  have hsm : slots + (xm_sm - S.2.2.2.2) ≤ R.slots := by omega
                  have FC : xs_F Z s0 p e { frames := d' + 12, cells := xm_cm - S.2.2.2.1.length, slots := xm_sm - S.2.2.2.2, locals := 300 + 64 * d' } ((T.setVm vm').calling (F0 m S.1 ls ((S.2.2.1.drop E.2.2.2).map (xs_tr Z))) mk ((S.2.2.1.take E.2.2.2).reverse.map (xs_tr Z)).toArray) mk mt ck (Y E.2.2.1) (bb E.2.2.1) M' d' S.2.2.2.1.length S.2.2.2.2 := by
                    have hfc : ((T.setVm vm').calling (F0 m S.1 ls ((S.2.2.1.drop E.2.2.2).map (xs_tr Z))) mk ((S.2.2.1.take E.2.2.2).reverse.map (xs_tr Z)).toArray).vm.findClass (Y E.2.2.1).cls = some mk.cls := findClass_of_methodNamed hnamedT
                    refine ⟨hexec, hcb, hcl', hret', hlk', hfc, (name_of_methodNamed hnamed hmt).1, hWc, ⟨rfl, rfl, Nat.le_refl _, Nat.le_refl _⟩, ⟨S.2.2.2.1, ?_, rfl⟩, ?_⟩
                    · show xs_R Z S.2.2.2.1 (T.setVm vm').heap
                      rw [hHT]; exact I.2.1
                    · have hpl : e.platform.magicAccessors = ({} : Platform).magicAccessors := by rw [X.admits.platform]
                      refine xs_hrows hpl (args := args) (xs_ws.moved hWc G.2.1) (G.2.2.1.moved hWc.alike) hfc ck.exceptionTable.toList M'.2.2.1 ?_
                      rw [hexc]; exact hhs
                  have body : ∀ (rr : Option Value ⊕ Nat) (hh2 : xm_H) (ns2 : Nat), xm_run (xm_gg xs L) P n d' E.2.2.1 M' (0, xm_args 0 (S.2.2.1.take E.2.2.2).reverse, [], S.2.2.2) = some (rr, hh2, ns2) →
                      W p l e { frames := d' + 12, cells := xm_cm - S.2.2.2.1.length, slots := xm_sm - S.2.2.2.2, locals := 300 + 64 * d' } ((T.setVm vm').calling (F0 m S.1 ls ((S.2.2.1.drop E.2.2.2).map (xs_tr Z))) mk ((S.2.2.1.take E.2.2.2).reverse.map (xs_tr Z)).toArray) mk ((S.2.2.1.take E.2.2.2).reverse.map (xs_tr Z)).toArray (.java (F0 m S.1 ls ((S.2.2.1.drop E.2.2.2).map (xs_tr Z))) :: below) mt ck (T.setVm vm').heap [] 0 0
                        (xs_Q Z (.java (F0 m S.1 ls ((S.2.2.1.drop E.2.2.2).map (xs_tr Z))) :: below) ((T.setVm vm').calling (F0 m S.1 ls ((S.2.2.1.drop E.2.2.2).map (xs_tr Z))) mk ((S.2.2.1.take E.2.2.2).reverse.map (xs_tr Z)).toArray) S.2.2.2.1.length S.2.2.2.2 rr hh2 ns2) (entryFrame mk ((S.2.2.1.take E.2.2.2).reverse.map (xs_tr Z)).toArray ck.maxLocals) := by
                    intro rr hh2 ns2 hrun
                    have hb0 := ih d' E.2.2.1 M' _ rr hh2 ns2 hrun FC (args := ((S.2.2.1.take E.2.2.2).reverse.map (xs_tr Z)).toArray) (below := .java (F0 m S.1 ls ((S.2.2.1.drop E.2.2.2).map (xs_tr Z))) :: below)
                    rw [lg_entry_eq, hcl']
                    have hent := lv_entry ((S.2.2.1.take E.2.2.2).reverse.map (xs_tr Z)) (n := M'.1) (by
                      rw [xs_sl]
                      unfold xm_rcv at hrcv
                      rw [Bool.and_eq_true] at hrcv
                      exact of_decide_eq_true hrcv.1)
                    refine hb0 _ (T.setVm vm').heap [] 0 0 ⟨?_, ?_, rfl, rfl, (fun _ hq => by cases hq), i3, i4⟩
                    · rw [← xs_args]; exact hent
                    · rw [hHT]; exact I.2.1
                  split at h
                  · cases h
                  · next v hh2 ns2 hrun =>
                    obtain ⟨T', L', k', n', XT, hL', hk1, hk2, hRT, hb1, hb2, hv, -⟩ := xs_enter X' (g := F0 m S.1 ls ((S.2.2.1.drop E.2.2.2).map (xs_tr Z))) rfl (by rw [hml]; exact I.1.1) (by rw [hb]; exact hd) hmkT hck hlk' hpk (R' := { frames := d' + 12, cells := xm_cm - S.2.2.2.1.length, slots := xm_sm - S.2.2.2.2, locals := 300 + 64 * d' }) (by show d' + 12 + 1 ≤ R.frames; omega) (by show 2 * 0 + (((S.2.2.1.drop E.2.2.2).map (xs_tr Z)).map (fun v => v.category)).sum + (ck.maxLocals + 11) + (300 + 64 * d') ≤ R.locals; rw [hcl']; omega) hcm hsm (body _ _ _ hrun)
                    obtain ⟨t, ht, hq⟩ := ih (d' + 1) j M _ r h' ns' h F0' (args := args) (below := below) ls T'.heap (locs ++ L') (cells + k') (slots + n') ⟨I.1, hRT, by show c0 + (cells + k') = hh2.length; omega, by show b0 + (slots + n') = ns2; omega, fun q hq => by
                      rcases List.mem_append.mp hq with h1 | h1
                      · exact I.2.2.2.2.1 q h1
                      · exact hL' q h1, hb1, hb2⟩ T' rfl XT
                    refine ⟨t, st1 t (fun acts => hv v rfl acts t ?_), hq⟩
                    have e1 : (v.toList ++ S.2.2.1.drop E.2.2.2).map (xs_tr Z) = (v.map (xs_tr Z)).toList ++ (S.2.2.1.drop E.2.2.2).map (xs_tr Z) := by cases v <;> simp
                    rw [e1] at ht
                    exact ht
                  · next a hh2 ns2 hrun =>
                    obtain ⟨T', L', k', n', XT, hL', hk1, hk2, hRT, hb1, hb2, -, hx⟩ := xs_enter X' (g := F0 m S.1 ls ((S.2.2.1.drop E.2.2.2).map (xs_tr Z))) rfl (by rw [hml]; exact I.1.1) (by rw [hb]; exact hd) hmkT hck hlk' hpk (R' := { frames := d' + 12, cells := xm_cm - S.2.2.2.1.length, slots := xm_sm - S.2.2.2.2, locals := 300 + 64 * d' }) (by show d' + 12 + 1 ≤ R.frames; omega) (by show 2 * 0 + (((S.2.2.1.drop E.2.2.2).map (xs_tr Z)).map (fun v => v.category)).sum + (ck.maxLocals + 11) + (300 + 64 * d') ≤ R.locals; rw [hcl']; omega) hcm hsm (body _ _ _ hrun)
                    have hlocs' : ∀ q ∈ locs ++ L', Z.1 ≤ q.base := fun q hq => by
                      rcases List.mem_append.mp hq with h1 | h1
                      · exact I.2.2.2.2.1 q h1
                      · exact hL' q h1
                    split at h
                    · next t0 vs0 hat =>
                      split at h
                      · next hhs0 =>
                        cases h
                        rw [hhs0] at hrows
                        have hout := xs_rows_nil hrows
                        obtain ⟨w1, w2, w3, w4, w5⟩ := XT.leaveThrown (Z.1 + a) (g := F0 m S.1 ls ((S.2.2.1.drop E.2.2.2).map (xs_tr Z))) rfl rfl rfl (by rw [hout]; exact fun _ hq => by cases hq) hlocks
                        exact ⟨_, st1 _ (fun acts => hx a rfl acts _ w1), .threw (Z.1 + a), locs ++ L', cells + k', slots + n', w2, w3, rfl, w4, w5, hlocs', by omega, by omega, hRT, hb1, hb2⟩
                      · next hne =>
                        split at h
                        · next q0 hq0 =>
                          obtain ⟨cell, g1, g2, g3, -⟩ := hRT.2.2 a _ hat
                          have ht16 : 14 ≤ t0 ∧ t0 < 16 := by
                            have : ∀ (es : List ExceptionTableEntry) (hs : List (Nat × Nat × Nat × Nat)), xs_rows e.platform s m.cls Z es hs → xm_hd S.1 t0 hs = some q0 → 14 ≤ t0 ∧ t0 < 16 := by
                              intro es
                              induction es with
                              | nil =>
                                intro hs hr hq
                                cases hs with
                                | nil => cases hq
                                | cons _ _ => exact hr.elim
                              | cons x es ih2 =>
                                intro hs hr hq
                                cases hs with
                                | nil => exact hr.elim
                                | cons y2 hs =>
                                  obtain ⟨-, -, -, -, r5, r6, -, r8⟩ := hr
                                  obtain ⟨ya, yb, yq, yu⟩ := y2
                                  unfold xm_hd at hq
                                  split at hq
                                  · split at hq
                                    · next hut => subst hut; exact ⟨r5, r6⟩
                                    · exact ih2 hs r8 hq
                                  · exact ih2 hs r8 hq
                            exact this _ _ hrows hq0
                          obtain ⟨vm2, X2, st2⟩ := xs_caught XT (g := F0 m S.1 ls ((S.2.2.1.drop E.2.2.2).map (xs_tr Z))) rfl (a := Z.1 + a) hK hna ht16.1 ht16.2 g1 g2 g3 hrows hq0
                          obtain ⟨t, ht, hq⟩ := ih (d' + 1) j M _ r h' ns' h F0' (args := args) (below := below) ls (T'.setVm vm2).heap (locs ++ L') (cells + k') (slots + n') ⟨I.1, hRT, by show c0 + (cells + k') = hh2.length; omega, by show b0 + (slots + n') = ns2; omega, hlocs', hb1, hb2⟩ (T'.setVm vm2) rfl X2
                          exact ⟨t, st1 t (fun acts => hx a rfl acts t (st2 t ht)), hq⟩
                        · split at h
                          · next hun =>
                            cases h
                            obtain ⟨w1, w2, w3, w4, w5⟩ := XT.leaveThrown (Z.1 + a) (g := F0 m S.1 ls ((S.2.2.1.drop E.2.2.2).map (xs_tr Z))) rfl rfl rfl (xs_uncov _ _ hrows hun) hlocks
                            exact ⟨_, st1 _ (fun acts => hx a rfl acts _ w1), .threw (Z.1 + a), locs ++ L', cells + k', slots + n', w2, w3, rfl, w4, w5, hlocs', by omega, by omega, hRT, hb1, hb2⟩
                          · cases h
                    · cases h
                · cases h
        · cases h
      · next hk0 hk1 hk2 =>
        have hk : xm_kind E = 3 := by
          obtain ⟨i, len, x, z⟩ := E
          cases i <;> first | (exact absurd rfl hk0) | (exact absurd rfl hk1) | (exact absurd rfl hk2) | skip
          next idx =>
            show (if 14 ≤ x then 3 else 0) = 3
            by_cases hx : 14 ≤ x
            · rw [if_pos hx]
            · exact absurd (show (if 14 ≤ x then 3 else 0) = 0 from if_neg hx) hk0
        obtain ⟨i, ic, hi, h16, hd1, hd2, hd3, hfit, hat⟩ := hthr hk
        have h14 : 14 ≤ E.2.2.1 := by
          by_cases hx : 14 ≤ E.2.2.1
          · exact hx
          · exfalso
            unfold xm_kind at hk
            rw [hi] at hk
            dsimp only at hk
            rw [if_neg hx] at hk
            cases hk
        split at h
        · next hc =>
          obtain ⟨hc1, hc2, hc3, hc4⟩ := hc
          cases h
          have hd : decode (bb j) S.1 = .ok (.new i, 3) := by
            obtain ⟨hd, hl, -⟩ := hok
            rw [hi] at hd hl
            have : E.2.1 = 3 := by simpa [xt_ln] using hl
            rw [this] at hd
            exact hd
          have hlk : Cond.classLink (Y j).cls i (xt_cn E.2.2.1) ∈ lw_tbl := by
            obtain ⟨-, -, hk'⟩ := hok
            unfold xt_lk at hk'
            rw [hi] at hk'
            exact hk'.2
          rw [hc1] at hrows
          exact fun ls H locs cells slots I T hT X => xs_throw hexec hb (G.2.2.2.2.2.2.2.1 e X.admits) hw hK hRc hRs (by omega) (by omega) hlocks hml hsz hstat hown h14 h16 hlk (fun a ha => xs_own G hW0 hRs0 (hat a ha)) hfit hd hd1 hd2 hd3 (xs_rows_nil hrows) hc2 hc3 hc4 ls H locs cells slots I T hT X
        · cases h
end XS13
