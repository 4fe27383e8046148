/-! arrays, new cells -/
def xm_dv (t : Nat) : List Value := if t < 14 then (List.range (xt_N t)).map (fun k => defaultValue (xt_ft t k)) else List.replicate 6 .null
theorem xs_dv (Z : xs_Z) (ty : FieldType) : xs_tr Z (defaultValue ty) = defaultValue ty := by cases ty <;> rfl
theorem xs_rep (Z : xs_Z) {v : Value} (n : Nat) (h : xs_tr Z v = v) : (List.replicate n v).map (xs_tr Z) = List.replicate n v := by rw [List.map_replicate, h]
section XS3
variable {Z : xs_Z} {p : Program} {l : Launch} {e : Env} {R : Room} {s : State} {m : MethodId} {args : Array Value} {below : List Frame} {meth : Method} {c : Code} {Q : State → Prop} {nL c0 b0 : Nat} {cc : ByteArray} {S S' : xm_S}
theorem xs_new (hexec : p.tables.exec = Jvm.exec) (hb : c.code = cc) (hw : xs_ws args s) (hK : xs_K Z s) (hRc : R.cells = xm_cm - c0) (hRs : R.slots = xm_sm - b0) {own : String} {i t : Nat} (hown : s.vm.findClass own = some m.cls) (ht : t < 14) (hl : Cond.classLink own i (xt_cn t) ∈ lw_tbl) (hd : decode cc S.1 = .ok (.new i, 3))
    (h : xm_new t (xm_dv t) S = some (.inl S')) (kk : xs_W Z p l e R s m args below meth c Q nL c0 b0 S') : xs_W Z p l e R s m args below meth c Q nL c0 b0 S := by
  unfold xm_new xm_go at h
  split at h
  · next hc =>
    cases h
    obtain ⟨hc1, hc2⟩ := hc
    intro ls H locs cells slots I
    have hKn := hK.1 t ht
    have hi := xt_inst t (by omega)
    have hsz : xt_sz t = xt_N t := if_pos ht
    have hdl : (xm_dv t).length = xt_N t := by simp [xm_dv, ht]
    rw [hdl] at hc2
    have i1 := I.2.2.1
    have i2 := I.2.2.2.1
    refine W.newcK hexec hb hown (hw _ hl rfl) (n := xt_N t) (by rw [← hsz]; exact hw _ hi.1 rfl) (hw _ hi.2 rfl) rfl hd (by omega) (by omega) hKn.2.1 I.2.1.1 fun H' kC hkC e1 z1 o1 => ?_
    have hob := u_born (xt_ft t) (xs_uw hw ht) (fun _ h => h) hKn hkC e1 (xt_ty t ht)
    refine kk ls H' locs (cells + 1) (slots + xt_N t) ⟨I.1, I.2.1.push (by rw [z1, I.2.1.1]) (by rw [I.2.1.1]; exact o1) ?_, ?_, ?_, I.2.2.2.2.1, ?_, ?_⟩
    · obtain ⟨cell, q1, q2, q3, q4⟩ := hob
      refine ⟨cell, q1, q3, q2, fun h16 => absurd h16 (by show ¬ 16 ≤ t; omega), fun _ => ⟨hdl, fun j v hj => ?_⟩⟩
      have hjl : j < (xm_dv t).length := (List.getElem?_eq_some_iff.mp hj).1
      rw [hdl] at hjl
      have hv : v = defaultValue (xt_ft t j) := by
        simp [xm_dv, ht, List.getElem?_map, List.getElem?_range hjl] at hj
        exact hj.symm
      rw [hv, xs_dv]
      exact q4 j hjl
    · rw [List.length_append, List.length_singleton]; omega
    · show b0 + (slots + xt_N t) = S.2.2.2.2 + (xm_dv t).length
      rw [hdl]; omega
    · rw [List.length_append, List.length_singleton]; exact hc1
    · show S.2.2.2.2 + (xm_dv t).length ≤ xm_sm
      rw [hdl]; exact hc2
  · cases h
theorem xs_newarr {at' : ArrayType} {t : Nat} {dv : Value} (hexec : p.tables.exec = Jvm.exec) (hb : c.code = cc) (hw : xs_ws args s) (hK : xs_K Z s) (hRc : R.cells = xm_cm - c0) (hRs : R.slots = xm_sm - b0) (h16 : 16 ≤ t) (h24 : t < 24) (hel : xt_el t = newarray.typeOf at') (hdv : defaultValue (newarray.typeOf at') = dv) (hby : componentBytes (newarray.typeOf at') ≤ 8)
    (hl : Cond.arrayClass (newarray.typeOf at') ∈ lw_tbl) (hd : decode cc S.1 = .ok (.newarray at', 2))
    (h : xm_na 2 t dv S = some (.inl S')) (kk : xs_W Z p l e R s m args below meth c Q nL c0 b0 S') : xs_W Z p l e R s m args below meth c Q nL c0 b0 S := by
  unfold xm_na xm_go at h
  split at h
  · next n r hx =>
    split at h
    · next hc =>
      cases h
      obtain ⟨hn, hby2, hc1, hc2⟩ := hc
      intro ls H locs cells slots I
      rw [hx]
      have i1 := I.2.2.1
      have i2 := I.2.2.2.1
      have hb8 : n.toNatClampNeg * componentBytes (newarray.typeOf at') ≤ 536870912 := Nat.le_trans (Nat.mul_le_mul_left _ hby) hby2
      refine W.newa hexec hb (hw _ hl rfl) rfl hd rfl hn hb8 (by omega) (by omega) fun cA kA comp f1 f2 f3 => ?_
      obtain ⟨kA', comp', g1, g2, g3, -⟩ := hK.2.1 t h16 h24
      have hcA : cA = Z.2.2.1 t := by
        rw [hel] at g3
        exact Option.some.inj (f1.symm.trans g3)
      rw [hdv]
      have hsz := I.2.1.1
      have hdt : xs_tr Z dv = dv := by rw [← hdv]; exact xs_dv Z _
      have next := kk ls (H.push { cls := cA, slots := Array.replicate n.toNatClampNeg dv, vm := .none }) locs (cells + 1) (slots + n.toNatClampNeg) ⟨I.1, I.2.1.push (by simp) (fun q hq => by rw [Array.getElem?_push, if_neg (Nat.ne_of_lt hq)]) ⟨_, by rw [← hsz]; exact Array.getElem?_push_size, rfl, hcA, fun _ => by rw [xs_rep Z _ hdt]; simp, fun h14 => absurd h14 (by show ¬ t < 14; omega)⟩, ?_, ?_, I.2.2.2.2.1, ?_, hc2⟩
      · rw [hsz]
        exact next
      · rw [List.length_append, List.length_singleton]; omega
      · show b0 + (slots + n.toNatClampNeg) = S.2.2.2.2 + n.toNatClampNeg
        omega
      · rw [List.length_append, List.length_singleton]; exact hc1
    · cases h
  · cases h
theorem xs_newdim (hexec : p.tables.exec = Jvm.exec) (hb : c.code = cc) (hw : xs_ws args s) (hK : xs_K Z s) (hRc : R.cells = xm_cm - c0) (hRs : R.slots = xm_sm - b0) {own : String} {i : Nat} (hown : s.vm.findClass own = some m.cls) (hl : Cond.classLink own i "CubeStore$Dimension" ∈ lw_tbl) (hao : Cond.arrayOver (.object "CubeStore$Dimension") ∈ lw_tbl) (hd : decode cc S.1 = .ok (.anewarray i, 3))
    (h : xm_na 3 23 .null S = some (.inl S')) (kk : xs_W Z p l e R s m args below meth c Q nL c0 b0 S') : xs_W Z p l e R s m args below meth c Q nL c0 b0 S := by
  unfold xm_na xm_go at h
  split at h
  · next n r hx =>
    split at h
    · next hc =>
      cases h
      obtain ⟨hn, hby2, hc1, hc2⟩ := hc
      intro ls H locs cells slots I
      rw [hx]
      have i1 := I.2.2.1
      have i2 := I.2.2.2.1
      refine W.anew hexec hb hown (hw _ hl rfl) (hw _ hao rfl) rfl hd rfl hn (by omega) (by omega) (by omega) fun cA kA comp f1 f2 f3 f4 => ?_
      obtain ⟨kA', comp', g1, g2, g3, -⟩ := hK.2.1 23 (by omega) (by omega)
      have hcA : cA = Z.2.2.1 23 := Option.some.inj (f1.symm.trans g3)
      have hsz := I.2.1.1
      have next := kk ls (H.push { cls := cA, slots := Array.replicate n.toNatClampNeg .null, vm := .none }) locs (cells + 1) (slots + n.toNatClampNeg) ⟨I.1, I.2.1.push (by simp) (fun q hq => by rw [Array.getElem?_push, if_neg (Nat.ne_of_lt hq)]) ⟨_, by rw [← hsz]; exact Array.getElem?_push_size, rfl, hcA, fun _ => by rw [xs_rep Z _ rfl]; simp, fun h14 => absurd h14 (by show ¬ 23 < 14; omega)⟩, ?_, ?_, I.2.2.2.2.1, ?_, hc2⟩
      · rw [hsz]
        exact next
      · rw [List.length_append, List.length_singleton]; omega
      · show b0 + (slots + n.toNatClampNeg) = S.2.2.2.2 + n.toNatClampNeg
        omega
      · rw [List.length_append, List.length_singleton]; exact hc1
    · cases h
  · cases h
theorem xs_al {L : Nat} {xs : Nat → Int32} (hexec : p.tables.exec = Jvm.exec) (hb : c.code = cc) (hK : xs_K Z s) (hX : va_X (Z.2.1 9) L xs s Z.2.2.2.2) (hlt : Z.2.1 9 < Z.1) (hd : decode cc S.1 = .ok (.arraylength, 1))
    (h : xm_al L S = some (.inl S')) (kk : xs_W Z p l e R s m args below meth c Q nL c0 b0 S') : xs_W Z p l e R s m args below meth c Q nL c0 b0 S := by
  unfold xm_al xm_go at h
  split at h
  · next a r hx =>
    split at h
    · next t vs hc =>
      split at h
      · next ht =>
        cases h
        intro ls H locs cells slots I
        rw [hx]
        obtain ⟨cell, q1, q2, q3, q4, -⟩ := I.2.1.2.2 a _ hc
        refine W.alen hexec hb q1 (xs_isArr hK ht.1 ht.2 q2 q3) ?_ rfl rfl hd (kk ls H locs cells slots I)
        rw [q4 ht.1]
        simp
      · cases h
    · cases h
  · next r hx =>
    cases h
    intro ls H locs cells slots I
    rw [hx]
    obtain ⟨scr, e1, e2, e3, e4, e5⟩ := hX
    refine W.alen hexec hb (a := Z.2.1 9) (by rw [I.2.1.2.1 _ hlt]; exact e1) e2 ?_ rfl rfl hd (kk ls H locs cells slots I)
    rw [e4]
  · cases h
theorem xs_in {j : Int32} {n : Nat} (h : xm_in j n = true) : ¬ (j < 0 ∨ n ≤ j.toNatClampNeg) := of_decide_eq_true h
theorem xs_ald {T : Nat → Bool} (hT : ∀ t, T t = true → 16 ≤ t ∧ t < 24) (hK : xs_K Z s) (row : ∀ {H : Heap} {locs : List Loc} {cells slots : Nat} {ls : Array Slot} {rest : List Value} {a : Nat} {cell : Cell} {j : Int32} {v : Value} {t : Nat}, T t = true → H[a]? = some cell → s.isArrayOf cell (xt_el t) → cell.vm ≠ .unknown → ¬ (j < 0 ∨ cell.slots.size ≤ j.toNatClampNeg) → cell.slots[j.toNatClampNeg]? = some v → W p l e R s m args below meth c H locs cells slots Q (F0 m (S.1 + 1) ls (v :: rest)) → W p l e R s m args below meth c H locs cells slots Q (F0 m S.1 ls (.int j :: .ref a :: rest)))
    (h : xm_ald T S = some (.inl S')) (kk : xs_W Z p l e R s m args below meth c Q nL c0 b0 S') : xs_W Z p l e R s m args below meth c Q nL c0 b0 S := by
  unfold xm_ald xm_go at h
  split at h
  · next j a r hx =>
    split at h
    · next t vs hc =>
      split at h
      · next ht =>
        split at h
        · next v hv =>
          cases h
          intro ls H locs cells slots I
          rw [hx]
          obtain ⟨cell, q1, q2, q3, q4, -⟩ := I.2.1.2.2 a _ hc
          have h16 := hT t ht.1
          have q5 := q4 h16.1
          refine row ht.1 q1 (xs_isArr hK h16.1 h16.2 q2 q3) (by rw [q2]; exact fun h => by cases h) ?_ ?_ (kk ls H locs cells slots I)
          · rw [q5]
            simpa using xs_in ht.2
          · rw [q5]
            simp [hv]
        · cases h
      · cases h
    · cases h
  · cases h
theorem xs_sld {L : Nat} {xs : Nat → Int32} (hexec : p.tables.exec = Jvm.exec) (hb : c.code = cc) (hK : xs_K Z s) (hX : va_X (Z.2.1 9) L xs s Z.2.2.2.2) (hlt : Z.2.1 9 < Z.1) (hd : decode cc S.1 = .ok (.iaload, 1))
    (h : xm_sld xs L S = some (.inl S')) (kk : xs_W Z p l e R s m args below meth c Q nL c0 b0 S') : xs_W Z p l e R s m args below meth c Q nL c0 b0 S := by
  unfold xm_sld at h
  split at h
  · next j r hx =>
    split at h
    · next hj =>
      unfold xm_go at h
      cases h
      intro ls H locs cells slots I
      rw [hx]
      obtain ⟨scr, e1, e2, e3, e4, e5⟩ := hX
      have hj' := xs_in hj
      have hjl : j.toNatClampNeg < L := Nat.not_le.mp fun q => hj' (Or.inr q)
      exact W.iald hexec hb (a := Z.2.1 9) (by rw [I.2.1.2.1 _ hlt]; exact e1) e2 e3 (by rw [e4]; exact hj') (e5 _ hjl) rfl rfl hd (kk ls H locs cells slots I)
    · cases h
  · refine xs_ald (fun t ht => by have : t = 16 := by simpa using ht
                                  omega) hK (fun {_ _ _ _ _ _ _ _ _ _ t} ht h1 h2 h3 h4 h5 k => ?_) h kk
    have : t = 16 := by simpa using ht
    subst this
    exact W.iald hexec hb h1 h2 h3 h4 h5 rfl rfl hd k
theorem xs_ast {T : Nat → Bool} {nar : Nat → Value → Option Value} (hT : ∀ t, T t = true → 16 ≤ t ∧ t < 24) (hK : xs_K Z s)
    (row : ∀ {H : Heap} {locs : List Loc} {cells slots : Nat} {ls : Array Slot} {rest : List Value} {a : Nat} {cell : Cell} {j : Int32} {v w : Value} {t : Nat}, xs_R Z S.2.2.2.1 H → T t = true → nar t v = some w → H[a]? = some cell → cell.vm = .none → cell.cls = Z.2.2.1 t → ¬ (j < 0 ∨ cell.slots.size ≤ j.toNatClampNeg) →
      (∀ H' : Heap, H'[a]? = some (cell.setSlot j.toNatClampNeg (xs_tr Z w)) → H'.size = H.size → (∀ q, q ≠ a → H'[q]? = H[q]?) → W p l e R s m args below meth c H' (locs ++ [⟨a, j.toNatClampNeg⟩]) cells slots Q (F0 m (S.1 + 1) ls rest)) → W p l e R s m args below meth c H locs cells slots Q (F0 m S.1 ls (xs_tr Z v :: .int j :: .ref a :: rest)))
    (h : xm_ast T nar S = some (.inl S')) (kk : xs_W Z p l e R s m args below meth c Q nL c0 b0 S') : xs_W Z p l e R s m args below meth c Q nL c0 b0 S := by
  unfold xm_ast xm_go at h
  split at h
  · next v j a r hx =>
    split at h
    · next t vs hc =>
      split at h
      · next ht =>
        split at h
        · next w hv =>
          cases h
          intro ls H locs cells slots I
          rw [hx]
          obtain ⟨cell, q1, q2, q3, q4, -⟩ := I.2.1.2.2 a _ hc
          have h16 := hT t ht.1
          have q5 := q4 h16.1
          have hj := xs_in ht.2
          have hjl : j.toNatClampNeg < vs.length := Nat.not_le.mp fun q => hj (Or.inr q)
          refine row I.2.1 ht.1 hv q1 q2 q3 ?_ fun H' e1 e2 e3 => ?_
          · rw [q5]
            simpa using hj
          · refine kk ls H' _ cells slots ⟨I.1, I.2.1.put e2 e3 (fun _ => ⟨_, e1, q2, q3, fun _ => ?_, fun h14 => absurd h14 (by show ¬ t < 14; omega)⟩), ?_, I.2.2.2.1, fun q hq => ?_, ?_, I.2.2.2.2.2.2⟩
            · show (cell.setSlot j.toNatClampNeg (xs_tr Z w)).slots = ((vs.set j.toNatClampNeg w).map (xs_tr Z)).toArray
              unfold Cell.setSlot
              rw [show cell.slots = (vs.map (xs_tr Z)).toArray from q5]
              simp [List.map_set]
            · rw [List.length_set]; exact I.2.2.1
            · rcases List.mem_append.mp hq with h1 | h1
              · exact I.2.2.2.2.1 q h1
              · rw [List.mem_singleton.mp h1]
                exact Nat.le_add_right _ _
            · rw [List.length_set]; exact I.2.2.2.2.2.1
        · cases h
      · cases h
    · cases h
  · cases h
theorem xs_nk {cell : Cell} (h : cell.vm = .none) : cell.vm ≠ .unknown := by rw [h]; exact fun h => by cases h
theorem xs_iast (hexec : p.tables.exec = Jvm.exec) (hb : c.code = cc) (hK : xs_K Z s) (hd : decode cc S.1 = .ok (.iastore, 1))
    (h : xm_ast (fun t => t == 16) xm_nI S = some (.inl S')) (kk : xs_W Z p l e R s m args below meth c Q nL c0 b0 S') : xs_W Z p l e R s m args below meth c Q nL c0 b0 S := by
  refine xs_ast (fun t ht => by have : t = 16 := by simpa using ht
                                omega) hK (fun {_ _ _ _ _ _ _ _ _ v w t} _ ht hn h1 h2 h3 h4 k => ?_) h kk
  have : t = 16 := by simpa using ht
  subst this
  cases v <;> simp only [xm_nI, Option.some.injEq, reduceCtorEq] at hn
  subst hn
  exact W.iast hexec hb h1 (xs_isArr hK (by omega) (by omega) h2 h3) (xs_nk h2) h4 rfl rfl hd k
theorem xs_last (hexec : p.tables.exec = Jvm.exec) (hb : c.code = cc) (hK : xs_K Z s) (hd : decode cc S.1 = .ok (.lastore, 1))
    (h : xm_ast (fun t => t == 17) xm_nJ S = some (.inl S')) (kk : xs_W Z p l e R s m args below meth c Q nL c0 b0 S') : xs_W Z p l e R s m args below meth c Q nL c0 b0 S := by
  refine xs_ast (fun t ht => by have : t = 17 := by simpa using ht
                                omega) hK (fun {_ _ _ _ _ _ _ _ _ v w t} _ ht hn h1 h2 h3 h4 k => ?_) h kk
  have : t = 17 := by simpa using ht
  subst this
  cases v <;> simp only [xm_nJ, Option.some.injEq, reduceCtorEq] at hn
  subst hn
  exact W.last hexec hb h1 (xs_isArr hK (by omega) (by omega) h2 h3) (xs_nk h2) h4 rfl rfl hd k
theorem xs_nb (x : Int32) : xs_tr Z (narrow .byte (.int x)) = narrow .byte (.int x) := rfl
theorem xs_bast (hexec : p.tables.exec = Jvm.exec) (hb : c.code = cc) (hK : xs_K Z s) (hd : decode cc S.1 = .ok (.bastore, 1))
    (h : xm_ast (fun t => t == 18 || t == 19) xm_nB S = some (.inl S')) (kk : xs_W Z p l e R s m args below meth c Q nL c0 b0 S') : xs_W Z p l e R s m args below meth c Q nL c0 b0 S := by
  refine xs_ast (fun t ht => by have : t = 18 ∨ t = 19 := by simpa using ht
                                omega) hK (fun {_ _ _ _ _ _ _ _ _ v w t} _ ht hn h1 h2 h3 h4 k => ?_) h kk
  have ht' : t = 18 ∨ t = 19 := by simpa using ht
  cases v <;> simp only [xm_nB, reduceCtorEq] at hn
  rcases ht' with ht' | ht'
  · subst ht'
    rw [if_pos rfl] at hn
    cases hn
    exact W.bast hexec hb h1 (xs_isArr hK (by omega) (by omega) h2 h3) (xs_nk h2) h4 rfl rfl hd k
  · subst ht'
    rw [if_neg (by decide)] at hn
    cases hn
    exact W.zast hexec hb h1 (xs_isArr hK (by omega) (by omega) h2 h3) (xs_nk h2) h4 rfl rfl hd k
end XS3
