/-! System.arraycopy on the pure machine's heap -/
def xn_ok (t t' : Nat) (vs ws : List Value) (sp dp n : Int32) : Bool := decide (t' = t ∧ 16 ≤ t ∧ t < 19 ∧ ¬ sp < 0 ∧ ¬ dp < 0 ∧ ¬ n < 0 ∧ sp.toNatClampNeg + n.toNatClampNeg ≤ vs.length ∧ dp.toNatClampNeg + n.toNatClampNeg ≤ ws.length) && ((List.range n.toNatClampNeg).all (fun i => fits (xt_el t) (vs.getD (sp.toNatClampNeg + i) .null)))
theorem xn_nfw : nativeFrameWords "java/lang/System" "arraycopy" 5 + 11 ≤ 280 := by decide
theorem xn_fits {Z : xs_Z} {t : Nat} (h1 : 16 ≤ t) (h2 : t < 19) {v : Value} (h : fits (xt_el t) v = true) : xs_tr Z v = v ∧ fits (xt_el t) (xs_tr Z v) = true ∧ ∀ (U : State) (cc : ClassId), U.takes cc (xs_tr Z v) := by
  have ht : xt_el t = .int ∨ xt_el t = .long ∨ xt_el t = .byte := by
    rcases (by omega : t = 16 ∨ t = 17 ∨ t = 18) with rfl | rfl | rfl
    · exact Or.inl rfl
    · exact Or.inr (Or.inl rfl)
    · exact Or.inr (Or.inr rfl)
  cases v <;> first
    | exact ⟨rfl, h, fun _ _ => trivial⟩
    | (rcases ht with e | e | e <;> rw [e] at h <;> cases h)
theorem xn_pos {z : Int32} (hz : ¬ z < 0) : z.toInt = (z.toNatClampNeg : Int) := by
  have hz0 : (0 : Int) ≤ z.toInt := by
    have := Int32.not_lt.mp hz
    simpa using Int32.le_iff_toInt_le.mp this
  show z.toInt = ((z.toInt.toNat : Nat) : Int)
  omega
section XN2
variable {Z : xs_Z} {p : Program} {l : Launch} {e : Env} {R : Room} {s : State} {m : MethodId} {args : Array Value} {below : List Frame} {meth : Method} {c : Code} {Q : State → Prop} {nL c0 b0 : Nat} {cc : ByteArray} {S : xm_S}
theorem xn_acp (hexec : p.tables.exec = Jvm.exec) (hb : c.code = cc) (hml : c.maxLocals = nL) (hw : xs_ws args s) (hK : xs_K Z s) {own : String} {index : Nat} (hown : s.vm.findClass own = some m.cls) (hl : Cond.methodLink own index arraycopyName ∈ lw_tbl) (hd : decode cc S.1 = .ok (.invokestatic index, 3)) (hRf : 1 ≤ R.frames) {a b t t' : Nat} {sp dp n : Int32} {r vs ws : List Value}
    (hx : S.2.2.1 = .int n :: .int dp :: .ref b :: .int sp :: .ref a :: r) (hRl : (r.map fun v => v.category).sum + 280 ≤ R.locals) (ha : S.2.2.2.1[a]? = some (t, vs)) (hbb : S.2.2.2.1[b]? = some (t', ws)) (hok : xn_ok t t' vs ws sp dp n = true)
    (kk : xs_W Z p l e R s m args below meth c Q nL c0 b0 (S.1 + 3, S.2.1, r, S.2.2.2.1.set b (t', xn_cp vs ws sp.toNatClampNeg dp.toNatClampNeg n.toNatClampNeg), S.2.2.2.2)) : xs_W Z p l e R s m args below meth c Q nL c0 b0 S := by
  intro ls H locs cells slots I
  rw [hx]
  unfold xn_ok at hok
  rw [Bool.and_eq_true] at hok
  obtain ⟨rfl, h16, h19, k1, k2, k3, k4, k5⟩ := of_decide_eq_true hok.1
  have hf := List.all_eq_true.mp hok.2
  intro T hT X
  obtain ⟨cs, p1, p2, p3, p4, -⟩ := I.2.1.2.2 a _ ha
  obtain ⟨cd, q1, q2, q3, q4, -⟩ := I.2.1.2.2 b _ hbb
  obtain ⟨kA, comp, y1, y2, -⟩ := hK.2.1 t' h16 (by omega)
  have hs1 := p4 h16
  have hs2 := q4 h16
  have hpr : refKind (xt_el t') = false := by
    rcases (by omega : t' = 16 ∨ t' = 17 ∨ t' = 18) with rfl | rfl | rfl <;> rfl
  have nw := xn_nfw
  have hcat : ((r.map (xs_tr Z)).map fun v => v.category).sum = (r.map fun v => v.category).sum := by
    rw [List.map_map]
    congr 1
    exact List.map_congr_left (fun v _ => xs_cat Z v)
  have hss : cs.slots.size = vs.length := by rw [hs1]; simp
  have hsd : cd.slots.size = ws.length := by rw [hs2]; simp
  obtain ⟨vm', X', step⟩ := X.arraycopy hexec hown (hw _ hl rfl) (hw _ (xn_nw_in (.native arraycopyName) (by simp [xn_nw])).1 rfl) (hw _ (xn_nw_in (.static arraycopyName) (by simp [xn_nw])).1 rfl) (hw _ (xn_nw_in (.initialized "java/lang/System") (by simp [xn_nw])).1 rfl) (src := Z.1 + a) (dst := Z.1 + b) (cs := cs) (cd := cd) (srcPos := sp) (destPos := dp) (n := n) (by rw [hT]; exact p1) (by rw [hT]; exact q1)
    (fun _ h => by rw [p2] at h; cases h) (fun _ h => by rw [q2] at h; cases h) (fun h => by rw [p2] at h; cases h) (fun h => by rw [q2] at h; cases h) (by rw [p3]; exact y1) (by rw [q3]; exact y1) y2 y2 (by simp [hpr]) k1 k2 k3
    (by rw [xn_pos k1, xn_pos k3, hss]; omega) (by rw [xn_pos k2, xn_pos k3, hsd]; omega)
    (fun vm1 _ i hi => by
      have e1 : cs.slots.getD (sp.toNatClampNeg + i) .null = xs_tr Z (vs.getD (sp.toNatClampNeg + i) .null) := by
        have hv : sp.toNatClampNeg + i < vs.length := by omega
        rw [hs1]
        simp [Array.getD_eq_getD_getElem?, List.getD_eq_getElem?_getD, hv]
      have e2 := xn_fits (Z := Z) h16 h19 (hf i (List.mem_range.mpr hi))
      rw [e1]
      exact ⟨e2.2.1, e2.2.2 _ _⟩)
    (g := F0 m S.1 ls (.int n :: .int dp :: .ref (Z.1 + b) :: .int sp :: .ref (Z.1 + a) :: r.map (xs_tr Z))) rfl (by rw [hml]; exact I.1.1) (rest := r.map (xs_tr Z)) rfl (by rw [hb]; exact hd) hRf (by show 2 * 0 + ((r.map (xs_tr Z)).map fun v => v.category).sum + _ ≤ _; omega)
  have hl' : Z.1 + b < H.size := (Array.getElem?_eq_some_iff.mp q1).1
  have hheap : ((T.setVm vm').setCell (Z.1 + b) (copied cs cd sp dp n)).heap = H.setIfInBounds (Z.1 + b) (copied cs cd sp dp n) := by rw [← hT]; rfl
  have hfa := xn_prs cd dp.toNatClampNeg (cs.stretch sp.toNatClampNeg n.toNatClampNeg) 0
  have hlen : (S.2.2.2.1.set b (t', xn_cp vs ws sp.toNatClampNeg dp.toNatClampNeg n.toNatClampNeg)).length = S.2.2.2.1.length := List.length_set
  obtain ⟨tt, a1, b1⟩ := kk ls (H.setIfInBounds (Z.1 + b) (copied cs cd sp dp n)) _ cells slots ⟨I.1, I.2.1.put (by simp) (fun q hq => by simp [Array.getElem?_setIfInBounds, Ne.symm hq]) (fun _ => ⟨copied cs cd sp dp n, by simp [Array.getElem?_setIfInBounds, hl'], hfa.2.1.trans q2, hfa.1.trans q3, fun _ => xn_copied hs1 hs2 k4 k5, fun h14 => absurd h14 (by show ¬ t' < 14; omega)⟩), by show c0 + cells = _; rw [hlen]; exact I.2.2.1, I.2.2.2.1, fun q hq => by
      rcases List.mem_append.mp hq with h | h
      · exact I.2.2.2.2.1 q h
      · obtain ⟨z, -, hz⟩ := List.mem_map.mp h
        rw [← hz]
        exact Nat.le_add_right _ _, by show (S.2.2.2.1.set b _).length ≤ _; rw [hlen]; exact I.2.2.2.2.2.1, I.2.2.2.2.2.2⟩ _ hheap X'
  exact ⟨tt, step tt a1, b1⟩
end XN2
