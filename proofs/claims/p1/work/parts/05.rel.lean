/-! THE PURE MACHINE AND THE MACHINE: the cells of the list lie behind the place n0 in the heap, in order. Z: n0; the cells from outside; the classes' numbers; the fields' slots; the heap at the start. -/
abbrev xs_Z : Type := Nat × (Nat → Nat) × (Nat → ClassId) × (Nat → Nat → Nat) × Heap
def xs_tr (Z : xs_Z) : Value → Value
  | .ref k => .ref (Z.1 + k)
  | .retAddr i => .ref (Z.2.1 i)
  | .int x => .int x
  | .long x => .long x
  | .float x => .float x
  | .double x => .double x
  | .null => .null
def xs_trl (Z : xs_Z) (loc : xm_L) : List (Nat × Value) := loc.map (fun q => (q.1, xs_tr Z q.2))
theorem xs_cat (Z : xs_Z) (v : Value) : (xs_tr Z v).category = v.category := by cases v <;> rfl
def xs_at (Z : xs_Z) (k : Nat) (q : xm_C) (H : Heap) : Prop := ∃ cell : Cell, H[Z.1 + k]? = some cell ∧ cell.vm = .none ∧ cell.cls = Z.2.2.1 q.1 ∧ (16 ≤ q.1 → cell.slots = (q.2.map (xs_tr Z)).toArray) ∧
  (q.1 < 14 → q.2.length = xt_N q.1 ∧ ∀ (i : Nat) (v : Value), q.2[i]? = some v → cell.slots[Z.2.2.2.1 q.1 i]? = some (xs_tr Z v))
def xs_R (Z : xs_Z) (h : xm_H) (H : Heap) : Prop := H.size = Z.1 + h.length ∧ (∀ q : Nat, q < Z.1 → H[q]? = Z.2.2.2.2[q]?) ∧ ∀ (k : Nat) (q : xm_C), h[k]? = some q → xs_at Z k q H
def xs_arr (s : State) (cA : ClassId) (ty : FieldType) (comp0 : Option ClassId) : Prop := ∃ (kA : Class) (comp : ClassId), s.vm.classes[cA]? = some kA ∧ kA.kind = .array comp ty ∧ s.vm.findClass ("[" ++ ty.toString) = some cA ∧ ∀ c, comp0 = some c → comp = c
def xs_co (Z : xs_Z) (t : Nat) : Option ClassId := if t < 20 then none else if t = 23 then some (Z.2.2.1 3) else some (Z.2.2.1 (t - 4))
def xs_K (Z : xs_Z) (s : State) : Prop := (∀ t, t < 14 → u_Kn s (xt_cn t) (xt_F t) (xt_N t) (Z.2.2.1 t) (Z.2.2.2.1 t)) ∧ (∀ t, 16 ≤ t → t < 24 → xs_arr s (Z.2.2.1 t) (xt_el t) (xs_co Z t)) ∧ ∀ t, t < 16 → ClassAt s (xt_cn t) (Z.2.2.1 t)
theorem xs_arr.moved {u U : State} {cA : ClassId} {ty : FieldType} {o : Option ClassId} (hvm : u.vm.Alike U.vm) (h : xs_arr u cA ty o) : xs_arr U cA ty o := by
  obtain ⟨kA, comp, h1, h2, h3, h4⟩ := h
  obtain ⟨k', hk', he⟩ := hvm.2.2 _ _ h1
  exact ⟨k', comp, hk', by rw [he]; exact h2, by rw [hvm.findClass]; exact h3, h4⟩
theorem xs_K.moved {Z : xs_Z} {u U : State} (hvm : u.vm.Alike U.vm) (h : xs_K Z u) : xs_K Z U := ⟨fun t ht => u_Kn_moved hvm (h.1 t ht), fun t h1 h2 => (h.2.1 t h1 h2).moved hvm, fun t ht => classAt_moved hvm (h.2.2 t ht)⟩
theorem xs_isArr {Z : xs_Z} {s : State} (h : xs_K Z s) {t : Nat} (h1 : 16 ≤ t) (h2 : t < 24) {cell : Cell} (hv : cell.vm = .none) (hc : cell.cls = Z.2.2.1 t) : s.isArrayOf cell (xt_el t) := by
  obtain ⟨kA, comp, a1, a2, -⟩ := h.2.1 t h1 h2
  exact ⟨fun k hk => (by rw [hv] at hk; cases hk), kA, (by rw [hc]; exact a1), comp, a2⟩
/-- a frame of a method with nL locals, entered with c0 cells of b0 slots -/
def xs_I (Z : xs_Z) (nL c0 b0 : Nat) (S : xm_S) (ls : Array Slot) (H : Heap) (locs : List Loc) (cells slots : Nat) : Prop :=
  lv_has ls nL (xs_trl Z S.2.1) ∧ xs_R Z S.2.2.2.1 H ∧ c0 + cells = S.2.2.2.1.length ∧ b0 + slots = S.2.2.2.2 ∧ (∀ q ∈ locs, Z.1 ≤ q.base) ∧ S.2.2.2.1.length ≤ xm_cm ∧ S.2.2.2.2 ≤ xm_sm
def xs_W (Z : xs_Z) (p : Program) (l : Launch) (e : Env) (R : Room) (s : State) (m : MethodId) (args : Array Value) (below : List Frame) (meth : Method) (c : Code) (Q : State → Prop) (nL c0 b0 : Nat) (S : xm_S) : Prop :=
  ∀ (ls : Array Slot) (H : Heap) (locs : List Loc) (cells slots : Nat), xs_I Z nL c0 b0 S ls H locs cells slots → W p l e R s m args below meth c H locs cells slots Q (F0 m S.1 ls (S.2.2.1.map (xs_tr Z)))
theorem xs_lg {Z : xs_Z} {loc : xm_L} {i : Nat} {v : Value} {ls : Array Slot} {nL : Nat} (h : xm_lg loc i = some v) (hl : lv_has ls nL (xs_trl Z loc)) : ls[i]? = some (.val (xs_tr Z v)) := by
  unfold xm_lg at h
  obtain ⟨q, hq, rfl⟩ := Option.map_eq_some_iff.mp h
  have h1 := List.find?_some hq
  have h2 := List.mem_of_find?_eq_some hq
  have h3 : q.1 = i := by simpa using h1
  subst h3
  exact hl.2.2 (q.1, xs_tr Z q.2) (List.mem_map.mpr ⟨q, h2, rfl⟩)
theorem xs_s1 {Z : xs_Z} (loc : xm_L) (i : Nat) (v : Value) : (i, xs_tr Z v) :: (xs_trl Z loc).filter (fun q => !(q.1 == i) && !(q.1 + 1 == i && q.2.category == 2)) = xs_trl Z (xm_s1 loc i v) := by
  unfold xm_s1 xs_trl
  rw [List.map_cons, List.filter_map]
  refine congrArg (List.cons _) (congrArg (List.map _) (List.filter_congr (fun q _ => ?_)))
  simp [xs_cat]
theorem xs_s2 {Z : xs_Z} (loc : xm_L) (i : Nat) (v : Value) : (i, xs_tr Z v) :: (xs_trl Z loc).filter (fun q => !(q.1 == i) && (!(q.1 == i + 1) && !(q.1 + 1 == i && q.2.category == 2))) = xs_trl Z (xm_s2 loc i v) := by
  unfold xm_s2 xs_trl
  rw [List.map_cons, List.filter_map]
  refine congrArg (List.cons _) (congrArg (List.map _) (List.filter_congr (fun q _ => ?_)))
  simp [xs_cat]
section XS1
variable {Z : xs_Z} {p : Program} {l : Launch} {e : Env} {R : Room} {s : State} {m : MethodId} {args : Array Value} {below : List Frame} {meth : Method} {c : Code} {Q : State → Prop} {nL c0 b0 : Nat} {cc : ByteArray} {S S' : xm_S}
theorem xs_psh {len : Nat} {v : Value} (row : ∀ {H : Heap} {locs : List Loc} {cells slots : Nat} {ls : Array Slot} {rest : List Value}, W p l e R s m args below meth c H locs cells slots Q (F0 m (S.1 + len) ls (xs_tr Z v :: rest)) → W p l e R s m args below meth c H locs cells slots Q (F0 m S.1 ls rest))
    (h : xm_psh len v S = some (.inl S')) (k : xs_W Z p l e R s m args below meth c Q nL c0 b0 S') : xs_W Z p l e R s m args below meth c Q nL c0 b0 S := by
  unfold xm_psh xm_go at h
  cases h
  intro ls H locs cells slots I
  exact row (k ls H locs cells slots I)
theorem xs_ldI {len i : Nat} (row : ∀ {H : Heap} {locs : List Loc} {cells slots : Nat} {ls : Array Slot} {rest : List Value} {x : Int32}, ls[i]? = some (.val (.int x)) → W p l e R s m args below meth c H locs cells slots Q (F0 m (S.1 + len) ls (.int x :: rest)) → W p l e R s m args below meth c H locs cells slots Q (F0 m S.1 ls rest))
    (h : xm_ldI len i S = some (.inl S')) (k : xs_W Z p l e R s m args below meth c Q nL c0 b0 S') : xs_W Z p l e R s m args below meth c Q nL c0 b0 S := by
  unfold xm_ldI xm_go at h
  split at h
  · next x hx =>
    cases h
    intro ls H locs cells slots I
    exact row (xs_lg hx I.1) (k ls H locs cells slots I)
  · cases h
theorem xs_ldJ {len i : Nat} (row : ∀ {H : Heap} {locs : List Loc} {cells slots : Nat} {ls : Array Slot} {rest : List Value} {x : Int64}, ls[i]? = some (.val (.long x)) → W p l e R s m args below meth c H locs cells slots Q (F0 m (S.1 + len) ls (.long x :: rest)) → W p l e R s m args below meth c H locs cells slots Q (F0 m S.1 ls rest))
    (h : xm_ldJ len i S = some (.inl S')) (k : xs_W Z p l e R s m args below meth c Q nL c0 b0 S') : xs_W Z p l e R s m args below meth c Q nL c0 b0 S := by
  unfold xm_ldJ xm_go at h
  split at h
  · next x hx =>
    cases h
    intro ls H locs cells slots I
    exact row (xs_lg hx I.1) (k ls H locs cells slots I)
  · cases h
theorem xs_ldA {len i : Nat} (row : ∀ {H : Heap} {locs : List Loc} {cells slots : Nat} {ls : Array Slot} {rest : List Value} {x : Nat}, ls[i]? = some (.val (.ref x)) → W p l e R s m args below meth c H locs cells slots Q (F0 m (S.1 + len) ls (.ref x :: rest)) → W p l e R s m args below meth c H locs cells slots Q (F0 m S.1 ls rest))
    (rowN : ∀ {H : Heap} {locs : List Loc} {cells slots : Nat} {ls : Array Slot} {rest : List Value}, ls[i]? = some (.val .null) → W p l e R s m args below meth c H locs cells slots Q (F0 m (S.1 + len) ls (.null :: rest)) → W p l e R s m args below meth c H locs cells slots Q (F0 m S.1 ls rest))
    (h : xm_ldA len i S = some (.inl S')) (k : xs_W Z p l e R s m args below meth c Q nL c0 b0 S') : xs_W Z p l e R s m args below meth c Q nL c0 b0 S := by
  unfold xm_ldA xm_go at h
  split at h
  · next v hv =>
    split at h
    · next ha =>
      cases h
      intro ls H locs cells slots I
      have h1 := xs_lg hv I.1
      have h2 := k ls H locs cells slots I
      cases v with
      | ref a => exact row h1 h2
      | retAddr a => exact row h1 h2
      | null => exact rowN h1 h2
      | _ => cases ha
    · cases h
  · cases h
theorem xs_stI {len i : Nat} (row : ∀ {H : Heap} {locs : List Loc} {cells slots : Nat} {ls : Array Slot} {rest : List Value} {x : Int32} {lv lv' : List (Nat × Value)}, lv_has ls nL lv → i < nL → (i, Value.int x) :: lv.filter (fun q => !(q.1 == i) && !(q.1 + 1 == i && q.2.category == 2)) = lv' → (∀ ls' : Array Slot, lv_has ls' nL lv' → W p l e R s m args below meth c H locs cells slots Q (F0 m (S.1 + len) ls' rest)) → W p l e R s m args below meth c H locs cells slots Q (F0 m S.1 ls (.int x :: rest)))
    (h : xm_stI nL len i S = some (.inl S')) (k : xs_W Z p l e R s m args below meth c Q nL c0 b0 S') : xs_W Z p l e R s m args below meth c Q nL c0 b0 S := by
  unfold xm_stI xm_go at h
  split at h
  · next x r hx =>
    split at h
    · next hi =>
      cases h
      intro ls H locs cells slots I
      rw [hx]
      exact row I.1 hi (xs_s1 _ _ (.int x)) (fun ls' hl => k ls' H locs cells slots ⟨hl, I.2⟩)
    · cases h
  · cases h
theorem xs_stJ {len i : Nat} (row : ∀ {H : Heap} {locs : List Loc} {cells slots : Nat} {ls : Array Slot} {rest : List Value} {x : Int64} {lv lv' : List (Nat × Value)}, lv_has ls nL lv → i + 1 < nL → (i, Value.long x) :: lv.filter (fun q => !(q.1 == i) && (!(q.1 == i + 1) && !(q.1 + 1 == i && q.2.category == 2))) = lv' → (∀ ls' : Array Slot, lv_has ls' nL lv' → W p l e R s m args below meth c H locs cells slots Q (F0 m (S.1 + len) ls' rest)) → W p l e R s m args below meth c H locs cells slots Q (F0 m S.1 ls (.long x :: rest)))
    (h : xm_stJ nL len i S = some (.inl S')) (k : xs_W Z p l e R s m args below meth c Q nL c0 b0 S') : xs_W Z p l e R s m args below meth c Q nL c0 b0 S := by
  unfold xm_stJ xm_go at h
  split at h
  · next x r hx =>
    split at h
    · next hi =>
      cases h
      intro ls H locs cells slots I
      rw [hx]
      exact row I.1 hi (xs_s2 _ _ (.long x)) (fun ls' hl => k ls' H locs cells slots ⟨hl, I.2⟩)
    · cases h
  · cases h
theorem xs_stA {len i : Nat} (row : ∀ {H : Heap} {locs : List Loc} {cells slots : Nat} {ls : Array Slot} {rest : List Value} {x : Nat} {lv lv' : List (Nat × Value)}, lv_has ls nL lv → i < nL → (i, Value.ref x) :: lv.filter (fun q => !(q.1 == i) && !(q.1 + 1 == i && q.2.category == 2)) = lv' → (∀ ls' : Array Slot, lv_has ls' nL lv' → W p l e R s m args below meth c H locs cells slots Q (F0 m (S.1 + len) ls' rest)) → W p l e R s m args below meth c H locs cells slots Q (F0 m S.1 ls (.ref x :: rest)))
    (rowN : ∀ {H : Heap} {locs : List Loc} {cells slots : Nat} {ls : Array Slot} {rest : List Value} {lv lv' : List (Nat × Value)}, lv_has ls nL lv → i < nL → (i, Value.null) :: lv.filter (fun q => !(q.1 == i) && !(q.1 + 1 == i && q.2.category == 2)) = lv' → (∀ ls' : Array Slot, lv_has ls' nL lv' → W p l e R s m args below meth c H locs cells slots Q (F0 m (S.1 + len) ls' rest)) → W p l e R s m args below meth c H locs cells slots Q (F0 m S.1 ls (.null :: rest)))
    (h : xm_stA nL len i S = some (.inl S')) (k : xs_W Z p l e R s m args below meth c Q nL c0 b0 S') : xs_W Z p l e R s m args below meth c Q nL c0 b0 S := by
  unfold xm_stA xm_go at h
  split at h
  · next v r hx =>
    split at h
    · next hi =>
      cases h
      rw [Bool.and_eq_true, decide_eq_true_eq] at hi
      intro ls H locs cells slots I
      rw [hx]
      cases v with
      | ref a => exact row I.1 hi.2 (xs_s1 _ _ (.ref a)) (fun ls' hl => k ls' H locs cells slots ⟨hl, I.2⟩)
      | retAddr a => exact row I.1 hi.2 (xs_s1 _ _ (.retAddr a)) (fun ls' hl => k ls' H locs cells slots ⟨hl, I.2⟩)
      | null => exact rowN I.1 hi.2 (xs_s1 _ _ .null) (fun ls' hl => k ls' H locs cells slots ⟨hl, I.2⟩)
      | _ => exact absurd hi.1 (by simp [xm_isA])
    · cases h
  · cases h
theorem xs_lgk {loc : xm_L} {i : Nat} {v : Value} (h : xm_lg loc i = some v) : ∃ k : Nat, (xs_trl Z loc)[k]? = some (i, xs_tr Z v) := by
  unfold xm_lg at h
  obtain ⟨q, hq, rfl⟩ := Option.map_eq_some_iff.mp h
  have h1 := List.find?_some hq
  have h2 := List.mem_of_find?_eq_some hq
  have h3 : q.1 = i := by simpa using h1
  subst h3
  exact List.getElem?_of_mem (List.mem_map.mpr ⟨q, h2, rfl⟩)
theorem xs_inc {len i : Nat} {n : Int} (row : ∀ {H : Heap} {locs : List Loc} {cells slots : Nat} {ls : Array Slot} {rest : List Value} {x v : Int32} {k : Nat} {lv lv' : List (Nat × Value)}, lv_has ls nL lv → lv[k]? = some (i, .int x) → x + Int32.ofInt n = v → i < nL → (i, Value.int v) :: lv.filter (fun q => !(q.1 == i) && !(q.1 + 1 == i && q.2.category == 2)) = lv' → (∀ ls' : Array Slot, lv_has ls' nL lv' → W p l e R s m args below meth c H locs cells slots Q (F0 m (S.1 + len) ls' rest)) → W p l e R s m args below meth c H locs cells slots Q (F0 m S.1 ls rest))
    (h : xm_inc nL len i n S = some (.inl S')) (k : xs_W Z p l e R s m args below meth c Q nL c0 b0 S') : xs_W Z p l e R s m args below meth c Q nL c0 b0 S := by
  unfold xm_inc xm_go at h
  split at h
  · next x hx =>
    split at h
    · next hi =>
      cases h
      intro ls H locs cells slots I
      obtain ⟨k0, hk0⟩ := xs_lgk (Z := Z) hx
      exact row I.1 hk0 rfl hi (xs_s1 _ _ (.int _)) (fun ls' hl => k ls' H locs cells slots ⟨hl, I.2⟩)
    · cases h
  · cases h
theorem xs_ii {f : Int32 → Int32 → Int32} (row : ∀ {H : Heap} {locs : List Loc} {cells slots : Nat} {ls : Array Slot} {rest : List Value} {x y : Int32}, W p l e R s m args below meth c H locs cells slots Q (F0 m (S.1 + 1) ls (.int (f x y) :: rest)) → W p l e R s m args below meth c H locs cells slots Q (F0 m S.1 ls (.int y :: .int x :: rest)))
    (h : xm_ii f S = some (.inl S')) (k : xs_W Z p l e R s m args below meth c Q nL c0 b0 S') : xs_W Z p l e R s m args below meth c Q nL c0 b0 S := by
  unfold xm_ii xm_go at h
  split at h
  · next y x r hx =>
    cases h
    intro ls H locs cells slots I
    rw [hx]
    exact row (k ls H locs cells slots I)
  · cases h
theorem xs_iz {f : Int32 → Int32 → Int32} (row : ∀ {H : Heap} {locs : List Loc} {cells slots : Nat} {ls : Array Slot} {rest : List Value} {x y : Int32}, ¬ y = 0 → W p l e R s m args below meth c H locs cells slots Q (F0 m (S.1 + 1) ls (.int (f x y) :: rest)) → W p l e R s m args below meth c H locs cells slots Q (F0 m S.1 ls (.int y :: .int x :: rest)))
    (h : xm_iz f S = some (.inl S')) (k : xs_W Z p l e R s m args below meth c Q nL c0 b0 S') : xs_W Z p l e R s m args below meth c Q nL c0 b0 S := by
  unfold xm_iz xm_go at h
  split at h
  · next y x r hx =>
    split at h
    · cases h
    · next hy =>
      cases h
      intro ls H locs cells slots I
      rw [hx]
      exact row hy (k ls H locs cells slots I)
  · cases h
theorem xs_jj {f : Int64 → Int64 → Int64} (row : ∀ {H : Heap} {locs : List Loc} {cells slots : Nat} {ls : Array Slot} {rest : List Value} {x y : Int64}, W p l e R s m args below meth c H locs cells slots Q (F0 m (S.1 + 1) ls (.long (f x y) :: rest)) → W p l e R s m args below meth c H locs cells slots Q (F0 m S.1 ls (.long y :: .long x :: rest)))
    (h : xm_jj f S = some (.inl S')) (k : xs_W Z p l e R s m args below meth c Q nL c0 b0 S') : xs_W Z p l e R s m args below meth c Q nL c0 b0 S := by
  unfold xm_jj xm_go at h
  split at h
  · next y x r hx =>
    cases h
    intro ls H locs cells slots I
    rw [hx]
    exact row (k ls H locs cells slots I)
  · cases h
theorem xs_jz {f : Int64 → Int64 → Int64} (row : ∀ {H : Heap} {locs : List Loc} {cells slots : Nat} {ls : Array Slot} {rest : List Value} {x y : Int64}, ¬ y = 0 → W p l e R s m args below meth c H locs cells slots Q (F0 m (S.1 + 1) ls (.long (f x y) :: rest)) → W p l e R s m args below meth c H locs cells slots Q (F0 m S.1 ls (.long y :: .long x :: rest)))
    (h : xm_jz f S = some (.inl S')) (k : xs_W Z p l e R s m args below meth c Q nL c0 b0 S') : xs_W Z p l e R s m args below meth c Q nL c0 b0 S := by
  unfold xm_jz xm_go at h
  split at h
  · next y x r hx =>
    split at h
    · cases h
    · next hy =>
      cases h
      intro ls H locs cells slots I
      rw [hx]
      exact row hy (k ls H locs cells slots I)
  · cases h
theorem xs_ji {f : Int64 → Int32 → Int64} (row : ∀ {H : Heap} {locs : List Loc} {cells slots : Nat} {ls : Array Slot} {rest : List Value} {x : Int64} {y : Int32}, W p l e R s m args below meth c H locs cells slots Q (F0 m (S.1 + 1) ls (.long (f x y) :: rest)) → W p l e R s m args below meth c H locs cells slots Q (F0 m S.1 ls (.int y :: .long x :: rest)))
    (h : xm_ji f S = some (.inl S')) (k : xs_W Z p l e R s m args below meth c Q nL c0 b0 S') : xs_W Z p l e R s m args below meth c Q nL c0 b0 S := by
  unfold xm_ji xm_go at h
  split at h
  · next y x r hx =>
    cases h
    intro ls H locs cells slots I
    rw [hx]
    exact row (k ls H locs cells slots I)
  · cases h
theorem xs_i1 {f : Int32 → Value} (hf : ∀ x, xs_tr Z (f x) = f x) (row : ∀ {H : Heap} {locs : List Loc} {cells slots : Nat} {ls : Array Slot} {rest : List Value} {x : Int32}, W p l e R s m args below meth c H locs cells slots Q (F0 m (S.1 + 1) ls (f x :: rest)) → W p l e R s m args below meth c H locs cells slots Q (F0 m S.1 ls (.int x :: rest)))
    (h : xm_i1 f S = some (.inl S')) (k : xs_W Z p l e R s m args below meth c Q nL c0 b0 S') : xs_W Z p l e R s m args below meth c Q nL c0 b0 S := by
  unfold xm_i1 xm_go at h
  split at h
  · next x r hx =>
    cases h
    intro ls H locs cells slots I
    rw [hx]
    have h2 := k ls H locs cells slots I
    rw [List.map_cons, hf] at h2
    exact row h2
  · cases h
theorem xs_j1 {f : Int64 → Value} (hf : ∀ x, xs_tr Z (f x) = f x) (row : ∀ {H : Heap} {locs : List Loc} {cells slots : Nat} {ls : Array Slot} {rest : List Value} {x : Int64}, W p l e R s m args below meth c H locs cells slots Q (F0 m (S.1 + 1) ls (f x :: rest)) → W p l e R s m args below meth c H locs cells slots Q (F0 m S.1 ls (.long x :: rest)))
    (h : xm_j1 f S = some (.inl S')) (k : xs_W Z p l e R s m args below meth c Q nL c0 b0 S') : xs_W Z p l e R s m args below meth c Q nL c0 b0 S := by
  unfold xm_j1 xm_go at h
  split at h
  · next x r hx =>
    cases h
    intro ls H locs cells slots I
    rw [hx]
    have h2 := k ls H locs cells slots I
    rw [List.map_cons, hf] at h2
    exact row h2
  · cases h
theorem xs_cmp (hexec : p.tables.exec = Jvm.exec) (hb : c.code = cc) (hd : decode cc S.1 = .ok (.lcmp, 1))
    (h : xm_cmp S = some (.inl S')) (k : xs_W Z p l e R s m args below meth c Q nL c0 b0 S') : xs_W Z p l e R s m args below meth c Q nL c0 b0 S := by
  unfold xm_cmp xm_go at h
  split at h
  · next y x r hx =>
    cases h
    intro ls H locs cells slots I
    rw [hx]
    exact W.lcmp hexec hb hd (k ls H locs cells slots I)
  · cases h
theorem xs_if {t : Nat} {P : Int32 → Bool} (row : ∀ {H : Heap} {locs : List Loc} {cells slots : Nat} {ls : Array Slot} {rest : List Value} {x : Int32}, (P x = true → W p l e R s m args below meth c H locs cells slots Q (F0 m t ls rest)) → (P x = false → W p l e R s m args below meth c H locs cells slots Q (F0 m (S.1 + 3) ls rest)) → W p l e R s m args below meth c H locs cells slots Q (F0 m S.1 ls (.int x :: rest)))
    (h : xm_if t P S = some (.inl S')) (k : xs_W Z p l e R s m args below meth c Q nL c0 b0 S') : xs_W Z p l e R s m args below meth c Q nL c0 b0 S := by
  unfold xm_if xm_go at h
  split at h
  · next x r hx =>
    cases h
    intro ls H locs cells slots I
    rw [hx]
    refine row (fun hp => ?_) (fun hp => ?_)
    · have h2 := k ls H locs cells slots I
      simp only [hp, if_true] at h2
      exact h2
    · have h2 := k ls H locs cells slots I
      simp only [hp, Bool.false_eq_true, if_false] at h2
      exact h2
  · cases h
theorem xs_ic {t : Nat} {P : Int32 → Int32 → Bool} (row : ∀ {H : Heap} {locs : List Loc} {cells slots : Nat} {ls : Array Slot} {rest : List Value} {x y : Int32}, (P x y = true → W p l e R s m args below meth c H locs cells slots Q (F0 m t ls rest)) → (P x y = false → W p l e R s m args below meth c H locs cells slots Q (F0 m (S.1 + 3) ls rest)) → W p l e R s m args below meth c H locs cells slots Q (F0 m S.1 ls (.int y :: .int x :: rest)))
    (h : xm_ic t P S = some (.inl S')) (k : xs_W Z p l e R s m args below meth c Q nL c0 b0 S') : xs_W Z p l e R s m args below meth c Q nL c0 b0 S := by
  unfold xm_ic xm_go at h
  split at h
  · next y x r hx =>
    cases h
    intro ls H locs cells slots I
    rw [hx]
    refine row (fun hp => ?_) (fun hp => ?_)
    · have h2 := k ls H locs cells slots I
      simp only [hp, if_true] at h2
      exact h2
    · have h2 := k ls H locs cells slots I
      simp only [hp, Bool.false_eq_true, if_false] at h2
      exact h2
  · cases h
theorem xs_nn (hexec : p.tables.exec = Jvm.exec) (hb : c.code = cc) {t : Nat} {off : Int} (hd : decode cc S.1 = .ok (.ifnonnull off, 3)) (ht : (S.1 : Int) + off = (t : Int))
    (h : xm_nn t S = some (.inl S')) (k : xs_W Z p l e R s m args below meth c Q nL c0 b0 S') : xs_W Z p l e R s m args below meth c Q nL c0 b0 S := by
  unfold xm_nn xm_go at h
  split at h
  · next a r hx =>
    cases h
    intro ls H locs cells slots I
    rw [hx]
    exact lv_ifnonnull hexec hb hd ht (k ls H locs cells slots I)
  · next r hx =>
    cases h
    intro ls H locs cells slots I
    rw [hx]
    exact lv_ifnonnullN hexec hb hd (k ls H locs cells slots I)
  · cases h
theorem xs_sw (hexec : p.tables.exec = Jvm.exec) (hb : c.code = cc) {d lo hi : Int} {offs : Array Int} {len : Nat} (hd : decode cc S.1 = .ok (.tableswitch d lo hi offs, len))
    (h : xm_sw d lo hi offs S = some (.inl S')) (k : xs_W Z p l e R s m args below meth c Q nL c0 b0 S') : xs_W Z p l e R s m args below meth c Q nL c0 b0 S := by
  unfold xm_sw xm_go at h
  split at h
  · next x r hx =>
    split at h
    · next ho =>
      split at h
      · next h0 =>
        cases h
        intro ls H locs cells slots I
        rw [hx]
        exact lv_tableOut hexec hb hd ho (by omega) (k ls H locs cells slots I)
      · cases h
    · next ho =>
      split at h
      · next o hof =>
        split at h
        · next h0 =>
          cases h
          intro ls H locs cells slots I
          rw [hx]
          exact lv_tableIn hexec hb hd (fun q => ho (Or.inl q)) (fun q => ho (Or.inr q)) hof (by omega) (k ls H locs cells slots I)
        · cases h
      · cases h
  · cases h
theorem xs_c1 {v : Value} (h : xm_c1 v = true) : (xs_tr Z v).category = 1 := by rw [xs_cat]; simpa [xm_c1] using h
theorem xs_c2 {v : Value} (h : ¬ xm_c1 v = true) : (xs_tr Z v).category = 2 := by
  rw [xs_cat]
  rcases lv_cat v with h1 | h1
  · exact absurd (by simpa [xm_c1] using h1) h
  · exact h1
theorem xs_dup (hexec : p.tables.exec = Jvm.exec) (hb : c.code = cc) (hd : decode cc S.1 = .ok (.dup, 1))
    (h : xm_dup S = some (.inl S')) (k : xs_W Z p l e R s m args below meth c Q nL c0 b0 S') : xs_W Z p l e R s m args below meth c Q nL c0 b0 S := by
  unfold xm_dup xm_go at h
  split at h
  · next v r hx =>
    split at h
    · next h1 =>
      cases h
      intro ls H locs cells slots I
      rw [hx]
      exact lv_dup hexec hb hd (xs_c1 h1) (k ls H locs cells slots I)
    · cases h
  · cases h
theorem xs_pop (hexec : p.tables.exec = Jvm.exec) (hb : c.code = cc) (hd : decode cc S.1 = .ok (.pop, 1))
    (h : xm_pop S = some (.inl S')) (k : xs_W Z p l e R s m args below meth c Q nL c0 b0 S') : xs_W Z p l e R s m args below meth c Q nL c0 b0 S := by
  unfold xm_pop xm_go at h
  split at h
  · next v r hx =>
    split at h
    · next h1 =>
      cases h
      intro ls H locs cells slots I
      rw [hx]
      exact lv_pop hexec hb hd (xs_c1 h1) (k ls H locs cells slots I)
    · cases h
  · cases h
theorem xs_dx1 (hexec : p.tables.exec = Jvm.exec) (hb : c.code = cc) (hd : decode cc S.1 = .ok (.dup_x1, 1))
    (h : xm_dx1 S = some (.inl S')) (k : xs_W Z p l e R s m args below meth c Q nL c0 b0 S') : xs_W Z p l e R s m args below meth c Q nL c0 b0 S := by
  unfold xm_dx1 xm_go at h
  split at h
  · next v w r hx =>
    split at h
    · next h1 =>
      cases h
      rw [Bool.and_eq_true] at h1
      intro ls H locs cells slots I
      rw [hx]
      exact lv_dup_x1 hexec hb hd (xs_c1 h1.1) (xs_c1 h1.2) (k ls H locs cells slots I)
    · cases h
  · cases h
theorem xs_dx2 (hexec : p.tables.exec = Jvm.exec) (hb : c.code = cc) (hd : decode cc S.1 = .ok (.dup_x2, 1))
    (h : xm_dx2 S = some (.inl S')) (k : xs_W Z p l e R s m args below meth c Q nL c0 b0 S') : xs_W Z p l e R s m args below meth c Q nL c0 b0 S := by
  unfold xm_dx2 xm_go at h
  split at h
  · next v w z r hx =>
    split at h
    · next h1 =>
      cases h
      rw [Bool.and_eq_true, Bool.and_eq_true] at h1
      intro ls H locs cells slots I
      rw [hx]
      exact lv_dup_x2 hexec hb hd (xs_c1 h1.1) (xs_c1 h1.2.1) (xs_c1 h1.2.2) (k ls H locs cells slots I)
    · cases h
  · cases h
theorem xs_du2 (hexec : p.tables.exec = Jvm.exec) (hb : c.code = cc) (hd : decode cc S.1 = .ok (.dup2, 1))
    (h : xm_du2 S = some (.inl S')) (k : xs_W Z p l e R s m args below meth c Q nL c0 b0 S') : xs_W Z p l e R s m args below meth c Q nL c0 b0 S := by
  unfold xm_du2 xm_go at h
  split at h
  · next v r hx =>
    split at h
    · next h1 =>
      split at h
      · next w r' =>
        split at h
        · next h2 =>
          cases h
          intro ls H locs cells slots I
          rw [hx]
          exact lv_dup2_11 hexec hb hd (xs_c1 h1) (xs_c1 h2) (k ls H locs cells slots I)
        · cases h
      · cases h
    · next h1 =>
      cases h
      intro ls H locs cells slots I
      rw [hx]
      exact lv_dup2_2 hexec hb hd (xs_c2 h1) (k ls H locs cells slots I)
  · cases h
theorem xs_po2 (hexec : p.tables.exec = Jvm.exec) (hb : c.code = cc) (hd : decode cc S.1 = .ok (.pop2, 1))
    (h : xm_po2 S = some (.inl S')) (k : xs_W Z p l e R s m args below meth c Q nL c0 b0 S') : xs_W Z p l e R s m args below meth c Q nL c0 b0 S := by
  unfold xm_po2 xm_go at h
  split at h
  · next v r hx =>
    split at h
    · next h1 =>
      split at h
      · next w r' =>
        split at h
        · next h2 =>
          cases h
          intro ls H locs cells slots I
          rw [hx]
          exact lv_pop2_11 hexec hb hd (xs_c1 h1) (xs_c1 h2) (k ls H locs cells slots I)
        · cases h
      · cases h
    · next h1 =>
      cases h
      intro ls H locs cells slots I
      rw [hx]
      exact lv_pop2_2 hexec hb hd (xs_c2 h1) (k ls H locs cells slots I)
  · cases h
end XS1
