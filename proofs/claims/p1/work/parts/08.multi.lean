/-! an array of Dimensions is written; an array of arrays is made -/
section XS4
variable {Z : xs_Z} {p : Program} {l : Launch} {e : Env} {R : Room} {s : State} {m : MethodId} {args : Array Value} {below : List Frame} {meth : Method} {c : Code} {Q : State → Prop} {nL c0 b0 : Nat} {cc : ByteArray} {S S' : xm_S}
theorem xs_aast (hexec : p.tables.exec = Jvm.exec) (hb : c.code = cc) (hK : xs_K Z s) (hd : decode cc S.1 = .ok (.aastore, 1))
    (h : xm_ast (fun t => t == 23) (xm_nD S.2.2.2.1) S = some (.inl S')) (kk : xs_W Z p l e R s m args below meth c Q nL c0 b0 S') : xs_W Z p l e R s m args below meth c Q nL c0 b0 S := by
  refine xs_ast (fun t ht => by have : t = 23 := by simpa using ht
                                omega) hK (fun {_ _ _ _ _ _ _ _ j v w t} hR ht hn h1 h2 h3 h4 k => ?_) h kk
  have : t = 23 := by simpa using ht
  subst this
  cases v <;> simp only [xm_nD, reduceCtorEq] at hn
  next b =>
  rw [if_pos trivial] at hn
  split at hn
  · next vs hvs =>
    cases hn
    obtain ⟨cv, g1, g2, g3, -⟩ := hR.2.2 b _ hvs
    obtain ⟨kA, comp, k1, k2, k3, k4⟩ := hK.2.1 23 (by omega) (by omega)
    have hcls := hK.2.2 3 (by omega)
    have hcomp : comp = Z.2.2.1 3 := k4 _ rfl
    subst hcomp
    obtain ⟨kC, hkC, -⟩ := hcls.2
    exact W.aast hexec hb h1 (fun q hq => by rw [h2] at hq; cases hq) (xs_nk h2) (by rw [h3]; exact k1) k2 rfl hkC ⟨fun q => h4 (Or.inl q), Nat.not_le.mp fun q => h4 (Or.inr q)⟩ g1 (fun q hq => by rw [g2] at hq; cases hq) (by rw [g3]; exact hkC) (by rw [g3]; exact va_assign hcls) rfl rfl hd k
  · cases hn
end XS4
/-- the outer array when i rows stand -/
def xs_oc (cA : ClassId) (N z i : Nat) : Cell := { cls := cA, slots := ((List.range N).map (fun j => if j < i then Value.ref (z + 1 + j) else .null)).toArray, vm := .none }
def xs_ic2 (cI : ClassId) (M : Nat) (dv : Value) : Cell := { cls := cI, slots := Array.replicate M dv, vm := .none }
def xs_mf (T : State) (cA cI : ClassId) (N M : Nat) (dv : Value) : Nat → State
  | 0 => T.pushCell (xs_oc cA N T.heap.size 0)
  | i + 1 => ((xs_mf T cA cI N M dv i).pushCell (xs_ic2 cI M dv)).setCell T.heap.size (xs_oc cA N T.heap.size (i + 1))
theorem xs_oc_size (cA : ClassId) (N z i : Nat) : (xs_oc cA N z i).slots.size = N := by simp [xs_oc]
theorem xs_oc_set (cA : ClassId) (N z i : Nat) (hi : i < N) : (xs_oc cA N z i).setSlot i (.ref (z + 1 + i)) = xs_oc cA N z (i + 1) := by
  unfold xs_oc Cell.setSlot
  simp only [Cell.mk.injEq, true_and, and_true]
  apply Array.ext_getElem?
  intro j
  rw [Array.getElem?_setIfInBounds]
  simp only [List.size_toArray, List.length_map, List.length_range, List.getElem?_toArray, List.getElem?_map]
  by_cases hj : i = j
  · subst hj
    rw [if_pos rfl, if_pos hi, List.getElem?_range hi]
    simp
  · rw [if_neg hj]
    by_cases hN : j < N
    · rw [List.getElem?_range hN]
      simp only [Option.map_some]
      by_cases h1 : j < i
      · rw [if_pos h1, if_pos (by omega)]
      · rw [if_neg h1, if_neg (by omega)]
    · rw [List.getElem?_eq_none (by rw [List.length_range]; omega)]
      rfl
theorem xs_mf_at (T : State) (cA cI : ClassId) (N M : Nat) (dv : Value) : ∀ i, (xs_mf T cA cI N M dv i).heap.size = T.heap.size + 1 + i ∧ (xs_mf T cA cI N M dv i).heap[T.heap.size]? = some (xs_oc cA N T.heap.size i) ∧ (xs_mf T cA cI N M dv i).vm = T.vm ∧
    (xs_mf T cA cI N M dv i).slotsUsed = T.slotsUsed + N + i * M ∧ (∀ a, a < T.heap.size → (xs_mf T cA cI N M dv i).heap[a]? = T.heap[a]?) ∧ ∀ j, j < i → (xs_mf T cA cI N M dv i).heap[T.heap.size + 1 + j]? = some (xs_ic2 cI M dv)
  | 0 => ⟨by simp [xs_mf], by simp [xs_mf], rfl, by simp [xs_mf, xs_oc], fun a ha => State.heap_pushCell_of_lt _ _ ha, fun j hj => absurd hj (Nat.not_lt_zero _)⟩
  | i + 1 => by
    obtain ⟨h1, h2, h3, h4, h5, h6⟩ := xs_mf_at T cA cI N M dv i
    have hlt : T.heap.size < (xs_mf T cA cI N M dv i).heap.size := by omega
    have hc : ((xs_mf T cA cI N M dv i).pushCell (xs_ic2 cI M dv)).heap[T.heap.size]? = some (xs_oc cA N T.heap.size i) := by rw [State.heap_pushCell_of_lt (h := hlt)]; exact h2
    refine ⟨by simp [xs_mf, State.setCell, h1]; omega, State.heap_setCell_self hc, by simp [xs_mf, h3], by simp [xs_mf, h4, xs_ic2, Nat.succ_mul]; omega, fun a ha => ?_, fun j hj => ?_⟩
    · show (((xs_mf T cA cI N M dv i).pushCell (xs_ic2 cI M dv)).setCell T.heap.size _).heap[a]? = _
      have hl : a < (xs_mf T cA cI N M dv i).heap.size := by omega
      rw [State.heap_setCell_other (Nat.ne_of_gt ha), State.heap_pushCell_of_lt (h := hl)]
      exact h5 a ha
    · show (((xs_mf T cA cI N M dv i).pushCell (xs_ic2 cI M dv)).setCell T.heap.size _).heap[T.heap.size + 1 + j]? = _
      rw [State.heap_setCell_other (show T.heap.size ≠ T.heap.size + 1 + j by omega)]
      by_cases hji : j < i
      · have hl : T.heap.size + 1 + j < (xs_mf T cA cI N M dv i).heap.size := by omega
        rw [State.heap_pushCell_of_lt (h := hl)]
        exact h6 j hji
      · have : j = i := by omega
        subst this
        rw [← h1]
        exact State.heap_pushCell_size _ _
theorem xs_mf_top (T : State) (g : JFrame) (cA cI : ClassId) (N M : Nat) (dv : Value) : ∀ i, xs_mf (T.setTop g) cA cI N M dv i = (xs_mf T cA cI N M dv i).setTop g
  | 0 => rfl
  | i + 1 => by simp only [xs_mf, xs_mf_top T g cA cI N M dv i, State.heap_setTop, State.pushCell_setTop, State.setCell_setTop]
section XS5
variable {E : CtlPost} {e : Env} {d : Bool} {acts : List Action} {s : State}
theorem xs_wna {c comp : ClassId} {k : Class} {ty : FieldType} {len : Nat} {v : Value} (hk : s.vm.classes[c]? = some k) (hkind : k.kind = .array comp ty) (hlim : ¬ len > e.platform.arrayLengthLimit) (hheap : ¬ len * componentBytes ty > e.platform.maxHeapBytes) (hfit : fits ty v = true) (hdef : v.isDefault = true)
    {Q : Addr → Pre} (h1 : s.heap.size < e.platform.maxCells) (h2 : s.slotsUsed + len ≤ e.platform.maxSlots) (hq : Q s.heap.size d acts (s.pushCell { cls := c, slots := Array.replicate len v, vm := .none })) : wp (Jvm.newArray c len v) Q E e d acts s := by
  have hall : ((Array.replicate len v).all (·.isDefault)) = true := by
    rw [Array.all_replicate]
    split <;> simp [hdef]
  have hacts : allocActs (Array.replicate len v) s.heap.size acts = acts := by
    unfold allocActs
    rw [if_pos hall]
  have hsl : ∀ i w, (Array.replicate len v)[i]? = some w → s.fitsSlot c .none i w = true := by
    intro i w hw
    simp only [Array.getElem?_replicate] at hw
    split at hw
    · cases hw
      simp [State.fitsSlot, State.slotType?, hk, hkind, hfit]
    · cases hw
  simp only [Jvm.newArray, Jvm.arrayFits, wp_bind', W.ask, W.ite, hlim, if_false, wp_pure', W.theClass, hk, hkind, hheap, W.alloc, W.stop, Option.some.injEq, exists_eq_left', Array.size_replicate, hacts]
  rw [if_neg (by omega)]
  exact ⟨h1, h2, hsl, hq⟩
theorem xs_rfit {t : FieldType} (h : t.isReference = true) : fits t .null = true ∧ ∀ a, fits t (.ref a) = true := by
  cases t <;> simp [FieldType.isReference] at h <;> exact ⟨rfl, fun _ => rfl⟩
theorem xs_wmk {c comp ci : ClassId} {k kc : Class} {t0 ty : FieldType} {n q : Int32} (hk : s.vm.classes[c]? = some k) (hkind : k.kind = .array comp t0) (href : t0.isReference = true) (hkc : s.vm.classes[comp]? = some kc) (hkindc : kc.kind = .array ci ty) (hn : ¬ n < 0) (hq0 : ¬ q < 0)
    (hl1 : ¬ n.toNatClampNeg > e.platform.arrayLengthLimit) (hh1 : ¬ n.toNatClampNeg * componentBytes t0 > e.platform.maxHeapBytes) (hl2 : ¬ q.toNatClampNeg > e.platform.arrayLengthLimit) (hh2 : ¬ q.toNatClampNeg * componentBytes ty > e.platform.maxHeapBytes)
    (hdf : fits ty (defaultValue ty) = true) (hdd : (defaultValue ty).isDefault = true) (hc : s.heap.size + 1 + n.toNatClampNeg ≤ e.platform.maxCells) (hs : s.slotsUsed + n.toNatClampNeg + n.toNatClampNeg * q.toNatClampNeg ≤ e.platform.maxSlots)
    {Q : Addr → Pre} (hQ : ∀ d' acts', Q s.heap.size d' acts' (xs_mf s c comp n.toNatClampNeg q.toNatClampNeg (defaultValue ty) n.toNatClampNeg)) : wp (multianewarray.make c [n, q]) Q E e d acts s := by
  have hfind : ([q].find? (· < 0)) = none := by simp [hq0]
  rw [multianewarray.make]
  simp only [wp_bind', W.ite, hn, if_false, wp_pure', W.theClass, hk, hkind, Option.some.injEq, exists_eq_left']
  have hnq := Nat.zero_le (n.toNatClampNeg * q.toNatClampNeg)
  refine xs_wna hk hkind hl1 hh1 (xs_rfit href).1 rfl (by omega) (by omega) ?_
  simp only [hfind]
  rw [ite_self, wp_bind', Std.Legacy.Range.forIn_eq_forIn_range']
  have hsz : ([:n.toNatClampNeg] : Std.Legacy.Range).size = n.toNatClampNeg := by simp [Std.Legacy.Range.size]
  rw [hsz]
  show wp (forIn (List.range' 0 n.toNatClampNeg 1) PUnit.unit _) _ E e d acts _
  have e0 : (s.pushCell { cls := c, slots := Array.replicate n.toNatClampNeg .null, vm := .none }) = xs_mf s c comp n.toNatClampNeg q.toNatClampNeg (defaultValue ty) 0 := by
    have : ({ cls := c, slots := Array.replicate n.toNatClampNeg .null, vm := .none } : Cell) = xs_oc c n.toNatClampNeg s.heap.size 0 := by
      unfold xs_oc
      simp only [Cell.mk.injEq, true_and, and_true]
      apply Array.ext_getElem?
      intro j
      simp [Array.getElem?_replicate, List.getElem?_range]
      by_cases hj : j < n.toNatClampNeg
      · simp [hj]
      · simp [hj]
    rw [this]
    rfl
  rw [e0]
  refine wp_forIn_inv (fun rest s' => ∃ i, i ≤ n.toNatClampNeg ∧ rest = List.range' i (n.toNatClampNeg - i) ∧ s' = xs_mf s c comp n.toNatClampNeg q.toNatClampNeg (defaultValue ty) i) _ _ ⟨0, Nat.zero_le _, rfl, rfl⟩ ?_ ?_
  · rintro x rest s' d' acts' Q' ⟨i, hi, hl, rfl⟩ hnext
    have hlt : i < n.toNatClampNeg := by
      by_cases hin : i < n.toNatClampNeg
      · exact hin
      · rw [show n.toNatClampNeg - i = 0 from by omega] at hl
        cases hl
    rw [show n.toNatClampNeg - i = (n.toNatClampNeg - (i + 1)) + 1 from by omega, List.range'_succ] at hl
    obtain ⟨rfl, rfl⟩ := List.cons.inj hl
    obtain ⟨f1, f2, f3, f4, f5, f6⟩ := xs_mf_at s c comp n.toNatClampNeg q.toNatClampNeg (defaultValue ty) x
    have hmul : x * q.toNatClampNeg + q.toNatClampNeg ≤ n.toNatClampNeg * q.toNatClampNeg := by
      have := Nat.mul_le_mul_right q.toNatClampNeg (show x + 1 ≤ n.toNatClampNeg from hlt)
      rw [Nat.succ_mul] at this
      exact this
    simp only [wp_bind']
    rw [multianewarray.make]
    simp only [wp_bind', W.ite, hq0, if_false, wp_pure', W.theClass, f3, hkc, hkindc, Option.some.injEq, exists_eq_left']
    refine xs_wna (by rw [f3]; exact hkc) hkindc hl2 hh2 hdf hdd (by rw [f1]; omega) (by rw [f4]; omega) ?_
    simp only [wp_bind', W.writeLoc, wp_pure']
    have hlt0 : s.heap.size < (xs_mf s c comp n.toNatClampNeg q.toNatClampNeg (defaultValue ty) x).heap.size := by rw [f1]; omega
    refine ⟨xs_oc c n.toNatClampNeg s.heap.size x, by rw [State.heap_pushCell_of_lt (h := hlt0)]; exact f2, by simp [xs_oc], by rw [xs_oc_size]; exact hlt, ?_, hnext _ _ _ ⟨x + 1, hlt, rfl, ?_⟩⟩
    · simp [xs_oc, State.fitsSlot, State.slotType?, f3, hk, hkind, (xs_rfit href).2]
    · rw [f1, xs_oc_set _ _ _ _ hlt]
      rfl
  · rintro s' d' acts' ⟨i, hi, hl, rfl⟩
    have hiN : i = n.toNatClampNeg := by
      by_cases hin : i < n.toNatClampNeg
      · rw [show n.toNatClampNeg - i = (n.toNatClampNeg - (i + 1)) + 1 from by omega, List.range'_succ] at hl
        cases hl
      · omega
    subst hiN
    simp only [wp_pure']
    exact hQ _ _
end XS5
section XS6
variable {Z : xs_Z} {p : Program} {l : Launch} {e : Env} {R : Room} {s : State} {m : MethodId} {args : Array Value} {below : List Frame} {meth : Method} {c : Code} {T : State} {locs : List Loc} {cells slots : Nat} {Q : State → Prop} {nL c0 b0 : Nat} {cc : ByteArray} {S S' : xm_S}
theorem xs_mfX (X : Stand p l e R s m args below meth c T locs cells slots) (cA cI : ClassId) (N M : Nat) (dv : Value) :
    ∀ i, i ≤ N → Stand p l e R s m args below meth c (xs_mf T cA cI N M dv i) (locs ++ (List.range i).map (fun j => (⟨T.heap.size, j⟩ : Loc))) (cells + 1 + i) (slots + N + i * M)
  | 0, _ => by
    have h := X.pushed (xs_oc cA N T.heap.size 0)
    rw [xs_oc_size] at h
    simpa [xs_mf] using h
  | i + 1, hi => by
    have Xi := xs_mfX X cA cI N M dv i (by omega)
    obtain ⟨h1, h2, h3, h4, h5, h6⟩ := xs_mf_at T cA cI N M dv i
    have hlt : T.heap.size < (xs_mf T cA cI N M dv i).heap.size := by omega
    have hc : ((xs_mf T cA cI N M dv i).pushCell (xs_ic2 cI M dv)).heap[T.heap.size]? = some (xs_oc cA N T.heap.size i) := by rw [State.heap_pushCell_of_lt (h := hlt)]; exact h2
    have h := (Xi.pushed (xs_ic2 cI M dv)).stored hc i (.ref (T.heap.size + 1 + i))
    have e1 : (xs_ic2 cI M dv).slots.size = M := by simp [xs_ic2]
    rw [e1, xs_oc_set _ _ _ _ (by omega)] at h
    have e2 : locs ++ (List.range (i + 1)).map (fun j => (⟨T.heap.size, j⟩ : Loc)) = (locs ++ (List.range i).map (fun j => (⟨T.heap.size, j⟩ : Loc))) ++ [⟨T.heap.size, i⟩] := by simp [List.range_succ, List.append_assoc]
    have e3 : slots + N + (i + 1) * M = slots + N + i * M + M := by rw [Nat.succ_mul]; omega
    rw [e2, e3]
    exact h
theorem xs_multi {t u i : Nat} {own : String} {dv : Value} (hexec : p.tables.exec = Jvm.exec) (hb : c.code = cc) (hw : xs_ws args s) (hK : xs_K Z s) (hRc : R.cells = xm_cm - c0) (hRs : R.slots = xm_sm - b0) (hown : s.vm.findClass own = some m.cls) (h20 : 20 ≤ t) (h23 : t < 23) (hu : u = t - 4) (hel : xt_el t = .array (xt_el u)) (hdv : defaultValue (xt_el u) = dv) (hby : componentBytes (xt_el u) ≤ 8) (hdf : fits (xt_el u) dv = true) (hdd : dv.isDefault = true)
    (hl : Cond.classLink own i ("[" ++ (xt_el t).toString) ∈ lw_tbl) (hd : decode cc S.1 = .ok (.multianewarray i 2, 4))
    (h : xm_ma t u dv S = some (.inl S')) (kk : xs_W Z p l e R s m args below meth c Q nL c0 b0 S') : xs_W Z p l e R s m args below meth c Q nL c0 b0 S := by
  unfold xm_ma xm_go at h
  split at h
  · next k n r hx =>
    split at h
    · next hc =>
      cases h
      obtain ⟨hn, hk, hbn, hbk, hc1, hc2⟩ := hc
      intro ls H locs cells slots I
      rw [hx]
      have i1 := I.2.2.1
      have i2 := I.2.2.2.1
      have hsz := I.2.1.1
      intro T hT X
      have hpl : e.platform.magicAccessors = ({} : Platform).magicAccessors := by rw [X.admits.platform]
      obtain ⟨kA, comp, a1, a2, a3, a4⟩ := hK.2.1 t (by omega) (by omega)
      obtain ⟨kI, ci, g1, g2, g3, -⟩ := hK.2.1 u (by omega) (by omega)
      have hcomp : comp = Z.2.2.1 u := a4 _ (by unfold xs_co; rw [if_neg (by omega), if_neg (by omega), hu])
      subst hcomp
      obtain ⟨cA, hfc0, hcl⟩ := Cond.classLink_spec hown (hw _ hl rfl) e.platform hpl
      have hcA : cA = Z.2.2.1 t := Option.some.inj (hfc0.symm.trans a3)
      subst hcA
      obtain ⟨hg₁, hwarm₁, hready₁⟩ := State.classEntry (e := e) X.warmed hcl
      generalize T.vm.noted m.cls i (.cls (Z.2.2.1 t)) = vm₁ at hg₁ hwarm₁ hready₁
      have hal : s.vm.Alike vm₁ := hwarm₁.alike
      obtain ⟨kA₁, hkA₁, heA⟩ := hal.2.2 _ _ a1
      obtain ⟨kI₁, hkI₁, heI⟩ := hal.2.2 _ _ g1
      have hkindA₁ : kA₁.kind = .array (Z.2.2.1 u) (xt_el t) := by rw [heA]; exact a2
      have hkindI₁ : kI₁.kind = .array ci (xt_el u) := by rw [heI]; exact g2
      have X₁ := X.noted hwarm₁
      have hcells : cells + (1 + n.toNatClampNeg) ≤ R.cells := by omega
      have hslots : slots + (n.toNatClampNeg + n.toNatClampNeg * k.toNatClampNeg) ≤ R.slots := by omega
      obtain ⟨hr1, hr2⟩ := X.roomAbove hcells hslots
      have XF := xs_mfX X₁ (Z.2.2.1 t) (Z.2.2.1 u) n.toNatClampNeg k.toNatClampNeg dv n.toNatClampNeg (Nat.le_refl _)
      obtain ⟨m1, m2, m3, m4, m5, m6⟩ := xs_mf_at (T.setVm vm₁) (Z.2.2.1 t) (Z.2.2.1 u) n.toNatClampNeg k.toNatClampNeg dv n.toNatClampNeg
      have hTs : (T.setVm vm₁).heap.size = Z.1 + S.2.2.2.1.length := by show T.heap.size = _; rw [hT]; exact hsz
      have hTh : (T.setVm vm₁).heap = H := hT
      rw [hTs] at m1 m2 m5 m6
      have hdt : xs_tr Z dv = dv := by rw [← hdv]; exact xs_dv Z _
      have hlen : (S.2.2.2.1 ++ (t, (List.range n.toNatClampNeg).map (fun i => Value.ref (S.2.2.2.1.length + 1 + i))) :: List.replicate n.toNatClampNeg (u, List.replicate k.toNatClampNeg dv)).length = S.2.2.2.1.length + 1 + n.toNatClampNeg := by
        rw [List.length_append, List.length_cons, List.length_replicate]; omega
      have hRel : xs_R Z (S.2.2.2.1 ++ (t, (List.range n.toNatClampNeg).map (fun i => Value.ref (S.2.2.2.1.length + 1 + i))) :: List.replicate n.toNatClampNeg (u, List.replicate k.toNatClampNeg dv)) (xs_mf (T.setVm vm₁) (Z.2.2.1 t) (Z.2.2.1 u) n.toNatClampNeg k.toNatClampNeg dv n.toNatClampNeg).heap := by
        refine ⟨by rw [hlen, m1]; omega, fun q hq => ?_, fun z q hz => ?_⟩
        · rw [m5 q (by omega), hTh]
          exact I.2.1.2.1 q hq
        · by_cases hz1 : z < S.2.2.2.1.length
          · rw [List.getElem?_append_left hz1] at hz
            exact (I.2.1.2.2 z q hz).kept (by rw [m5 _ (by omega), hTh])
          · rw [List.getElem?_append_right (by omega)] at hz
            by_cases hz2 : z = S.2.2.2.1.length
            · subst hz2
              rw [Nat.sub_self] at hz
              cases hz
              refine ⟨_, m2, rfl, rfl, fun _ => ?_, fun h14 => absurd h14 (by show ¬ t < 14; omega)⟩
              show ((List.range n.toNatClampNeg).map (fun j => if j < n.toNatClampNeg then Value.ref (Z.1 + S.2.2.2.1.length + 1 + j) else Value.null)).toArray = (((List.range n.toNatClampNeg).map (fun i => Value.ref (S.2.2.2.1.length + 1 + i))).map (xs_tr Z)).toArray
              rw [List.map_map]
              refine congrArg List.toArray (List.map_congr_left (fun j hj => ?_))
              rw [if_pos (List.mem_range.mp hj)]
              show Value.ref (Z.1 + S.2.2.2.1.length + 1 + j) = Value.ref (Z.1 + (S.2.2.2.1.length + 1 + j))
              exact congrArg Value.ref (by simp only [Nat.add_assoc])
            · obtain ⟨w, hw'⟩ : ∃ w, z - S.2.2.2.1.length = w + 1 := ⟨z - S.2.2.2.1.length - 1, by omega⟩
              rw [hw', List.getElem?_cons_succ, List.getElem?_replicate] at hz
              split at hz
              · next hwn =>
                cases hz
                refine ⟨_, by rw [show Z.1 + z = Z.1 + S.2.2.2.1.length + 1 + w by omega]; exact m6 w hwn, rfl, rfl, fun _ => ?_, fun h14 => absurd h14 (by show ¬ u < 14; omega)⟩
                show (xs_ic2 (Z.2.2.1 u) k.toNatClampNeg dv).slots = _
                rw [xs_rep Z _ hdt]
                simp [xs_ic2]
              · cases hz
      have hI : xs_I Z nL c0 b0 (S.1 + 4, S.2.1, .ref S.2.2.2.1.length :: r, S.2.2.2.1 ++ (t, (List.range n.toNatClampNeg).map (fun i => Value.ref (S.2.2.2.1.length + 1 + i))) :: List.replicate n.toNatClampNeg (u, List.replicate k.toNatClampNeg dv), S.2.2.2.2 + n.toNatClampNeg + n.toNatClampNeg * k.toNatClampNeg) ls (xs_mf (T.setVm vm₁) (Z.2.2.1 t) (Z.2.2.1 u) n.toNatClampNeg k.toNatClampNeg dv n.toNatClampNeg).heap (locs ++ (List.range n.toNatClampNeg).map (fun j => (⟨(T.setVm vm₁).heap.size, j⟩ : Loc))) (cells + 1 + n.toNatClampNeg) (slots + n.toNatClampNeg + n.toNatClampNeg * k.toNatClampNeg) := by
        refine ⟨I.1, hRel, by rw [hlen]; omega, by show b0 + (slots + n.toNatClampNeg + n.toNatClampNeg * k.toNatClampNeg) = S.2.2.2.2 + n.toNatClampNeg + n.toNatClampNeg * k.toNatClampNeg; omega, fun q hq => ?_, by rw [hlen]; exact hc1, hc2⟩
        rcases List.mem_append.mp hq with h1 | h1
        · exact I.2.2.2.2.1 q h1
        · obtain ⟨j, -, rfl⟩ := List.mem_map.mp h1
          show Z.1 ≤ (T.setVm vm₁).heap.size
          omega
      obtain ⟨tt, st, hQ⟩ := kk ls _ _ _ _ hI _ rfl XF
      refine ⟨tt, ?_, hQ⟩
      have hl1 : ¬ n.toNatClampNeg > e.platform.arrayLengthLimit := by rw [Launch.admits_arrayLengthLimit X.admits]; omega
      have hh1 : ¬ n.toNatClampNeg * componentBytes (xt_el t) > e.platform.maxHeapBytes := by
        rw [Launch.admits_maxHeapBytes X.admits, hel]; show ¬ n.toNatClampNeg * 4 > 536870912; omega
      have hl2 : ¬ k.toNatClampNeg > e.platform.arrayLengthLimit := by rw [Launch.admits_arrayLengthLimit X.admits]; omega
      have hh2 : ¬ k.toNatClampNeg * componentBytes (xt_el u) > e.platform.maxHeapBytes := by
        have := Nat.mul_le_mul_left k.toNatClampNeg hby
        rw [Launch.admits_maxHeapBytes X.admits]; omega
      have st' : Steps p.tables e below ((xs_mf (T.setVm vm₁) (Z.2.2.1 t) (Z.2.2.1 u) n.toNatClampNeg k.toNatClampNeg dv n.toNatClampNeg).setTop (F0 m (S.1 + 4) ls (.ref (T.setVm vm₁).heap.size :: r.map (xs_tr Z)))) tt := by rw [hTs]; exact st
      have hg3 : F0 m (S.1 + 4) ls (.ref (T.setVm vm₁).heap.size :: r.map (xs_tr Z)) = { F0 m S.1 ls (List.map (xs_tr Z) (Value.int k :: Value.int n :: r)) with pc := S.1 + 4, stack := .ref (T.setVm vm₁).heap.size :: r.map (xs_tr Z) } := rfl
      rw [hg3] at st'
      have hgs : (F0 m S.1 ls (List.map (xs_tr Z) (Value.int k :: Value.int n :: r))).stack = .int k :: .int n :: r.map (xs_tr Z) := rfl
      have hgp : (F0 m S.1 ls (List.map (xs_tr Z) (Value.int k :: Value.int n :: r))).pc = S.1 := rfl
      have hgm : (F0 m S.1 ls (List.map (xs_tr Z) (Value.int k :: Value.int n :: r))).method = m := rfl
      generalize F0 m S.1 ls (List.map (xs_tr Z) (Value.int k :: Value.int n :: r)) = g at st' hgs hgp hgm ⊢
      subst hgm
      subst hb
      rw [← hgp] at hd st'
      jvm_step X.here [hexec, hd]
      simp only [multianewarray.sem, wp_bind', W.resolveClassAt_links (State.method?_setTop g X.here.top) hg₁]
      rw [W.popN, if_neg (by decide)]
      refine ⟨g, State.topJava?_setTop' (s := T.setVm vm₁) g X.here.top, [.int n, .int k], r.map (xs_tr Z), rfl, hgs, ?_⟩
      simp only [List.mapM_cons, List.mapM_nil, wp_bind', wp_pure']
      subst hdv
      refine xs_wmk (k := kA₁) (kc := kI₁) (comp := Z.2.2.1 u) (ci := ci) (t0 := xt_el t) (ty := xt_el u) hkA₁ hkindA₁ (by rw [hel]; rfl) hkI₁ hkindI₁ hn hk hl1 hh1 hl2 hh2 hdf hdd (by show T.heap.size + 1 + _ ≤ _; omega) (by show T.slotsUsed + _ + _ ≤ _; omega) (fun d' acts' => ?_)
      have eS : ((T.setTop g).setVm vm₁).setTop { g with stack := r.map (xs_tr Z) } = (T.setVm vm₁).setTop { g with stack := r.map (xs_tr Z) } := by
        show ((T.setVm vm₁).setTop g).setTop _ = _
        rw [State.setTop_setTop]
      rw [eS, xs_mf_top]
      simp only [wp_bind', W.mark, W.pushRef, State.topJava?_setTop' _ XF.here.top, Option.some.injEq, exists_eq_left', State.setTop_setTop, State.heap_setTop]
      intro acts
      simp [jvm, XF.here.top]
      exact st'
    · cases h
  · cases h
end XS6
