/-! MEMORY: the heap behind the constructors as numbers by place: 'xi e' an int, 'xj e' a long, 'xa e' a cell -/
abbrev xi (e : Int) : Value := .int (Int32.ofInt e)
abbrev xj (e : Int) : Value := .long (Int64.ofInt e)
abbrev xa (e : Int) : Value := .ref e.toNat
def xw_dec (t : Nat) (x : Int) : Value := match t with
  | 0 => xi x
  | 1 => xj x
  | 2 => xa x
  | 3 => .null
  | 4 => .retAddr 2
  | n + 5 => .ref n
/-- of a cell: its class, its length, its places' kinds -/
def xw_vs (B : Nat) (m : xw_M) (a : Nat) : List Value := (List.range (xw_ln B a)).map (fun k => xw_dec (xw_kof (xw_ly a) k) (m a k))
def xw_h (B : Nat) (m : xw_M) (ex : xm_H) : xm_H := (List.range 605).map (fun a => ((xw_ly a).1, xw_vs B m a)) ++ ex
theorem xw_get {B : Nat} {m : xw_M} {ex : xm_H} {a : Nat} (ha : a < 605) : (xw_h B m ex)[a]? = some ((xw_ly a).1, xw_vs B m a) := by
  unfold xw_h
  rw [List.getElem?_append_left (by rw [List.length_map, List.length_range]; exact ha), List.getElem?_map, List.getElem?_range ha]
  rfl
theorem xw_hl (B : Nat) (m : xw_M) (ex : xm_H) : (xw_h B m ex).length = 605 + ex.length := by
  unfold xw_h
  rw [List.length_append, List.length_map, List.length_range]
theorem xw_vl (B : Nat) (m : xw_M) (a : Nat) : (xw_vs B m a).length = xw_ln B a := by
  unfold xw_vs
  rw [List.length_map, List.length_range]
theorem xw_vg {B : Nat} {m : xw_M} {a k : Nat} (hk : k < xw_ln B a) : (xw_vs B m a)[k]? = some (xw_dec (xw_kof (xw_ly a) k) (m a k)) := by
  unfold xw_vs
  rw [List.getElem?_map, List.getElem?_range hk]
  rfl
theorem xw_set {B : Nat} {m : xw_M} {ex : xm_H} {a k : Nat} {v : Int} (ha : a < 605) : (xw_h B m ex).set a ((xw_ly a).1, (xw_vs B m a).set k (xw_dec (xw_kof (xw_ly a) k) v)) = xw_h B (xw_u m a k v) ex := by
  unfold xw_h
  rw [List.set_append_left _ _ (by rw [List.length_map, List.length_range]; exact ha)]
  refine congrArg (fun z => z ++ ex) ?_
  apply List.ext_getElem?
  intro i
  rw [List.getElem?_set]
  by_cases hi : a = i
  · subst hi
    rw [if_pos rfl, if_pos (by rw [List.length_map, List.length_range]; exact ha), List.getElem?_map, List.getElem?_range ha]
    refine congrArg some (Prod.ext rfl ?_)
    show (xw_vs B m a).set k _ = xw_vs B (xw_u m a k v) a
    apply List.ext_getElem?
    intro q
    rw [List.getElem?_set, xw_vl]
    by_cases hq : q < xw_ln B a
    · rw [xw_vg hq, xw_vg hq]
      by_cases hk : k = q
      · subst hk
        rw [if_pos rfl, if_pos hq]
        unfold xw_u
        rw [if_pos ⟨rfl, rfl⟩]
      · rw [if_neg hk]
        unfold xw_u
        rw [if_neg (fun h => hk (by have := h.2; omega))]
    · rw [List.getElem?_eq_none (by rw [xw_vl]; omega), List.getElem?_eq_none (by rw [xw_vl]; omega)]
      by_cases hk : k = q
      · rw [if_pos hk, if_neg (by omega)]
      · rw [if_neg hk]
  · rw [if_neg hi, List.getElem?_map, List.getElem?_map]
    by_cases hr : i < 605
    · rw [List.getElem?_range hr]
      refine congrArg some (Prod.ext rfl ?_)
      show xw_vs B m i = xw_vs B (xw_u m a k v) i
      unfold xw_vs
      refine List.map_congr_left (fun q _ => ?_)
      unfold xw_u
      rw [if_neg (fun h => hi (by have := h.1; omega))]
    · rw [List.getElem?_eq_none (by rw [List.length_range]; omega)]
      rfl
/-- ranges -/
theorem xw_ti {x : Int} (h : xw_rg x) : (Int32.ofInt x).toInt = x := Int32.toInt_ofInt_of_le h.1 h.2
theorem xw_tj {x : Int} (h : xw_rJ x) : (Int64.ofInt x).toInt = x := Int64.toInt_ofInt_of_le h.1 h.2
theorem xw_lt {x y : Int} (hx : xw_rg x) (hy : xw_rg y) : (Int32.ofInt x < Int32.ofInt y) ↔ x < y := by
  rw [Int32.lt_iff_toInt_lt, xw_ti hx, xw_ti hy]
theorem xw_leI {x y : Int} (hx : xw_rg x) (hy : xw_rg y) : (Int32.ofInt x ≤ Int32.ofInt y) ↔ x ≤ y := by
  rw [Int32.le_iff_toInt_le, xw_ti hx, xw_ti hy]
theorem xw_eqI {x y : Int} (hx : xw_rg x) (hy : xw_rg y) : (Int32.ofInt x = Int32.ofInt y) ↔ x = y := by
  rw [← Int32.toInt_inj, xw_ti hx, xw_ti hy]
theorem xw_nn {x : Int} (h : xw_rg x) (h0 : 0 ≤ x) : (Int32.ofInt x).toNatClampNeg = x.toNat := by
  unfold Int32.toNatClampNeg
  rw [xw_ti h]
theorem xw_r0 : xw_rg 0 := ⟨by decide, by decide⟩
theorem xw_in {x : Int} {n : Nat} (h0 : 0 ≤ x) (h1 : x < n) (hn : n ≤ 1000000) : xm_in (Int32.ofInt x) n = true := by
  have hr : xw_rg x := ⟨by omega, by omega⟩
  unfold xm_in
  refine decide_eq_true (fun h => ?_)
  rcases h with h | h
  · rw [show (0 : Int32) = Int32.ofInt 0 from rfl, xw_lt hr xw_r0] at h
    omega
  · rw [xw_nn hr h0] at h
    omega
/-- locals that are known -/
def xw_has (L loc : xm_L) : Prop := ∀ q ∈ L, xm_lg loc q.1 = some q.2
theorem xw_lgm {L : xm_L} {i : Nat} {v : Value} (h : xm_lg L i = some v) : (i, v) ∈ L := by
  unfold xm_lg at h
  obtain ⟨q, hq, e⟩ := Option.map_eq_some_iff.mp h
  have h1 := List.find?_some hq
  have h2 := List.mem_of_find?_eq_some hq
  have : q = (i, v) := Prod.ext (by simpa using h1) e
  exact this ▸ h2
theorem xw_lk {L loc : xm_L} (h : xw_has L loc) {i : Nat} {v : Value} (hl : xm_lg L i = some v) : xm_lg loc i = some v := h _ (xw_lgm hl)
theorem xw_ff {α : Type} {p f : α → Bool} {l : List α} {q : α} (h : l.find? p = some q) (hf : f q = true) : (l.filter f).find? p = some q := by
  induction l with
  | nil => cases h
  | cons a l ih =>
    rw [List.find?_cons] at h
    split at h
    · next ha =>
      cases h
      rw [List.filter_cons_of_pos hf, List.find?_cons, ha]
    · next ha =>
      by_cases hfa : f a = true
      · rw [List.filter_cons_of_pos hfa, List.find?_cons, ha]
        exact ih h
      · rw [List.filter_cons_of_neg hfa]
        exact ih h
theorem xw_fl {loc : xm_L} {f : Nat × Value → Bool} {i : Nat} {v : Value} (h : xm_lg loc i = some v) (hf : f (i, v) = true) : xm_lg (loc.filter f) i = some v := by
  unfold xm_lg at h ⊢
  obtain ⟨q, hq, e⟩ := Option.map_eq_some_iff.mp h
  have h1 := List.find?_some hq
  have : q = (i, v) := Prod.ext (by simpa using h1) e
  rw [xw_ff hq (this ▸ hf)]
  exact congrArg some e
theorem xw_lc {loc : xm_L} {i k : Nat} {v w : Value} (hne : ¬ k = i) (h : xm_lg loc k = some w) : xm_lg ((i, v) :: loc) k = some w := by
  unfold xm_lg at h ⊢
  rw [List.find?_cons, show ((i, v).1 == k) = false from by simpa using fun e => hne e.symm]
  exact h
theorem xw_s1 {L loc : xm_L} (h : xw_has L loc) (i : Nat) (v : Value) : xw_has (xm_s1 L i v) (xm_s1 loc i v) := by
  intro q hq
  unfold xm_s1 at hq ⊢
  rcases List.mem_cons.mp hq with rfl | hq
  · unfold xm_lg
    rw [List.find?_cons, show ((i, v).1 == (i, v).1) = true from by simp]
    rfl
  · obtain ⟨h1, h2⟩ := List.mem_filter.mp hq
    have hne : ¬ q.1 = i := by
      intro e
      rw [e] at h2
      simp at h2
    exact xw_lc hne (xw_fl (h q h1) h2)
theorem xw_s2 {L loc : xm_L} (h : xw_has L loc) (i : Nat) (v : Value) : xw_has (xm_s2 L i v) (xm_s2 loc i v) := by
  intro q hq
  unfold xm_s2 at hq ⊢
  rcases List.mem_cons.mp hq with rfl | hq
  · unfold xm_lg
    rw [List.find?_cons, show ((i, v).1 == (i, v).1) = true from by simp]
    rfl
  · obtain ⟨h1, h2⟩ := List.mem_filter.mp hq
    have hne : ¬ q.1 = i := by
      intro e
      rw [e] at h2
      simp at h2
    exact xw_lc hne (xw_fl (h q h1) h2)
abbrev xw_R : Type := (Option Value ⊕ Nat) × xm_H × Nat
/-- a run from a place in a method, whatever else its locals have -/
def xw (B : Nat) (G : xm_G) (P : xm_P) (d j : Nat) (M : xm_M) (pc : Nat) (L : xm_L) (st : List Value) (m : xw_M) (ex : xm_H) (ns : Nat) (r : xw_R) : Prop := ∀ loc, xw_has L loc → xr G P d j M (pc, loc, st, xw_h B m ex, ns) r
