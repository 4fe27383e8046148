/-! THE REFERENCE leaves the law's cell 604 as it is -/
def K4 (x : Int → Int) (o : xP) : Prop := ∀ r m', o = some (r, m') → m' 604 = x
theorem K4_none {x : Int → Int} : K4 x none := fun _ _ h => by cases h
theorem K4_some {x : Int → Int} {r : Int ⊕ Nat} {m : xw_M} (h : m 604 = x) : K4 x (some (r, m)) := fun _ _ e => by cases e; exact h
theorem K4_if {x : Int → Int} {c : Prop} {i : Decidable c} {a b : xP} (h1 : c → K4 x a) (h2 : ¬ c → K4 x b) : K4 x (@ite _ c i a b) := by
  by_cases h : c
  · rw [if_pos h]; exact h1 h
  · rw [if_neg h]; exact h2 h
theorem K4_B {x : Int → Int} {o : xP} {F : Int → xw_M → xP} (h1 : K4 x o) (h2 : ∀ v m, m 604 = x → K4 x (F v m)) : K4 x (xB o F) := by
  rcases o with _ | ⟨v | t, m⟩
  · exact K4_none
  · exact h2 v m (h1 _ _ rfl)
  · exact K4_some (h1 _ _ rfl)
theorem K4_T {x : Int → Int} {o : xP} {F : Int → xw_M → xP} {G : Nat → xw_M → xP} (h1 : K4 x o) (h2 : ∀ v m, m 604 = x → K4 x (F v m)) (h3 : ∀ t m, m 604 = x → K4 x (G t m)) : K4 x (xT o F G) := by
  rcases o with _ | ⟨v | t, m⟩
  · exact K4_none
  · exact h2 v m (h1 _ _ rfl)
  · exact h3 t m (h1 _ _ rfl)
theorem k4u {x : Int → Int} {m : xw_M} {a k v : Int} (h : a ≠ 604) (hm : m 604 = x) : xw_u m a k v 604 = x := by rw [xu_c (fun e => h e.symm)]; exact hm
theorem k4n {t : Nat} {a : Int} (h : xw_obb t a = true) (ht : xw_obb t 604 = false) : a ≠ 604 := fun e => by rw [e, ht] at h; exact absurd h (by decide)
theorem K4_l0 {x : Int → Int} {F : (xw_M → xP) → xw_M → xP} (h : ∀ r, (∀ m, m 604 = x → K4 x (r m)) → ∀ m, m 604 = x → K4 x (F r m)) : ∀ (N : Nat) (m : xw_M), m 604 = x → K4 x (xl0 F N m)
  | 0 => fun _ _ => K4_none
  | N + 1 => fun m hm => h _ (K4_l0 h N) m hm
theorem K4_l1 {x : Int → Int} {F : (Int → xw_M → xP) → Int → xw_M → xP} (h : ∀ r, (∀ a0 m, m 604 = x → K4 x (r a0 m)) → ∀ a0 m, m 604 = x → K4 x (F r a0 m)) : ∀ (N : Nat) (a0 : Int) (m : xw_M), m 604 = x → K4 x (xl1 F N a0 m)
  | 0 => fun _a0 _ _ => K4_none
  | N + 1 => fun a0 m hm => h _ (K4_l1 h N) a0 m hm
theorem K4_l2 {x : Int → Int} {F : (Int → Int → xw_M → xP) → Int → Int → xw_M → xP} (h : ∀ r, (∀ a0 a1 m, m 604 = x → K4 x (r a0 a1 m)) → ∀ a0 a1 m, m 604 = x → K4 x (F r a0 a1 m)) : ∀ (N : Nat) (a0 a1 : Int) (m : xw_M), m 604 = x → K4 x (xl2 F N a0 a1 m)
  | 0 => fun _a0 _a1 _ _ => K4_none
  | N + 1 => fun a0 a1 m hm => h _ (K4_l2 h N) a0 a1 m hm
theorem K4_l3 {x : Int → Int} {F : (Int → Int → Int → xw_M → xP) → Int → Int → Int → xw_M → xP} (h : ∀ r, (∀ a0 a1 a2 m, m 604 = x → K4 x (r a0 a1 a2 m)) → ∀ a0 a1 a2 m, m 604 = x → K4 x (F r a0 a1 a2 m)) : ∀ (N : Nat) (a0 a1 a2 : Int) (m : xw_M), m 604 = x → K4 x (xl3 F N a0 a1 a2 m)
  | 0 => fun _a0 _a1 _a2 _ _ => K4_none
  | N + 1 => fun a0 a1 a2 m hm => h _ (K4_l3 h N) a0 a1 a2 m hm
theorem K4_l4 {x : Int → Int} {F : (Int → Int → Int → Int → xw_M → xP) → Int → Int → Int → Int → xw_M → xP} (h : ∀ r, (∀ a0 a1 a2 a3 m, m 604 = x → K4 x (r a0 a1 a2 a3 m)) → ∀ a0 a1 a2 a3 m, m 604 = x → K4 x (F r a0 a1 a2 a3 m)) : ∀ (N : Nat) (a0 a1 a2 a3 : Int) (m : xw_M), m 604 = x → K4 x (xl4 F N a0 a1 a2 a3 m)
  | 0 => fun _a0 _a1 _a2 _a3 _ _ => K4_none
  | N + 1 => fun a0 a1 a2 a3 m hm => h _ (K4_l4 h N) a0 a1 a2 a3 m hm
theorem K4_l5 {x : Int → Int} {F : (Int → Int → Int → Int → Int → xw_M → xP) → Int → Int → Int → Int → Int → xw_M → xP} (h : ∀ r, (∀ a0 a1 a2 a3 a4 m, m 604 = x → K4 x (r a0 a1 a2 a3 a4 m)) → ∀ a0 a1 a2 a3 a4 m, m 604 = x → K4 x (F r a0 a1 a2 a3 a4 m)) : ∀ (N : Nat) (a0 a1 a2 a3 a4 : Int) (m : xw_M), m 604 = x → K4 x (xl5 F N a0 a1 a2 a3 a4 m)
  | 0 => fun _a0 _a1 _a2 _a3 _a4 _ _ => K4_none
  | N + 1 => fun a0 a1 a2 a3 a4 m hm => h _ (K4_l5 h N) a0 a1 a2 a3 a4 m hm
theorem K4_l6 {x : Int → Int} {F : (Int → Int → Int → Int → Int → Int → xw_M → xP) → Int → Int → Int → Int → Int → Int → xw_M → xP} (h : ∀ r, (∀ a0 a1 a2 a3 a4 a5 m, m 604 = x → K4 x (r a0 a1 a2 a3 a4 a5 m)) → ∀ a0 a1 a2 a3 a4 a5 m, m 604 = x → K4 x (F r a0 a1 a2 a3 a4 a5 m)) : ∀ (N : Nat) (a0 a1 a2 a3 a4 a5 : Int) (m : xw_M), m 604 = x → K4 x (xl6 F N a0 a1 a2 a3 a4 a5 m)
  | 0 => fun _a0 _a1 _a2 _a3 _a4 _a5 _ _ => K4_none
  | N + 1 => fun a0 a1 a2 a3 a4 a5 m hm => h _ (K4_l6 h N) a0 a1 a2 a3 a4 a5 m hm
theorem K4_l7 {x : Int → Int} {F : (Int → Int → Int → Int → Int → Int → Int → xw_M → xP) → Int → Int → Int → Int → Int → Int → Int → xw_M → xP} (h : ∀ r, (∀ a0 a1 a2 a3 a4 a5 a6 m, m 604 = x → K4 x (r a0 a1 a2 a3 a4 a5 a6 m)) → ∀ a0 a1 a2 a3 a4 a5 a6 m, m 604 = x → K4 x (F r a0 a1 a2 a3 a4 a5 a6 m)) : ∀ (N : Nat) (a0 a1 a2 a3 a4 a5 a6 : Int) (m : xw_M), m 604 = x → K4 x (xl7 F N a0 a1 a2 a3 a4 a5 a6 m)
  | 0 => fun _a0 _a1 _a2 _a3 _a4 _a5 _a6 _ _ => K4_none
  | N + 1 => fun a0 a1 a2 a3 a4 a5 a6 m hm => h _ (K4_l7 h N) a0 a1 a2 a3 a4 a5 a6 m hm
theorem K4_l8 {x : Int → Int} {F : (Int → Int → Int → Int → Int → Int → Int → Int → xw_M → xP) → Int → Int → Int → Int → Int → Int → Int → Int → xw_M → xP} (h : ∀ r, (∀ a0 a1 a2 a3 a4 a5 a6 a7 m, m 604 = x → K4 x (r a0 a1 a2 a3 a4 a5 a6 a7 m)) → ∀ a0 a1 a2 a3 a4 a5 a6 a7 m, m 604 = x → K4 x (F r a0 a1 a2 a3 a4 a5 a6 a7 m)) : ∀ (N : Nat) (a0 a1 a2 a3 a4 a5 a6 a7 : Int) (m : xw_M), m 604 = x → K4 x (xl8 F N a0 a1 a2 a3 a4 a5 a6 a7 m)
  | 0 => fun _a0 _a1 _a2 _a3 _a4 _a5 _a6 _a7 _ _ => K4_none
  | N + 1 => fun a0 a1 a2 a3 a4 a5 a6 a7 m hm => h _ (K4_l8 h N) a0 a1 a2 a3 a4 a5 a6 a7 m hm
theorem K4_l9 {x : Int → Int} {F : (Int → Int → Int → Int → Int → Int → Int → Int → Int → xw_M → xP) → Int → Int → Int → Int → Int → Int → Int → Int → Int → xw_M → xP} (h : ∀ r, (∀ a0 a1 a2 a3 a4 a5 a6 a7 a8 m, m 604 = x → K4 x (r a0 a1 a2 a3 a4 a5 a6 a7 a8 m)) → ∀ a0 a1 a2 a3 a4 a5 a6 a7 a8 m, m 604 = x → K4 x (F r a0 a1 a2 a3 a4 a5 a6 a7 a8 m)) : ∀ (N : Nat) (a0 a1 a2 a3 a4 a5 a6 a7 a8 : Int) (m : xw_M), m 604 = x → K4 x (xl9 F N a0 a1 a2 a3 a4 a5 a6 a7 a8 m)
  | 0 => fun _a0 _a1 _a2 _a3 _a4 _a5 _a6 _a7 _a8 _ _ => K4_none
  | N + 1 => fun a0 a1 a2 a3 a4 a5 a6 a7 a8 m hm => h _ (K4_l9 h N) a0 a1 a2 a3 a4 a5 a6 a7 a8 m hm
theorem K4_l10 {x : Int → Int} {F : (Int → Int → Int → Int → Int → Int → Int → Int → Int → Int → xw_M → xP) → Int → Int → Int → Int → Int → Int → Int → Int → Int → Int → xw_M → xP} (h : ∀ r, (∀ a0 a1 a2 a3 a4 a5 a6 a7 a8 a9 m, m 604 = x → K4 x (r a0 a1 a2 a3 a4 a5 a6 a7 a8 a9 m)) → ∀ a0 a1 a2 a3 a4 a5 a6 a7 a8 a9 m, m 604 = x → K4 x (F r a0 a1 a2 a3 a4 a5 a6 a7 a8 a9 m)) : ∀ (N : Nat) (a0 a1 a2 a3 a4 a5 a6 a7 a8 a9 : Int) (m : xw_M), m 604 = x → K4 x (xl10 F N a0 a1 a2 a3 a4 a5 a6 a7 a8 a9 m)
  | 0 => fun _a0 _a1 _a2 _a3 _a4 _a5 _a6 _a7 _a8 _a9 _ _ => K4_none
  | N + 1 => fun a0 a1 a2 a3 a4 a5 a6 a7 a8 a9 m hm => h _ (K4_l10 h N) a0 a1 a2 a3 a4 a5 a6 a7 a8 a9 m hm
theorem K4_l11 {x : Int → Int} {F : (Int → Int → Int → Int → Int → Int → Int → Int → Int → Int → Int → xw_M → xP) → Int → Int → Int → Int → Int → Int → Int → Int → Int → Int → Int → xw_M → xP} (h : ∀ r, (∀ a0 a1 a2 a3 a4 a5 a6 a7 a8 a9 a10 m, m 604 = x → K4 x (r a0 a1 a2 a3 a4 a5 a6 a7 a8 a9 a10 m)) → ∀ a0 a1 a2 a3 a4 a5 a6 a7 a8 a9 a10 m, m 604 = x → K4 x (F r a0 a1 a2 a3 a4 a5 a6 a7 a8 a9 a10 m)) : ∀ (N : Nat) (a0 a1 a2 a3 a4 a5 a6 a7 a8 a9 a10 : Int) (m : xw_M), m 604 = x → K4 x (xl11 F N a0 a1 a2 a3 a4 a5 a6 a7 a8 a9 a10 m)
  | 0 => fun _a0 _a1 _a2 _a3 _a4 _a5 _a6 _a7 _a8 _a9 _a10 _ _ => K4_none
  | N + 1 => fun a0 a1 a2 a3 a4 a5 a6 a7 a8 a9 a10 m hm => h _ (K4_l11 h N) a0 a1 a2 a3 a4 a5 a6 a7 a8 a9 a10 m hm
