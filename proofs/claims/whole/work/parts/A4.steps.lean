/-! THE READERS: the condition as a row of steps, and what it says -/
/-- not of the topmost -/
def tN : List Bool → List Bool
  | [] => []
  | a :: t => (!a) :: t
def tA : List Bool → List Bool
  | b :: a :: t => (a && b) :: t
  | t => t
def tO : List Bool → List Bool
  | b :: a :: t => (a || b) :: t
  | t => t
/-- a step of the class, of the reference -/
def opC (v : Int → Bool) (s : Int) (t : List Bool) : List Bool := if s < 60 then v s :: t else if s = 216 then tN t else if s = 214 then tA t else tO t
def opR (v : Int → Bool) (s : Int) (t : List Bool) : List Bool := if 0 ≤ s then v s :: t else if s = -1 then tN t else if s = -2 then tA t else tO t
def evC (T : Int → Int) (v : Int → Bool) : Nat → List Bool
  | 0 => []
  | n + 1 => opC v (T n) (evC T v n)
def evR (T : Int → Int) (v : Int → Bool) : Nat → List Bool
  | 0 => []
  | n + 1 => opR v (T n) (evR T v n)
theorem evC_cg {T T' : Int → Int} {v : Int → Bool} : ∀ n : Nat, (∀ i : Int, 0 ≤ i → i < n → T' i = T i) → evC T' v n = evC T v n := by
  intro n
  induction n with
  | zero => exact fun _ => rfl
  | succ n ih =>
    intro h
    show opC v (T' n) (evC T' v n) = opC v (T n) (evC T v n)
    rw [ih (fun i i0 i1 => h i i0 (by omega)), h n (by omega) (by omega)]
theorem evR_cg {T T' : Int → Int} {v : Int → Bool} : ∀ n : Nat, (∀ i : Int, 0 ≤ i → i < n → T' i = T i) → evR T' v n = evR T v n := by
  intro n
  induction n with
  | zero => exact fun _ => rfl
  | succ n ih =>
    intro h
    show opR v (T' n) (evR T' v n) = opR v (T n) (evR T v n)
    rw [ih (fun i i0 i1 => h i i0 (by omega)), h n (by omega) (by omega)]
theorem tN_tN (t : List Bool) : tN (tN t) = t := by
  cases t with
  | nil => rfl
  | cons a t => show (!(!a)) :: t = a :: t; rw [Bool.not_not]
theorem tN_len (t : List Bool) : (tN t).length = t.length := by cases t <;> rfl
/-- how many values wait behind k steps -/
def lenC (T : Int → Int) : Nat → Int
  | 0 => 0
  | k + 1 => if T k < 60 then lenC T k + 1 else if T k = 216 then lenC T k else lenC T k - 1
def lenR (T : Int → Int) : Nat → Int
  | 0 => 0
  | k + 1 => if 0 ≤ T k then lenR T k + 1 else if T k = -1 then lenR T k else lenR T k - 1
/-- each step finds its values; at most n wait -/
def wfC (T : Int → Int) (s : Nat) (n : Int) : Prop := (∀ k : Nat, k < s → (0 ≤ T k ∧ T k < n ∧ T k < 60) ∨ (T k = 216 ∧ 1 ≤ lenC T k) ∨ ((T k = 214 ∨ T k = 215) ∧ 2 ≤ lenC T k)) ∧ ∀ k : Nat, k ≤ s → lenC T k ≤ n
def wfR (T : Int → Int) (s : Nat) (n : Int) : Prop := (∀ k : Nat, k < s → (0 ≤ T k ∧ T k < n) ∨ (T k = -1 ∧ 1 ≤ lenR T k) ∨ ((T k = -2 ∨ T k = -3) ∧ 2 ≤ lenR T k)) ∧ ∀ k : Nat, k ≤ s → lenR T k ≤ n
theorem lenC_cg {T T' : Int → Int} : ∀ n : Nat, (∀ i : Int, 0 ≤ i → i < n → T' i = T i) → lenC T' n = lenC T n := by
  intro n
  induction n with
  | zero => exact fun _ => rfl
  | succ n ih =>
    intro h
    show (if T' n < 60 then lenC T' n + 1 else if T' n = 216 then lenC T' n else lenC T' n - 1) = (if T n < 60 then lenC T n + 1 else if T n = 216 then lenC T n else lenC T n - 1)
    rw [ih (fun i i0 i1 => h i i0 (by omega)), h n (by omega) (by omega)]
theorem lenR_cg {T T' : Int → Int} : ∀ n : Nat, (∀ i : Int, 0 ≤ i → i < n → T' i = T i) → lenR T' n = lenR T n := by
  intro n
  induction n with
  | zero => exact fun _ => rfl
  | succ n ih =>
    intro h
    show (if 0 ≤ T' n then lenR T' n + 1 else if T' n = -1 then lenR T' n else lenR T' n - 1) = (if 0 ≤ T n then lenR T n + 1 else if T n = -1 then lenR T n else lenR T n - 1)
    rw [ih (fun i i0 i1 => h i i0 (by omega)), h n (by omega) (by omega)]
theorem tN_ln {t : List Bool} : ((tN t).length : Int) = t.length := by cases t <;> rfl
theorem tA_ln {t : List Bool} (h : 2 ≤ (t.length : Int)) : ((tA t).length : Int) = t.length - 1 := by
  match t, h with
  | [], h => simp at h
  | [a], h => simp at h
  | b :: a :: t, _ =>
    show (((a && b) :: t).length : Int) = _
    rw [List.length_cons, List.length_cons, List.length_cons]; omega
theorem tO_ln {t : List Bool} (h : 2 ≤ (t.length : Int)) : ((tO t).length : Int) = t.length - 1 := by
  match t, h with
  | [], h => simp at h
  | [a], h => simp at h
  | b :: a :: t, _ =>
    show (((a || b) :: t).length : Int) = _
    rw [List.length_cons, List.length_cons, List.length_cons]; omega
theorem evC_ln {T : Int → Int} {s : Nat} {n : Int} {v : Int → Bool} (h : wfC T s n) : ∀ k : Nat, k ≤ s → ((evC T v k).length : Int) = lenC T k := by
  intro k
  induction k with
  | zero => exact fun _ => rfl
  | succ k ih =>
    intro hk
    have i := ih (by omega)
    show ((opC v (T k) (evC T v k)).length : Int) = (if T k < 60 then lenC T k + 1 else if T k = 216 then lenC T k else lenC T k - 1)
    unfold opC
    rcases h.1 k (by omega) with a | a | a
    · rw [if_pos a.2.2, if_pos a.2.2, List.length_cons]; omega
    · rw [if_neg (show ¬ T k < 60 by omega), if_pos a.1, if_neg (show ¬ T k < 60 by omega), if_pos a.1, tN_ln]; exact i
    · rw [if_neg (show ¬ T k < 60 by omega), if_neg (show ¬ T k = 216 by omega), if_neg (show ¬ T k < 60 by omega), if_neg (show ¬ T k = 216 by omega)]
      split
      · rw [tA_ln (by omega)]; omega
      · rw [tO_ln (by omega)]; omega
theorem evR_ln {T : Int → Int} {s : Nat} {n : Int} {v : Int → Bool} (h : wfR T s n) : ∀ k : Nat, k ≤ s → ((evR T v k).length : Int) = lenR T k := by
  intro k
  induction k with
  | zero => exact fun _ => rfl
  | succ k ih =>
    intro hk
    have i := ih (by omega)
    show ((opR v (T k) (evR T v k)).length : Int) = (if 0 ≤ T k then lenR T k + 1 else if T k = -1 then lenR T k else lenR T k - 1)
    unfold opR
    rcases h.1 k (by omega) with a | a | a
    · rw [if_pos a.1, if_pos a.1, List.length_cons]; omega
    · rw [if_neg (show ¬ 0 ≤ T k by omega), if_pos a.1, if_neg (show ¬ 0 ≤ T k by omega), if_pos a.1, tN_ln]; exact i
    · rw [if_neg (show ¬ 0 ≤ T k by omega), if_neg (show ¬ T k = -1 by omega), if_neg (show ¬ 0 ≤ T k by omega), if_neg (show ¬ T k = -1 by omega)]
      split
      · rw [tA_ln (by omega)]; omega
      · rw [tO_ln (by omega)]; omega
theorem wfC_le {T : Int → Int} {s s' : Nat} {n : Int} (h : wfC T s n) (e : s' ≤ s) : wfC T s' n := ⟨fun k hk => h.1 k (by omega), fun k hk => h.2 k (by omega)⟩
theorem wfC_push {T T' : Int → Int} {s : Nat} {n n' : Int} (h : wfC T s n) (nn : n ≤ n') (e : ∀ i : Int, 0 ≤ i → i < s → T' i = T i) (x : (0 ≤ T' s ∧ T' s < n' ∧ T' s < 60 ∧ n < n') ∨ (T' s = 216 ∧ 1 ≤ lenC T s) ∨ ((T' s = 214 ∨ T' s = 215) ∧ 2 ≤ lenC T s)) : wfC T' (s + 1) n' := by
  have l : ∀ k : Nat, k ≤ s → lenC T' k = lenC T k := fun k hk => lenC_cg k (fun i i0 i1 => e i i0 (by omega))
  refine ⟨fun k hk => ?_, fun k hk => ?_⟩
  · by_cases ks : k = s
    · subst ks
      rw [l k (Nat.le_refl _)]
      rcases x with a | a | a
      · exact Or.inl ⟨a.1, a.2.1, a.2.2.1⟩
      · exact Or.inr (Or.inl a)
      · exact Or.inr (Or.inr a)
    · rw [e k (by omega) (by omega), l k (by omega)]
      rcases h.1 k (by omega) with a | a | a
      · exact Or.inl ⟨a.1, by omega, a.2.2⟩
      · exact Or.inr (Or.inl a)
      · exact Or.inr (Or.inr a)
  · by_cases ks : k = s + 1
    · subst ks
      have hs := h.2 s (Nat.le_refl _)
      show (if T' s < 60 then lenC T' s + 1 else if T' s = 216 then lenC T' s else lenC T' s - 1) ≤ n'
      rw [l s (Nat.le_refl _)]
      rcases x with a | a | a
      · rw [if_pos a.2.2.1]; omega
      · rw [if_neg (by omega), if_pos a.1]; omega
      · rw [if_neg (by omega), if_neg (by omega)]; omega
    · rw [l k (by omega)]
      have := h.2 k (by omega)
      omega
theorem wfR_push {T T' : Int → Int} {s : Nat} {n n' : Int} (h : wfR T s n) (nn : n ≤ n') (e : ∀ i : Int, 0 ≤ i → i < s → T' i = T i) (x : (0 ≤ T' s ∧ T' s < n' ∧ n < n') ∨ (T' s = -1 ∧ 1 ≤ lenR T s) ∨ ((T' s = -2 ∨ T' s = -3) ∧ 2 ≤ lenR T s)) : wfR T' (s + 1) n' := by
  have l : ∀ k : Nat, k ≤ s → lenR T' k = lenR T k := fun k hk => lenR_cg k (fun i i0 i1 => e i i0 (by omega))
  refine ⟨fun k hk => ?_, fun k hk => ?_⟩
  · by_cases ks : k = s
    · subst ks
      rw [l k (Nat.le_refl _)]
      rcases x with a | a | a
      · exact Or.inl ⟨a.1, a.2.1⟩
      · exact Or.inr (Or.inl a)
      · exact Or.inr (Or.inr a)
    · rw [e k (by omega) (by omega), l k (by omega)]
      rcases h.1 k (by omega) with a | a | a
      · exact Or.inl ⟨a.1, by omega⟩
      · exact Or.inr (Or.inl a)
      · exact Or.inr (Or.inr a)
  · by_cases ks : k = s + 1
    · subst ks
      have hs := h.2 s (Nat.le_refl _)
      show (if 0 ≤ T' s then lenR T' s + 1 else if T' s = -1 then lenR T' s else lenR T' s - 1) ≤ n'
      rw [l s (Nat.le_refl _)]
      rcases x with a | a | a
      · rw [if_pos a.1]; omega
      · rw [if_neg (by omega), if_pos a.1]; omega
      · rw [if_neg (by omega), if_neg (by omega)]; omega
    · rw [l k (by omega)]
      have := h.2 k (by omega)
      omega
/-- what the class's steps say, what the reference's signs say -/
def SC (c : xw_M) (v : Int → Bool) : List Bool := evC (xR c 291) v (xR c 223 13).toNat
def RS (r : xw_M) (q : Int) (v : Int → Bool) : List Bool := evR (xR r (q + 8)) v (xR r q 11).toNat
/-- few steps: n comparisons, p values wait -/
def SB (c : xw_M) (n p : Int) : Prop := (0 ≤ xR c 223 13 ∧ xR c 223 13 ≤ 2 * (2 * n - p)) ∧ (0 < xR c 223 13 → xR c 291 (xR c 223 13 - 1) ≠ 216 → xR c 223 13 + 1 ≤ 2 * (2 * n - p)) ∧ (∀ v, ((SC c v).length : Int) = p) ∧ wfC (xR c 291) (xR c 223 13).toNat n
def fStp (c c' : xw_M) : Prop := (∀ a, a ≠ 223 → a ≠ 291 → c' a = c a) ∧ ∀ k, k ≠ 13 → c' 223 k = c 223 k
theorem SC_fr {c c' : xw_M} (h1 : c' 223 13 = c 223 13) (h2 : ∀ i, 0 ≤ i → i < xR c 223 13 → xR c' 291 i = xR c 291 i) (v : Int → Bool) : SC c' v = SC c v := by
  unfold SC
  rw [xR_fld h1]
  exact evC_cg _ (fun i i0 i1 => h2 i i0 (by omega))
theorem RS_fr {q : Int} {r r' : xw_M} (h1 : r' q 11 = r q 11) (h2 : ∀ i, 0 ≤ i → i < xR r q 11 → xR r' (q + 8) i = xR r (q + 8) i) (v : Int → Bool) : RS r' q v = RS r q v := by
  unfold RS
  rw [xR_fld h1]
  exact evR_cg _ (fun i i0 i1 => h2 i i0 (by omega))
section STP
variable {B : Nat} {c r : xw_M}
/-- a step is laid down at the end -/
theorem push_c {x : Int} (s0 : 0 ≤ xR c 223 13) (s1 : xR c 223 13 < 240) (hx : w32 x = x) : ∃ c', yk77_44 B x c = some (.inl 0, c') ∧ fStp c c' ∧ xR c' 223 13 = xR c 223 13 + 1 ∧ xR c' 291 (xR c 223 13) = x ∧ (∀ v, SC c' v = opC v x (SC c v)) ∧ ∀ i, i ≠ xR c 223 13 → xR c' 291 i = xR c 291 i := by
  unfold yk77_44
  generalize hs : xR c 223 13 = s at *
  rw [if_pos s1, if_pos ⟨s0, s1⟩]
  refine ⟨_, rfl, ⟨fun a a1 a2 => by rw [xu_c a2, xu_c a1], fun k hk => by rw [xu_ne (by omega), xu_ne (by omega)]⟩, by rw [xR_ne (by omega)]; exact xR_at (w32_id (by omega) (by omega)), xR_at hx, fun v => ?_, fun i hi => by rw [xR_ne (by omega), xR_ne (by omega)]⟩
  unfold SC
  rw [xR_ne (by omega), xR_at (w32_id (by omega) (by omega)), hs]
  obtain ⟨k, rfl⟩ : ∃ k : Nat, s = k := ⟨s.toNat, by omega⟩
  rw [show ((k : Int) + 1).toNat = k + 1 by omega, show ((k : Int)).toNat = k by omega]
  show opC v (xR _ 291 (k : Int)) _ = _
  rw [xR_at hx]
  congr 1
  exact evC_cg k (fun i i0 i1 => by rw [xR_ne (by omega), xR_ne (by omega)])
/-- addStep of a comparison -/
theorem add_n {n p : Int} (h : SB c n p) (n0 : 0 ≤ n) (n1 : n < 60) (p0 : 0 ≤ p) : ∃ c', yf77 B n c = some (.inl 0, c') ∧ fStp c c' ∧ SB c' (n + 1) (p + 1) ∧ ∀ v, SC c' v = v n :: SC c v := by
  obtain ⟨⟨h1, h2⟩, h3, h4, h5⟩ := h
  obtain ⟨c', z, f, e1, e2, e3, e4⟩ := push_c (B := B) (c := c) (x := n) h1 (by omega) (w32_id (by omega) (by omega))
  have e : ∀ v, SC c' v = v n :: SC c v := fun v => by rw [e3 v]; unfold opC; rw [if_pos n1]
  have sn : ((xR c 223 13).toNat : Int) = xR c 223 13 := by omega
  refine ⟨c', by unfold yf77; rw [if_neg (by omega)]; exact z, f, ⟨⟨by omega, by omega⟩, fun _ _ => by omega, fun v => ?_, ?_⟩, e⟩
  · rw [e v, List.length_cons]
    have := h4 v
    omega
  · rw [e1, show (xR c 223 13 + 1).toNat = (xR c 223 13).toNat + 1 by omega]
    exact wfC_push h5 (by omega) (fun i i0 i1 => e4 i (by omega)) (Or.inl (by rw [sn, e2]; omega))
/-- addStep of and, or -/
theorem add_b {x n p : Int} (h : SB c n p) (hx : x = 214 ∨ x = 215) (n1 : n ≤ 60) (p0 : 2 ≤ p) : ∃ c', yf77 B x c = some (.inl 0, c') ∧ fStp c c' ∧ SB c' n (p - 1) ∧ ∀ v, SC c' v = if x = 214 then tA (SC c v) else tO (SC c v) := by
  obtain ⟨⟨h1, h2⟩, h3, h4, h5⟩ := h
  obtain ⟨c', z, f, e1, e2, e3, e4⟩ := push_c (B := B) (c := c) (x := x) h1 (by omega) (w32_id (by omega) (by omega))
  have e : ∀ v, SC c' v = if x = 214 then tA (SC c v) else tO (SC c v) := fun v => by rw [e3 v]; unfold opC; rw [if_neg (by omega), if_neg (by omega)]
  have sn : ((xR c 223 13).toNat : Int) = xR c 223 13 := by omega
  have ll : lenC (xR c 291) (xR c 223 13).toNat = p := by
    rw [← evC_ln (v := fun _ => true) h5 _ (Nat.le_refl _)]
    exact h4 _
  refine ⟨c', by unfold yf77; rw [if_neg (by omega)]; exact z, f, ⟨⟨by omega, by omega⟩, fun _ _ => by omega, fun v => ?_, ?_⟩, e⟩
  · rw [e v]
    have l := h4 v
    split
    · rw [tA_ln (by omega)]; omega
    · rw [tO_ln (by omega)]; omega
  · rw [e1, show (xR c 223 13 + 1).toNat = (xR c 223 13).toNat + 1 by omega]
    exact wfC_push h5 (by omega) (fun i i0 i1 => e4 i (by omega)) (Or.inr (Or.inr (by rw [sn, e2, ll]; omega)))
/-- addStep of not -/
theorem add_not {n p : Int} (h : SB c n p) (n1 : n ≤ 60) (p0 : 1 ≤ p) : ∃ c', yf77 B 216 c = some (.inl 0, c') ∧ fStp c c' ∧ SB c' n p ∧ ∀ v, SC c' v = tN (SC c v) := by
  obtain ⟨⟨h1, h2⟩, h3, h4, h5⟩ := h
  have s0 : 0 < xR c 223 13 := by
    by_cases a : 0 < xR c 223 13
    · exact a
    · have := h4 (fun _ => true)
      unfold SC at this
      rw [show (xR c 223 13).toNat = 0 by omega] at this
      have : (0 : Int) = p := this
      omega
  unfold yf77
  rw [if_pos rfl, if_pos s0, if_pos ⟨by omega, by omega⟩]
  by_cases e : xR c 291 (xR c 223 13 - 1) = 216
  · rw [if_pos e]
    generalize hs : xR c 223 13 = s at *
    have E : ∀ v, SC (xw_u c 223 13 (s - 1)) v = tN (SC c v) := fun v => by
      unfold SC
      rw [xR_at (w32_id (by omega) (by omega)), hs]
      obtain ⟨k, rfl⟩ : ∃ k : Nat, s = k + 1 := ⟨(s - 1).toNat, by omega⟩
      rw [show ((k : Int) + 1 - 1).toNat = k by omega, show ((k : Int) + 1).toNat = k + 1 by omega, xR_cg (xu_c (by omega))]
      rw [show (k : Int) + 1 - 1 = k by omega] at e
      show _ = tN (opC v (xR c 291 (k : Int)) (evC (xR c 291) v k))
      rw [e]
      unfold opC
      rw [if_neg (by decide), if_pos rfl, tN_tN]
    have z : xR (xw_u c 223 13 (s - 1)) 223 13 = s - 1 := xR_at (w32_id (by omega) (by omega))
    refine ⟨_, rfl, ⟨fun a a1 a2 => xu_c a1, fun k hk => xu_ne (by omega)⟩, ⟨by rw [z]; omega, fun _ _ => by rw [z]; omega, fun v => ?_, ?_⟩, E⟩
    · rw [E v, tN_len]
      exact h4 v
    · rw [z, xR_cg (xu_c (by omega))]
      exact wfC_le h5 (by omega)
  · rw [if_neg e]
    have := h3 s0 e
    obtain ⟨c', z, f, e1, e2, e3, e4⟩ := push_c (B := B) (c := c) (x := 216) h1 (by omega) (by decide)
    have E : ∀ v, SC c' v = tN (SC c v) := fun v => by rw [e3 v]; unfold opC; rw [if_neg (by decide), if_pos rfl]
    refine ⟨c', z, f, ⟨⟨by omega, by omega⟩, fun _ k => absurd (by rw [e1, show xR c 223 13 + 1 - 1 = xR c 223 13 by omega]; exact e2) k, fun v => ?_, ?_⟩, E⟩
    · rw [E v, tN_len]
      exact h4 v
    · have sn : ((xR c 223 13).toNat : Int) = xR c 223 13 := by omega
      have ll : lenC (xR c 291) (xR c 223 13).toNat = p := by
        rw [← evC_ln (v := fun _ => true) h5 _ (Nat.le_refl _)]
        exact h4 _
      rw [e1, show (xR c 223 13 + 1).toNat = (xR c 223 13).toNat + 1 by omega]
      exact wfC_push h5 (by omega) (fun i i0 i1 => e4 i (by omega)) (Or.inr (Or.inl (by rw [sn, e2, ll]; omega)))
/-- say, by the reference -/
def fSay (q : Int) (r r' : xw_M) : Prop := (∀ a, a ≠ q → a ≠ q + 8 → r' a = r a) ∧ ∀ k, k ≠ 11 → r' q k = r q k
theorem say_ok {q x : Int} (h6 : xR r 536 6 = 0) (hq : r 536 23 = q) (q0 : q = 544 ∨ q = 558) (s0 : 0 ≤ xR r q 11) (s1 : xR r q 11 < 2600) (hx : w32 x = x) : ∃ r', yf280 B x r = some (.inl 0, r') ∧ fSay q r r' ∧ xR r' q 11 = xR r q 11 + 1 ∧ (∀ v, RS r' q v = opR v x (RS r q v)) ∧ xR r' (q + 8) (xR r q 11) = x ∧ ∀ i, i ≠ xR r q 11 → xR r' (q + 8) i = xR r (q + 8) i := by
  have e : yf280 B x r = some (.inl 0, xw_u (xw_u r (q + 8) (xR r q 11) x) q 11 (xR r q 11 + 1)) := by
    obtain ⟨o, ⟨_, _, _, _, _, _, _, f8, _⟩, ob, ⟨_, _, _, _, _, _, _, l8, _⟩⟩ := q_l B q0
    unfold yf280
    rw [if_pos h6, hq, if_pos o, f8, l8, if_pos ⟨s0, s1⟩, if_pos (ob 8 (by decide) (by decide))]
  rw [e]
  clear e
  generalize hs : xR r q 11 = s at *
  refine ⟨_, rfl, ⟨fun a a1 a2 => by rw [xu_c a1, xu_c a2], fun k hk => by rw [xu_ne (by omega), xu_ne (by omega)]⟩, xR_at (w32_id (by omega) (by omega)), fun v => ?_, by rw [xR_ne (by omega)]; exact xR_at hx, fun i hi => by rw [xR_ne (by omega), xR_ne (by omega)]⟩
  unfold RS
  rw [xR_at (w32_id (by omega) (by omega)), hs]
  obtain ⟨k, rfl⟩ : ∃ k : Nat, s = k := ⟨s.toNat, by omega⟩
  rw [show ((k : Int) + 1).toNat = k + 1 by omega, show ((k : Int)).toNat = k by omega]
  show opR v (xR _ (q + 8) (k : Int)) _ = _
  rw [xR_ne (by omega), xR_at hx]
  congr 1
  exact evR_cg k (fun i i0 i1 => by rw [xR_ne (by omega), xR_ne (by omega)])
end STP
