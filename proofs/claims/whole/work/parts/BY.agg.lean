/-! SUMS OVER FACTS: an amount of a list of facts (sum, count, least, greatest), whatever their order; a source's fold is such an amount -/
def Agg (K : Int) (A : Int → Int) (l : List Int) (v : Int) : Prop := (K = 210 → v = w64 (l.map A).sum) ∧ (K = 211 → v = (l.length : Int)) ∧ (K = 212 → l ≠ [] → (∃ x, x ∈ l ∧ A x = v) ∧ ∀ x, x ∈ l → v ≤ A x) ∧ (K = 213 → l ≠ [] → (∃ x, x ∈ l ∧ A x = v) ∧ ∀ x, x ∈ l → A x ≤ v)
theorem Agg_nil {K : Int} {A : Int → Int} : Agg K A [] 0 := ⟨fun _ => rfl, fun _ => rfl, fun _ h => absurd rfl h, fun _ h => absurd rfl h⟩
theorem lsm_perm {l l' : List Int} (h : l.Perm l') : l.sum = l'.sum := by
  induction h with
  | nil => rfl
  | cons x _ ih => rw [List.sum_cons, List.sum_cons, ih]
  | swap x y l => rw [List.sum_cons, List.sum_cons, List.sum_cons, List.sum_cons]; omega
  | trans _ _ i1 i2 => exact i1.trans i2
theorem Agg_perm {K : Int} {A : Int → Int} {l l' : List Int} {v : Int} (h : l.Perm l') (a : Agg K A l v) : Agg K A l' v := by
  have nn : l' ≠ [] → l ≠ [] := fun n e => n (by rw [e] at h; exact h.nil_eq.symm)
  refine ⟨fun k => by rw [a.1 k, lsm_perm (h.map A)], fun k => by rw [a.2.1 k, h.length_eq], fun k n => ?_, fun k n => ?_⟩
  · obtain ⟨⟨x, x1, x2⟩, y⟩ := a.2.2.1 k (nn n)
    exact ⟨⟨x, h.mem_iff.mp x1, x2⟩, fun z hz => y z (h.mem_iff.mpr hz)⟩
  · obtain ⟨⟨x, x1, x2⟩, y⟩ := a.2.2.2 k (nn n)
    exact ⟨⟨x, h.mem_iff.mp x1, x2⟩, fun z hz => y z (h.mem_iff.mpr hz)⟩
theorem Agg_uniq {K : Int} {A : Int → Int} {l : List Int} {v v' : Int} (hK : 210 ≤ K ∧ K ≤ 213) (n : (K = 212 ∨ K = 213) → l ≠ []) (a : Agg K A l v) (b : Agg K A l v') : v = v' := by
  by_cases k0 : K = 210
  · rw [a.1 k0, b.1 k0]
  by_cases k1 : K = 211
  · rw [a.2.1 k1, b.2.1 k1]
  by_cases k2 : K = 212
  · obtain ⟨⟨x, x1, x2⟩, y⟩ := a.2.2.1 k2 (n (Or.inl k2))
    obtain ⟨⟨x', x1', x2'⟩, y'⟩ := b.2.2.1 k2 (n (Or.inl k2))
    have q1 := y x' x1'
    have q2 := y' x x1
    omega
  · have k3 : K = 213 := by omega
    obtain ⟨⟨x, x1, x2⟩, y⟩ := a.2.2.2 k3 (n (Or.inr k3))
    obtain ⟨⟨x', x1', x2'⟩, y'⟩ := b.2.2.2 k3 (n (Or.inr k3))
    have q1 := y x' x1'
    have q2 := y' x x1
    omega
theorem w64_add2 (x y : Int) : w64 (w64 x + w64 y) = w64 (x + y) := by
  rw [w64_add, Int.add_comm x, w64_add, Int.add_comm]
theorem Agg_app {K : Int} {A : Int → Int} {l l' : List Int} {v v' : Int} (hK : 210 ≤ K ∧ K ≤ 213) (n : l' ≠ []) (len : ((l ++ l').length : Int) ≤ 20000) (a : Agg K A l v) (b : Agg K A l' v') : Agg K A (l ++ l') (aup K (l.length : Int) v v') := by
  rw [List.length_append] at len
  unfold aup
  rw [if_neg (by omega), if_neg (by omega)]
  refine ⟨fun k => ?_, fun k => ?_, fun k _ => ?_, fun k _ => ?_⟩
  · rw [if_pos (Or.inl k), a.1 k, b.1 k, w64_add2, List.map_append, List.sum_append]
  · rw [if_pos (Or.inr k), a.2.1 k, b.2.1 k, List.length_append, w64_id (by omega) (by omega)]
    omega
  · obtain ⟨⟨x', x1', x2'⟩, y'⟩ := b.2.2.1 k n
    rw [if_neg (by omega)]
    by_cases e : (l.length : Int) = 0
    · have e0 : l = [] := List.eq_nil_of_length_eq_zero (by omega)
      rw [if_pos e, e0, List.nil_append]
      exact ⟨⟨x', x1', x2'⟩, y'⟩
    · have ln : l ≠ [] := fun z => e (by rw [z]; rfl)
      obtain ⟨⟨x, x1, x2⟩, y⟩ := a.2.2.1 k ln
      rw [if_neg e, if_pos k]
      refine ⟨?_, fun z hz => ?_⟩
      · by_cases c : v ≤ v'
        · exact ⟨x, List.mem_append.mpr (Or.inl x1), by omega⟩
        · exact ⟨x', List.mem_append.mpr (Or.inr x1'), by omega⟩
      · rcases List.mem_append.mp hz with q | q
        · have := y z q; omega
        · have := y' z q; omega
  · obtain ⟨⟨x', x1', x2'⟩, y'⟩ := b.2.2.2 k n
    rw [if_neg (by omega)]
    by_cases e : (l.length : Int) = 0
    · have e0 : l = [] := List.eq_nil_of_length_eq_zero (by omega)
      rw [if_pos e, e0, List.nil_append]
      exact ⟨⟨x', x1', x2'⟩, y'⟩
    · have ln : l ≠ [] := fun z => e (by rw [z]; rfl)
      obtain ⟨⟨x, x1, x2⟩, y⟩ := a.2.2.2 k ln
      rw [if_neg e, if_neg (by omega)]
      refine ⟨?_, fun z hz => ?_⟩
      · by_cases c : v ≤ v'
        · exact ⟨x', List.mem_append.mpr (Or.inr x1'), by omega⟩
        · exact ⟨x, List.mem_append.mpr (Or.inl x1), by omega⟩
      · rcases List.mem_append.mp hz with q | q
        · have := y z q; omega
        · have := y' z q; omega
/-- the rows of a source are groups of facts: each holds or not as its facts do, has their ranks, their number and amounts -/
def GRP (gs : List (List Int)) (H : Int → Bool) (RF : Int → Int → Int) (k it : Int) (Kd : Int → Int) (A : Int → Int → Int) (hl : Nat → Bool) (rk : Nat → Int → Int) (cf : Nat → Int) (mo : Nat → Int → Int) : Prop := ∀ j, j < gs.length → gs.getD j [] ≠ [] ∧ (∀ x, x ∈ gs.getD j [] → H x = hl j ∧ ∀ g, 0 ≤ g → g < k → RF x g = rk j g) ∧ cf j = ((gs.getD j []).length : Int) ∧ ∀ i, 0 ≤ i → i < it → (210 ≤ Kd i ∧ Kd i ≤ 213) → Agg (Kd i) (A i) (gs.getD j []) (mo j i)
/-- a fact belongs to a key -/
noncomputable def okf (S k : Int) (mk ls : Int → Int) (H : Int → Bool) (RF : Int → Int → Int) (κ : Int → Int) (x : Int) : Bool := H x && mtc2 S k mk ls (RF x) κ
section GRS
variable {gs : List (List Int)} {H : Int → Bool} {RF : Int → Int → Int} {k it S : Int} {mk ls Kd : Int → Int} {A : Int → Int → Int} {hl : Nat → Bool} {rk : Nat → Int → Int} {cf : Nat → Int} {mo : Nat → Int → Int}
theorem mtc2_rk {rk' rk'' κ : Int → Int} (h : ∀ g, 0 ≤ g → g < k → rk' g = rk'' g) : mtc2 S k mk ls rk' κ = mtc2 S k mk ls rk'' κ := by
  have e : ∀ s g, 0 ≤ g → g < k → skey rk' ls (mk s) g = skey rk'' ls (mk s) g := fun s g g0 g1 => by
    unfold skey; rw [h g g0 g1]
  rw [Bool.eq_iff_iff, mtc2_t, mtc2_t]
  constructor
  · rintro ⟨s, s0, s1, z⟩
    exact ⟨s, s0, s1, fun g g0 g1 => by rw [z g g0 g1, e s g g0 g1]⟩
  · rintro ⟨s, s0, s1, z⟩
    exact ⟨s, s0, s1, fun g g0 g1 => by rw [z g g0 g1, e s g g0 g1]⟩
theorem tk_s {gs : List (List Int)} {j : Nat} (h : j < gs.length) : (gs.take (j + 1)).flatten = (gs.take j).flatten ++ gs.getD j [] := by
  rw [List.take_succ, List.getElem?_eq_getElem h, List.flatten_append, List.getD_eq_getElem?_getD, List.getElem?_eq_getElem h]
  simp
theorem fold_ok (G : GRP gs H RF k it Kd A hl rk cf mo) (len : (gs.flatten.length : Int) ≤ 20000) (κ : Int → Int) : ∀ J, J ≤ gs.length → ffc S k mk ls hl rk cf κ J = ((((gs.take J).flatten).filter (okf S k mk ls H RF κ)).length : Int) ∧ (∀ i, 0 ≤ i → i < it → (210 ≤ Kd i ∧ Kd i ≤ 213) → Agg (Kd i) (A i) (((gs.take J).flatten).filter (okf S k mk ls H RF κ)) (ffi S k mk ls (Kd i) hl rk cf (fun j => mo j i) κ J)) ∧ (((gs.take J).flatten).filter (okf S k mk ls H RF κ) = [] → ∀ K mo', ffi S k mk ls K hl rk cf mo' κ J = 0) := by
  have tl : ∀ J, J ≤ gs.length → (gs.take J).flatten.length ≤ gs.flatten.length := fun J _ => by
    have := congrArg List.flatten (List.take_append_drop J gs)
    rw [List.flatten_append] at this
    rw [← this, List.length_append]; omega
  intro J
  induction J with
  | zero => intro _; exact ⟨rfl, fun i _ _ _ => Agg_nil, fun _ _ _ => rfl⟩
  | succ J ih =>
    intro hJ
    obtain ⟨i1, i2, i3⟩ := ih (by omega)
    obtain ⟨g1, g2, g3, g4⟩ := G J (by omega)
    have tJ := tl (J + 1) hJ
    rw [tk_s (by omega)] at tJ
    rw [tk_s (by omega), List.filter_append]
    generalize gs.getD J [] = L at *
    generalize (gs.take J).flatten = F at *
    have cst : ∀ x, x ∈ L → okf S k mk ls H RF κ x = (hl J && mtc2 S k mk ls (rk J) κ) := fun x hx => by
      unfold okf
      rw [(g2 x hx).1, mtc2_rk (g2 x hx).2]
    have fl := List.length_filter_le (okf S k mk ls H RF κ) F
    rw [List.length_append] at tJ
    by_cases c : (hl J && mtc2 S k mk ls (rk J) κ) = true
    · have e : L.filter (okf S k mk ls H RF κ) = L := List.filter_eq_self.mpr (fun x hx => by rw [cst x hx]; exact c)
      rw [e]
      refine ⟨?_, fun i i0 i1' hK => ?_, fun z => absurd (List.append_eq_nil_iff.mp z).2 g1⟩
      · unfold ffc
        rw [if_pos c, i1, g3, List.length_append, w64_id (by omega) (by omega)]
        omega
      · unfold ffi
        rw [if_pos c, i1]
        exact Agg_app hK g1 (by rw [List.length_append]; omega) (i2 i i0 i1' hK) (g4 i i0 i1' hK)
    · have e : L.filter (okf S k mk ls H RF κ) = [] := List.filter_eq_nil_iff.mpr (fun x hx => by rw [cst x hx]; exact c)
      rw [e, List.append_nil]
      refine ⟨?_, fun i i0 i1' hK => ?_, fun z K mo' => by unfold ffi; rw [if_neg c]; exact i3 z K mo'⟩
      · unfold ffc; rw [if_neg c]; exact i1
      · unfold ffi; rw [if_neg c]; exact i2 i i0 i1' hK
/-- a key that must be there, by the facts -/
def KVf (N S k : Int) (mk ls : Int → Int) (H : Int → Bool) (RF : Int → Int → Int) (κ : Int → Int) : Prop := (∃ x, (0 ≤ x ∧ x < N) ∧ okf S k mk ls H RF κ x = true) ∨ ∃ s, (0 ≤ s ∧ s < S) ∧ mk s = 0 ∧ ∀ g, 0 ≤ g → g < k → κ g = ls g
theorem KV_f {N : Int} (G : GRP gs H RF k it Kd A hl rk cf mo) (P : gs.flatten.Perm (lst (fun x => x) N.toNat)) (κ : Int → Int) : KV S k mk ls hl rk gs.length κ ↔ KVf N S k mk ls H RF κ := by
  have mem : ∀ x, x ∈ gs.flatten ↔ 0 ≤ x ∧ x < N := fun x => by
    rw [P.mem_iff, lst_mem]
    constructor
    · rintro ⟨q, q1, rfl⟩; omega
    · intro h; exact ⟨x.toNat, by omega, by omega⟩
  unfold KV KVf
  refine or_congr ?_ Iff.rfl
  constructor
  · rintro ⟨j, j1, j2, j3⟩
    obtain ⟨g1, g2, _⟩ := G j j1
    obtain ⟨x, hx⟩ := List.exists_mem_of_ne_nil _ g1
    refine ⟨x, (mem x).mp (List.mem_flatten.mpr ⟨_, ?_, hx⟩), ?_⟩
    · rw [List.getD_eq_getElem?_getD, List.getElem?_eq_getElem j1]; exact List.getElem_mem j1
    · unfold okf; rw [(g2 x hx).1, j2, mtc2_rk (g2 x hx).2, j3]; rfl
  · rintro ⟨x, x1, x2⟩
    obtain ⟨L, L1, L2⟩ := List.mem_flatten.mp ((mem x).mpr x1)
    obtain ⟨j, j1, j2⟩ := List.getElem_of_mem L1
    have e : gs.getD j [] = L := by rw [List.getD_eq_getElem?_getD, List.getElem?_eq_getElem j1, ← j2]; rfl
    obtain ⟨g1, g2, _⟩ := G j j1
    rw [e] at g2
    unfold okf at x2
    rw [Bool.and_eq_true, (g2 x L2).1, mtc2_rk (g2 x L2).2] at x2
    exact ⟨j, j1, x2.1, x2.2⟩
end GRS
