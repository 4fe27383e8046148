/-! symbolic runs: an instruction -/
def xy_s (u : xy_U) (s : xy_S) (h : xm_H) (ns : Nat) : xm_S := (s.1, xy_ml u s.2.1, s.2.2.1.map (xy_v u), h, ns)
def xy_Nl (u : xy_U) (n L : Nat) : Prop := (Nat.beq n 4000 = false ∧ n = L) ∨ (Nat.beq n 4000 = true ∧ 1 ≤ L ∧ u.1 99 = L.toInt32)
theorem xy_snok {u : xy_U} {n L : Nat} (h : xy_Nl u n L) : xy_v u (xy_sn n) = .int L.toInt32 := by
  unfold xy_sn
  rcases h with ⟨h, e⟩ | ⟨h, -, e⟩
  · rw [h, e]
    rfl
  · rw [h, ← e]
    rfl
theorem xy_smok {u : xy_U} {n L : Nat} (h : xy_Nl u n L) : xy_sm n ≤ L := by
  unfold xy_sm
  rcases h with ⟨h, e⟩ | ⟨h, e, -⟩
  · rw [h, e]
    exact Nat.le_refl _
  · rw [h]
    exact e
def xy_Nok (u : xy_U) (N : xy_N) (xs : Nat → Int32) (L : Nat) (h0 : xm_H) : Prop :=
  (∀ i, ∀ q ∈ N.1 i, xy_e i (q.1.map (xy_v u)) = some (xy_v u q.2)) ∧
  (∀ q ∈ N.2.1, xy_isI q.1 = true ∧ ¬ xy_I u q.1 < 0 ∧ q.2.1 ≤ (xy_I u q.1).toNatClampNeg ∧ (xy_I u q.1).toNatClampNeg ≤ q.2.2) ∧
  h0.length ≤ N.2.2.1 ∧ (∀ j, j < L → xy_v u (N.2.2.2.1 j) = .int (xs j)) ∧ xy_Nl u N.2.2.2.2 L
def xy_G (u : xy_U) (n0 : Nat) (h0 : xm_H) (l : List (xy_Q × xy_S)) (r : Option xm_A) : Prop := ∃ q ∈ l, xy_ok u q.1 ∧ ∃ h' ns', xy_H u n0 h0 q.2.2.2.2.1 h' ∧ ns' ≤ q.2.2.2.2.2 ∧ r = some (.inl (xy_s u q.2 h' ns'))
section XY2
variable {u : xy_U} {n0 : Nat} {h0 : xm_H} {N : xy_N} {xs : Nat → Int32} {L : Nat} {C : xy_Q} {s : xy_S} {h : xm_H} {ns nL : Nat} {ret : Option FieldType} {l : List (xy_Q × xy_S)}
theorem xy_g1 {s' : xy_S} {r : Option xm_A} (e : some [(C, s')] = some l) (h' : xm_H) (ns' : Nat) (hC : xy_ok u C) (H : xy_H u n0 h0 s'.2.2.2.1 h') (hns : ns' ≤ s'.2.2.2.2) (hr : r = some (.inl (xy_s u s' h' ns'))) : xy_G u n0 h0 l r := by
  cases e
  exact ⟨_, List.mem_singleton_self _, hC, h', ns', H, hns, hr⟩
theorem xy_pr {a r : Option xm_A} (hC : xy_ok u C) (H : xy_H u n0 h0 s.2.2.2.1 h) (hns : ns ≤ s.2.2.2.2) (e : xy_1 C s a = some l) (hp : ∀ pc loc st h1 n1, a = some (.inl (pc, loc, st, h1, n1)) → r = some (.inl (pc, xy_ml u loc, st.map (xy_v u), h, ns))) : xy_G u n0 h0 l r := by
  unfold xy_1 at e
  split at e
  · exact xy_g1 e h ns hC H hns (hp _ _ _ _ _ rfl)
  · cases e
section XY3
variable {pc : Nat} {loc : xm_L} {st : List Value} {h1 : xm_H} {n1 : Nat}
theorem xy_h_psh {len : Nat} {v : Value} (hv : xy_v u v = v) (e : xm_psh len v (s.1, s.2.1, s.2.2.1, [], 0) = some (.inl (pc, loc, st, h1, n1))) : xm_psh len v (xy_s u s h ns) = some (.inl (pc, xy_ml u loc, st.map (xy_v u), h, ns)) := by
  unfold xm_psh xm_go at e ⊢
  cases e
  rw [List.map_cons, hv]
  rfl
theorem xy_h_ldA {len i : Nat} (e : xm_ldA len i (s.1, s.2.1, s.2.2.1, [], 0) = some (.inl (pc, loc, st, h1, n1))) : xm_ldA len i (xy_s u s h ns) = some (.inl (pc, xy_ml u loc, st.map (xy_v u), h, ns)) := by
  unfold xm_ldA xm_go at e ⊢
  dsimp only [xy_s] at e ⊢
  rw [xy_lg]
  cases hv : xm_lg s.2.1 i with
  | none =>
    rw [hv] at e
    cases e
  | some v =>
    rw [hv] at e
    simp only [Option.map_some] at e ⊢
    rw [xy_isA]
    by_cases ha : xm_isA v = true
    · rw [if_pos ha] at e ⊢
      cases e
      rfl
    · rw [if_neg ha] at e
      cases e
theorem xy_h_stA {len i : Nat} (e : xm_stA nL len i (s.1, s.2.1, s.2.2.1, [], 0) = some (.inl (pc, loc, st, h1, n1))) : xm_stA nL len i (xy_s u s h ns) = some (.inl (pc, xy_ml u loc, st.map (xy_v u), h, ns)) := by
  unfold xm_stA xm_go at e ⊢
  dsimp only [xy_s] at e ⊢
  cases hst : s.2.2.1 with
  | nil =>
    rw [hst] at e
    cases e
  | cons v r =>
    rw [hst] at e
    rw [List.map_cons]
    dsimp only at e ⊢
    rw [xy_isA]
    by_cases ha : (xm_isA v && decide (i < nL)) = true
    · rw [if_pos ha] at e ⊢
      cases e
      rw [xy_s1]
    · rw [if_neg ha] at e
      cases e
theorem xy_h_dup (e : xm_dup (s.1, s.2.1, s.2.2.1, [], 0) = some (.inl (pc, loc, st, h1, n1))) : xm_dup (xy_s u s h ns) = some (.inl (pc, xy_ml u loc, st.map (xy_v u), h, ns)) := by
  unfold xm_dup xm_go at e ⊢
  dsimp only [xy_s] at e ⊢
  cases hst : s.2.2.1 with
  | nil =>
    rw [hst] at e
    cases e
  | cons v r =>
    rw [hst] at e
    rw [List.map_cons]
    dsimp only at e ⊢
    rw [xy_c1]
    by_cases ha : xm_c1 v = true
    · rw [if_pos ha] at e ⊢
      cases e
      rfl
    · rw [if_neg ha] at e
      cases e
theorem xy_h_pop (e : xm_pop (s.1, s.2.1, s.2.2.1, [], 0) = some (.inl (pc, loc, st, h1, n1))) : xm_pop (xy_s u s h ns) = some (.inl (pc, xy_ml u loc, st.map (xy_v u), h, ns)) := by
  unfold xm_pop xm_go at e ⊢
  dsimp only [xy_s] at e ⊢
  cases hst : s.2.2.1 with
  | nil =>
    rw [hst] at e
    cases e
  | cons v r =>
    rw [hst] at e
    rw [List.map_cons]
    dsimp only at e ⊢
    rw [xy_c1]
    by_cases ha : xm_c1 v = true
    · rw [if_pos ha] at e ⊢
      cases e
      rfl
    · rw [if_neg ha] at e
      cases e
theorem xy_h_dx1 (e : xm_dx1 (s.1, s.2.1, s.2.2.1, [], 0) = some (.inl (pc, loc, st, h1, n1))) : xm_dx1 (xy_s u s h ns) = some (.inl (pc, xy_ml u loc, st.map (xy_v u), h, ns)) := by
  unfold xm_dx1 xm_go at e ⊢
  dsimp only [xy_s] at e ⊢
  cases hst : s.2.2.1 with
  | nil =>
    rw [hst] at e
    cases e
  | cons v r =>
    cases r with
    | nil =>
      rw [hst] at e
      cases e
    | cons w r =>
      rw [hst] at e
      rw [List.map_cons, List.map_cons]
      dsimp only at e ⊢
      rw [xy_c1, xy_c1]
      by_cases ha : (xm_c1 v && xm_c1 w) = true
      · rw [if_pos ha] at e ⊢
        cases e
        rfl
      · rw [if_neg ha] at e
        cases e
theorem xy_h_dx2 (e : xm_dx2 (s.1, s.2.1, s.2.2.1, [], 0) = some (.inl (pc, loc, st, h1, n1))) : xm_dx2 (xy_s u s h ns) = some (.inl (pc, xy_ml u loc, st.map (xy_v u), h, ns)) := by
  unfold xm_dx2 xm_go at e ⊢
  dsimp only [xy_s] at e ⊢
  cases hst : s.2.2.1 with
  | nil =>
    rw [hst] at e
    cases e
  | cons v r =>
    cases r with
    | nil =>
      rw [hst] at e
      cases e
    | cons w r =>
      cases r with
      | nil =>
        rw [hst] at e
        cases e
      | cons z r =>
        rw [hst] at e
        rw [List.map_cons, List.map_cons, List.map_cons]
        dsimp only at e ⊢
        rw [xy_c1, xy_c1, xy_c1]
        by_cases ha : (xm_c1 v && (xm_c1 w && xm_c1 z)) = true
        · rw [if_pos ha] at e ⊢
          cases e
          rfl
        · rw [if_neg ha] at e
          cases e
theorem xy_h_du2 (e : xm_du2 (s.1, s.2.1, s.2.2.1, [], 0) = some (.inl (pc, loc, st, h1, n1))) : xm_du2 (xy_s u s h ns) = some (.inl (pc, xy_ml u loc, st.map (xy_v u), h, ns)) := by
  unfold xm_du2 xm_go at e ⊢
  dsimp only [xy_s] at e ⊢
  cases hst : s.2.2.1 with
  | nil =>
    rw [hst] at e
    cases e
  | cons v r =>
    rw [hst] at e
    rw [List.map_cons]
    dsimp only at e ⊢
    rw [xy_c1]
    by_cases ha : xm_c1 v = true
    · rw [if_pos ha] at e ⊢
      cases r with
      | nil => cases e
      | cons w r =>
        rw [List.map_cons]
        dsimp only at e ⊢
        rw [xy_c1]
        by_cases hb : xm_c1 w = true
        · rw [if_pos hb] at e ⊢
          cases e
          rfl
        · rw [if_neg hb] at e
          cases e
    · rw [if_neg ha] at e ⊢
      cases e
      rfl
theorem xy_h_po2 (e : xm_po2 (s.1, s.2.1, s.2.2.1, [], 0) = some (.inl (pc, loc, st, h1, n1))) : xm_po2 (xy_s u s h ns) = some (.inl (pc, xy_ml u loc, st.map (xy_v u), h, ns)) := by
  unfold xm_po2 xm_go at e ⊢
  dsimp only [xy_s] at e ⊢
  cases hst : s.2.2.1 with
  | nil =>
    rw [hst] at e
    cases e
  | cons v r =>
    rw [hst] at e
    rw [List.map_cons]
    dsimp only at e ⊢
    rw [xy_c1]
    by_cases ha : xm_c1 v = true
    · rw [if_pos ha] at e ⊢
      cases r with
      | nil => cases e
      | cons w r =>
        rw [List.map_cons]
        dsimp only at e ⊢
        rw [xy_c1]
        by_cases hb : xm_c1 w = true
        · rw [if_pos hb] at e ⊢
          cases e
          rfl
        · rw [if_neg hb] at e
          cases e
    · rw [if_neg ha] at e ⊢
      cases e
      rfl
theorem xy_h_nn {t : Nat} (e : xm_nn t (s.1, s.2.1, s.2.2.1, [], 0) = some (.inl (pc, loc, st, h1, n1))) : xm_nn t (xy_s u s h ns) = some (.inl (pc, xy_ml u loc, st.map (xy_v u), h, ns)) := by
  unfold xm_nn xm_go at e ⊢
  dsimp only [xy_s] at e ⊢
  cases hst : s.2.2.1 with
  | nil =>
    rw [hst] at e
    cases e
  | cons v r =>
    rw [hst] at e
    rw [List.map_cons]
    cases v <;> first | (cases e; done) | (cases e; rfl)
theorem xy_h_sw {d lo hi : Int} {offs : Array Int} {x : Int32} {r : List Value} (hst : s.2.2.1 = .int x :: r) (e : xm_sw d lo hi offs (s.1, s.2.1, s.2.2.1, [], 0) = some (.inl (pc, loc, st, h1, n1))) : xm_sw d lo hi offs (xy_s u s h ns) = some (.inl (pc, xy_ml u loc, st.map (xy_v u), h, ns)) := by
  unfold xm_sw xm_go at e ⊢
  dsimp only [xy_s] at e ⊢
  rw [hst] at e ⊢
  rw [List.map_cons, show xy_v u (.int x) = .int x from rfl]
  dsimp only at e ⊢
  by_cases h1 : x.toInt < lo ∨ hi < x.toInt
  · rw [if_pos h1] at e ⊢
    by_cases h2 : 0 ≤ (s.1 : Int) + d
    · rw [if_pos h2] at e
      refine Eq.trans (if_pos h2) ?_
      cases e
      rfl
    · rw [if_neg h2] at e
      cases e
  · rw [if_neg h1] at e ⊢
    cases ho : offs[(x.toInt - lo).toNat]? with
    | none =>
      rw [ho] at e
      cases e
    | some o =>
      rw [ho] at e
      dsimp only at e ⊢
      by_cases h2 : 0 ≤ (s.1 : Int) + o
      · rw [if_pos h2] at e
        refine Eq.trans (if_pos h2) ?_
        cases e
        rfl
      · rw [if_neg h2] at e
        cases e
end XY3
/-! computing -/
theorem xy_lkok {i : Instr} {ops : List Value} {v : Value} (hN : xy_Nok u N xs L h0) (e : xy_lk N i ops = some v) : xy_e i (ops.map (xy_v u)) = some (xy_v u v) := by
  unfold xy_lk at e
  cases hk : ops.all xy_kn with
  | true =>
    rw [hk, cond_true] at e
    cases hw : xy_e i ops with
    | none =>
      rw [hw] at e
      cases e
    | some w =>
      rw [hw] at e
      dsimp only at e
      cases hw2 : xy_kn w with
      | true =>
        rw [hw2] at e
        cases e
        rw [xy_mk hk, hw, xy_vk hw2]
      | false =>
        rw [hw2] at e
        cases e
  | false =>
    rw [hk, cond_false] at e
    cases hq : (N.1 i).find? (fun q => decide (q.1 = ops)) with
    | none =>
      rw [hq] at e
      cases e
    | some q =>
      rw [hq] at e
      cases e
      have h1 := hN.1 i q (List.mem_of_find?_eq_some hq)
      have h2 := List.find?_some hq
      rw [of_decide_eq_true h2] at h1
      exact h1
section XY4
variable {pc : Nat} {loc : xm_L} {r : List Value} {v x y : Value}
theorem xy_xii {f : Int32 → Int32 → Int32} (e : xy_x (xm_ii f (0, [], [y, x], [], 0)) = some v) : xm_ii f (pc, loc, y :: x :: r, h, ns) = some (.inl (pc + 1, loc, v :: r, h, ns)) := by
  cases y <;> cases x <;> first | (cases e; done) | (cases e; rfl)
theorem xy_xiz {f : Int32 → Int32 → Int32} (e : xy_x (xm_iz f (0, [], [y, x], [], 0)) = some v) : xm_iz f (pc, loc, y :: x :: r, h, ns) = some (.inl (pc + 1, loc, v :: r, h, ns)) := by
  cases y <;> cases x <;> first | (cases e; done) | skip
  next b a =>
    unfold xm_iz at e ⊢
    dsimp only at e ⊢
    by_cases hz : b = 0
    · rw [if_pos hz] at e
      cases e
    · rw [if_neg hz] at e ⊢
      cases e
      rfl
theorem xy_xjj {f : Int64 → Int64 → Int64} (e : xy_x (xm_jj f (0, [], [y, x], [], 0)) = some v) : xm_jj f (pc, loc, y :: x :: r, h, ns) = some (.inl (pc + 1, loc, v :: r, h, ns)) := by
  cases y <;> cases x <;> first | (cases e; done) | (cases e; rfl)
theorem xy_xjz {f : Int64 → Int64 → Int64} (e : xy_x (xm_jz f (0, [], [y, x], [], 0)) = some v) : xm_jz f (pc, loc, y :: x :: r, h, ns) = some (.inl (pc + 1, loc, v :: r, h, ns)) := by
  cases y <;> cases x <;> first | (cases e; done) | skip
  next b a =>
    unfold xm_jz at e ⊢
    dsimp only at e ⊢
    by_cases hz : b = 0
    · rw [if_pos hz] at e
      cases e
    · rw [if_neg hz] at e ⊢
      cases e
      rfl
theorem xy_xji {f : Int64 → Int32 → Int64} (e : xy_x (xm_ji f (0, [], [y, x], [], 0)) = some v) : xm_ji f (pc, loc, y :: x :: r, h, ns) = some (.inl (pc + 1, loc, v :: r, h, ns)) := by
  cases y <;> cases x <;> first | (cases e; done) | (cases e; rfl)
theorem xy_xcm (e : xy_x (xm_cmp (0, [], [y, x], [], 0)) = some v) : xm_cmp (pc, loc, y :: x :: r, h, ns) = some (.inl (pc + 1, loc, v :: r, h, ns)) := by
  cases y <;> cases x <;> first | (cases e; done) | (cases e; rfl)
theorem xy_xi1 {f : Int32 → Value} (e : xy_x (xm_i1 f (0, [], [x], [], 0)) = some v) : xm_i1 f (pc, loc, x :: r, h, ns) = some (.inl (pc + 1, loc, v :: r, h, ns)) := by
  cases x <;> first | (cases e; done) | (cases e; rfl)
theorem xy_xj1 {f : Int64 → Value} (e : xy_x (xm_j1 f (0, [], [x], [], 0)) = some v) : xm_j1 f (pc, loc, x :: r, h, ns) = some (.inl (pc + 1, loc, v :: r, h, ns)) := by
  cases x <;> first | (cases e; done) | (cases e; rfl)
end XY4
theorem xy_l2 {α : Type} {a : List α} (h : a.length = 2) : ∃ y x, a = [y, x] := by
  match a, h with
  | [y, x], _ => exact ⟨y, x, rfl⟩
theorem xy_l1 {α : Type} {a : List α} (h : a.length = 1) : ∃ x, a = [x] := by
  match a, h with
  | [x], _ => exact ⟨x, rfl⟩
theorem xy_loc {i : Instr} {ops r : List Value} {v : Value} {G : xm_G} {pc len x z : Nat} {loc : xm_L} (hl : ops.length = xy_ary i) (hz : xy_ary i ≠ 0) (e : xy_e i ops = some v) : xm_next G nL ret (i, len, x, z) (pc, loc, ops ++ r, h, ns) = some (.inl (pc + 1, loc, v :: r, h, ns)) := by
  cases i <;> first
    | exact absurd rfl hz
    | (obtain ⟨y, x, rfl⟩ := xy_l2 hl; exact xy_xii e)
    | (obtain ⟨y, x, rfl⟩ := xy_l2 hl; exact xy_xjj e)
    | (obtain ⟨y, x, rfl⟩ := xy_l2 hl; exact xy_xji e)
    | (obtain ⟨y, x, rfl⟩ := xy_l2 hl; exact xy_xiz e)
    | (obtain ⟨y, x, rfl⟩ := xy_l2 hl; exact xy_xjz e)
    | (obtain ⟨y, x, rfl⟩ := xy_l2 hl; exact xy_xcm e)
    | (obtain ⟨x, rfl⟩ := xy_l1 hl; exact xy_xi1 e)
    | (obtain ⟨x, rfl⟩ := xy_l1 hl; exact xy_xj1 e)
theorem xy_cpok {i : Instr} {len x z : Nat} (hz : xy_ary i ≠ 0) (hN : xy_Nok u N xs L h0) (hC : xy_ok u C) (H : xy_H u n0 h0 s.2.2.2.1 h) (hns : ns ≤ s.2.2.2.2) (e : xy_cp N C i (xy_ary i) s = some l) : xy_G u n0 h0 l (xm_next (xm_gg xs L) nL ret (i, len, x, z) (xy_s u s h ns)) := by
  unfold xy_cp at e
  cases hb : Nat.ble (xy_ary i) s.2.2.1.length with
  | false =>
    rw [hb] at e
    cases e
  | true =>
    rw [hb, cond_true] at e
    cases hv : xy_lk N i (s.2.2.1.take (xy_ary i)) with
    | none =>
      rw [hv] at e
      cases e
    | some v =>
      rw [hv] at e
      have h1 := xy_lkok hN hv
      have h2 := Nat.le_of_ble_eq_true hb
      refine xy_g1 e h ns hC H hns ?_
      have h3 := xy_loc (G := xm_gg xs L) (nL := nL) (ret := ret) (h := h) (ns := ns) (r := (s.2.2.1.drop (xy_ary i)).map (xy_v u)) (pc := s.1) (loc := xy_ml u s.2.1) (len := len) (x := x) (z := z) (by rw [List.length_map, List.length_take]; omega) hz h1
      rw [← List.map_append, List.take_append_drop] at h3
      exact h3
/-! branches -/
theorem xy_mhok {x : Int32} {b : Value} {both t : Bool} (hC : xy_ok u C) (e : xy_mh C x b both = some (some t)) : xy_t u 0 (.int x) b = t := by
  unfold xy_mh at e
  split at e
  · next k1 h b1 hq1 =>
    have g1 := List.find?_some hq1
    rw [Bool.and_eq_true] at g1
    have g2 := hC _ (List.mem_of_find?_eq_some hq1)
    have f1 : k1 = 3 := Nat.eq_of_beq_eq_true g1.1
    have f2 : b1 = b := of_decide_eq_true g1.2
    subst f1 f2
    have g3 : ¬ h < xy_I u b1 := of_decide_eq_false g2
    split at e
    · next hx =>
      cases e
      show decide (x < xy_I u b1) = false
      rw [Int32.le_iff_toInt_le] at hx
      rw [Int32.lt_iff_toInt_lt] at g3
      exact decide_eq_false (fun hh => by rw [Int32.lt_iff_toInt_lt] at hh; omega)
    · cases both <;> cases e
  · cases e
theorem xy_mqok {a b : Value} {t : Bool} (hC : xy_ok u C) (e : xy_mq C a b = some (some t)) : xy_t u 0 a b = t := by
  unfold xy_mq at e
  split at e
  · next x =>
    split at e
    · next k0 l b0 hq =>
      have h1 := List.find?_some hq
      rw [Bool.and_eq_true] at h1
      have h2 := hC _ (List.mem_of_find?_eq_some hq)
      have e1 : k0 = 2 := Nat.eq_of_beq_eq_true h1.1
      have e2 : b0 = b := of_decide_eq_true h1.2
      subst e1 e2
      have h3 : l < xy_I u b0 := of_decide_eq_true h2
      split at e
      · next hx =>
        cases e
        show decide (x < xy_I u b0) = true
        rw [Int32.le_iff_toInt_le] at hx
        rw [Int32.lt_iff_toInt_lt] at h3
        exact decide_eq_true (Int32.lt_iff_toInt_lt.mpr (by omega))
      · exact xy_mhok hC e
    · exact xy_mhok hC e
  · cases e
theorem xy_qok {k : Nat} {a b : Value} {t : Bool} (hC : xy_ok u C) (e : xy_q C k a b = some t) : xy_t u k a b = t := by
  unfold xy_q at e
  split at e
  · cases e
    rfl
  · split at e
    · next r hr =>
      cases hk : Nat.beq k 0 with
      | false =>
        rw [hk] at hr
        cases hr
      | true =>
        rw [hk, cond_true] at hr
        subst e
        rw [Nat.eq_of_beq_eq_true hk]
        exact xy_mqok hC hr
    · split at e
      · next q hq =>
        cases e
        have h1 := List.find?_some hq
        rw [Bool.and_eq_true, Bool.and_eq_true] at h1
        have h2 := hC q (List.mem_of_find?_eq_some hq)
        rw [Nat.eq_of_beq_eq_true h1.1, of_decide_eq_true h1.2.1, of_decide_eq_true h1.2.2] at h2
        exact h2
      · cases e
theorem xy_pkt {k : Nat} {a b : Value} {t : Bool} : xy_t u (xy_pk k a t) a b = xy_t u k a b := by
  unfold xy_pk
  split
  · cases hk : Nat.beq k 0 with
    | false => rfl
    | true =>
      rw [Nat.eq_of_beq_eq_true hk]
      cases t <;> rfl
  · rfl
theorem xy_spok {α : Type} {f : Bool → α} (hC : xy_ok u C) (k : Nat) (a b : Value) : ∃ q ∈ xy_sp C k a b f, xy_ok u q.1 ∧ q.2 = f (xy_t u k a b) := by
  unfold xy_sp
  split
  · next t ht => exact ⟨_, List.mem_singleton_self _, hC, by rw [xy_qok hC ht]⟩
  · cases hb : xy_t u k a b with
    | true =>
      refine ⟨_, List.mem_cons_self, fun q hq => ?_, rfl⟩
      rcases List.mem_cons.mp hq with rfl | hq
      · exact xy_pkt.trans hb
      · exact hC q hq
    | false =>
      refine ⟨_, List.mem_cons_of_mem _ (List.mem_singleton_self _), fun q hq => ?_, rfl⟩
      rcases List.mem_cons.mp hq with rfl | hq
      · exact xy_pkt.trans hb
      · exact hC q hq
theorem xy_icok {t k : Nat} {sw neg : Bool} {P : Int32 → Int32 → Bool} (hP : ∀ x y : Value, P (xy_I u x) (xy_I u y) = xor (xy_t u k (bif sw then y else x) (bif sw then x else y)) neg) (hC : xy_ok u C) (H : xy_H u n0 h0 s.2.2.2.1 h) (hns : ns ≤ s.2.2.2.2) (e : xy_ic C t k sw neg s = some l) : xy_G u n0 h0 l (xm_ic t P (xy_s u s h ns)) := by
  unfold xy_ic at e
  split at e
  · next y x r hst =>
    cases hi : xy_isI x && xy_isI y with
    | false =>
      rw [hi] at e
      cases e
    | true =>
      rw [hi, cond_true] at e
      cases e
      rw [Bool.and_eq_true] at hi
      obtain ⟨q, hq, hq1, hq2⟩ := xy_spok (f := fun b => xy_gi s t r (xor b neg)) hC k (bif sw then y else x) (bif sw then x else y)
      refine ⟨q, hq, hq1, h, ns, ?_, ?_, ?_⟩
      · rw [hq2]
        exact H
      · rw [hq2]
        exact hns
      · rw [hq2]
        unfold xm_ic xm_go xy_s xy_gi
        dsimp only
        rw [hst, List.map_cons, List.map_cons, xy_vI hi.1, xy_vI hi.2]
        dsimp only
        rw [hP]
        cases xor (xy_t u k (bif sw then y else x) (bif sw then x else y)) neg <;> rfl
  · cases e
theorem xy_ifok {t k : Nat} {sw neg : Bool} {P : Int32 → Bool} (hP : ∀ x : Value, P (xy_I u x) = xor (xy_t u k (bif sw then .int 0 else x) (bif sw then x else .int 0)) neg) (hC : xy_ok u C) (H : xy_H u n0 h0 s.2.2.2.1 h) (hns : ns ≤ s.2.2.2.2) (e : xy_if C t k sw neg s = some l) : xy_G u n0 h0 l (xm_if t P (xy_s u s h ns)) := by
  unfold xy_if at e
  split at e
  · next x r hst =>
    cases hi : xy_isI x with
    | false =>
      rw [hi] at e
      cases e
    | true =>
      rw [hi, cond_true] at e
      cases e
      obtain ⟨q, hq, hq1, hq2⟩ := xy_spok (f := fun b => xy_gi s t r (xor b neg)) hC k (bif sw then .int 0 else x) (bif sw then x else .int 0)
      refine ⟨q, hq, hq1, h, ns, ?_, ?_, ?_⟩
      · rw [hq2]
        exact H
      · rw [hq2]
        exact hns
      · rw [hq2]
        unfold xm_if xm_go xy_s xy_gi
        dsimp only
        rw [hst, List.map_cons, xy_vI hi]
        dsimp only
        rw [hP]
        cases xor (xy_t u k (bif sw then .int 0 else x) (bif sw then x else .int 0)) neg <;> rfl
  · cases e
/-! locals -/
theorem xy_ldIok {len i : Nat} (hC : xy_ok u C) (H : xy_H u n0 h0 s.2.2.2.1 h) (hns : ns ≤ s.2.2.2.2) (e : xy_ldI C len i s = some l) : xy_G u n0 h0 l (xm_ldI len i (xy_s u s h ns)) := by
  unfold xy_ldI at e
  cases hv : xm_lg s.2.1 i with
  | none =>
    rw [hv] at e
    cases e
  | some v =>
    rw [hv] at e
    dsimp only at e
    cases hi : xy_isI v with
    | false =>
      rw [hi] at e
      cases e
    | true =>
      rw [hi, cond_true] at e
      refine xy_g1 e h ns hC H hns ?_
      unfold xm_ldI xm_go xy_s
      dsimp only
      rw [xy_lg, hv, Option.map_some, List.map_cons, xy_vI hi]
theorem xy_ldJok {len i : Nat} (hC : xy_ok u C) (H : xy_H u n0 h0 s.2.2.2.1 h) (hns : ns ≤ s.2.2.2.2) (e : xy_ldJ C len i s = some l) : xy_G u n0 h0 l (xm_ldJ len i (xy_s u s h ns)) := by
  unfold xy_ldJ at e
  cases hv : xm_lg s.2.1 i with
  | none =>
    rw [hv] at e
    cases e
  | some v =>
    rw [hv] at e
    dsimp only at e
    cases hi : xy_isJ v with
    | false =>
      rw [hi] at e
      cases e
    | true =>
      rw [hi, cond_true] at e
      refine xy_g1 e h ns hC H hns ?_
      unfold xm_ldJ xm_go xy_s
      dsimp only
      rw [xy_lg, hv, Option.map_some, List.map_cons, xy_vJ hi]
theorem xy_stIok {len i : Nat} (hC : xy_ok u C) (H : xy_H u n0 h0 s.2.2.2.1 h) (hns : ns ≤ s.2.2.2.2) (e : xy_stI C nL len i s = some l) : xy_G u n0 h0 l (xm_stI nL len i (xy_s u s h ns)) := by
  unfold xy_stI at e
  split at e
  · next v r hst =>
    cases hi : xy_isI v && Nat.blt i nL with
    | false =>
      rw [hi] at e
      cases e
    | true =>
      rw [hi, cond_true] at e
      rw [Bool.and_eq_true] at hi
      refine xy_g1 e h ns hC H hns ?_
      unfold xm_stI xm_go xy_s
      dsimp only
      rw [hst, List.map_cons, ← xy_s1, xy_vI hi.1]
      dsimp only
      rw [if_pos (xy_tb hi.2)]
  · cases e
theorem xy_stJok {len i : Nat} (hC : xy_ok u C) (H : xy_H u n0 h0 s.2.2.2.1 h) (hns : ns ≤ s.2.2.2.2) (e : xy_stJ C nL len i s = some l) : xy_G u n0 h0 l (xm_stJ nL len i (xy_s u s h ns)) := by
  unfold xy_stJ at e
  split at e
  · next v r hst =>
    cases hi : xy_isJ v && Nat.blt (i + 1) nL with
    | false =>
      rw [hi] at e
      cases e
    | true =>
      rw [hi, cond_true] at e
      rw [Bool.and_eq_true] at hi
      refine xy_g1 e h ns hC H hns ?_
      unfold xm_stJ xm_go xy_s
      dsimp only
      rw [hst, List.map_cons, ← xy_s2, xy_vJ hi.1]
      dsimp only
      rw [if_pos (xy_tb hi.2)]
  · cases e
theorem xy_incok {len i : Nat} {n : Int} (hN : xy_Nok u N xs L h0) (hC : xy_ok u C) (H : xy_H u n0 h0 s.2.2.2.1 h) (hns : ns ≤ s.2.2.2.2) (e : xy_inc N C nL len i n s = some l) : xy_G u n0 h0 l (xm_inc nL len i n (xy_s u s h ns)) := by
  unfold xy_inc at e
  cases hv : xm_lg s.2.1 i with
  | none =>
    rw [hv] at e
    cases e
  | some v =>
    rw [hv] at e
    dsimp only at e
    cases hi : xy_isI v && Nat.blt i nL with
    | false =>
      rw [hi] at e
      cases e
    | true =>
      rw [hi, cond_true] at e
      rw [Bool.and_eq_true] at hi
      cases hw : xy_lk N .iadd [.int (Int32.ofInt n), v] with
      | none =>
        rw [hw] at e
        cases e
      | some w =>
        rw [hw] at e
        dsimp only at e
        cases hi2 : xy_isI w with
        | false =>
          rw [hi2] at e
          cases e
        | true =>
          rw [hi2, cond_true] at e
          have h1 := xy_lkok hN hw
          rw [List.map_cons, List.map_cons, List.map_nil, xy_vI hi.1, show xy_v u (.int (Int32.ofInt n)) = .int (Int32.ofInt n) from rfl] at h1
          have h2 : Value.int (xy_I u v + Int32.ofInt n) = xy_v u w := Option.some.inj h1
          refine xy_g1 e h ns hC H hns ?_
          unfold xm_inc xm_go xy_s
          dsimp only
          rw [xy_lg, hv, Option.map_some, xy_vI hi.1]
          dsimp only
          rw [if_pos (xy_tb hi.2), h2, xy_s1]
end XY2
