/-! symbolic runs: values, locals, footprints -/
theorem xy_bt {a b : Nat} (h : a < b) : Nat.blt a b = true := Nat.ble_eq_true_of_le h
theorem xy_bf {a b : Nat} (h : ¬ a < b) : Nat.blt a b = false := by
  cases hc : Nat.blt a b with
  | false => rfl
  | true => exact absurd (Nat.le_of_ble_eq_true hc) h
theorem xy_tb {a b : Nat} (h : Nat.blt a b = true) : a < b := Nat.le_of_ble_eq_true h
section XY1
variable {u : xy_U} {n0 : Nat} {h0 : xm_H}
theorem xy_cat (v : Value) : (xy_v u v).category = v.category := by cases v <;> rfl
theorem xy_isA (v : Value) : xm_isA (xy_v u v) = xm_isA v := by cases v <;> rfl
theorem xy_c1 (v : Value) : xm_c1 (xy_v u v) = xm_c1 v := by
  unfold xm_c1
  rw [xy_cat]
theorem xy_vI {v : Value} (h : xy_isI v = true) : xy_v u v = .int (xy_I u v) := by
  cases v <;> first | rfl | cases h
theorem xy_vJ {v : Value} (h : xy_isJ v = true) : xy_v u v = .long (xy_J u v) := by
  cases v <;> first | rfl | cases h
theorem xy_vk {v : Value} (h : xy_kn v = true) : xy_v u v = v := by
  cases v <;> first | rfl | cases h
theorem xy_vf {v : Value} (h : xy_fx v = true) : xy_v u v = v := by
  cases v <;> first | rfl | cases h
theorem xy_mf {l : List Value} (h : l.all xy_fx = true) : l.map (xy_v u) = l := by
  induction l with
  | nil => rfl
  | cons v l ih =>
    rw [List.all_cons, Bool.and_eq_true] at h
    rw [List.map_cons, xy_vf h.1, ih h.2]
theorem xy_mk {l : List Value} (h : l.all xy_kn = true) : l.map (xy_v u) = l := by
  induction l with
  | nil => rfl
  | cons v l ih =>
    rw [List.all_cons, Bool.and_eq_true] at h
    rw [List.map_cons, xy_vk h.1, ih h.2]
def xy_ml (u : xy_U) (loc : xm_L) : xm_L := loc.map (fun q => (q.1, xy_v u q.2))
theorem xy_lg (loc : xm_L) (i : Nat) : xm_lg (xy_ml u loc) i = (xm_lg loc i).map (xy_v u) := by
  unfold xm_lg xy_ml
  rw [List.find?_map, Option.map_map, Option.map_map]
  rfl
theorem xy_s1 (loc : xm_L) (i : Nat) (v : Value) : xm_s1 (xy_ml u loc) i (xy_v u v) = xy_ml u (xm_s1 loc i v) := by
  simp only [xm_s1, xy_ml, List.map_cons, List.filter_map, Function.comp_def, xy_cat]
theorem xy_s2 (loc : xm_L) (i : Nat) (v : Value) : xm_s2 (xy_ml u loc) i (xy_v u v) = xy_ml u (xm_s2 loc i v) := by
  simp only [xm_s2, xy_ml, List.map_cons, List.filter_map, Function.comp_def, xy_cat]
theorem xy_ags (i : Nat) (l : List Value) : xm_args i (l.map (xy_v u)) = xy_ml u (xm_args i l) := by
  induction l generalizing i with
  | nil => rfl
  | cons v l ih =>
    rw [List.map_cons]
    unfold xm_args
    rw [xy_cat, ih]
    rfl
theorem xy_cats (l : List Value) : ((l.map (xy_v u)).map (fun v => v.category)) = l.map (fun v => v.category) := by
  rw [List.map_map]
  exact List.map_congr_left (fun v _ => xy_cat v)
theorem xy_gs : ∀ (n : Nat) (t : xy_T n) (k j : Nat) (c : xm_C), k < 2 ^ n → j < 2 ^ n → xy_get n (xy_set n t k c) j = if j = k then some c else xy_get n t j
  | 0, t, k, j, c, hk, hj => by
    rw [if_pos (by omega)]
    rfl
  | n + 1, t, k, j, c, hk, hj => by
    have e : 2 ^ (n + 1) = 2 ^ n + 2 ^ n := by rw [Nat.pow_succ]; omega
    unfold xy_set xy_get
    by_cases h1 : k < 2 ^ n
    · rw [xy_bt h1]
      by_cases h2 : j < 2 ^ n
      · rw [xy_bt h2]
        exact xy_gs n _ k j c h1 h2
      · rw [xy_bf h2, if_neg (by omega)]
        rfl
    · rw [xy_bf h1]
      by_cases h2 : j < 2 ^ n
      · rw [xy_bt h2, if_neg (by omega)]
        rfl
      · rw [xy_bf h2]
        refine (xy_gs n _ (k - 2 ^ n) (j - 2 ^ n) c (by omega) (by omega)).trans ?_
        by_cases h3 : j = k
        · rw [if_pos h3, if_pos (by omega)]
        · rw [if_neg h3, if_neg (by omega)]
          rfl
theorem xy_hlt {h : xy_W} {a : Nat} {c : xm_C} (e : xy_hg h a = some c) : a < h.2 := by
  unfold xy_hg at e
  cases hb : Nat.blt a h.2 with
  | true => exact xy_tb hb
  | false =>
    rw [hb] at e
    cases e
theorem xy_hgs {h : xy_W} {a k : Nat} {c : xm_C} (ha : a < h.2) (hl : h.2 ≤ 1024) : xy_hg (xy_hs h a c) k = if k = a then some c else xy_hg h k := by
  unfold xy_hg xy_hs
  dsimp only
  by_cases hk : k < h.2
  · rw [xy_bt hk]
    exact xy_gs 10 h.1 a k c (by omega) (by omega)
  · rw [xy_bf hk, if_neg (by omega)]
    rfl
theorem xy_hga {h : xy_W} {k : Nat} {c : xm_C} (hl : h.2 < 1024) : xy_hg (xy_ha h c) k = if k = h.2 then some c else xy_hg h k := by
  unfold xy_hg xy_ha
  dsimp only
  by_cases hk : k < h.2 + 1
  · rw [xy_bt hk]
    refine (xy_gs 10 h.1 h.2 k c (by omega) (by omega)).trans ?_
    by_cases he : k = h.2
    · rw [if_pos he, if_pos he]
    · rw [if_neg he, if_neg he, xy_bt (by omega)]
      rfl
  · rw [xy_bf hk, if_neg (by omega), xy_bf (by omega)]
    rfl
theorem xy_Hset {sh : xy_W} {h : xm_H} {a : Nat} {c c' : xm_C} (A : xy_A u n0 h0) (H : xy_H u n0 h0 sh h) (e : xy_hg sh a = some c) : xy_H u n0 h0 (xy_hs sh a c') (h.set (u.2.2 a) (xy_c u c')) := by
  obtain ⟨h1, h2, h3, h4, h5⟩ := H
  have hlt : u.2.2 a < h.length := (List.getElem?_eq_some_iff.mp (h1 a c e)).1
  refine ⟨fun k d hk => ?_, by rw [List.length_set]; exact h2, h3, h4, fun x hx hn => ?_⟩
  · rw [xy_hgs (xy_hlt e) h4] at hk
    by_cases hka : k = a
    · rw [if_pos hka] at hk
      cases hk
      rw [hka, List.getElem?_set_self hlt]
    · rw [if_neg hka] at hk
      rw [List.getElem?_set_ne (fun hh => hka (A.1 _ _ hh).symm)]
      exact h1 k d hk
  · rw [List.getElem?_set_ne]
    · exact h5 x hx hn
    · intro hh
      by_cases ha : a < n0
      · exact hn a ha hh
      · have := A.2 a (by omega)
        omega
theorem xy_Hnew {sh : xy_W} {h : xm_H} (A : xy_A u n0 h0) (H : xy_H u n0 h0 sh h) : u.2.2 sh.2 = h.length := by
  obtain ⟨-, h2, h3, -, -⟩ := H
  have := A.2 sh.2 h3
  omega
theorem xy_Happ {sh : xy_W} {h : xm_H} {c : xm_C} (A : xy_A u n0 h0) (H : xy_H u n0 h0 sh h) (hl : sh.2 < 1024) : xy_H u n0 h0 (xy_ha sh c) (h ++ [xy_c u c]) := by
  have hn := xy_Hnew A H
  obtain ⟨h1, h2, h3, h4, h5⟩ := H
  refine ⟨fun k d hk => ?_, ?_, ?_, ?_, fun x hx hnx => ?_⟩
  · rw [xy_hga hl] at hk
    by_cases hka : k = sh.2
    · rw [if_pos hka] at hk
      cases hk
      rw [hka, hn, List.getElem?_append_right (Nat.le_refl _), Nat.sub_self]
      rfl
    · rw [if_neg hka] at hk
      have := h1 k d hk
      rw [List.getElem?_append_left (List.getElem?_eq_some_iff.mp this).1]
      exact this
  · rw [List.length_append, List.length_singleton]
    show h.length + 1 + n0 = h0.length + (sh.2 + 1)
    omega
  · show n0 ≤ sh.2 + 1
    omega
  · show sh.2 + 1 ≤ 1024
    omega
  · rw [List.getElem?_append_left (by omega)]
    exact h5 x hx hnx
theorem xy_Hlist (cs : List xm_C) {sh : xy_W} {h : xm_H} (A : xy_A u n0 h0) (H : xy_H u n0 h0 sh h) (hl : sh.2 + cs.length ≤ 1024) : xy_H u n0 h0 (xy_hl sh cs) (h ++ cs.map (xy_c u)) := by
  induction cs generalizing sh h with
  | nil =>
    rw [List.map_nil, List.append_nil]
    exact H
  | cons c cs ih =>
    rw [List.length_cons] at hl
    have := ih (xy_Happ (c := c) A H (by omega)) (show sh.2 + 1 + cs.length ≤ 1024 by omega)
    rw [List.append_assoc] at this
    exact this
/-! arrays -/
theorem xy_ovl (b : List Value) (l : List Value) : (xy_ov u b l).length = b.length := by
  fun_induction xy_ov u b l with
  | case1 k v r ih => rw [List.length_set]; exact ih
  | case2 => rfl
theorem xy_ova (b : List Value) (dv : Value) (j : Nat) (hj : j < b.length) (hb : b[j]? = some (xy_v u dv)) (l : List Value) : (xy_ov u b l)[j]? = some (xy_v u (xy_at j dv l)) := by
  fun_induction xy_ov u b l with
  | case1 k v r ih =>
    unfold xy_at
    by_cases hk : k = j
    · rw [hk, List.getElem?_set_self (by rw [xy_ovl]; exact hj), Nat.beq_refl]
      rfl
    · rw [List.getElem?_set_ne hk, ih, show Nat.beq k j = false from by
        cases hc : Nat.beq k j with
        | false => rfl
        | true => exact absurd (Nat.eq_of_beq_eq_true hc) hk]
      rfl
  | case2 l hne =>
    rw [hb]
    unfold xy_at
    split
    · next k v r => exact absurd rfl (hne k v r)
    · rfl
end XY1
