/-! THE ANSWER, by the class: a row of a table is added to a row of the answer (addTo) -/
/-- an item's value with one more -/
def aup (K f old new : Int) : Int := if K < 210 then old else if 213 < K then old else if K = 210 ∨ K = 211 then w64 (old + new) else if f = 0 then new else if K = 212 then min old new else max old new
theorem w64_aup {K f old new : Int} (h1 : w64 old = old) (h2 : w64 new = new) : w64 (aup K f old new) = aup K f old new := by
  unfold aup
  split
  · exact h1
  · split
    · exact h1
    · split
      · exact w64_w _
      · split
        · exact h2
        · split
          · exact w64_mn h1 h2
          · exact w64_mx h1 h2
theorem c304 (B : Nat) {k : Int} (k0 : 0 ≤ k) (k1 : k < 33) : xw_obb 17 (304 + k) = true ∧ xw_le B (304 + k) = 1024 := by
  have h1 : ∀ j : Nat, j < 33 → xw_obb 17 (304 + (j : Int)) = true := by decide
  have h2 : ∀ j : Nat, j < 33 → (xw_ly (304 + j)).2.1 = 1024 := by decide
  obtain ⟨j, rfl⟩ : ∃ j : Nat, k = j := ⟨k.toNat, by omega⟩
  refine ⟨h1 j (by omega), ?_⟩
  have e : (304 + (j : Int)).toNat = 304 + j := by omega
  have n1 : Nat.beq (304 + j) 516 = false := by
    rw [Bool.eq_false_iff]; intro h; have := Nat.eq_of_beq_eq_true h; omega
  have n2 : Nat.beq (304 + j) 517 = false := by
    rw [Bool.eq_false_iff]; intro h; have := Nat.eq_of_beq_eq_true h; omega
  unfold xw_le xw_ln
  rw [e, n1, n2, h2 j (by omega)]
  rfl
/-- what a row of the table says: how many facts, each item's value -/
def RWs (B : Nat) (m : xw_M) (row cf : Int) (mo : Int → Int) (it : Int) : Prop := (0 ≤ row ∧ row < 1024) ∧ w64 cf = cf ∧ (∀ m' : xw_M, (∀ a, 302 ≤ a → a ≤ 372 → m' a = m a) → yf127 B row m' = some (.inl cf, m')) ∧ (∀ i, 0 ≤ i → i < it → xR m 224 i = 211 → mo i = cf) ∧ ∀ i, 0 ≤ i → i < it → (xR m 224 i = 210 ∨ xR m 224 i = 212 ∨ xR m 224 i = 213) → ∃ cc, (∀ m' : xw_M, (∀ a, 302 ≤ a → a ≤ 372 → m' a = m a) → yf112 B (xR m 224 i) (xR m 225 i) m' = some (.inl cc, m')) ∧ (0 ≤ cc ∧ cc < 33) ∧ xJ m (304 + cc) row = mo i
def fAd (t r : Int) (m m' : xw_M) : Prop := (∀ a, ¬ (t + 13 ≤ a ∧ a ≤ t + 36) → a ≠ t + 39 → m' a = m a) ∧ ∀ a j, j ≠ r → m' a j = m a j
section ADT
variable {B : Nat}
theorem addto_l {m0 : xw_M} {t r row cf it : Int} {mo : Int → Int} (h : t = 420 ∨ t = 464) (r0 : 0 ≤ r) (r1 : r < 4000) (it24 : it ≤ 24) (hi : xR m0 t 6 = it) (W : RWs B m0 row cf mo it) (kb : ∀ i, 0 ≤ i → i < it → xR m0 224 i = 1 ∨ (209 ≤ xR m0 224 i ∧ xR m0 224 i ≤ 213)) : ∀ (N : Nat) (i : Int) (m : xw_M), 0 ≤ i → i ≤ it → (it - i).toNat < N → fAd t r m0 m → m (t + 39) = m0 (t + 39) → (∀ j, i ≤ j → j < it → m (t + 13 + j) = m0 (t + 13 + j)) → (∀ j, 0 ≤ j → j < i → xJ m (t + 13 + j) r = aup (xR m0 224 j) (xJ m0 (t + 39) r) (xJ m0 (t + 13 + j) r) (mo j)) → ∃ m', xl4 (yl126_3 B) N t r row i m = some (.inl 0, m') ∧ fAd t r m0 m' ∧ (∀ j, 0 ≤ j → j < it → xJ m' (t + 13 + j) r = aup (xR m0 224 j) (xJ m0 (t + 39) r) (xJ m0 (t + 13 + j) r) (mo j)) ∧ xJ m' (t + 39) r = w64 (xJ m0 (t + 39) r + cf) := by
  obtain ⟨W1, W2, W3, W4, W5⟩ := W
  have rb : 0 ≤ r ∧ r < 4000 := ⟨r0, r1⟩
  have o9 := (an_f B h).1
  have red : ∀ i, 0 ≤ i → i < 24 → ∀ x : xP, (if xw_obb 8 (xw_rf t 0) = true then if (0 : Int) ≤ i ∧ i < (xw_le B (xw_rf (xw_rf t 0) 1)) then if 5 ≤ xw_kd (xw_rf (xw_rf t 0) 1) i then if xw_obb 21 (xw_rf (xw_rf t 0) 1) = true then x else none else none else none else none) = x := fun i i0 i1 x => by
    have ib : 0 ≤ i ∧ i < 24 := ⟨i0, i1⟩
    obtain ⟨o, ⟨f0, _⟩, ⟨o1, _⟩, _, ⟨_, q1, _⟩, ⟨_, p1⟩, ⟨_, l1⟩⟩ := an_f B h
    obtain ⟨a, b, d, l⟩ := an_i B h i0 i1
    rw [f0, if_pos o1, q1, l1, if_pos ib, if_pos a, if_pos p1]
  have adr : ∀ i, 0 ≤ i → i < 24 → xw_rf (xw_rf (xw_rf t 0) 1) i = t + 13 + i := fun i i0 i1 => by
    obtain ⟨o, ⟨f0, _⟩, _, _, ⟨_, q1, _⟩, _⟩ := an_f B h
    obtain ⟨a, b, d, l⟩ := an_i B h i0 i1
    rw [f0, q1, b]
  have wr : ∀ i, 0 ≤ i → i < 24 → ∀ x : xP, (if (0 : Int) ≤ r ∧ r < (xw_le B (t + 13 + i)) then if xw_obb 17 (t + 13 + i) = true then x else none else none) = x := fun i i0 i1 x => by
    obtain ⟨a, b, d, l⟩ := an_i B h i0 i1
    rw [l, if_pos rb, if_pos d]
  have w39 : ∀ x : xP, (if (0 : Int) ≤ r ∧ r < (xw_le B (xw_rf t 1)) then if xw_obb 17 (xw_rf t 1) = true then x else none else none) = x := fun x => by
    obtain ⟨o, ⟨_, f1, _⟩, ⟨_, o1, _⟩, ⟨l1, _⟩, _⟩ := an_f B h
    rw [f1, l1, if_pos rb, if_pos o1]
  have a39 := fun _ : Unit => (an_f B h).2.1.2.1
  have c34 : ∀ cc, 0 ≤ cc → cc < 33 → ∀ x : xP, (if (0 : Int) ≤ cc ∧ cc < 33 then if (0 : Int) ≤ row ∧ row < (xw_le B (304 + cc)) then if xw_obb 17 (304 + cc) = true then x else none else none else none) = x := fun cc c0 c1 x => by
    obtain ⟨a, b⟩ := c304 B c0 c1
    rw [if_pos ⟨c0, c1⟩, b, if_pos W1, if_pos a]
  intro N
  induction N with
  | zero => intro i m _ _ hN; omega
  | succ N ih =>
    intro i m i0 i1 hN f e39 en eo
    rw [xl4_s]
    have IH := ih (i + 1)
    generalize xl4 (yl126_3 B) N = R at IH ⊢
    have tb : ∀ a, 302 ≤ a → a ≤ 372 → m a = m0 a := fun a a0 a1 => f.1 a (by omega) (by omega)
    have m6 : xR m t 6 = it := by rw [xR_cg (f.1 t (by omega) (by omega))]; exact hi
    have m24 : xR m 224 = xR m0 224 := xR_cg (f.1 224 (by omega) (by omega))
    have m25 : xR m 225 = xR m0 225 := xR_cg (f.1 225 (by omega) (by omega))
    unfold yl126_3
    rw [if_pos o9, m6]
    by_cases e : i < it
    · have i24 : i < 24 := by omega
      have wi : w32 (i + 1) = i + 1 := w32_id (by omega) (by omega)
      have self : xJ m (t + 13 + i) r = xJ m0 (t + 13 + i) r := by rw [xJ_cg (en i (Int.le_refl _) e)]
      -- one item is done
      have go : ∀ v : Int, w64 v = aup (xR m0 224 i) (xJ m0 (t + 39) r) (xJ m0 (t + 13 + i) r) (mo i) → ∃ m', R t r row (i + 1) (xw_u m (t + 13 + i) r v) = some (.inl 0, m') ∧ fAd t r m0 m' ∧ (∀ j, 0 ≤ j → j < it → xJ m' (t + 13 + j) r = aup (xR m0 224 j) (xJ m0 (t + 39) r) (xJ m0 (t + 13 + j) r) (mo j)) ∧ xJ m' (t + 39) r = w64 (xJ m0 (t + 39) r + cf) := fun v hv => by
        refine IH (xw_u m (t + 13 + i) r v) (by omega) (by omega) (by omega) ⟨fun a a1 a2 => by rw [xu_c (by omega), f.1 a a1 a2], fun a j hj => by rw [xu_ne (by omega), f.2 a j hj]⟩ (by rw [xu_c (by omega), e39]) (fun j j0 j1 => by rw [xu_c (by omega), en j (by omega) j1]) (fun j j0 j1 => ?_)
        by_cases q : j = i
        · subst q
          unfold xJ at hv ⊢
          rw [xw_us]
          exact hv
        · rw [xJ_ne (by omega)]
          exact eo j j0 (by omega)
      have skip : aup (xR m0 224 i) (xJ m0 (t + 39) r) (xJ m0 (t + 13 + i) r) (mo i) = xJ m0 (t + 13 + i) r → ∃ m', R t r row (i + 1) m = some (.inl 0, m') ∧ fAd t r m0 m' ∧ (∀ j, 0 ≤ j → j < it → xJ m' (t + 13 + j) r = aup (xR m0 224 j) (xJ m0 (t + 39) r) (xJ m0 (t + 13 + j) r) (mo j)) ∧ xJ m' (t + 39) r = w64 (xJ m0 (t + 39) r + cf) := fun hu => by
        refine IH m (by omega) (by omega) (by omega) f e39 (fun j j0 j1 => en j (by omega) j1) (fun j j0 j1 => ?_)
        by_cases q : j = i
        · subst q
          rw [hu]
          exact self
        · exact eo j j0 (by omega)
      have kk := kb i i0 e
      rw [if_pos e, if_pos (show 0 ≤ i ∧ i < 24 from ⟨i0, i24⟩), m24, m25, wi]
      by_cases kl : xR m0 224 i < 210
      · rw [if_pos kl]
        exact skip (by unfold aup; rw [if_pos kl])
      · rw [if_neg kl, if_neg (show ¬ 213 < xR m0 224 i by omega), red i i0 i24, adr i i0 i24]
        by_cases k11 : xR m0 224 i = 211
        · rw [if_pos k11, W3 m tb, xB_ret]
          unfold yk126_108
          rw [wr i i0 i24, self, wi, ite_self]
          refine go _ ?_
          unfold aup
          rw [if_neg (by omega), if_neg (by omega), if_pos (Or.inr k11), W4 i i0 e k11]
        · obtain ⟨cc, x1, x2, x3⟩ := W5 i i0 e (by omega)
          have v2 : xJ m (304 + cc) row = mo i := by rw [xJ_cg (tb (304 + cc) (by omega) (by omega))]; exact x3
          rw [if_neg k11, x1 m tb, xB_ret, c34 cc x2.1 x2.2, v2]
          have wm : w64 (mo i) = mo i := by rw [← x3]; exact w64_xJ _ _ _
          by_cases k10 : xR m0 224 i = 210
          · rw [if_pos k10]
            unfold yk126_108
            rw [wr i i0 i24, self, wi]
            refine go _ ?_
            unfold aup
            rw [if_neg (by omega), if_neg (by omega), if_pos (Or.inl k10)]
          · have e39' : xJ m (t + 39) r = xJ m0 (t + 39) r := by rw [xJ_cg e39]
            rw [if_neg k10, w39, a39 (), e39']
            by_cases f0 : xJ m0 (t + 39) r = 0
            · rw [if_pos f0, wr i i0 i24]
              refine go _ ?_
              rw [wm]
              unfold aup
              rw [if_neg (by omega), if_neg (by omega), if_neg (by omega), if_pos f0]
            · rw [if_neg f0, wr i i0 i24, wr i i0 i24, self]
              by_cases k12 : xR m0 224 i = 212
              · rw [if_pos k12]
                refine go _ ?_
                rw [w64_mn (w64_xJ _ _ _) wm]
                unfold aup
                rw [if_neg (by omega), if_neg (by omega), if_neg (by omega), if_neg f0, if_pos k12]
              · rw [if_neg k12]
                refine go _ ?_
                rw [w64_mx (w64_xJ _ _ _) wm]
                unfold aup
                rw [if_neg (by omega), if_neg (by omega), if_neg (by omega), if_neg f0, if_neg k12]
    · rw [if_neg e, w39, W3 m tb, xB_ret, a39 ()]
      have e39' : xJ m (t + 39) r = xJ m0 (t + 39) r := by rw [xJ_cg e39]
      refine ⟨_, rfl, ⟨fun a a1 a2 => by rw [xu_c a2, f.1 a a1 a2], fun a j hj => by rw [xu_ne (by omega), f.2 a j hj]⟩, fun j j0 j1 => by rw [xJ_cg (xu_c (by omega))]; exact eo j j0 (by omega), ?_⟩
      rw [e39']
      unfold xJ
      rw [xw_us]
theorem addto_ok {m : xw_M} {t r row cf it : Int} {mo : Int → Int} (h : t = 420 ∨ t = 464) (r0 : 0 ≤ r) (r1 : r < 4000) (it0 : 0 ≤ it) (it24 : it ≤ 24) (hi : xR m t 6 = it) (W : RWs B m row cf mo it) (kb : ∀ i, 0 ≤ i → i < it → xR m 224 i = 1 ∨ (209 ≤ xR m 224 i ∧ xR m 224 i ≤ 213)) : ∃ m', yf126 B t r row m = some (.inl 0, m') ∧ fAd t r m m' ∧ (∀ j, 0 ≤ j → j < it → xJ m' (t + 13 + j) r = aup (xR m 224 j) (xJ m (t + 39) r) (xJ m (t + 13 + j) r) (mo j)) ∧ xJ m' (t + 39) r = w64 (xJ m (t + 39) r + cf) := by
  unfold yf126
  exact addto_l h r0 r1 it24 hi W kb 1000000 0 m (by decide) it0 (by omega) ⟨fun _ _ _ => rfl, fun _ _ _ => rfl⟩ rfl (fun _ _ _ => rfl) (fun j j0 j1 => by omega)
end ADT
