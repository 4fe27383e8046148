/-! THE ANSWER, by the class: the rows of a segment come in (addPart, its inner loop) -/
/-- a row of the table that is in memory is the j-th of the source -/
def RDY (B : Nat) (m : xw_M) (x k it : Int) (hl : Bool) (rk : Int → Int) (cf : Int) (mo : Int → Int) : Prop := RWs B m x cf mo it ∧ RKs B m x k rk ∧ ∀ m' : xw_M, (∀ a, a < 420 → m' a = m a) → yf123 B x m' = some (.inl (b01 hl), m')
/-- what is fixed while rows come in -/
def FX (m : xw_M) (t k it S : Int) (mk ls K : Int → Int) : Prop := (t = 420 ∨ t = 464) ∧ (xR m 223 6 = k ∧ 0 ≤ k ∧ k ≤ 8) ∧ (xR m t 6 = it ∧ 0 ≤ it ∧ it ≤ 24) ∧ (xR m 223 8 = S ∧ 0 ≤ S ∧ S ≤ 32) ∧ (∀ s, xR m 228 s = mk s) ∧ (∀ g, 0 ≤ g → g < k → xR m (t + 43) g = ls g) ∧ ∀ i, 0 ≤ i → i < it → xR m 224 i = K i ∧ (K i = 1 ∨ (209 ≤ K i ∧ K i ≤ 213))
theorem RKs_fr {B : Nat} {m m' : xw_M} {row k : Int} {rk : Int → Int} (K : RKs B m row k rk) (h : ∀ a, a < 420 → m' a = m a) : RKs B m' row k rk := by
  intro g g0 g1
  obtain ⟨d, l, p, c1, c2, c3, c4, c5, c6⟩ := K g g0 g1
  refine ⟨d, l, p, ?_, c2, c3, fun m2 h2 => c4 m2 (fun a ha => by rw [h2 a ha, h a ha]), c5, ?_⟩
  · rw [xR_cg (h 227 (by omega))]; exact c1
  · rw [xR_cg (h _ (by omega))]; exact c6
theorem RDY_fr {B : Nat} {m m' : xw_M} {x k it cf : Int} {hl : Bool} {rk mo : Int → Int} (R : RDY B m x k it hl rk cf mo) (h : ∀ a, a < 420 → m' a = m a) : RDY B m' x k it hl rk cf mo :=
  ⟨RWs_fr R.1 (fun a _ a1 => h a (by omega)), RKs_fr R.2.1 h, fun m2 h2 => R.2.2 m2 (fun a ha => by rw [h2 a ha, h a ha])⟩
theorem FX_fr {m m' : xw_M} {t k it S : Int} {mk ls K : Int → Int} (F : FX m t k it S mk ls K) (h : ∀ a, a < 420 → m' a = m a) (h6 : m' t 6 = m t 6) (h43 : m' (t + 43) = m (t + 43)) : FX m' t k it S mk ls K := by
  obtain ⟨f0, f1, f2, f3, f4, f5, f6⟩ := F
  have e1 := xR_cg (h 223 (by omega))
  have e2 := xR_cg (h 224 (by omega))
  have e3 := xR_cg (h 228 (by omega))
  have e4 := xR_cg h43
  refine ⟨f0, by rw [e1]; exact f1, ?_, by rw [e1]; exact f3, by rw [e3]; exact f4, by rw [e4]; exact f5, by rw [e2]; exact f6⟩
  unfold xR; rw [h6]; exact f2
theorem fAW_lo {t : Int} {m m' : xw_M} (h : t = 420 ∨ t = 464) (f : fAW t m m') : ∀ a, a < 420 → m' a = m a := fun a ha => f.1 a (by omega) (by omega) (by omega) (by omega) (by omega) (by omega) (by omega)
theorem fAW_43 {t : Int} {m m' : xw_M} (f : fAW t m m') : m' (t + 43) = m (t + 43) := f.1 _ (by omega) (by omega) (by omega) (by omega) (by omega) (by omega) (by omega)
section SEG
variable {B : Nat} {t k it S : Int} {mk ls K : Int → Int} {hl : Nat → Bool} {rk : Nat → Int → Int} {cf : Nat → Int} {mo : Nat → Int → Int}
/-- rows have come in: all is well, or there were too many -/
def ST (m : xw_M) (t k it S : Int) (mk ls K : Int → Int) (hl : Nat → Bool) (rk : Nat → Int → Int) (cf : Nat → Int) (mo : Nat → Int → Int) (J : Nat) : Prop := (xR m t 8 = 0 ∧ ∃ n, AS m t k it n S mk ls K hl rk cf mo J) ∨ ∃ J', J' ≤ J ∧ AO m t k S mk ls hl rk J'
theorem ST_m {m : xw_M} {J J' : Nat} (e : J ≤ J') (h : ¬ xR m t 8 = 0) (s : ST m t k it S mk ls K hl rk cf mo J) : ST m t k it S mk ls K hl rk cf mo J' := by
  rcases s with ⟨s, _⟩ | ⟨j, j1, s⟩
  · exact absurd s h
  · exact Or.inr ⟨j, by omega, s⟩
theorem rowin {m : xw_M} {x : Int} {J : Nat} (F : FX m t k it S mk ls K) (R : RDY B m x k it (hl J) (rk J) (cf J) (mo J)) (dd : ∀ s s', 0 ≤ s → s < S → 0 ≤ s' → s' < S → (∀ g, 0 ≤ g → g < k → skey (rk J) ls (mk s) g = skey (rk J) ls (mk s') g) → s = s') (h8 : xR m t 8 = 0) (s : ST m t k it S mk ls K hl rk cf mo J) (X : xw_M → xP) : ∃ m', (xB (yf123 B x m) fun v1 m1 => if v1 = 0 then X m1 else (xB (yf125 B t x m1) fun _ m2 => X m2)) = X m' ∧ fAW t m m' ∧ ST m' t k it S mk ls K hl rk cf mo (J + 1) := by
  rcases s with ⟨_, n, A⟩ | ⟨j, _, s⟩
  · rw [R.2.2 m (fun _ _ => rfl), xB_ret]
    cases hj : hl J with
    | false => exact ⟨m, by rw [if_pos (by rfl)], fAW_r, Or.inl ⟨h8, n, as_skip hj A⟩⟩
    | true =>
      obtain ⟨f0, f1, f2, f3, f4, f5, f6⟩ := F
      obtain ⟨m', e, fr, r⟩ := addrow_ok (B := B) (m := m) (t := t) (row := x) f0 f1.1 f1.2.1 f1.2.2 f2.1 f2.2.1 f2.2.2 f3.1 f3.2.1 f3.2.2 f4 f5 R.1 R.2.1 (fun i i0 i1 => by rw [(f6 i i0 i1).1]; exact (f6 i i0 i1).2) dd A.1
      refine ⟨m', by rw [if_neg (by decide), e, xB_ret], fr, ?_⟩
      rcases r with ⟨n', M, et⟩ | O
      · exact Or.inl ⟨by rw [xR_cg et]; exact h8, n', as_step hj (fun i i0 i1 => (f6 i i0 i1).1) A M⟩
      · exact Or.inr ⟨J + 1, Nat.le_refl _, as_over hj A O⟩
  · have := s.1; omega
theorem rows_l {m0 : xw_M} {J0 : Nat} {n x3 x4 x5 : Int} {r14 : Int → Int → Int → Int → xw_M → xP} (n1 : n ≤ 1024) (F : FX m0 t k it S mk ls K) (R : ∀ x : Nat, (x : Int) < n → RDY B m0 x k it (hl (J0 + x)) (rk (J0 + x)) (cf (J0 + x)) (mo (J0 + x))) (dd : ∀ x : Nat, (x : Int) < n → ∀ s s', 0 ≤ s → s < S → 0 ≤ s' → s' < S → (∀ g, 0 ≤ g → g < k → skey (rk (J0 + x)) ls (mk s) g = skey (rk (J0 + x)) ls (mk s') g) → s = s') : ∀ (N x : Nat) (m : xw_M), (x : Int) ≤ n → (n - x).toNat < N → fAW t m0 m → ST m t k it S mk ls K hl rk cf mo (J0 + x) → ∃ m', xl6 (yl110_42 B r14) N t x3 x4 x5 n x m = r14 t x3 (w32 (x4 + (-1024))) x5 m' ∧ fAW t m0 m' ∧ ST m' t k it S mk ls K hl rk cf mo (J0 + n.toNat) := by
  have o9 := (an_f B F.1).1
  intro N
  induction N with
  | zero => intro x m _ h; omega
  | succ N ih =>
    intro x m x1 hN f s
    show ∃ m', yl110_42 B r14 (xl6 (yl110_42 B r14) N) t x3 x4 x5 n x m = _ ∧ _
    have IH := ih (x + 1)
    clear ih
    generalize xl6 (yl110_42 B r14) N = G at IH ⊢
    unfold yl110_42
    by_cases c : (x : Int) < n
    · have wx : w32 ((x : Int) + 1) = ((x + 1 : Nat) : Int) := by rw [w32_id (by omega) (by omega)]; omega
      rw [if_pos c, if_pos o9, wx]
      by_cases h8 : xR m t 8 = 0
      · rw [if_pos h8]
        have lo := fAW_lo F.1 f
        obtain ⟨m', e, fr, s'⟩ := rowin (B := B) (x := x) (J := J0 + x) (FX_fr F lo (f.2 6 (by decide)) (fAW_43 f)) (RDY_fr (R x c) lo) (dd x c) h8 s (fun m => G t x3 x4 x5 n ((x + 1 : Nat) : Int) m)
        rw [e]
        exact IH m' (by omega) (by omega) (fAW_tr f fr) s'
      · rw [if_neg h8]
        exact ⟨m, rfl, f, ST_m (by omega) h8 s⟩
    · rw [if_neg c]
      exact ⟨m, rfl, f, by rw [show n.toNat = x from by omega]; exact s⟩
end SEG
