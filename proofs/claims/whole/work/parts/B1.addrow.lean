/-! THE ANSWER, by the class: a row of a table comes in (addRow): its sets -/
section ADS2
variable {B : Nat}
theorem RWs_fr {m m' : xw_M} {row cf it : Int} {mo : Int → Int} (W : RWs B m row cf mo it) (h : ∀ a, 224 ≤ a → a ≤ 372 → m' a = m a) : RWs B m' row cf mo it := by
  obtain ⟨W1, W2, W3, W4, W5⟩ := W
  have e4 : xR m' 224 = xR m 224 := xR_cg (h 224 (by omega) (by omega))
  have e5 : xR m' 225 = xR m 225 := xR_cg (h 225 (by omega) (by omega))
  refine ⟨W1, W2, fun m2 h2 => W3 m2 (fun a a0 a1 => by rw [h2 a a0 a1, h a (by omega) (by omega)]), by rw [e4]; exact W4, ?_⟩
  rw [e4, e5]
  intro i i0 i1 k
  obtain ⟨cc, x1, x2, x3⟩ := W5 i i0 i1 k
  exact ⟨cc, fun m2 h2 => x1 m2 (fun a a0 a1 => by rw [h2 a a0 a1, h a (by omega) (by omega)]), x2, by rw [xJ_cg (h (304 + cc) (by omega) (by omega))]; exact x3⟩
theorem mtc2_cg {S k : Int} {mk ls rk κ κ' : Int → Int} (h : ∀ g, 0 ≤ g → g < k → κ' g = κ g) : mtc2 S k mk ls rk κ' = mtc2 S k mk ls rk κ := by
  rw [Bool.eq_iff_iff, mtc2_t, mtc2_t]
  exact ⟨fun ⟨s, s0, s1, e⟩ => ⟨s, s0, s1, fun g g0 g1 => by rw [← h g g0 g1]; exact e g g0 g1⟩, fun ⟨s, s0, s1, e⟩ => ⟨s, s0, s1, fun g g0 g1 => by rw [h g g0 g1]; exact e g g0 g1⟩⟩
theorem mtc2_s {s k : Int} {mk ls rk κ : Int → Int} (s0 : 0 ≤ s) : mtc2 (s + 1) k mk ls rk κ = true ↔ mtc2 s k mk ls rk κ = true ∨ ∀ g, 0 ≤ g → g < k → κ g = skey rk ls (mk s) g := by
  rw [mtc2_t, mtc2_t]
  constructor
  · rintro ⟨x, x0, x1, e⟩
    by_cases q : x = s
    · rw [q] at e; exact Or.inr e
    · exact Or.inl ⟨x, x0, by omega, e⟩
  · rintro (⟨x, x0, x1, e⟩ | e)
    · exact ⟨x, x0, by omega, e⟩
    · exact ⟨s, s0, by omega, e⟩
theorem RT_fr {m m' : xw_M} {t k n : Int} (k8 : k ≤ 8) (R : RT m t k n) (h1 : m' (t + 1) 5 = m (t + 1) 5) (h2 : m' (t + 41) = m (t + 41)) (h3 : ∀ g, 0 ≤ g → g < 8 → m' (t + 4 + g) = m (t + 4 + g)) : RT m' t k n := by
  obtain ⟨R1, R2, R3, R4⟩ := R
  refine ⟨by rw [xR_fld h1]; exact R1, R2, ?_, fun i j i0 i1 j0 j1 e => R4 i j i0 i1 j0 j1 (fun g g0 g1 => by have := e g g0 g1; rw [xR_cg (h3 g g0 (by omega))] at this; exact this)⟩
  rw [xR_cg h2]
  refine HT_cg (by decide) R3 (fun _ _ _ => rfl) (fun j j0 j1 => ?_)
  show khh (fun g => xR m' (t + 4 + g) j) k = khh (fun g => xR m (t + 4 + g) j) k
  unfold khh
  rw [khs_cg (κ := fun g => xR m (t + 4 + g) j) k.toNat (fun i i0 i1 => by rw [xR_cg (h3 i i0 (by omega))])]
/-- too many rows: a set's key is not among 4000 -/
def OV (m0 m : xw_M) (t k n0 S : Int) (rk ls mk : Int → Int) : Prop := xR m t 8 = 1 ∧ RT m t k 4000 ∧ n0 ≤ 4000 ∧ (∀ j, 0 ≤ j → j < n0 → ∀ g, 0 ≤ g → g < k → xR m (t + 4 + g) j = xR m0 (t + 4 + g) j) ∧ (∀ j, n0 ≤ j → j < 4000 → mtc2 S k mk ls rk (fun g => xR m (t + 4 + g) j) = true) ∧ ∃ s, (0 ≤ s ∧ s < S) ∧ ∀ j, 0 ≤ j → j < 4000 → ¬ ∀ g, 0 ≤ g → g < k → xR m (t + 4 + g) j = skey rk ls (mk s) g
theorem sets_l {m0 : xw_M} {t row k it n0 S cf : Int} {mo rk ls mk : Int → Int} (h : t = 420 ∨ t = 464) (h6 : xR m0 223 6 = k) (k0 : 0 ≤ k) (k8 : k ≤ 8) (hi : xR m0 t 6 = it) (it0 : 0 ≤ it) (it24 : it ≤ 24) (hS : xR m0 223 8 = S) (S32 : S ≤ 32) (hmk : ∀ s, xR m0 228 s = mk s) (h42 : ∀ g, 0 ≤ g → g < k → xR m0 (t + 42) g = rk g) (h43 : ∀ g, 0 ≤ g → g < k → xR m0 (t + 43) g = ls g) (W : RWs B m0 row cf mo it) (kb : ∀ i, 0 ≤ i → i < it → xR m0 224 i = 1 ∨ (209 ≤ xR m0 224 i ∧ xR m0 224 i ≤ 213)) (ds : ∀ s s', 0 ≤ s → s < S → 0 ≤ s' → s' < S → (∀ g, 0 ≤ g → g < k → skey rk ls (mk s) g = skey rk ls (mk s') g) → s = s') (n00 : 0 ≤ n0) : ∀ (z N : Nat) (s n : Int) (m : xw_M), (S - s).toNat ≤ z → z < N → 0 ≤ s → s ≤ S → fAm t m0 m → AM m0 m t k it n0 n s cf mo rk ls mk → ∃ m', xl3 (yl125_70 B) N t row s m = some (.inl 0, m') ∧ ((∃ n', fAm t m0 m' ∧ AM m0 m' t k it n0 n' S cf mo rk ls mk) ∨ ((∀ a, a ≠ t → a ≠ t + 1 → ¬ (t + 4 ≤ a ∧ a ≤ t + 11) → ¬ (t + 13 ≤ a ∧ a ≤ t + 36) → a ≠ t + 39 → a ≠ t + 41 → m' a = m0 a) ∧ (∀ k, k ≠ 8 → m' t k = m0 t k) ∧ OV m0 m' t k n0 S rk ls mk)) := by
  have o9 := (an_f B h).1
  intro z
  induction z with
  | zero =>
    intro N s n m hz zN s0 s1 f A
    cases N with
    | zero => omega
    | succ N =>
    have se : s = S := by omega
    subst se
    refine ⟨m, ?_, Or.inl ⟨n, f, A⟩⟩
    show yl125_70 B _ t row s m = _
    unfold yl125_70
    rw [xR_cg (f.1 223 (by omega) (by omega) (by omega) (by omega) (by omega)), hS, if_neg (by omega)]
  | succ z ih =>
    intro N s n m hz zN s0 s1 f A
    by_cases se : s = S
    · exact ih N s n m (by omega) (by omega) s0 s1 f A
    cases N with
    | zero => omega
    | succ N =>
    have IH := ih N (s + 1)
    have fl : ∀ a, a < 420 → m a = m0 a := fun a ha => f.1 a (by omega) (by omega) (by omega) (by omega) (by omega)
    have xS : xR m 223 8 = S := by rw [xR_cg (fl 223 (by omega))]; exact hS
    have x6 : xR m 223 6 = k := by rw [xR_cg (fl 223 (by omega))]; exact h6
    have xi : xR m t 6 = it := by rw [xR_cg (f.1 t (by omega) (by omega) (by omega) (by omega) (by omega))]; exact hi
    have x228 : xR m 228 s = mk s := by rw [xR_cg (fl 228 (by omega))]; exact hmk s
    have ky : ∀ g, 0 ≤ g → g < k → kyf m t (mk s) g = skey rk ls (mk s) g := fun g g0 g1 => by
      unfold kyf skey
      rw [xR_cg (f.1 (t + 42) (by omega) (by omega) (by omega) (by omega) (by omega)), xR_cg (f.1 (t + 43) (by omega) (by omega) (by omega) (by omega) (by omega)), h42 g g0 g1, h43 g g0 g1]
    have e1 : xl3 (yl125_70 B) (N + 1) t row s m = xB (yf99 B t (mk s) m) fun v1 m1 => if v1 = (-1) then (some (.inl 0, (xw_u m1 t 8 1))) else (xB (yf126 B t v1 row m1) fun _ m2 => xl3 (yl125_70 B) N t row (s + 1) m2) := by
      show yl125_70 B (xl3 (yl125_70 B) N) t row s m = _
      generalize xl3 (yl125_70 B) N = Q
      unfold yl125_70
      rw [xS, if_pos (show s < S by omega), if_pos (show 0 ≤ s ∧ s < 32 by omega), if_pos o9, x228, w32_id (by omega) (by omega)]
    rw [e1]
    obtain ⟨A1, A2, A3, A4, A5⟩ := id A
    have n4 := A1.2.1
    have W' : ∀ m' : xw_M, (∀ a, a < 420 → m' a = m0 a) → RWs B m' row cf mo it := fun m' hh => RWs_fr W (fun a a0 a1 => hh a (by omega))
    have kb' : ∀ m' : xw_M, (∀ a, a < 420 → m' a = m0 a) → ∀ i, 0 ≤ i → i < it → xR m' 224 i = 1 ∨ (209 ≤ xR m' 224 i ∧ xR m' 224 i ≤ 213) := fun m' hh => by rw [xR_cg (hh 224 (by omega))]; exact kb
    rcases row_ok (B := B) (mask := mk s) h x6 k0 k8 xi it0 it24 A1 with ⟨j, jb, jk, y⟩ | ⟨no, ⟨nn, y⟩ | ⟨nn, m1, y, R1, ⟨g1, g2, g3⟩, nk, nz, nf⟩⟩
    · -- the row is there
      rw [y, xB_ret, if_neg (by omega)]
      have jk' : ∀ g, 0 ≤ g → g < k → xR m (t + 4 + g) j = skey rk ls (mk s) g := fun g g0 g1 => by rw [jk g g0 g1, ky g g0 g1]
      have fresh : ¬ mtc2 s k mk ls rk (fun g => xR m (t + 4 + g) j) = true := fun hh => by
        obtain ⟨x, x0, x1, e⟩ := mtc2_t.mp hh
        have := ds x s x0 (by omega) s0 (by omega) (fun g g0 g1 => by rw [← e g g0 g1]; exact jk' g g0 g1)
        omega
      have oldj := A4 j jb.1 jb.2
      rw [if_neg fresh] at oldj
      obtain ⟨m2, y2, q1, q2, q3⟩ := addto_ok (B := B) (r := j) h jb.1 (by omega) it0 it24 xi (W' m fl) (kb' m fl)
      rw [y2, xB_ret]
      have e24 : xR m 224 = xR m0 224 := xR_cg (fl 224 (by omega))
      rw [e24] at q2
      have same : ∀ g i, 0 ≤ g → g < 8 → xR m2 (t + 4 + g) i = xR m (t + 4 + g) i := fun g i g0 g1 => by rw [xR_cg (q1.1 _ (by omega) (by omega))]
      refine IH n m2 (by omega) (by omega) (by omega) (by omega) (fAm_tr f ⟨fun a a1 a2 a3 a4 _ => q1.1 a a3 a4, fun k _ => by rw [q1.1 (t + 1) (by omega) (by omega)]⟩) ⟨RT_fr k8 A1 (by rw [q1.1 (t + 1) (by omega) (by omega)]) (q1.1 _ (by omega) (by omega)) (fun g g0 g1 => q1.1 _ (by omega) (by omega)), A2, fun i i0 i1 g g0 g1 => by rw [same g i g0 (by omega)]; exact A3 i i0 i1 g g0 g1, fun i i0 i1 => ?_, fun s' s0' s1' => ?_⟩
      · have kc : mtc2 (s + 1) k mk ls rk (fun g => xR m2 (t + 4 + g) i) = mtc2 (s + 1) k mk ls rk (fun g => xR m (t + 4 + g) i) := mtc2_cg (fun g g0 g1 => same g i g0 (by omega))
        rw [kc]
        by_cases q : i = j
        · subst q
          rw [if_pos ((mtc2_s s0).mpr (Or.inr jk')), if_pos oldj.1]
          refine ⟨by rw [q3, oldj.2.1], fun x x0 x1 => by rw [q2 x x0 x1, oldj.2.1, oldj.2.2 x x0 x1]⟩
        · have ne : ¬ ∀ g, 0 ≤ g → g < k → xR m (t + 4 + g) i = skey rk ls (mk s) g := fun hh => q (A1.2.2.2 i j i0 i1 jb.1 jb.2 (fun g g0 g1 => by rw [hh g g0 g1, jk' g g0 g1]))
          have eqm : (mtc2 (s + 1) k mk ls rk (fun g => xR m (t + 4 + g) i) = true) = (mtc2 s k mk ls rk (fun g => xR m (t + 4 + g) i) = true) := by
            apply propext
            rw [mtc2_s s0]
            exact ⟨fun hh => hh.elim id (fun h2 => absurd h2 ne), Or.inl⟩
          have fac : xJ m2 (t + 39) i = xJ m (t + 39) i := xJ_fld (q1.2 _ _ q)
          have vac : ∀ x, xJ m2 (t + 13 + x) i = xJ m (t + 13 + x) i := fun x => xJ_fld (q1.2 _ _ q)
          have := A4 i i0 i1
          rw [fac]
          simp only [vac, eqm]
          exact this
      · by_cases q : s' = s
        · rw [q]
          exact ⟨j, jb, fun g g0 g1 => by rw [same g j g0 (by omega)]; exact jk' g g0 g1⟩
        · obtain ⟨i, ib, ie⟩ := A5 s' s0' (by omega)
          exact ⟨i, ib, fun g g0 g1 => by rw [same g i g0 (by omega)]; exact ie g g0 g1⟩
    · -- too many
      rw [y, xB_ret, if_pos rfl]
      subst nn
      refine ⟨_, rfl, Or.inr ⟨fun a a1 a2 a3 a4 a5 a6 => by rw [xu_c a1, f.1 a a2 a3 a4 a5 a6], fun k hk => by rw [xu_ne (by omega), f.1 t (by omega) (by omega) (by omega) (by omega) (by omega)], xR_at (by decide), RT_fr k8 A1 (by rw [xu_c (by omega)]) (xu_c (by omega)) (fun g _ _ => xu_c (by omega)), A2, fun j j0 j1 g g0 g1 => by rw [xR_cg (xu_c (by omega))]; exact A3 j j0 j1 g g0 g1, fun j j0 j1 => ?_, s, ⟨s0, by omega⟩, fun j j0 j1 hh => no j j0 j1 (fun g g0 g1 => by rw [ky g g0 g1, ← hh g g0 g1, xR_cg (xu_c (by omega))])⟩⟩
      rw [mtc2_cg (κ := fun g => xR m (t + 4 + g) j) (fun g g0 g1 => by rw [xR_cg (xu_c (by omega))])]
      have a := A4 j (by omega) j1
      by_cases q : mtc2 s k mk ls rk (fun g => xR m (t + 4 + g) j) = true
      · obtain ⟨x, x0, x1, e⟩ := mtc2_t.mp q
        exact mtc2_t.mpr ⟨x, x0, by omega, e⟩
      · rw [if_neg q] at a
        omega
    · -- a new row
      rw [y, xB_ret, if_neg (by omega)]
      have nk' : ∀ g, 0 ≤ g → g < k → xR m1 (t + 4 + g) n = skey rk ls (mk s) g := fun g g0 g1' => by rw [nk g g0 g1', ky g g0 g1']
      have fl1 : ∀ a, a < 420 → m1 a = m0 a := fun a ha => by rw [g1 a (by omega) (by omega) (by omega) (by omega) (by omega), fl a ha]
      have xi1 : xR m1 t 6 = it := by rw [xR_cg (g1 t (by omega) (by omega) (by omega) (by omega) (by omega))]; exact xi
      obtain ⟨m2, y2, q1, q2, q3⟩ := addto_ok (B := B) (r := n) h n4.1 nn it0 it24 xi1 (W' m1 fl1) (kb' m1 fl1)
      rw [y2, xB_ret]
      have e24 : xR m1 224 = xR m0 224 := xR_cg (fl1 224 (by omega))
      rw [e24] at q2
      have same : ∀ g i, 0 ≤ g → g < 8 → xR m2 (t + 4 + g) i = xR m1 (t + 4 + g) i := fun g i g0 g1 => by rw [xR_cg (q1.1 _ (by omega) (by omega))]
      have old : ∀ g i, 0 ≤ g → g < 8 → i ≠ n → xR m2 (t + 4 + g) i = xR m (t + 4 + g) i := fun g i g0 g1' hi' => by rw [same g i g0 g1', xR_fld (g3 _ i (by omega) (by omega) hi')]
      refine IH (n + 1) m2 (by omega) (by omega) (by omega) (by omega) (fAm_tr f ⟨fun a a1 a2 a3 a4 a5 => by rw [q1.1 a a3 a4, g1 a a1 a2 a3 a4 a5], fun k hk => by rw [q1.1 (t + 1) (by omega) (by omega), g2 k hk]⟩) ⟨RT_fr k8 R1 (by rw [q1.1 (t + 1) (by omega) (by omega)]) (q1.1 _ (by omega) (by omega)) (fun g g0 g1 => q1.1 _ (by omega) (by omega)), by omega, fun i i0 i1 g g0 g1 => by rw [old g i g0 (by omega) (by omega)]; exact A3 i i0 i1 g g0 g1, fun i i0 i1 => ?_, fun s' s0' s1' => ?_⟩
      · by_cases q : i = n
        · subst q
          have tt : mtc2 (s + 1) k mk ls rk (fun g => xR m2 (t + 4 + g) i) = true := (mtc2_s s0).mpr (Or.inr (fun g g0 g1 => by
            show xR m2 (t + 4 + g) i = _
            rw [same g i g0 (by omega)]
            exact nk' g g0 g1))
          rw [if_pos tt, if_neg (by omega)]
          exact ⟨by rw [q3, nf], fun x x0 x1 => by rw [q2 x x0 x1, nf, nz x x0 x1]⟩
        · have kc : mtc2 (s + 1) k mk ls rk (fun g => xR m2 (t + 4 + g) i) = mtc2 (s + 1) k mk ls rk (fun g => xR m (t + 4 + g) i) := mtc2_cg (fun g g0 g1 => old g i g0 (by omega) q)
          have ne : ¬ ∀ g, 0 ≤ g → g < k → xR m (t + 4 + g) i = skey rk ls (mk s) g := fun hh => no i i0 (by omega) (fun g g0 g1 => by rw [hh g g0 g1, ky g g0 g1])
          have eqm : (mtc2 (s + 1) k mk ls rk (fun g => xR m (t + 4 + g) i) = true) = (mtc2 s k mk ls rk (fun g => xR m (t + 4 + g) i) = true) := by
            apply propext
            rw [mtc2_s s0]
            exact ⟨fun hh => hh.elim id (fun h2 => absurd h2 ne), Or.inl⟩
          have fac : xJ m2 (t + 39) i = xJ m (t + 39) i := by rw [xJ_fld (q1.2 _ _ q), xJ_fld (g3 _ i (by omega) (by omega) q)]
          have vac : ∀ x, 0 ≤ x → x < it → xJ m2 (t + 13 + x) i = xJ m (t + 13 + x) i := fun x x0 x1 => by rw [xJ_fld (q1.2 _ _ q), xJ_fld (g3 _ i (by omega) (by omega) q)]
          have a := A4 i i0 (by omega)
          rw [kc, fac]
          simp only [eqm]
          by_cases w : mtc2 s k mk ls rk (fun g => xR m (t + 4 + g) i) = true
          · rw [if_pos w] at a ⊢
            by_cases v : i < n0
            · rw [if_pos v] at a ⊢
              exact ⟨a.1, fun x x0 x1 => by rw [vac x x0 x1]; exact a.2 x x0 x1⟩
            · rw [if_neg v] at a ⊢
              exact ⟨a.1, fun x x0 x1 => by rw [vac x x0 x1]; exact a.2 x x0 x1⟩
          · rw [if_neg w] at a ⊢
            exact ⟨a.1, a.2.1, fun x x0 x1 => by rw [vac x x0 x1]; exact a.2.2 x x0 x1⟩
      · by_cases q : s' = s
        · rw [q]
          exact ⟨n, ⟨n4.1, by omega⟩, fun g g0 g1 => by rw [same g n g0 (by omega)]; exact nk' g g0 g1⟩
        · obtain ⟨i, ib, ie⟩ := A5 s' s0' (by omega)
          exact ⟨i, ⟨ib.1, by omega⟩, fun g g0 g1 => by rw [old g i g0 (by omega) (by omega)]; exact ie g g0 g1⟩
end ADS2
