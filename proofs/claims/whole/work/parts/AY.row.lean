/-! THE ANSWER, by the class: a row is made; the row for a key -/
section MKR
variable {B : Nat}
theorem xl4_s {F : (Int → Int → Int → Int → xw_M → xP) → Int → Int → Int → Int → xw_M → xP} {N : Nat} {a b c d : Int} {m : xw_M} : xl4 F (N + 1) a b c d m = F (xl4 F N) a b c d m := rfl
def fMk (t n : Int) (m m' : xw_M) : Prop := (∀ a, a ≠ t + 1 → ¬ (t + 4 ≤ a ∧ a ≤ t + 11) → ¬ (t + 13 ≤ a ∧ a ≤ t + 36) → a ≠ t + 39 → m' a = m a) ∧ (∀ k, k ≠ 5 → m' (t + 1) k = m (t + 1) k) ∧ ∀ a j, a ≠ t + 1 → j ≠ n → m' a j = m a j
theorem fMk_tr {t n : Int} {a b c : xw_M} (h : fMk t n a b) (k : fMk t n b c) : fMk t n a c := ⟨fun x x1 x2 x3 x4 => by rw [k.1 x x1 x2 x3 x4, h.1 x x1 x2 x3 x4], fun x hx => by rw [k.2.1 x hx, h.2.1 x hx], fun x j x1 x2 => by rw [k.2.2 x j x1 x2, h.2.2 x j x1 x2]⟩
theorem mk74 {t n it : Int} (h : t = 420 ∨ t = 464) (n0 : 0 ≤ n) (n1 : n < 4000) (it24 : it ≤ 24) : ∀ (N : Nat) (i : Int) (m : xw_M), 0 ≤ i → i ≤ it → (it - i).toNat < N → xR m t 6 = it → ∃ m', xl3 (yl101_74 B) N t n i m = some (.inl n, m') ∧ fMk t n m m' ∧ m' (t + 1) = m (t + 1) ∧ (∀ a, t + 4 ≤ a → a ≤ t + 11 → m' a = m a) ∧ (∀ j, i ≤ j → j < it → xJ m' (t + 13 + j) n = 0) ∧ (∀ j, 0 ≤ j → j < i → m' (t + 13 + j) = m (t + 13 + j)) ∧ xJ m' (t + 39) n = 0 := by
  have nb : 0 ≤ n ∧ n < 4000 := ⟨n0, n1⟩
  have red : ∀ i, 0 ≤ i → i < 24 → ∀ X : xw_M → xP, ∀ m : xw_M, (if xw_obb 8 (xw_rf t 0) = true then if (0 : Int) ≤ i ∧ i < (xw_le B (xw_rf (xw_rf t 0) 1)) then if 5 ≤ xw_kd (xw_rf (xw_rf t 0) 1) i then if xw_obb 21 (xw_rf (xw_rf t 0) 1) = true then if (0 : Int) ≤ n ∧ n < (xw_le B (xw_rf (xw_rf (xw_rf t 0) 1) i)) then if xw_obb 17 (xw_rf (xw_rf (xw_rf t 0) 1) i) = true then X (xw_u m (xw_rf (xw_rf (xw_rf t 0) 1) i) n 0) else none else none else none else none else none else none) = X (xw_u m (t + 13 + i) n 0) := fun i i0 i1 X m => by
    have ib : 0 ≤ i ∧ i < 24 := ⟨i0, i1⟩
    obtain ⟨o, ⟨f0, _⟩, ⟨o1, _⟩, _, ⟨_, r1, _⟩, ⟨_, p1⟩, ⟨_, l1⟩⟩ := an_f B h
    obtain ⟨a, b, d, l⟩ := an_i B h i0 i1
    rw [f0, if_pos o1, r1, l1, if_pos ib, if_pos a, if_pos p1, b, l, if_pos nb, if_pos d]
  have fin : ∀ m : xw_M, (if (0 : Int) ≤ n ∧ n < (xw_le B (xw_rf t 1)) then if xw_obb 17 (xw_rf t 1) = true then (some (.inl n, (xw_u m (xw_rf t 1) n 0)) : xP) else none else none) = some (.inl n, xw_u m (t + 39) n 0) := fun m => by
    obtain ⟨o, ⟨_, f1, _⟩, ⟨_, o1, _⟩, ⟨l1, _⟩, _⟩ := an_f B h
    rw [f1, l1, if_pos nb, if_pos o1]
  have o9 := (an_f B h).1
  intro N
  induction N with
  | zero => intro i m _ _ hN; omega
  | succ N ih =>
    intro i m i0 i1 hN h6
    show ∃ m', yl101_74 B (xl3 (yl101_74 B) N) t n i m = _ ∧ _
    have IH := ih (i + 1)
    generalize xl3 (yl101_74 B) N = R at IH ⊢
    unfold yl101_74
    rw [if_pos o9, h6]
    by_cases e : i < it
    · rw [if_pos e, red i i0 (by omega) (fun m => R t n (w32 (i + 1)) m) m, w32_id (by omega) (by omega)]
      obtain ⟨m', z, g1, g2, g3, g4, g5, g6⟩ := IH (xw_u m (t + 13 + i) n 0) (by omega) (by omega) (by omega) (by rw [xR_cg (xu_c (by omega))]; exact h6)
      refine ⟨m', z, fMk_tr ⟨fun a a1 a2 a3 a4 => xu_c (by omega), fun k _ => by rw [xu_c (by omega)], fun a j _ hj => xu_ne (by omega)⟩ g1, by rw [g2, xu_c (by omega)], fun a a0 a1 => by rw [g3 a a0 a1, xu_c (by omega)], fun j j0 j1 => ?_, fun j j0 j1 => by rw [g5 j j0 (by omega), xu_c (by omega)], g6⟩
      by_cases q : j = i
      · subst q
        rw [xJ_cg (g5 j i0 (by omega))]
        unfold xJ
        rw [xw_us]
        rfl
      · exact g4 j (by omega) j1
    · rw [if_neg e, fin]
      refine ⟨_, rfl, ⟨fun a a1 a2 a3 a4 => xu_c a4, fun k _ => by rw [xu_c (by omega)], fun a j _ hj => xu_ne (by omega)⟩, xu_c (by omega), fun a a0 a1 => xu_c (by omega), fun j j0 j1 => by omega, fun j j0 j1 => xu_c (by omega), ?_⟩
      unfold xJ
      rw [xw_us]
      rfl
theorem kyf_cg {m m' : xw_M} {t mask g : Int} (h1 : m' (t + 42) = m (t + 42)) (h2 : m' (t + 43) = m (t + 43)) : kyf m' t mask g = kyf m t mask g := by
  unfold kyf
  rw [xR_cg h1, xR_cg h2]
theorem mk18 {t n it k mask : Int} (h : t = 420 ∨ t = 464) (n0 : 0 ≤ n) (n1 : n < 4000) (it0 : 0 ≤ it) (it24 : it ≤ 24) (k8 : k ≤ 8) : ∀ (N : Nat) (g : Int) (m : xw_M), 0 ≤ g → g ≤ k → (k - g).toNat < N → xR m 223 6 = k → xR m t 6 = it → ∃ m', xl4 (yl101_18 B) N t mask n g m = some (.inl n, m') ∧ fMk t n m m' ∧ m' (t + 1) = m (t + 1) ∧ (∀ j, g ≤ j → j < k → xR m' (t + 4 + j) n = kyf m t mask j) ∧ (∀ j, 0 ≤ j → j < g → m' (t + 4 + j) = m (t + 4 + j)) ∧ (∀ j, 0 ≤ j → j < it → xJ m' (t + 13 + j) n = 0) ∧ xJ m' (t + 39) n = 0 := by
  have nb : 0 ≤ n ∧ n < 4000 := ⟨n0, n1⟩
  have o9 := (an_f B h).1
  have red : ∀ g, 0 ≤ g → g < 8 → ∀ X : Int → xw_M → xP, ∀ m : xw_M, (if xw_obb 9 t = true then if xw_obb 8 (xw_rf t 0) = true then if (0 : Int) ≤ g ∧ g < (xw_le B (xw_rf (xw_rf t 0) 0)) then if 5 ≤ xw_kd (xw_rf (xw_rf t 0) 0) g then if xw_obb 20 (xw_rf (xw_rf t 0) 0) = true then if (xw_iandf (xw_ishrf mask g) 1) = 0 then (if (0 : Int) ≤ g ∧ g < (xw_le B (xw_rf t 5)) then if xw_obb 16 (xw_rf t 5) = true then if (0 : Int) ≤ n ∧ n < (xw_le B (xw_rf (xw_rf (xw_rf t 0) 0) g)) then if xw_obb 16 (xw_rf (xw_rf (xw_rf t 0) 0) g) = true then (X (w32 (g + 1)) (xw_u m (xw_rf (xw_rf (xw_rf t 0) 0) g) n (xR m (xw_rf t 5) g))) else none else none else none else none) else (if (0 : Int) ≤ g ∧ g < (xw_le B (xw_rf t 4)) then if xw_obb 16 (xw_rf t 4) = true then if (0 : Int) ≤ n ∧ n < (xw_le B (xw_rf (xw_rf (xw_rf t 0) 0) g)) then if xw_obb 16 (xw_rf (xw_rf (xw_rf t 0) 0) g) = true then (X (w32 (g + 1)) (xw_u m (xw_rf (xw_rf (xw_rf t 0) 0) g) n (xR m (xw_rf t 4) g))) else none else none else none else none) else none else none else none else none else none) = X (g + 1) (xw_u m (t + 4 + g) n (kyf m t mask g)) := fun g g0 g1 X m => by
    have gb : 0 ≤ g ∧ g < 8 := ⟨g0, g1⟩
    have wg : w32 (g + 1) = g + 1 := w32_id (by omega) (by omega)
    obtain ⟨o, ⟨f0, _, _, _, f4, f5⟩, ⟨o1, _, _, _, o4, o5⟩, ⟨_, _, _, l4, l5⟩, ⟨r0, _⟩, ⟨p0, _⟩, ⟨l0, _⟩⟩ := an_f B h
    obtain ⟨a, b, d, l⟩ := an_g B h g0 g1
    rw [if_pos o, f0, if_pos o1, r0, l0, if_pos gb, if_pos a, if_pos p0, f5, f4, l5, l4, if_pos gb, if_pos gb, if_pos o5, if_pos o4, b, l, if_pos nb, if_pos nb, if_pos d, if_pos d, wg]
    unfold kyf
    by_cases q : xw_iandf (xw_ishrf mask g) 1 = 0
    · rw [if_pos q, if_pos q]
    · rw [if_neg q, if_neg q]
  intro N
  induction N with
  | zero => intro g m _ _ hN; omega
  | succ N ih =>
    intro g m g0 g1 hN h6 hi
    show ∃ m', yl101_18 B (xl4 (yl101_18 B) N) t mask n g m = _ ∧ _
    have IH := ih (g + 1)
    generalize xl4 (yl101_18 B) N = R at IH ⊢
    unfold yl101_18
    rw [h6]
    by_cases e : g < k
    · rw [if_pos e, red g g0 (by omega) (fun y m => R t mask n y m) m]
      have kw : w32 (kyf m t mask g) = kyf m t mask g := by unfold kyf; split <;> exact w32_xR _ _ _
      obtain ⟨m', z, q1, q2, q3, q4, q5, q6⟩ := IH (xw_u m (t + 4 + g) n (kyf m t mask g)) (by omega) (by omega) (by omega) (by rw [xR_cg (xu_c (by omega))]; exact h6) (by rw [xR_cg (xu_c (by omega))]; exact hi)
      refine ⟨m', z, fMk_tr ⟨fun a a1 a2 a3 a4 => xu_c (by omega), fun k _ => by rw [xu_c (by omega)], fun a j _ hj => xu_ne (by omega)⟩ q1, by rw [q2, xu_c (by omega)], fun j j0 j1 => ?_, fun j j0 j1 => by rw [q4 j j0 (by omega), xu_c (by omega)], q5, q6⟩
      by_cases w : j = g
      · subst w
        rw [xR_cg (q4 j g0 (by omega))]
        exact xR_at kw
      · rw [q3 j (by omega) j1, kyf_cg (xu_c (by omega)) (xu_c (by omega))]
    · rw [if_neg e]
      generalize hN1 : (1000000 : Nat) = N1
      obtain ⟨m', z, q1, q2, q3, q4, q5, q6⟩ := mk74 (B := B) h n0 n1 it24 N1 0 m (by decide) it0 (by omega) hi
      exact ⟨m', z, q1, q2, fun j j0 j1 => by omega, fun j j0 j1 => q3 _ (by omega) (by omega), fun j j0 j1 => q4 j j0 j1, q6⟩
/-- makeRow -/
theorem make_ok {m : xw_M} {t n it k mask : Int} (h : t = 420 ∨ t = 464) (h6 : xR m 223 6 = k) (k0 : 0 ≤ k) (k8 : k ≤ 8) (hi : xR m t 6 = it) (it0 : 0 ≤ it) (it24 : it ≤ 24) (hn : xR m (t + 1) 5 = n) (n0 : 0 ≤ n) (n1 : n < 4000) : ∃ m', yf101 B t mask m = some (.inl n, m') ∧ fMk t n m m' ∧ xR m' (t + 1) 5 = n + 1 ∧ (∀ j, 0 ≤ j → j < k → xR m' (t + 4 + j) n = kyf m t mask j) ∧ (∀ j, 0 ≤ j → j < it → xJ m' (t + 13 + j) n = 0) ∧ xJ m' (t + 39) n = 0 := by
  have e : yf101 B t mask m = xl4 (yl101_18 B) 1000000 t mask n 0 (xw_u m (t + 1) 5 (n + 1)) := by
    obtain ⟨o, ⟨f0, _⟩, ⟨o1, _⟩, _⟩ := an_f B h
    unfold yf101
    rw [if_pos o, f0, if_pos o1, hn]
  rw [e]
  clear e
  generalize hN1 : (1000000 : Nat) = N1
  obtain ⟨m', z, q1, q2, q3, q4, q5, q6⟩ := mk18 (B := B) (mask := mask) h n0 n1 it0 it24 k8 N1 0 (xw_u m (t + 1) 5 (n + 1)) (by decide) k0 (by omega) (by rw [xR_cg (xu_c (by omega))]; exact h6) (by rw [xR_cg (xu_c (by omega))]; exact hi)
  refine ⟨m', z, fMk_tr ⟨fun a a1 _ _ _ => xu_c a1, fun k hk => xu_ne (by omega), fun a j a1 _ => xu_ne (by omega)⟩ q1, by rw [xR_cg q2]; exact xR_at (w32_id (by omega) (by omega)), fun j j0 j1 => ?_, q5, q6⟩
  rw [q3 j j0 j1, kyf_cg (xu_c (by omega)) (xu_c (by omega))]
/-- the rows of an answer: their number, their slots, their keys -/
def RT (m : xw_M) (t k n : Int) : Prop := xR m (t + 1) 5 = n ∧ (0 ≤ n ∧ n ≤ 4000) ∧ HT (xR m (t + 41)) 8192 n (fun j => khh (fun g => xR m (t + 4 + g) j) k) ∧ ∀ i j, 0 ≤ i → i < n → 0 ≤ j → j < n → (∀ g, 0 ≤ g → g < k → xR m (t + 4 + g) i = xR m (t + 4 + g) j) → i = j
theorem row_l {m : xw_M} {t mask k n : Int} (h : t = 420 ∨ t = 464) (h6 : xR m 223 6 = k) (k0 : 0 ≤ k) (k8 : k ≤ 8) (R : RT m t k n) (s0 : Int) (es : s0 = khh (kyf m t mask) k) (sb : 0 ≤ s0 ∧ s0 < 8192) (r0 : Nat) (hr0 : (r0 : Int) < 8192) (fr : xR m (t + 41) ((s0 + r0) % 8192) = -1) (bf : ∀ r : Nat, r < r0 → xR m (t + 41) ((s0 + r) % 8192) ≠ -1) : ∀ (z : Nat) (r N : Nat), r + z = r0 → z < N → (∀ r' : Nat, r' < r → ¬ ∀ g, 0 ≤ g → g < k → xR m (t + 4 + g) (xR m (t + 41) ((s0 + r') % 8192)) = kyf m t mask g) → (∃ j, (0 ≤ j ∧ j < n) ∧ (∀ g, 0 ≤ g → g < k → xR m (t + 4 + g) j = kyf m t mask g) ∧ xl4 (yl99_61 B) N t mask ((s0 + r) % 8192) r m = some (.inl j, m)) ∨ ((∀ j, 0 ≤ j → j < n → ¬ ∀ g, 0 ≤ g → g < k → xR m (t + 4 + g) j = kyf m t mask g) ∧ xl4 (yl99_61 B) N t mask ((s0 + r) % 8192) r m = yk99_117 B t mask ((s0 + r0) % 8192) m) := by
  obtain ⟨R1, R2, R3, R4⟩ := R
  have red : ∀ s, 0 ≤ s → s < 8192 → ∀ x : xP, (if xw_obb 9 t = true then if (0 : Int) ≤ s ∧ s < (xw_le B (xw_rf t 3)) then if xw_obb 16 (xw_rf t 3) = true then x else none else none else none) = x := fun s s0 s1 x => by
    have sb : 0 ≤ s ∧ s < 8192 := ⟨s0, s1⟩
    obtain ⟨o, ⟨_, _, _, f3, _⟩, ⟨_, _, _, o3, _⟩, ⟨_, _, l3, _⟩, _⟩ := an_f B h
    rw [if_pos o, f3, l3, if_pos sb, if_pos o3]
  have f3 := fun _ : Unit => (an_f B h).2.1.2.2.2.1
  have mb : ∀ x : Int, 0 ≤ x % 8192 ∧ x % 8192 < 8192 := fun x => ⟨Int.emod_nonneg _ (by decide), Int.emod_lt_of_pos _ (by decide)⟩
  intro z
  induction z with
  | zero =>
    intro r N hr hN nm
    have rr : r = r0 := by omega
    subst rr
    refine Or.inr ⟨?_, ?_⟩
    · refine HT_not R3 (s0 := s0) (r := r) fr (P := fun j => ∀ g, 0 ≤ g → g < k → xR m (t + 4 + g) j = kyf m t mask g) nm (fun j j0 j1 hp => ?_)
      rw [es]
      unfold khh
      rw [khs_cg (κ := kyf m t mask) k.toNat (fun i i0 i1 => hp i i0 (by omega))]
    · cases N with
      | zero => omega
      | succ N =>
        rw [xl4_s]
        generalize xl4 (yl99_61 B) N = Q
        unfold yl99_61
        have b := mb (s0 + r)
        rw [if_pos hr0, red _ b.1 b.2, f3 (), if_pos fr]
  | succ z ih =>
    intro r N hr hN nm
    cases N with
    | zero => omega
    | succ N =>
      have r8 : (r : Int) < 8192 := by omega
      have IH := ih (r + 1) N (by omega) (by omega)
      have ne := bf r (by omega)
      have b := mb (s0 + r)
      have jb : 0 ≤ xR m (t + 41) ((s0 + r) % 8192) ∧ xR m (t + 41) ((s0 + r) % 8192) < n := by
        rcases R3.1 _ b.1 b.2 with q | q
        · exact absurd q ne
        · exact q
      have st : xl4 (yl99_61 B) (N + 1) t mask ((s0 + r) % 8192) r m = xB (yf100 B t (xR m (t + 41) ((s0 + r) % 8192)) mask m) fun v1 m1 => if v1 = 0 then xl4 (yl99_61 B) N t mask ((s0 + (r + 1 : Nat)) % 8192) (r + 1 : Nat) m1 else some (.inl (xR m (t + 41) ((s0 + r) % 8192)), m1) := by
        rw [xl4_s]
        generalize xl4 (yl99_61 B) N = Q
        have e1 : xw_iandf ((s0 + r) % 8192 + 1) 8191 = (s0 + (r + 1 : Nat)) % 8192 := by
          rw [iand_m (k := 13) (by omega) (by omega) (by decide) (by decide)]
          show ((s0 + (r : Int)) % 8192 + 1) % 8192 = _
          omega
        have e2 : w32 ((r : Int) + 1) = ((r + 1 : Nat) : Int) := by rw [w32_id (by omega) (by omega)]; omega
        unfold yl99_61
        rw [if_pos r8, red _ b.1 b.2, f3 (), if_neg ne, e1, e2]
      rw [st]
      obtain ⟨v, v1, q, p⟩ := isrow_l (B := B) (m := m) (t := t) (mask := mask) (k := k) (j := xR m (t + 41) ((s0 + r) % 8192)) h h6 k8 jb.1 (by omega) 1000000 0 (by decide) k0 (by omega)
      unfold yf100
      rw [q, xB_ret]
      by_cases w : v = 0
      · rw [if_pos w]
        refine IH (fun r' hr' => ?_)
        by_cases x : r' = r
        · rw [x]
          intro hp
          have := p.mpr (fun i i0 i1 => hp i i0 i1)
          clear p
          omega
        · exact nm r' (by clear p IH; omega)
      · rw [if_neg w]
        have v11 : v = 1 := by clear p IH; omega
        exact Or.inl ⟨_, jb, fun g g0 g1 => (p.mp v11) g g0 g1, rfl⟩
/-- rowFor -/
theorem row_ok {m : xw_M} {t mask k n it : Int} (h : t = 420 ∨ t = 464) (h6 : xR m 223 6 = k) (k0 : 0 ≤ k) (k8 : k ≤ 8) (hi : xR m t 6 = it) (it0 : 0 ≤ it) (it24 : it ≤ 24) (R : RT m t k n) : (∃ j, (0 ≤ j ∧ j < n) ∧ (∀ g, 0 ≤ g → g < k → xR m (t + 4 + g) j = kyf m t mask g) ∧ yf99 B t mask m = some (.inl j, m)) ∨ ((∀ j, 0 ≤ j → j < n → ¬ ∀ g, 0 ≤ g → g < k → xR m (t + 4 + g) j = kyf m t mask g) ∧ ((n = 4000 ∧ yf99 B t mask m = some (.inl (-1), m)) ∨ (n < 4000 ∧ ∃ m', yf99 B t mask m = some (.inl n, m') ∧ RT m' t k (n + 1) ∧ ((∀ a, a ≠ t + 1 → ¬ (t + 4 ≤ a ∧ a ≤ t + 11) → ¬ (t + 13 ≤ a ∧ a ≤ t + 36) → a ≠ t + 39 → a ≠ t + 41 → m' a = m a) ∧ (∀ k, k ≠ 5 → m' (t + 1) k = m (t + 1) k) ∧ ∀ a j, a ≠ t + 1 → a ≠ t + 41 → j ≠ n → m' a j = m a j) ∧ (∀ g, 0 ≤ g → g < k → xR m' (t + 4 + g) n = kyf m t mask g) ∧ (∀ j, 0 ≤ j → j < it → xJ m' (t + 13 + j) n = 0) ∧ xJ m' (t + 39) n = 0))) := by
  have e : yf99 B t mask m = xl4 (yl99_61 B) 1000000 t mask (khh (kyf m t mask) k) 0 m := by
    unfold yf99
    exact hash_l h h6 k8 1000000 0 (by decide) k0 (by omega)
  obtain ⟨R1, R2, R3, R4⟩ := id R
  have sb : 0 ≤ khh (kyf m t mask) k ∧ khh (kyf m t mask) k < 8192 := ush19 _
  generalize es : khh (kyf m t mask) k = s0 at *
  have ex : ∃ r : Nat, (r : Int) < 8192 ∧ xR m (t + 41) ((s0 + r) % 8192) = -1 ∧ ∀ r' : Nat, r' < r → xR m (t + 41) ((s0 + r') % 8192) ≠ -1 := by
    obtain ⟨r, r1, r2⟩ := HT_free R3 (by omega) R2.1 s0
    have : ∀ z : Nat, ∀ r : Nat, r ≤ z → (r : Int) < 8192 → xR m (t + 41) ((s0 + r) % 8192) = -1 → ∃ r : Nat, (r : Int) < 8192 ∧ xR m (t + 41) ((s0 + r) % 8192) = -1 ∧ ∀ r' : Nat, r' < r → xR m (t + 41) ((s0 + r') % 8192) ≠ -1 := by
      intro z
      induction z with
      | zero => intro r rz a b; exact ⟨r, a, b, fun r' hr' => by omega⟩
      | succ z ih =>
        intro r rz a b
        by_cases q : ∃ r' : Nat, r' < r ∧ xR m (t + 41) ((s0 + r') % 8192) = -1
        · obtain ⟨r', q1, q2⟩ := q
          exact ih r' (by omega) (by omega) q2
        · exact ⟨r, a, b, fun r' hr' hh => q ⟨r', hr', hh⟩⟩
    exact this r r (Nat.le_refl _) r1 r2
  obtain ⟨r0, a1, a2, a3⟩ := ex
  have L := row_l (B := B) (mask := mask) h h6 k0 k8 R s0 es.symm sb r0 a1 a2 a3 r0 0 1000000 (by omega) (by omega) (fun r' hr' => by omega)
  have z0 : (s0 + ((0 : Nat) : Int)) % 8192 = s0 := by omega
  rw [z0] at L
  rcases L with ⟨j, j1, j2, j3⟩ | ⟨jn, j2⟩
  · exact Or.inl ⟨j, j1, j2, by rw [e]; exact j3⟩
  · refine Or.inr ⟨jn, ?_⟩
    have j2' : yf99 B t mask m = yk99_117 B t mask ((s0 + r0) % 8192) m := by rw [e]; exact j2
    rw [j2']
    clear j2 j2' e
    have slb : 0 ≤ (s0 + r0) % 8192 ∧ (s0 + r0) % 8192 < 8192 := ⟨Int.emod_nonneg _ (by decide), Int.emod_lt_of_pos _ (by decide)⟩
    generalize hsl : (s0 + (r0 : Int)) % 8192 = sl at *
    have e117 : yk99_117 B t mask sl m = if n < 4000 then (xB (yf101 B t mask (xw_u m (t + 41) sl n)) fun v1 m1 => some (.inl v1, m1)) else some (.inl (-1), m) := by
      obtain ⟨o, ⟨f0, _, _, f3, _⟩, ⟨o1, _, _, o3, _⟩, ⟨_, _, l3, _⟩, _⟩ := an_f B h
      unfold yk99_117
      rw [if_pos o, f0, if_pos o1, R1, f3, l3, if_pos slb, if_pos o3]
    rw [e117]
    clear e117
    by_cases n4 : n < 4000
    · refine Or.inr ⟨n4, ?_⟩
      rw [if_pos n4]
      obtain ⟨m', z, q1, q2, q3, q4, q5⟩ := make_ok (B := B) (m := xw_u m (t + 41) sl n) (mask := mask) h (by rw [xR_cg (xu_c (by omega))]; exact h6) k0 k8 (by rw [xR_cg (xu_c (by omega))]; exact hi) it0 it24 (by rw [xR_cg (xu_c (by omega))]; exact R1) R2.1 n4
      rw [z, xB_ret]
      have kk : ∀ g, kyf (xw_u m (t + 41) sl n) t mask g = kyf m t mask g := fun g => kyf_cg (xu_c (by omega)) (xu_c (by omega))
      have q3' : ∀ g, 0 ≤ g → g < k → xR m' (t + 4 + g) n = kyf m t mask g := fun g g0 g1 => by rw [q3 g g0 g1, kk]
      have old : ∀ g j, 0 ≤ g → g < 8 → j ≠ n → xR m' (t + 4 + g) j = xR m (t + 4 + g) j := fun g j g0 g1 hj => by rw [xR_fld (q1.2.2 (t + 4 + g) j (by omega) hj), xR_cg (xu_c (by omega))]
      have sl41 : xR m' (t + 41) = xR (xw_u m (t + 41) sl n) (t + 41) := xR_cg (q1.1 _ (by omega) (by omega) (by omega) (by omega))
      refine ⟨m', rfl, ⟨q2, by omega, ?_, fun i j i0 i1 j0 j1 he => ?_⟩, ⟨fun a b1 b2 b3 b4 b5 => by rw [q1.1 a b1 b2 b3 b4, xu_c b5], fun k hk => by rw [q1.2.1 k hk, xu_c (by omega)], fun a j b1 b2 b3 => by rw [q1.2.2 a j b1 b3, xu_c b2]⟩, q3', q4, q5⟩
      · have A := HT_add (h' := fun j => khh (fun g => xR m' (t + 4 + g) j) k) R3 R2.1 (by decide) (s0 := s0) (r := r0) (by rw [hsl]; exact a2) a3 (fun j j0 j1 => by
          show khh (fun g => xR m' (t + 4 + g) j) k = khh (fun g => xR m (t + 4 + g) j) k
          unfold khh
          rw [khs_cg (κ := fun g => xR m (t + 4 + g) j) k.toNat (fun i i0 i1 => old i j i0 (by omega) (by omega))]) (by
          show khh (fun g => xR m' (t + 4 + g) n) k = s0
          rw [← es]
          unfold khh
          rw [khs_cg (κ := kyf m t mask) k.toNat (fun i i0 i1 => q3' i i0 (by omega))])
        rw [hsl] at A
        refine HT_cg (by decide) A (fun s s1 s2 => ?_) (fun _ _ _ => rfl)
        rw [sl41]
        by_cases q : s = sl
        · rw [q, if_pos rfl]; exact xR_at (w32_id (by omega) (by omega))
        · rw [if_neg q]; exact xR_ne (by omega)
      · by_cases ei : i = n
        · by_cases ej : j = n
          · omega
          · exact absurd (fun g g0 g1 => by rw [← old g j g0 (by omega) ej, ← he g g0 g1, ei, q3' g g0 g1]) (jn j j0 (by omega))
        · by_cases ej : j = n
          · exact absurd (fun g g0 g1 => by rw [← old g i g0 (by omega) ei, he g g0 g1, ej, q3' g g0 g1]) (jn i i0 (by omega))
          · exact R4 i j i0 (by omega) j0 (by omega) (fun g g0 g1 => by rw [← old g i g0 (by omega) ei, ← old g j g0 (by omega) ej]; exact he g g0 g1)
    · refine Or.inl ⟨by omega, by rw [if_neg n4]⟩
end MKR
