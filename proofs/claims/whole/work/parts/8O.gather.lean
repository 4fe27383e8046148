/-! ALL FACTS ARE GATHERED: the class's rows are the reference's facts, ties as they came -/
theorem kl_eq {κ : Int → Int → Int} {j : Nat} {d a b : Int} (h : kl κ j d a b) (he : ∀ e, d ≤ e → e < d + j → κ e a = κ e b) : a < b := by
  induction j generalizing d with
  | zero => exact h
  | succ j ih =>
    rcases h with h | ⟨_, h⟩
    · have := he d (Int.le_refl _) (by omega); omega
    · exact ih h (fun e e0 e1 => he e (by omega) (by omega))
theorem cfx_loc {K Rf : Int → Int} (h : ∀ e, 0 ≤ Rf e) : ∀ (n : Nat) (x : Int), 0 ≤ x → x < cfx K Rf n → ∃ e j, (0 ≤ e ∧ e < (n : Int)) ∧ hfx K e = true ∧ (0 ≤ j ∧ j < Rf e) ∧ x = cfx K Rf e.toNat + j := by
  intro n
  induction n with
  | zero => intro x x0 x1; have : cfx K Rf 0 = 0 := rfl; omega
  | succ n ih =>
    intro x x0 x1
    by_cases hx : x < cfx K Rf n
    · obtain ⟨e, j, a, b, c, d⟩ := ih x x0 hx
      exact ⟨e, j, ⟨a.1, by omega⟩, b, c, d⟩
    · have q : cfx K Rf (n + 1) = cfx K Rf n + (if hfx K n = true then Rf n else 0) := rfl
      by_cases hf : hfx K n = true
      · rw [if_pos hf] at q
        exact ⟨n, x - cfx K Rf n, ⟨by omega, by omega⟩, hf, ⟨by omega, by omega⟩, by rw [Int.toNat_natCast]; omega⟩
      · rw [if_neg hf] at q
        omega
/-- one order out of all extents' -/
theorem pi_ex {m : xw_M} {D : Nat} {K Rf : Int → Int} {o : Int → Int → Int} (h : ∀ e, 0 ≤ Rf e) : ∀ n : Nat, (∀ e : Int, 0 ≤ e → e < (n : Int) → hfx K e = true → srt (pk m (cfx K Rf e.toNat)) D (o e) (Rf e)) → ∃ π : Int → Int, prm π (cfx K Rf n) ∧ (∀ e j, 0 ≤ e → e < (n : Int) → hfx K e = true → 0 ≤ j → j < Rf e → π (cfx K Rf e.toNat + j) = cfx K Rf e.toNat + o e j) ∧ ∀ x y, 0 ≤ x → x < y → y < cfx K Rf n → (∀ d, 0 ≤ d → d < (D : Int) → xR m 575 (8 * π x + d) = xR m 575 (8 * π y + d)) → π x < π y := by
  intro n
  induction n with
  | zero =>
    intro _
    have z : cfx K Rf 0 = 0 := rfl
    exact ⟨fun x => x, ⟨fun i i0 i1 => ⟨i0, i1⟩, fun i j _ _ _ _ e => e⟩, fun e j e0 e1 => by omega, fun x y _ xy _ _ => xy⟩
  | succ n ih =>
    intro H
    obtain ⟨π, P1, P2, P3⟩ := ih (fun e e0 e1 hf => H e e0 (by omega) hf)
    have q : cfx K Rf (n + 1) = cfx K Rf n + (if hfx K n = true then Rf n else 0) := rfl
    by_cases hf : hfx K n = true
    · rw [if_pos hf] at q
      have S := H n (by omega) (by omega) hf
      rw [Int.toNat_natCast] at S
      have c0 := cfx_nn (K := K) h n 0
      rw [Nat.zero_add] at c0
      have z : cfx K Rf 0 = 0 := rfl
      have inn : ∀ x, cfx K Rf n ≤ x → x < cfx K Rf (n + 1) → 0 ≤ o n (x - cfx K Rf n) ∧ o n (x - cfx K Rf n) < Rf n := fun x x0 x1 => S.1.1 _ (by omega) (by omega)
      refine ⟨fun x => if x < cfx K Rf n then π x else cfx K Rf n + o n (x - cfx K Rf n), ⟨fun i i0 i1 => ?_, fun i j i0 i1 j0 j1 e => ?_⟩, fun e j e0 e1 hfe j0 j1 => ?_, fun x y x0 xy y1 he => ?_⟩
      · show 0 ≤ (if i < cfx K Rf n then π i else cfx K Rf n + o n (i - cfx K Rf n)) ∧ (if i < cfx K Rf n then π i else cfx K Rf n + o n (i - cfx K Rf n)) < _
        by_cases hi : i < cfx K Rf n
        · rw [if_pos hi]; have := P1.1 i i0 hi; have := h n; omega
        · rw [if_neg hi]; have := inn i (by omega) i1; omega
      · have e' : (if i < cfx K Rf n then π i else cfx K Rf n + o n (i - cfx K Rf n)) = (if j < cfx K Rf n then π j else cfx K Rf n + o n (j - cfx K Rf n)) := e
        by_cases hi : i < cfx K Rf n
        · rw [if_pos hi] at e'
          have a := P1.1 i i0 hi
          by_cases hj : j < cfx K Rf n
          · rw [if_pos hj] at e'
            exact P1.2 i j i0 hi j0 hj e'
          · rw [if_neg hj] at e'
            have := inn j (by omega) j1; omega
        · rw [if_neg hi] at e'
          have a := inn i (by omega) i1
          by_cases hj : j < cfx K Rf n
          · rw [if_pos hj] at e'
            have := P1.1 j j0 hj; omega
          · rw [if_neg hj] at e'
            have := S.1.2 (i - cfx K Rf n) (j - cfx K Rf n) (by omega) (by omega) (by omega) (by omega) (by omega)
            omega
      · show (if cfx K Rf e.toNat + j < cfx K Rf n then π (cfx K Rf e.toNat + j) else cfx K Rf n + o n (cfx K Rf e.toNat + j - cfx K Rf n)) = _
        by_cases en : e = n
        · rw [en, Int.toNat_natCast, if_neg (by omega), show cfx K Rf n + j - cfx K Rf n = j by omega]
        · have ci := cfx_in (K := K) (E := (n : Int)) h e0 (by omega)
          rw [Int.toNat_natCast] at ci
          have := ci.2.2 (by unfold hfx at hfe; rw [decide_eq_true_eq] at hfe; exact hfe)
          rw [if_pos (by omega)]
          exact P2 e j e0 (by omega) hfe j0 j1
      · have he' : ∀ d, 0 ≤ d → d < (D : Int) → xR m 575 (8 * (if x < cfx K Rf n then π x else cfx K Rf n + o n (x - cfx K Rf n)) + d) = xR m 575 (8 * (if y < cfx K Rf n then π y else cfx K Rf n + o n (y - cfx K Rf n)) + d) := he
        show (if x < cfx K Rf n then π x else cfx K Rf n + o n (x - cfx K Rf n)) < (if y < cfx K Rf n then π y else cfx K Rf n + o n (y - cfx K Rf n))
        by_cases hy : y < cfx K Rf n
        · rw [if_pos (show x < cfx K Rf n by omega), if_pos hy] at he' ⊢
          exact P3 x y x0 xy hy he'
        · by_cases hx : x < cfx K Rf n
          · rw [if_pos hx, if_neg hy]
            have := P1.1 x x0 hx
            have := inn y (by omega) y1
            omega
          · rw [if_neg hx, if_neg hy] at he' ⊢
            have := kl_eq (S.2 (x - cfx K Rf n) (y - cfx K Rf n) (by omega) (by omega) (by omega)) (fun d d0 d1 => by
              show xR m 575 (8 * (cfx K Rf n + o n (x - cfx K Rf n)) + d) = xR m 575 (8 * (cfx K Rf n + o n (y - cfx K Rf n)) + d)
              exact he' d d0 (by omega))
            omega
    · rw [if_neg hf] at q
      rw [q, Int.add_zero]
      refine ⟨π, P1, fun e j e0 e1 hfe j0 j1 => ?_, P3⟩
      by_cases en : e = n
      · rw [en] at hfe; exact absurd hfe hf
      · exact P2 e j e0 (by omega) hfe j0 j1
section GTH
variable {B : Nat} {m : xw_M} {D M tu : Int} {K Rf : Int → Int} {Rv : Int → Int → Int}
/-- the facts of the extents before E' -/
theorem gather_n {E' p : Int} (hB : B ≤ 512) (F : dsk B m D M tu K Rf Rv) (r : ram m D M tu K) (e0 : 0 ≤ E') (e1 : E' ≤ xR m 536 52) (hf : xR m 536 31 ≤ 20000) (hrs : rs B m p) : ∃ m' p' π, yf210 B E' m = some (.inl 0, m') ∧ fG m m' ∧ rs B m' p' ∧ xR m' 395 5 = cfx K Rf E'.toNat ∧ fct m' 395 D M (cfx K Rf E'.toNat) 0 π ∧ rok m' 395 D (cfx K Rf E'.toNat) ∧ ∀ x y, 0 ≤ x → x < y → y < cfx K Rf E'.toNat → (∀ d, 0 ≤ d → d < D → xR m' (395 + 3 + d) x = xR m' (395 + 3 + d) y) → π x < π y := by
  have hD := r.cg.cn.1
  have hM := r.cg.cn.2.1
  have E0 := F.ex.1
  have eK : ∀ e, 0 ≤ e → e < xR m 536 52 → xR m 513 e = K e := fun e a b => (r.le e a b).1
  have hx : ∀ e, 0 ≤ e → e < xR m 536 52 → hfx (xR m 513) e = hfx K e := fun e a b => by unfold hfx; rw [eK e a b]
  have cf : ∀ j : Nat, (j : Int) ≤ xR m 536 52 → cfx (xR m 513) Rf j = cfx K Rf j := fun j hj => cfx_cg j (fun e a b => ⟨eK e a (by omega), rfl⟩)
  have exo : ∀ e : Int, ∃ o : Int → Int, (1 ≤ e → e < xR m 536 52 → hfx K e = true → srt (pk m (cfx K Rf e.toNat)) D.toNat o (Rf e) ∧ Part (m 516) (xR m 587 e * 32768 + 64) (Rf e) (D + M).toNat (rT m D (cfx K Rf e.toNat) o) ∧ xR m 587 e * 32768 + 64 + 8 * partB (rT m D (cfx K Rf e.toNat) o) (Rf e) (D + M).toNat ≤ (xR m 587 e + xR m 588 e) * 32768) := fun e => by
    by_cases h1 : 1 ≤ e ∧ e < xR m 536 52 ∧ hfx K e = true
    · obtain ⟨q, a, b, c, d⟩ := F.xt e h1.1 h1.2.1
      have hk : K e = 2 ∨ K e = 4 := by have := h1.2.2; unfold hfx at this; rw [decide_eq_true_eq] at this; exact this
      obtain ⟨o, S, Eq, P⟩ := a hk
      exact ⟨o, fun _ _ _ => ⟨S, P, by omega⟩⟩
    · exact ⟨fun x => x, fun a b c => absurd ⟨a, b, c⟩ h1⟩
  obtain ⟨O, hO⟩ := Classical.skolem.mp exo
  have ne0 : ∀ e, 0 ≤ e → e < xR m 536 52 → hfx K e = true → 1 ≤ e := fun e a b c => by
    have kd := F.kd e a b
    unfold hfx at c
    rw [decide_eq_true_eq] at c
    omega
  have sm := F.sm
  have cE : cfx K Rf E'.toNat ≤ xR m 536 31 := by
    rw [← sm]
    have := cfx_nn (K := K) F.rf ((xR m 536 52).toNat - E'.toNat) E'.toNat
    rw [show E'.toNat + ((xR m 536 52).toNat - E'.toNat) = (xR m 536 52).toNat by omega] at this
    exact this
  obtain ⟨m', p', z, fg, rs', h5, H⟩ := gather_ok (B := B) (m := m) (D := D) (M := M) (K := xR m 513) (S := xR m 514) (Rf := Rf) (Tf := fun e => rT m D (cfx K Rf e.toNat) (O e)) (E := E') (p := p) hB hD hM r.cg.cn.2.2.1 r.cg.cn.2.2.2.1 rfl rfl e0 (by omega) (fun e a b hf' => by
    rw [hx e a (by omega)] at hf'
    obtain ⟨S, P, L⟩ := hO e (ne0 e a (by omega) hf') (by omega) hf'
    have x1 := F.ex.2.1 e a (by omega)
    have x2 := F.ln e a (by omega)
    rw [(r.le e a (by omega)).2.1]
    refine ⟨F.rf e, ⟨by omega, by omega⟩, rT_w _ _ _ _, fun c j c0 c1 j0 j1 => ?_, P, by omega⟩
    unfold rT
    rw [if_pos c1]
    exact w32_rng _) (by rw [cf _ (by omega)]; omega) hrs
  rw [cf _ (by omega)] at h5
  obtain ⟨π, P1, P2, P3⟩ := pi_ex (m := m) (D := D.toNat) (K := K) (Rf := Rf) (o := O) F.rf E'.toNat (fun e a b c => (hO e (ne0 e a (by omega) c) (by omega) c).1)
  have low : ∀ a, a < 302 → m' a = m a := fun a ha => fg.1 a (by omega) (by omega) (by omega) (by omega) (by omega) (by omega)
  have ref : ∀ a, 536 ≤ a → m' a = m a := fun a ha => fg.1 a (by omega) (by omega) (by omega) (by omega) (by omega) (by omega)
  have row : ∀ x, 0 ≤ x → x < cfx K Rf E'.toNat → (0 ≤ π x ∧ π x < cfx K Rf E'.toNat) ∧ (∀ d, 0 ≤ d → d < D → xR m' (398 + d) x = xR m 575 (8 * π x + d)) ∧ ∀ k, 0 ≤ k → k < M → xJ m' (407 + k) x = xJ m 576 (8 * π x + k) := fun x x0 x1 => by
    obtain ⟨e, j, a, b, c, d⟩ := cfx_loc F.rf E'.toNat x x0 x1
    have a2 : e < E' := by omega
    obtain ⟨H1, H2⟩ := H e a.1 a2 (by rw [hx e a.1 (by omega)]; exact b)
    rw [cf _ (by omega)] at H1 H2
    rw [d, P2 e j a.1 (by omega) b c.1 c.2]
    refine ⟨by rw [← P2 e j a.1 (by omega) b c.1 c.2, ← d]; exact P1.1 x x0 x1, fun q q0 q1 => ?_, fun q q0 q1 => ?_⟩
    · rw [H1 q j q0 q1 c.1 c.2]
      show rT m D (cfx K Rf e.toNat) (O e) q j = _
      unfold rT
      rw [if_pos q1]
    · rw [H2 q j q0 q1 c.1 c.2]
      show rT m D (cfx K Rf e.toNat) (O e) (D + q) j = _
      unfold rT
      rw [if_neg (by omega), show D + q - D = q by omega]
  refine ⟨m', p', π, z, fg, rs', h5, ⟨P1, fun x x0 x1 => ⟨fun d d0 d1 => ?_, fun k k0 k1 => ?_⟩⟩, fun d i d0 d1 i0 i1 => ?_, fun x y x0 xy y1 he => P3 x y x0 xy y1 (fun d d0 d1 => ?_)⟩
  · rw [Int.zero_add, xR_cg (ref 575 (by omega))]; exact (row x x0 x1).2.1 d d0 d1
  · rw [Int.zero_add, xJ_cg (ref 576 (by omega))]; exact (row x x0 x1).2.2 k k0 k1
  · have q := row i i0 i1
    show 0 ≤ xR m' (398 + d) i ∧ xR m' (398 + d) i < xR m' (15 + 26 * d) 11
    rw [q.2.1 d d0 d1, xR_cg (low (15 + 26 * d) (by omega)), ← (r.cg.sz d d0 d1).2.2.1]
    exact F.pl (π i) d q.1.1 (by omega) d0 d1
  · have a := (row x x0 (by omega)).2.1 d d0 (by omega)
    have b := (row y (by omega) y1).2.1 d d0 (by omega)
    rw [← a, ← b]
    exact he d d0 (by omega)
end GTH
