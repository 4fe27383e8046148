/-! THE CHOOSER: which view comes next below a view (begin, following), how many views there are -/
section FOL
variable {lv g low : Int → Int} {D : Int} {B : Nat} {m : xw_M}
theorem mlt_max (hl : ∀ d, 0 ≤ d → d < D → 0 ≤ lv d) : ∀ j : Nat, (j : Int) ≤ D → (∀ d, D - (j : Nat) ≤ d → d < D → g d = lv d) → mlt lv D g j = mpw lv D j - 1 := by
  intro j
  induction j with
  | zero => intro _ _; rfl
  | succ j ih =>
    intro hj h
    show g (D - 1 - (j : Nat)) * mpw lv D j + mlt lv D g j = mpw lv D j * (lv (D - 1 - (j : Nat)) + 1) - 1
    rw [ih (by omega) (fun d d0 d1 => h d (by omega) d1), h (D - 1 - (j : Nat)) (by omega) (by omega), Int.mul_add, Int.mul_one, Int.mul_comm (mpw lv D j)]
    omega
/-- below a view or at it -/
def blw (lv low : Int → Int) (D z : Int) : Prop := ∀ d, 0 ≤ d → d < D → low d ≤ vdg lv D z d
/-- the chooser's catalog: levels, weights -/
def chs (m : xw_M) (lv : Int → Int) (D : Int) : Prop := (1 ≤ D ∧ D ≤ 8) ∧ (∀ d, 0 ≤ d → d < D → 1 ≤ lv d ∧ lv d ≤ 4) ∧ xR m 3 1 = D ∧ (∀ d, 0 ≤ d → d < D → xR m (15 + 26 * d) 10 = lv d) ∧ mpw lv D D.toNat ≤ 512
theorem chs_cg {m' : xw_M} (h : chs m lv D) (e : ∀ a, a < 223 → m' a = m a) : chs m' lv D := by
  obtain ⟨h1, h2, h3, h4, h5⟩ := h
  exact ⟨h1, h2, by rw [xR_cg (e 3 (by omega))]; exact h3, fun d d0 d1 => by rw [xR_cg (e (15 + 26 * d) (by omega))]; exact h4 d d0 d1, h5⟩
theorem mpw_le (hl : ∀ d, 0 ≤ d → d < D → 0 ≤ lv d) : ∀ i j : Nat, ((j + i : Nat) : Int) ≤ D → mpw lv D j ≤ mpw lv D (j + i) := by
  intro i
  induction i with
  | zero => intro j _; exact Int.le_refl _
  | succ i ih =>
    intro j h
    have a := ih j (by omega)
    have p := mpw_pos hl (j + i) (by omega)
    have l0 := hl (D - 1 - ((j + i : Nat) : Int)) (by omega) (by omega)
    show mpw lv D j ≤ mpw lv D (j + i) * (lv (D - 1 - ((j + i : Nat) : Int)) + 1)
    have := Int.mul_le_mul_of_nonneg_left (show (1 : Int) ≤ lv (D - 1 - ((j + i : Nat) : Int)) + 1 by omega) (show 0 ≤ mpw lv D (j + i) by omega)
    omega
theorem following_ok {x : Int} (hc : chs m lv D) (hw : ∀ d, 0 ≤ d → d < D → xR m 299 d = mpw lv D (D - 1 - d).toNat) (hlo : ∀ d, 0 ≤ d → d < D → xR m 300 d = low d) (hg : ∀ d, 0 ≤ d → d < D → xR m 301 d = g d) (gb : ∀ d, 0 ≤ d → d < D → 0 ≤ low d ∧ low d ≤ g d ∧ g d ≤ lv d) (hx : x = mlt lv D g D.toNat) : ∃ v m', yf207 B x m = some (.inl v, m') ∧ (∀ a, a ≠ 301 → m' a = m a) ∧ ((v = -1 ∧ ∀ z, x < z → z < mpw lv D D.toNat → ¬ blw lv low D z) ∨ (∃ g' : Int → Int, (∀ d, 0 ≤ d → d < D → low d ≤ g' d ∧ g' d ≤ lv d) ∧ v = mlt lv D g' D.toNat ∧ (∀ d, 0 ≤ d → d < D → xR m' 301 d = g' d) ∧ x < v ∧ v < mpw lv D D.toNat ∧ ∀ z, x < z → z < v → ¬ blw lv low D z)) := by
  obtain ⟨hD, hlv, h31, h10, hV⟩ := hc
  have hl : ∀ d, 0 ≤ d → d < D → 0 ≤ lv d := fun d d0 d1 => by have := hlv d d0 d1; omega
  have mg : mdg lv D g := fun d d0 d1 => by have := gb d d0 d1; omega
  have ml : mdg lv D low := fun d d0 d1 => by have := gb d d0 d1; omega
  have xb := mlt_b hl mg D.toNat (by omega)
  have digx : ∀ d, 0 ≤ d → d < D → vdg lv D x d = g d := fun d d0 d1 => by rw [hx]; exact vdg_mlt hl mg d0 d1
  unfold yf207
  rw [h31, w32_id (by omega) (by omega)]
  generalize hN : (1000000 : Nat) = N
  have goal := xH_ex (Q := fun v m' => (∀ a, a ≠ 301 → m' a = m a) ∧ ((v = -1 ∧ ∀ z, x < z → z < mpw lv D D.toNat → ¬ blw lv low D z) ∨ (∃ g' : Int → Int, (∀ d, 0 ≤ d → d < D → low d ≤ g' d ∧ g' d ≤ lv d) ∧ v = mlt lv D g' D.toNat ∧ (∀ d, 0 ≤ d → d < D → xR m' 301 d = g' d) ∧ x < v ∧ v < mpw lv D D.toNat ∧ ∀ z, x < z → z < v → ¬ blw lv low D z))) (xl2_rule (F := yl207_12 B) (fun x2 x3 m' => (-1 ≤ x3 ∧ x3 ≤ D - 1) ∧ x2 = mlt lv D g D.toNat - mlt lv D g (D - 1 - x3).toNat + mlt lv D low (D - 1 - x3).toNat ∧ (∀ a, a ≠ 301 → m' a = m a) ∧ (∀ d, 0 ≤ d → d ≤ x3 → xR m' 301 d = g d) ∧ (∀ d, 0 ≤ d → x3 < d → d < D → xR m' 301 d = low d) ∧ ∀ d, x3 < d → d < D → g d = lv d) (fun _ x3 _ => (x3 + 1).toNat) ?_ N x (D - 1) m ⟨by omega, by rw [show (D - 1 - (D - 1)).toNat = 0 by omega]; show x = _ - 0 + 0; omega, fun _ _ => rfl, fun d d0 d1 => hg d d0 (by omega), fun d d0 d1 d2 => by omega, fun d d1 d2 => by omega⟩ (by omega))
  · obtain ⟨v, m', e, h⟩ := goal
    exact ⟨v, m', e, h⟩
  · intro r x2 x3 m' ⟨b1, b2, b3, b4, b5, b6⟩ ih
    unfold yl207_12
    by_cases h3 : x3 < 0
    · rw [if_pos h3, xH_ret]
      refine ⟨b3, Or.inl ⟨rfl, fun z z0 z1 => ?_⟩⟩
      have := mlt_max (lv := lv) (g := g) hl D.toNat (by omega) (fun d d0 d1 => b6 d (by omega) d1)
      omega
    · have lvd := hlv x3 (by omega) (by omega)
      have gbd := gb x3 (by omega) (by omega)
      have e10 : xR m' (15 + 26 * x3) 10 = lv x3 := by rw [xR_cg (b3 (15 + 26 * x3) (by omega))]; exact h10 x3 (by omega) (by omega)
      have ewt : xR m' 299 x3 = mpw lv D (D - 1 - x3).toNat := by rw [xR_cg (b3 299 (by omega))]; exact hw x3 (by omega) (by omega)
      have elo : xR m' 300 x3 = low x3 := by rw [xR_cg (b3 300 (by omega))]; exact hlo x3 (by omega) (by omega)
      have eg := b4 x3 (by omega) (Int.le_refl _)
      generalize hj : (D - 1 - x3).toNat = j at *
      have ed : D - 1 - ((j : Nat) : Int) = x3 := by omega
      have pj := mpw_pos hl j (by omega)
      have pjV := mpw_le hl (D.toNat - j) j (by omega)
      rw [show j + (D.toNat - j) = D.toNat by omega] at pjV
      have mx := mlt_max (lv := lv) (g := g) hl j (by omega) (fun d d0 d1 => b6 d (by omega) d1)
      have lob := mlt_b hl ml j (by omega)
      rw [if_neg h3, if_pos ⟨by omega, by omega⟩, if_pos (dm_f B (show 0 ≤ x3 by omega) (by omega)).1, eg, e10, ewt]
      by_cases hlt : g x3 < lv x3
      · rw [if_pos hlt, xH_ret]
        -- the next number
        have gy : ∃ g' : Int → Int, (∀ d, d < x3 → g' d = g d) ∧ g' x3 = g x3 + 1 ∧ ∀ d, x3 < d → g' d = low d := ⟨fun d => if d < x3 then g d else if d = x3 then g d + 1 else low d, fun d hd => if_pos hd, by show (if x3 < x3 then g x3 else if x3 = x3 then g x3 + 1 else low x3) = _; rw [if_neg (by omega), if_pos rfl], fun d hd => by show (if d < x3 then g d else if d = x3 then g d + 1 else low d) = _; rw [if_neg (by omega), if_neg (by omega)]⟩
        obtain ⟨g', g1, g2, g3⟩ := gy
        have gb' : ∀ d, 0 ≤ d → d < D → low d ≤ g' d ∧ g' d ≤ lv d := fun d d0 d1 => by
          have q := gb d d0 d1
          rcases Int.lt_trichotomy d x3 with c | c | c
          · rw [g1 d c]; omega
          · rw [c, g2]; rw [c] at q; omega
          · rw [g3 d c]; omega
        have mg' : mdg lv D g' := fun d d0 d1 => by have := gb' d d0 d1; have := gb d d0 d1; omega
        have hi := mlt_hi (lv := lv) (D := D) (g := g') (g' := g) (j + 1) (D.toNat - (j + 1)) (fun d d0 d1 => g1 d (by omega))
        rw [show j + 1 + (D.toNat - (j + 1)) = D.toNat by omega] at hi
        have q1 : mlt lv D g' (j + 1) = g' (D - 1 - (j : Nat)) * mpw lv D j + mlt lv D g' j := rfl
        have q2 : mlt lv D g (j + 1) = g (D - 1 - (j : Nat)) * mpw lv D j + mlt lv D g j := rfl
        rw [ed, g2, Int.add_mul, Int.one_mul, mlt_cg (g' := low) j (fun d d0 d1 => g3 d (by omega))] at q1
        rw [ed] at q2
        have ev : x2 + mpw lv D j = mlt lv D g' D.toNat := by omega
        have vb := mlt_b hl mg' D.toNat (by omega)
        rw [ev, w32_id (by omega) (by omega)]
        refine ⟨fun a ha => by rw [xu_c ha]; exact b3 a ha, Or.inr ⟨g', gb', rfl, fun d d0 d1 => ?_, by omega, vb.2, fun z z0 z1 hz => ?_⟩⟩
        · rw [xR_u]
          by_cases e : d = x3
          · rw [if_pos ⟨rfl, e⟩, e, g2]; exact w32_id (by omega) (by omega)
          · rw [if_neg (by omega)]
            by_cases hd : d < x3
            · rw [b4 d d0 (by omega), g1 d hd]
            · rw [b5 d d0 (by omega) d1, g3 d (by omega)]
        · -- none between
          have xm : x % mpw lv D j = mpw lv D j - 1 := by
            rw [mod_mlt hl x j (by omega), mlt_cg (g' := g) j (fun d d0 d1 => digx d (by omega) d1), mx]
          have dm := Int.emod_add_mul_ediv x (mpw lv D j)
          have zt : z % mpw lv D j = z - x - 1 := by
            have ez : z = (z - x - 1) + mpw lv D j * (x / mpw lv D j + 1) := by
              rw [Int.mul_add, Int.mul_one]; omega
            have e3 : z % mpw lv D j = ((z - x - 1) + mpw lv D j * (x / mpw lv D j + 1)) % mpw lv D j := congrArg (fun t => t % mpw lv D j) ez
            rw [e3, Int.add_mul_emod_self_left, Int.emod_eq_of_lt (by omega) (by omega)]
          have zl := mlt_mono (lv := lv) (low := low) (g := vdg lv D z) hl j (by omega) (fun d d0 d1 => hz d (by omega) d1)
          rw [← mod_mlt hl z j (by omega), zt] at zl
          omega
      · rw [if_neg hlt, elo]
        have ge : g x3 = lv x3 := by omega
        have q2 : mlt lv D g (j + 1) = g (D - 1 - (j : Nat)) * mpw lv D j + mlt lv D g j := rfl
        have q3 : mlt lv D low (j + 1) = low (D - 1 - (j : Nat)) * mpw lv D j + mlt lv D low j := rfl
        rw [ed] at q2 q3
        have en : x2 - (g x3 - low x3) * mpw lv D j = mlt lv D g D.toNat - mlt lv D g (j + 1) + mlt lv D low (j + 1) := by
          rw [Int.sub_mul]; omega
        have lob1 := mlt_b hl ml (j + 1) (by omega)
        have gb1 := mlt_b hl mg (j + 1) (by omega)
        have hi0 : 0 ≤ mlt lv D g D.toNat - mlt lv D g (j + 1) := by
          have a := mod_mlt hl x (j + 1) (by omega)
          rw [mlt_cg (g' := g) (j + 1) (fun d d0 d1 => digx d (by omega) d1)] at a
          have d2 := Int.emod_add_mul_ediv x (mpw lv D (j + 1))
          have p2 := mpw_pos hl (j + 1) (by omega)
          have p3 := Int.mul_nonneg (show 0 ≤ mpw lv D (j + 1) by omega) (Int.ediv_nonneg (show 0 ≤ x by omega) (show 0 ≤ mpw lv D (j + 1) by omega))
          omega
        have pj1 := mpw_le hl (D.toNat - (j + 1)) (j + 1) (by omega)
        rw [show j + 1 + (D.toNat - (j + 1)) = D.toNat by omega] at pj1
        rw [en, w32_id (by omega) (by omega), w32_id (by omega) (by omega)]
        refine ih _ _ _ ⟨⟨by omega, by omega⟩, by rw [show (D - 1 - (x3 + -1)).toNat = j + 1 by omega], fun a ha => by rw [xu_c ha]; exact b3 a ha, fun d d0 d1 => ?_, fun d d0 d1 d2 => ?_, fun d d1 d2 => ?_⟩ (by omega)
        · rw [xR_ne (by omega)]; exact b4 d d0 (by omega)
        · rw [xR_u]
          by_cases e : d = x3
          · rw [if_pos ⟨rfl, e⟩, e]; exact w32_id (by omega) (by omega)
          · rw [if_neg (by omega)]; exact b5 d d0 (by omega) d2
        · by_cases e : d = x3
          · rw [e]; exact ge
          · exact b6 d (by omega) d2
/-- begin -/
theorem begin_v {v : Int} (hc : chs m lv D) (v0 : 0 ≤ v) (v1 : v < 2147483648) : ∃ m', yf206 B v m = some (.inl v, m') ∧ (∀ a, a ≠ 300 → a ≠ 301 → m' a = m a) ∧ ∀ d, 0 ≤ d → d < D → xR m' 300 d = vdg lv D v d ∧ xR m' 301 d = vdg lv D v d := by
  obtain ⟨hD, hlv, h31, h10, hV⟩ := id hc
  unfold yf206
  generalize hN : (1000000 : Nat) = N
  have goal := xH_ex (Q := fun w m' => w = v ∧ (∀ a, a ≠ 300 → a ≠ 301 → m' a = m a) ∧ ∀ d, 0 ≤ d → d < D → xR m' 300 d = vdg lv D v d ∧ xR m' 301 d = vdg lv D v d) (xl2_rule (F := yl206_2 B) (fun x1 x2 m' => x1 = v ∧ (0 ≤ x2 ∧ x2 ≤ D) ∧ (∀ a, a ≠ 300 → a ≠ 301 → m' a = m a) ∧ ∀ d, 0 ≤ d → d < x2 → xR m' 300 d = vdg lv D v d ∧ xR m' 301 d = vdg lv D v d) (fun _ x2 _ => (D - x2).toNat) ?_ N v 0 m ⟨rfl, ⟨Int.le_refl _, by omega⟩, fun _ _ _ => rfl, fun d d0 d1 => absurd d1 (Int.not_lt.mpr d0)⟩ (by omega))
  · obtain ⟨w, m', e, rfl, h⟩ := goal
    exact ⟨m', e, h⟩
  · intro r x1 x2 m' ⟨b1, b2, b3, b4⟩ ih
    subst b1
    have c' : chs m' lv D := chs_cg hc (fun a ha => b3 a (by omega) (by omega))
    unfold yl206_2
    rw [c'.2.2.1]
    by_cases hx : x2 < D
    · have lb : ∀ d, 0 ≤ d → d < D → 0 ≤ xR m' (15 + 26 * d) 10 ∧ xR m' (15 + 26 * d) 10 ≤ 4 := fun d d0 d1 => by rw [c'.2.2.2.1 d d0 d1]; have := hlv d d0 d1; omega
      have e : vdg (fun d => xR m' (15 + 26 * d) 10) D x1 x2 = vdg lv D x1 x2 := vdg_cg b2.1 hx (fun d d0 d1 => c'.2.2.2.1 d d0 d1)
      have db := vdg_b (lv := lv) (D := D) (v := x1) (fun d d0 d1 => by have := hlv d d0 d1; omega) b2.1 hx
      have l4 := hlv x2 b2.1 hx
      rw [if_pos hx, levelIn_ok (D := D) hD.2 c'.2.2.1 ⟨v0, v1⟩ lb b2.1 hx, xB_ret, if_pos ⟨b2.1, by omega⟩, w32_id (by omega) (by omega), e]
      refine ih _ _ _ ⟨rfl, ⟨by omega, by omega⟩, fun a a1 a2 => by rw [xu_c a2, xu_c a1]; exact b3 a a1 a2, fun d d0 d1 => ?_⟩ (by omega)
      rw [xR_cg (xu_c (show (300 : Int) ≠ 301 by omega)), xR_u, xR_u]
      by_cases ed : d = x2
      · rw [if_pos ⟨rfl, ed⟩, if_pos ⟨rfl, ed⟩, ed]; exact ⟨w32_id (by omega) (by omega), w32_id (by omega) (by omega)⟩
      · rw [if_neg (by omega), if_neg (by omega), xR_cg (xu_c (show (301 : Int) ≠ 300 by omega))]; exact b4 d d0 (by omega)
    · rw [if_neg hx, xH_ret]
      have ex : x2 = D := by omega
      subst ex
      exact ⟨rfl, b3, b4⟩
end FOL
