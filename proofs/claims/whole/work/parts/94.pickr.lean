/-! THE CHOOSER: the reference's pick -/
/-- a view's product as the reference reckons it -/
def eqf (lv : Int → Int) (D : Int) (df : Int → Int → Int) (v : Int) : Nat → Int
  | 0 => 1
  | n + 1 => if vdg lv D v n = lv n then eqf lv D df v n else min (eqf lv D df v n) 1000000 * df n (vdg lv D v n)
section PKR
variable {lv : Int → Int} {D F : Int} {B : Nat} {m : xw_M} {df : Int → Int → Int}
theorem eqf_b (hdf : ∀ d k, 0 ≤ d → d < D → 0 ≤ k → k < lv d → 1 ≤ df d k ∧ df d k ≤ 1000) (hl : ∀ d, 0 ≤ d → d < D → 1 ≤ lv d ∧ lv d ≤ 4) {v : Int} : ∀ n : Nat, (n : Int) ≤ D → 0 ≤ eqf lv D df v n ∧ eqf lv D df v n ≤ 1000000000 := by
  intro n
  induction n with
  | zero => intro _; show (0 : Int) ≤ 1 ∧ (1 : Int) ≤ 1000000000; omega
  | succ n ih =>
    intro hn
    have a := ih (by omega)
    have vb := vdg_b (lv := lv) (D := D) (v := v) (fun d d0 d1 => by have := hl d d0 d1; omega) (show 0 ≤ (n : Int) by omega) (by omega)
    show 0 ≤ (if vdg lv D v n = lv n then eqf lv D df v n else min (eqf lv D df v n) 1000000 * df n (vdg lv D v n)) ∧ (if vdg lv D v n = lv n then eqf lv D df v n else min (eqf lv D df v n) 1000000 * df n (vdg lv D v n)) ≤ 1000000000
    by_cases h : vdg lv D v n = lv n
    · rw [if_pos h]; exact a
    · have q := hdf n (vdg lv D v n) (by omega) (by omega) vb.1 (by omega)
      have m0 : 0 ≤ min (eqf lv D df v n) 1000000 ∧ min (eqf lv D df v n) 1000000 ≤ 1000000 := by omega
      have m1 := Int.mul_nonneg m0.1 (show 0 ≤ df n (vdg lv D v n) by omega)
      have m2 := Int.mul_le_mul m0.2 q.2 (by omega) (by omega)
      rw [if_neg h]; omega
theorem es_eq (hF : 0 ≤ F ∧ F ≤ 20000) (hdf : ∀ d k, 0 ≤ d → d < D → 0 ≤ k → k < lv d → 1 ≤ df d k ∧ df d k ≤ 1000) (hl : ∀ d, 0 ≤ d → d < D → 1 ≤ lv d ∧ lv d ≤ 4) {v : Int} : ∀ n : Nat, (n : Int) ≤ D → min F (epf lv D df F v n) = min F (eqf lv D df v n) := by
  intro n
  induction n with
  | zero => intro _; rfl
  | succ n ih =>
    intro hn
    have a := ih (by omega)
    have b1 := epf_b (lv := lv) (D := D) (df := df) (v := v) hF hdf hl n (by omega)
    have b2 := eqf_b (lv := lv) (D := D) (df := df) (v := v) hdf hl n (by omega)
    have vb := vdg_b (lv := lv) (D := D) (v := v) (fun d d0 d1 => by have := hl d d0 d1; omega) (show 0 ≤ (n : Int) by omega) (by omega)
    show min F (if vdg lv D v n < lv n then min F (epf lv D df F v n * df n (vdg lv D v n)) else epf lv D df F v n) = min F (if vdg lv D v n = lv n then eqf lv D df v n else min (eqf lv D df v n) 1000000 * df n (vdg lv D v n))
    by_cases h : vdg lv D v n = lv n
    · rw [if_pos h, if_neg (by omega)]; exact a
    · have q := hdf n (vdg lv D v n) (by omega) (by omega) vb.1 (by omega)
      rw [if_neg h, if_pos (by omega)]
      by_cases hf : epf lv D df F v n < F
      · have e : eqf lv D df v n = epf lv D df F v n := by omega
        rw [e, show min (epf lv D df F v n) 1000000 = epf lv D df F v n by omega]
        omega
      · have e : F ≤ eqf lv D df v n := by omega
        have p1 := Int.mul_le_mul (show F ≤ epf lv D df F v n by omega) q.1 (by omega) (by omega)
        have p2 := Int.mul_le_mul (show F ≤ min (eqf lv D df v n) 1000000 by omega) q.1 (by omega) (by omega)
        omega
/-- the reference's catalog for its choice -/
def rhs (m : xw_M) (lv : Int → Int) (D F : Int) (df : Int → Int → Int) : Prop := (1 ≤ D ∧ D ≤ 8) ∧ (∀ d, 0 ≤ d → d < D → 1 ≤ lv d ∧ lv d ≤ 4) ∧ xR m 536 14 = D ∧ (∀ d, 0 ≤ d → d < D → xR m 538 d = lv d) ∧ xR m 536 31 = F ∧ (0 ≤ F ∧ F ≤ 20000) ∧ (∀ d k, 0 ≤ d → d < D → 0 ≤ k → k < lv d → xR m 574 (4 * d + k) = df d k ∧ 1 ≤ df d k ∧ df d k ≤ 1000)
theorem views_rf (hr : rhs m lv D F df) : yf331 B m = some (.inl (mpw lv D D.toNat), m) := by
  obtain ⟨hD, hl, h14, h38, _⟩ := hr
  unfold yf331
  generalize hN : (1000000 : Nat) = N
  have goal := xH_ex (Q := fun v m' => m' = m ∧ v = ppr lv D.toNat) (xl2_rule (F := yl331_4 B) (fun x1 x2 m' => m' = m ∧ (0 ≤ x2 ∧ x2 ≤ D) ∧ x1 = ppr lv x2.toNat) (fun _ x2 _ => (D - x2).toNat) ?_ N 1 0 m ⟨rfl, ⟨Int.le_refl _, by omega⟩, rfl⟩ (by omega))
  · obtain ⟨v, m', e, rfl, h⟩ := goal
    rw [e, h, ppr_eq (by omega)]
  · intro r x1 x2 m' ⟨b1, b2, b3⟩ ih
    subst b1
    unfold yl331_4
    rw [h14]
    by_cases h : x2 < D
    · have pb := ppr_b hD.2 hl (x2.toNat + 1) (by omega)
      have p5' := p5 (x2.toNat + 1) (by omega)
      have e : ppr lv (x2.toNat + 1) = ppr lv x2.toNat * (lv ((x2.toNat : Nat) : Int) + 1) := rfl
      rw [Int.toNat_of_nonneg b2.1] at e
      rw [if_pos h, if_pos ⟨b2.1, by omega⟩, h38 x2 b2.1 h, b3, ← e, w32_id (by omega) (by omega), w32_id (by omega) (by omega)]
      exact ih _ _ _ ⟨rfl, ⟨by omega, by omega⟩, by rw [show (x2 + 1).toNat = x2.toNat + 1 by omega]⟩ (by omega)
    · rw [if_neg h, xH_ret]
      have ex : x2 = D := by omega
      exact ⟨rfl, by rw [b3, ex]⟩
/-- only the rows of the choice -/
def fRc (m m' : xw_M) : Prop := ∀ a, (a < 583 ∨ 585 < a) → m' a = m a
theorem rhs_cg {m' : xw_M} (h : rhs m lv D F df) (e : ∀ a, a = 538 ∨ a = 574 → m' a = m a) (f : ∀ k, k = 14 ∨ k = 31 → m' 536 k = m 536 k) : rhs m' lv D F df := by
  obtain ⟨h1, h2, h3, h4, h5, h6, h7⟩ := h
  refine ⟨h1, h2, ?_, ?_, ?_, h6, ?_⟩
  · rw [xR_fld (f 14 (by omega))]; exact h3
  · rw [xR_cg (e 538 (by omega))]; exact h4
  · rw [xR_fld (f 31 (by omega))]; exact h5
  · rw [xR_cg (e 574 (by omega))]; exact h7
/-- what is reckoned -/
def rkd (m : xw_M) (lv : Int → Int) (D : Int) (est cost : Int → Int) (n : Int) : Prop := ∀ v, 0 ≤ v → v < n → (∀ d, 0 ≤ d → d < D → xR m 584 (8 * v + d) = vdg lv D v d) ∧ xJ m 583 v = est v ∧ xJ m 585 v = cost v
theorem reckon_ok (hr : rhs m lv D F df) (hV : mpw lv D D.toNat ≤ 512) : ∃ m', yf333 B (mpw lv D D.toNat) m = some (.inl 0, m') ∧ fRc m m' ∧ rkd m' lv D (esf lv D df F) (fun _ => F) (mpw lv D D.toNat) := by
  obtain ⟨hD, hl, h14, h38, h31, hF, hdf⟩ := id hr
  have hl0 : ∀ d, 0 ≤ d → d < D → 0 ≤ lv d := fun d d0 d1 => by have := hl d d0 d1; omega
  have V1 := mpw_pos hl0 D.toNat (by omega)
  have hdf' : ∀ d k, 0 ≤ d → d < D → 0 ≤ k → k < lv d → 1 ≤ df d k ∧ df d k ≤ 1000 := fun d k d0 d1 k0 k1 => (hdf d k d0 d1 k0 k1).2
  unfold yf333
  have goal := xH_ex (Q := fun s m' => s = 0 ∧ fRc m m' ∧ rkd m' lv D (esf lv D df F) (fun _ => F) (mpw lv D D.toNat)) (o := xl2 (yl333_2 B) 1000000 (mpw lv D D.toNat) 0 m) (by
    generalize hN : (1000000 : Nat) = N
    refine xl2_rule (F := yl333_2 B) (fun x1 x2 m' => x1 = mpw lv D D.toNat ∧ (0 ≤ x2 ∧ x2 ≤ mpw lv D D.toNat) ∧ fRc m m' ∧ rkd m' lv D (esf lv D df F) (fun _ => F) x2) (fun _ x2 _ => (mpw lv D D.toNat - x2).toNat) ?_ N _ 0 m ⟨rfl, ⟨Int.le_refl _, by omega⟩, fun _ _ => rfl, fun v v0 v1 => absurd v1 (Int.not_lt.mpr v0)⟩ (by omega)
    intro r x1 x2 m' ⟨b1, b2, b3, b4⟩ ih
    subst b1
    unfold yl333_2
    by_cases hx : x2 < mpw lv D D.toNat
    · rw [if_pos hx]
      generalize hN2 : (1000000 : Nat) = N2
      refine xl4_rule (F := yl333_12 B r) (fun y1 y2 y3 y5 m2 => y1 = mpw lv D D.toNat ∧ y2 = x2 ∧ (0 ≤ y5 ∧ y5 ≤ D) ∧ y3 = eqf lv D df x2 y5.toNat ∧ fRc m m2 ∧ rkd m2 lv D (esf lv D df F) (fun _ => F) x2 ∧ ∀ d, 0 ≤ d → d < y5 → xR m2 584 (8 * x2 + d) = vdg lv D x2 d) (fun _ _ _ y5 _ => (D - y5).toNat) ?_ N2 _ x2 1 0 m' ⟨rfl, rfl, ⟨Int.le_refl _, by omega⟩, rfl, b3, b4, fun d d0 d1 => absurd d1 (Int.not_lt.mpr d0)⟩ (by omega)
      intro r2 y1 y2 y3 y5 m2 ⟨c1, c2, c3, c4, c5, c6, c7⟩ ih2
      subst c1 c2
      have e8 : m2 538 = m 538 := c5 538 (by omega)
      have e53 : m2 536 = m 536 := c5 536 (by omega)
      have qb := eqf_b (lv := lv) (D := D) (df := df) (v := y2) hdf' hl y5.toNat (by omega)
      unfold yl333_12
      rw [xR_cg e53, h14, h31]
      by_cases h5 : y5 < D
      · have l4 := hl y5 c3.1 h5
        have vb := vdg_b (lv := lv) (D := D) (v := y2) (fun d d0 d1 => by have := hl d d0 d1; omega) c3.1 h5
        have ev : vdg (xR m2 538) D y2 y5 = vdg lv D y2 y5 := vdg_cg c3.1 h5 (fun d d0 d1 => by rw [xR_cg e8]; exact h38 d d0 d1)
        have es : eqf lv D df y2 (y5.toNat + 1) = if vdg lv D y2 y5 = lv y5 then eqf lv D df y2 y5.toNat else min (eqf lv D df y2 y5.toNat) 1000000 * df y5 (vdg lv D y2 y5) := by
          show (if vdg lv D y2 ((y5.toNat : Nat) : Int) = lv ((y5.toNat : Nat) : Int) then _ else _) = _
          rw [Int.toNat_of_nonneg c3.1]
        have w8d : w8 (w8 (vdg lv D y2 y5)) = vdg lv D y2 y5 := by unfold w8; omega
        rw [if_pos h5, digit_ok (D := D) hD.2 (by rw [xR_cg e53]; exact h14) ⟨b2.1, by omega⟩ (fun d d0 d1 => by rw [xR_cg e8, h38 d d0 d1]; have := hl d d0 d1; omega) c3.1 h5, xB_ret, ev, if_pos ⟨by omega, by omega⟩, if_pos ⟨c3.1, by omega⟩, xR_cg e8, h38 y5 c3.1 h5, w8d, w32_id (show -2147483648 ≤ y5 + 1 by omega) (by omega)]
        have st : ∀ q3, q3 = eqf lv D df y2 (y5.toNat + 1) → xH (r2 (mpw lv D D.toNat) y2 q3 (y5 + 1) (xw_u m2 584 (8 * y2 + y5) (vdg lv D y2 y5))) (fun s m' => s = 0 ∧ fRc m m' ∧ rkd m' lv D (esf lv D df F) (fun _ => F) (mpw lv D D.toNat)) (fun _ _ => False) := fun q3 hq => by
          refine ih2 _ _ _ _ _ ⟨rfl, rfl, ⟨by omega, by omega⟩, by rw [show (y5 + 1).toNat = y5.toNat + 1 by omega]; exact hq, fun a ha => by rw [xu_c (by omega)]; exact c5 a ha, fun v v0 v1 => ?_, fun d d0 d1 => ?_⟩ (by omega)
          · obtain ⟨z1, z2, z3⟩ := c6 v v0 v1
            refine ⟨fun d d0 d1 => by rw [xR_ne (by omega)]; exact z1 d d0 d1, by rw [xJ_cg (xu_c (by omega))]; exact z2, by rw [xJ_cg (xu_c (by omega))]; exact z3⟩
          · rw [xR_u]
            by_cases ed : d = y5
            · rw [if_pos ⟨rfl, by omega⟩, ed]; exact w32_id (by omega) (by omega)
            · rw [if_neg (by omega)]; exact c7 d d0 (by omega)
        by_cases hk : vdg lv D y2 y5 = lv y5
        · rw [if_pos hk]
          exact st y3 (by rw [es, if_pos hk, c4])
        · obtain ⟨q1, q2, q3⟩ := hdf y5 (vdg lv D y2 y5) c3.1 h5 vb.1 (by omega)
          have m0 : 0 ≤ min (eqf lv D df y2 y5.toNat) 1000000 ∧ min (eqf lv D df y2 y5.toNat) 1000000 ≤ 1000000 := by omega
          have m1 := Int.mul_nonneg m0.1 (show 0 ≤ df y5 (vdg lv D y2 y5) by omega)
          have m2' := Int.mul_le_mul m0.2 q3 (by omega) (by omega)
          rw [if_neg hk, if_pos ⟨by omega, by omega⟩, xR_cg (c5 574 (by omega)), q1, c4, w64_id (by omega) (by omega)]
          exact st _ (by rw [es, if_neg hk])
      · have ey : y5 = D := by omega
        rw [ey] at c4 c7 qb
        have eE : min y3 F = esf lv D df F y2 := by
          have := es_eq (lv := lv) (D := D) (df := df) (v := y2) hF hdf' hl D.toNat (by omega)
          rw [c4]
          unfold esf
          omega
        have eb := esf_b (lv := lv) (D := D) (df := df) hF (by omega) hdf' hl y2
        rw [if_neg h5, if_pos ⟨b2.1, by omega⟩, eE, w32_id (by omega) (by omega)]
        refine ih _ _ _ ⟨rfl, ⟨by omega, by omega⟩, fun a ha => by rw [xu_c (by omega), xu_c (by omega)]; exact c5 a ha, fun v v0 v1 => ?_⟩ (by omega)
        refine ⟨fun d d0 d1 => ?_, ?_, ?_⟩
        · rw [xR_cg (xu_c (by omega)), xR_cg (xu_c (by omega))]
          by_cases e : v = y2
          · rw [e]; exact c7 d d0 d1
          · exact (c6 v v0 (by omega)).1 d d0 d1
        · rw [xJ_cg (xu_c (show (583 : Int) ≠ 585 by omega)), xJ_u]
          by_cases e : v = y2
          · rw [if_pos ⟨rfl, e⟩, e]; exact w64_id (by omega) (by omega)
          · rw [if_neg (by omega)]; exact (c6 v v0 (by omega)).2.1
        · rw [xJ_u]
          by_cases e : v = y2
          · rw [if_pos ⟨rfl, e⟩]; exact w64_id (by omega) (by omega)
          · rw [if_neg (by omega), xJ_cg (xu_c (show (585 : Int) ≠ 583 by omega))]; exact (c6 v v0 (by omega)).2.2
    · rw [if_neg hx, xH_ret]
      have ex : x2 = mpw lv D D.toNat := by omega
      rw [ex] at b4
      exact ⟨rfl, b3, b4⟩)
  obtain ⟨s, m', e, rfl, h⟩ := goal
  exact ⟨m', e, h⟩
/-- isAbove -/
theorem above_ok {est cost : Int → Int} {v w V : Int} (hD : 1 ≤ D ∧ D ≤ 8) (h14 : xR m 536 14 = D) (hV : V ≤ 512) (hk : rkd m lv D est cost V) (v0 : 0 ≤ v) (v1 : v < V) (w0 : 0 ≤ w) (w1 : w < V) : yf335 B v w m = some (.inl (if abb lv D v w = true then 1 else 0), m) := by
  unfold yf335
  generalize hN : (1000000 : Nat) = N
  have goal := xH_ex (Q := fun s m' => m' = m ∧ s = (if abb lv D v w = true then 1 else 0)) (xl4_rule (F := yl335_5 B) (fun x1 x2 x3 x4 m' => m' = m ∧ x1 = v ∧ x2 = w ∧ (0 ≤ x4 ∧ x4 ≤ D) ∧ ((x3 = 1 ∧ ∀ d, 0 ≤ d → d < x4 → vdg lv D v d ≤ vdg lv D w d) ∨ (x3 = 0 ∧ abb lv D v w = false))) (fun _ _ _ x4 _ => (D - x4).toNat) ?_ N v w 1 0 m ⟨rfl, rfl, rfl, ⟨Int.le_refl _, by omega⟩, Or.inl ⟨rfl, fun d d0 d1 => absurd d1 (Int.not_lt.mpr d0)⟩⟩ (by omega))
  · obtain ⟨s, m', e, rfl, h⟩ := goal
    rw [e, h]
  · intro r x1 x2 x3 x4 m' ⟨b1, b2, b3, b4, b5⟩ ih
    subst b1 b2 b3
    unfold yl335_5
    rw [h14]
    by_cases h4 : x4 < D
    · rw [if_pos h4]
      rcases b5 with ⟨q1, q2⟩ | ⟨q1, q2⟩
      · rw [if_neg (by omega), if_pos ⟨by omega, by omega⟩, if_pos ⟨by omega, by omega⟩, (hk x1 v0 v1).1 x4 b4.1 h4, (hk x2 w0 w1).1 x4 b4.1 h4, w32_id (by omega) (by omega)]
        by_cases hd : vdg lv D x2 x4 < vdg lv D x1 x4
        · rw [if_pos hd]
          refine ih _ _ _ _ _ ⟨rfl, rfl, rfl, ⟨by omega, by omega⟩, Or.inr ⟨rfl, ?_⟩⟩ (by omega)
          by_cases ha : abb lv D x1 x2 = true
          · have := abb_iff.mp ha x4 b4.1 h4; omega
          · simpa using ha
        · rw [if_neg hd]
          refine ih _ _ _ _ _ ⟨rfl, rfl, rfl, ⟨by omega, by omega⟩, Or.inl ⟨rfl, fun d d0 d1 => ?_⟩⟩ (by omega)
          by_cases ed : d = x4
          · rw [ed]; omega
          · exact q2 d d0 (by omega)
      · rw [if_pos q1, if_pos (Or.inl q1), xH_ret, q2, if_neg (by decide)]
        exact ⟨rfl, q1⟩
    · have ex : x4 = D := by omega
      rw [if_neg h4, if_pos (by omega), xH_ret]
      rcases b5 with ⟨q1, q2⟩ | ⟨q1, q2⟩
      · rw [if_pos (abb_iff.mpr (fun d d0 d1 => q2 d d0 (by omega)))]; exact ⟨rfl, q1⟩
      · rw [q2, if_neg (by decide)]; exact ⟨rfl, q1⟩
theorem rbenefit_ok {est cost : Int → Int} {v V : Int} (hD : 1 ≤ D ∧ D ≤ 8) (h14 : xR m 536 14 = D) (hV : V ≤ 512) (hk : rkd m lv D est cost V) (hF : 0 ≤ F ∧ F ≤ 20000) (v0 : 0 ≤ v) (v1 : v < V) (he : 0 ≤ est v ∧ est v ≤ F) (hco : ∀ w, 0 ≤ w → w < V → 0 ≤ cost w ∧ cost w ≤ F) : yf334 B v V m = some (.inl (bnf lv D est cost v V.toNat), m) := by
  have bm : ∀ n : Nat, (n : Int) ≤ V → 0 ≤ bnf lv D est cost v n ∧ bnf lv D est cost v n ≤ 20000 * 512 := fun n hn => by
    have a := bnf_b (lv := lv) (D := D) (v := v) (est := est) (cost := cost) hF.1 he.1 n (fun w w0 w1 => hco w w0 (by omega))
    have q1 := Int.mul_le_mul_of_nonneg_right hF.2 (show (0 : Int) ≤ (n : Int) by omega)
    have q2 : (20000 : Int) * (n : Int) ≤ 20000 * 512 := by omega
    omega
  unfold yf334
  generalize hN : (1000000 : Nat) = N
  have goal := xH_ex (Q := fun s m' => m' = m ∧ s = bnf lv D est cost v V.toNat) (xl4_rule (F := yl334_5 B) (fun x1 x2 x3 x5 m' => m' = m ∧ x1 = v ∧ x2 = V ∧ (0 ≤ x5 ∧ x5 ≤ V) ∧ x3 = bnf lv D est cost v x5.toNat) (fun _ _ _ x5 _ => (V - x5).toNat) ?_ N v V 0 0 m ⟨rfl, rfl, rfl, ⟨Int.le_refl _, by omega⟩, rfl⟩ (by omega))
  · obtain ⟨s, m', e, rfl, h⟩ := goal
    rw [e, h]
  · intro r x1 x2 x3 x5 m' ⟨b1, b2, b3, b4, b5⟩ ih
    subst b1 b2 b3
    unfold yl334_5
    by_cases h5 : x5 < x2
    · have es : bnf lv D est cost x1 (x5.toNat + 1) = bnf lv D est cost x1 x5.toNat + (if est x1 < cost x5 ∧ abb lv D x1 x5 = true then cost x5 - est x1 else 0) := by
        show bnf lv D est cost x1 x5.toNat + (if est x1 < cost ((x5.toNat : Nat) : Int) ∧ abb lv D x1 ((x5.toNat : Nat) : Int) = true then cost ((x5.toNat : Nat) : Int) - est x1 else 0) = _
        rw [Int.toNat_of_nonneg b4.1]
      have bx := bm x5.toNat (by omega)
      have cx := hco x5 b4.1 h5
      rw [if_pos h5, if_pos ⟨b4.1, by omega⟩, if_pos ⟨v0, by omega⟩, (hk x1 v0 v1).2.1, (hk x5 b4.1 h5).2.2, w32_id (by omega) (by omega), b5]
      by_cases hlt : est x1 < cost x5
      · rw [if_pos hlt, above_ok (B := B) hD h14 hV hk v0 v1 b4.1 h5, xB_ret]
        by_cases ha : abb lv D x1 x5 = true
        · rw [if_pos ha, if_neg (by decide), (hk x1 v0 v1).2.1, (hk x5 b4.1 h5).2.2, w64_id (by omega) (by omega)]
          refine ih _ _ _ _ _ ⟨rfl, rfl, rfl, ⟨by omega, by omega⟩, ?_⟩ (by omega)
          rw [show (x5 + 1).toNat = x5.toNat + 1 by omega, es, if_pos ⟨hlt, ha⟩]
        · rw [if_neg ha, if_pos rfl, Int.add_zero, w64_id (by omega) (by omega)]
          refine ih _ _ _ _ _ ⟨rfl, rfl, rfl, ⟨by omega, by omega⟩, ?_⟩ (by omega)
          rw [show (x5 + 1).toNat = x5.toNat + 1 by omega, es, if_neg (fun q => ha q.2), Int.add_zero]
      · rw [if_neg hlt, Int.add_zero, w64_id (by omega) (by omega)]
        refine ih _ _ _ _ _ ⟨rfl, rfl, rfl, ⟨by omega, by omega⟩, ?_⟩ (by omega)
        rw [show (x5 + 1).toNat = x5.toNat + 1 by omega, es, if_neg (fun q => hlt q.1), Int.add_zero]
    · rw [if_neg h5, xH_ret]
      have ex : x5 = x2 := by omega
      exact ⟨rfl, by rw [b5, ex]⟩
end PKR
