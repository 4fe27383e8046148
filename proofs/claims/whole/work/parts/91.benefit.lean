/-! THE CHOOSER: benefit, cheapen -/
/-- whether the view v is above w, or it -/
def abb (lv : Int → Int) (D v w : Int) : Bool := decide (∀ d : Nat, d < D.toNat → vdg lv D v d ≤ vdg lv D w d)
theorem abb_iff {lv : Int → Int} {D v w : Int} : abb lv D v w = true ↔ blw lv (vdg lv D v) D w := by
  unfold abb blw
  rw [decide_eq_true_eq]
  refine ⟨fun h d d0 d1 => ?_, fun h d d1 => h d (by omega) (by omega)⟩
  have := h d.toNat (by omega)
  rw [Int.toNat_of_nonneg d0] at this
  exact this
/-- what a view would save in the first n views -/
def bnf (lv : Int → Int) (D : Int) (est cost : Int → Int) (v : Int) : Nat → Int
  | 0 => 0
  | n + 1 => bnf lv D est cost v n + (if est v < cost n ∧ abb lv D v n = true then cost n - est v else 0)
theorem bnf_cg {lv est cost est' cost' : Int → Int} {D v : Int} (ev : est v = est' v) : ∀ n : Nat, (∀ w : Int, 0 ≤ w → w < n → cost w = cost' w) → bnf lv D est cost v n = bnf lv D est' cost' v n := by
  intro n
  induction n with
  | zero => intro _; rfl
  | succ n ih =>
    intro h
    show bnf lv D est cost v n + (if est v < cost n ∧ abb lv D v n = true then cost n - est v else 0) = bnf lv D est' cost' v n + (if est' v < cost' n ∧ abb lv D v n = true then cost' n - est' v else 0)
    rw [ih (fun w w0 w1 => h w w0 (by omega)), h n (by omega) (by omega), ev]
theorem bnf_b {lv est cost : Int → Int} {D v F : Int} (hF : 0 ≤ F) (he : 0 ≤ est v) : ∀ n : Nat, (∀ w : Int, 0 ≤ w → w < n → 0 ≤ cost w ∧ cost w ≤ F) → 0 ≤ bnf lv D est cost v n ∧ bnf lv D est cost v n ≤ F * n := by
  intro n
  induction n with
  | zero => intro _; show (0 : Int) ≤ 0 ∧ (0 : Int) ≤ F * 0; omega
  | succ n ih =>
    intro h
    have a := ih (fun w w0 w1 => h w w0 (by omega))
    have b := h n (by omega) (by omega)
    show 0 ≤ bnf lv D est cost v n + (if est v < cost n ∧ abb lv D v n = true then cost n - est v else 0) ∧ bnf lv D est cost v n + (if est v < cost n ∧ abb lv D v n = true then cost n - est v else 0) ≤ F * ((n + 1 : Nat) : Int)
    rw [show ((n + 1 : Nat) : Int) = (n : Int) + 1 by omega, Int.mul_add, Int.mul_one]
    by_cases hc : est v < cost n ∧ abb lv D v n = true
    · rw [if_pos hc]; omega
    · rw [if_neg hc]; omega
theorem bnf_skip {lv est cost : Int → Int} {D v : Int} (a : Nat) : ∀ i : Nat, (∀ w : Int, (a : Int) ≤ w → w < ((a + i : Nat) : Int) → ¬ blw lv (vdg lv D v) D w) → bnf lv D est cost v (a + i) = bnf lv D est cost v a := by
  intro i
  induction i with
  | zero => intro _; rfl
  | succ i ih =>
    intro h
    have q := h ((a + i : Nat) : Int) (by omega) (by omega)
    show bnf lv D est cost v (a + i) + (if est v < cost ((a + i : Nat) : Int) ∧ abb lv D v ((a + i : Nat) : Int) = true then _ else 0) = _
    rw [if_neg (fun hh => q (abb_iff.mp hh.2)), ih (fun w w0 w1 => h w w0 (by omega)), Int.add_zero]
/-- a view's cost, once v is chosen -/
def cuf (lv : Int → Int) (D : Int) (est cost : Int → Int) (v w : Int) : Int := if est v < cost w ∧ abb lv D v w = true then est v else cost w
section BEN
variable {lv : Int → Int} {D : Int} {B : Nat} {m : xw_M}
/-- the chooser stands at z, on its way below v -/
def atz (m : xw_M) (lv : Int → Int) (D v z : Int) : Prop := (∀ d, 0 ≤ d → d < D → xR m 300 d = vdg lv D v d ∧ xR m 301 d = vdg lv D z d) ∧ blw lv (vdg lv D v) D z ∧ 0 ≤ z ∧ z < mpw lv D D.toNat
theorem lvnn (hc : chs m lv D) : ∀ d, 0 ≤ d → d < D → 0 ≤ lv d := fun d d0 d1 => by have := hc.2.1 d d0 d1; omega
/-- following, by views -/
theorem next_ok {v z : Int} (hc : chs m lv D) (hw : ∀ d, 0 ≤ d → d < D → xR m 299 d = mpw lv D (D - 1 - d).toNat) (h : atz m lv D v z) : ∃ y m', yf207 B z m = some (.inl y, m') ∧ (∀ a, a ≠ 301 → m' a = m a) ∧ ((y = -1 ∧ ∀ x, z < x → x < mpw lv D D.toNat → ¬ blw lv (vdg lv D v) D x) ∨ (atz m' lv D v y ∧ z < y ∧ ∀ x, z < x → x < y → ¬ blw lv (vdg lv D v) D x)) := by
  obtain ⟨hD, hlv, h31, h10, hV⟩ := id hc
  have hl := lvnn hc
  obtain ⟨h1, h2, h3, h4⟩ := h
  have vb : ∀ (x d : Int), 0 ≤ d → d < D → 0 ≤ vdg lv D x d ∧ vdg lv D x d ≤ lv d := fun x d d0 d1 => vdg_b (fun d d0 d1 => by have := hlv d d0 d1; omega) d0 d1
  obtain ⟨y, m', e, f, H⟩ := following_ok (B := B) (m := m) (x := z) (g := vdg lv D z) (low := vdg lv D v) hc hw (fun d d0 d1 => (h1 d d0 d1).1) (fun d d0 d1 => (h1 d d0 d1).2) (fun d d0 d1 => ⟨(vb v d d0 d1).1, h2 d d0 d1, (vb z d d0 d1).2⟩) (mlt_vdg hl (by omega) h3 h4).symm
  refine ⟨y, m', e, f, ?_⟩
  rcases H with H | ⟨g', gb, ey, hg, zy, yV, nb⟩
  · exact Or.inl H
  · have mg' : mdg lv D g' := fun d d0 d1 => by have := gb d d0 d1; have := vb v d d0 d1; omega
    have dy : ∀ d, 0 ≤ d → d < D → vdg lv D y d = g' d := fun d d0 d1 => by rw [ey]; exact vdg_mlt hl mg' d0 d1
    refine Or.inr ⟨⟨fun d d0 d1 => ⟨?_, by rw [hg d d0 d1, dy d d0 d1]⟩, fun d d0 d1 => by rw [dy d d0 d1]; exact (gb d d0 d1).1, by omega, yV⟩, zy, nb⟩
    rw [xR_cg (f 300 (by omega))]; exact (h1 d d0 d1).1
theorem atz_v {v : Int} (v0 : 0 ≤ v) (v1 : v < mpw lv D D.toNat) (h : ∀ d, 0 ≤ d → d < D → xR m 300 d = vdg lv D v d ∧ xR m 301 d = vdg lv D v d) : atz m lv D v v := ⟨h, fun d _ _ => Int.le_refl _, v0, v1⟩
/-- none before v is below it -/
theorem blw_ge {v w : Int} (hl : ∀ d, 0 ≤ d → d < D → 0 ≤ lv d) (hD : 0 ≤ D) (v0 : 0 ≤ v) (v1 : v < mpw lv D D.toNat) (w0 : 0 ≤ w) (w1 : w < mpw lv D D.toNat) (h : blw lv (vdg lv D v) D w) : v ≤ w := by
  have a := mlt_mono (lv := lv) (low := vdg lv D v) (g := vdg lv D w) hl D.toNat (by omega) (fun d d0 d1 => h d (by omega) d1)
  rw [mlt_vdg hl hD v0 v1, mlt_vdg hl hD w0 w1] at a
  exact a
theorem benefit_ok {v F : Int} (hc : chs m lv D) (hw : ∀ d, 0 ≤ d → d < D → xR m 299 d = mpw lv D (D - 1 - d).toNat) (hF : 0 ≤ F ∧ F ≤ 20000) (v0 : 0 ≤ v) (v1 : v < mpw lv D D.toNat) (he : 0 ≤ xR m 297 v ∧ xR m 297 v ≤ F) (hco : ∀ w, 0 ≤ w → w < mpw lv D D.toNat → 0 ≤ xR m 298 w ∧ xR m 298 w ≤ F) : ∃ m', yf205 B v m = some (.inl (bnf lv D (xR m 297) (xR m 298) v (mpw lv D D.toNat).toNat), m') ∧ ∀ a, a ≠ 300 → a ≠ 301 → m' a = m a := by
  have hD := hc.1
  have hV := hc.2.2.2.2
  have hl := lvnn hc
  obtain ⟨m1, e1, f1, d1⟩ := begin_v (B := B) hc v0 (by omega)
  unfold yf205
  rw [e1, xB_ret]
  have c1 : chs m1 lv D := chs_cg hc (fun a ha => f1 a (by omega) (by omega))
  have bb := fun n : Nat => fun hn : (n : Int) ≤ mpw lv D D.toNat => bnf_b (lv := lv) (D := D) (v := v) (est := xR m 297) (cost := xR m 298) hF.1 he.1 n (fun w w0 w1 => hco w w0 (by omega))
  have bm : ∀ n : Nat, (n : Int) ≤ mpw lv D D.toNat → bnf lv D (xR m 297) (xR m 298) v n ≤ 20000 * 512 := fun n hn => by
    have a := (bb n hn).2
    have b : F * (n : Int) ≤ 20000 * 512 := by
      have q1 := Int.mul_le_mul_of_nonneg_right hF.2 (show (0 : Int) ≤ (n : Int) by omega)
      have q2 : (20000 : Int) * (n : Int) ≤ 20000 * 512 := by omega
      omega
    omega
  generalize hN : (1000000 : Nat) = N
  have goal := xH_ex (Q := fun s m' => s = bnf lv D (xR m 297) (xR m 298) v (mpw lv D D.toNat).toNat ∧ ∀ a, a ≠ 300 → a ≠ 301 → m' a = m a) (xl4_rule (F := yl205_12 B) (fun x1 x2 x4 x5 m' => x1 = v ∧ 0 ≤ x5 ∧ (∀ a, a ≠ 300 → a ≠ 301 → m' a = m a) ∧ ((x4 = -1 ∧ x2 = bnf lv D (xR m 297) (xR m 298) v (mpw lv D D.toNat).toNat) ∨ (atz m' lv D v x4 ∧ x5 ≤ x4 ∧ x2 = bnf lv D (xR m 297) (xR m 298) v x4.toNat))) (fun _ _ _ x5 _ => (600 - x5).toNat) ?_ N v 0 v 0 m1 ⟨rfl, Int.le_refl _, f1, Or.inr ⟨atz_v v0 v1 d1, v0, ?_⟩⟩ (by omega))
  · obtain ⟨s, m', e, rfl, h⟩ := goal
    exact ⟨m', e, h⟩
  · intro r x1 x2 x4 x5 m' ⟨b1, b2, b3, b4⟩ ih
    subst b1
    unfold yl205_12
    rcases b4 with ⟨q1, q2⟩ | ⟨q1, q2, q3⟩
    · by_cases h5 : x5 < 512
      · rw [if_pos h5, if_pos q1, xH_ret]; exact ⟨q2, b3⟩
      · rw [if_neg h5, xH_ret]; exact ⟨q2, b3⟩
    · obtain ⟨z1, z2, z3, z4⟩ := id q1
      obtain ⟨y, m2, e2, f2, H⟩ := next_ok (B := B) (m := m') (chs_cg hc (fun a ha => b3 a (by omega) (by omega))) (by rw [xR_cg (b3 299 (by omega) (by omega))]; exact hw) q1
      rw [if_pos (by omega), if_neg (by omega), if_pos ⟨z3, by omega⟩, if_pos ⟨v0, by omega⟩, e2, xB_ret, xR_cg (b3 298 (by omega) (by omega)), xR_cg (b3 297 (by omega) (by omega))]
      have cz := hco x4 z3 z4
      have bs : bnf lv D (xR m 297) (xR m 298) x1 (x4.toNat + 1) = bnf lv D (xR m 297) (xR m 298) x1 x4.toNat + max 0 (xR m 298 x4 - xR m 297 x1) := by
        show bnf lv D (xR m 297) (xR m 298) x1 x4.toNat + (if xR m 297 x1 < xR m 298 ((x4.toNat : Nat) : Int) ∧ abb lv D x1 ((x4.toNat : Nat) : Int) = true then xR m 298 ((x4.toNat : Nat) : Int) - xR m 297 x1 else 0) = _
        rw [Int.toNat_of_nonneg z3]
        by_cases hh : xR m 297 x1 < xR m 298 x4
        · rw [if_pos ⟨hh, abb_iff.mpr z2⟩]; omega
        · rw [if_neg (fun q => hh q.1)]; omega
      have b0 := bb x4.toNat (by omega)
      have b1' := bm x4.toNat (by omega)
      rw [w32_id (show -2147483648 ≤ xR m 298 x4 - xR m 297 x1 by omega) (by omega), w64_id (by omega) (by omega), w32_id (by omega) (by omega)]
      refine ih _ _ _ _ _ ⟨rfl, by omega, fun a a1 a2 => by rw [f2 a a2]; exact b3 a a1 a2, ?_⟩ (by omega)
      rcases H with ⟨h1, h2⟩ | ⟨h1, h2, h3⟩
      · refine Or.inl ⟨h1, ?_⟩
        have sk := bnf_skip (lv := lv) (D := D) (est := xR m 297) (cost := xR m 298) (v := x1) (x4.toNat + 1) ((mpw lv D D.toNat).toNat - (x4.toNat + 1)) (fun w w0 w1 => h2 w (by omega) (by omega))
        rw [show x4.toNat + 1 + ((mpw lv D D.toNat).toNat - (x4.toNat + 1)) = (mpw lv D D.toNat).toNat by omega] at sk
        rw [sk, bs, q3]
      · refine Or.inr ⟨h1, by omega, ?_⟩
        have sk := bnf_skip (lv := lv) (D := D) (est := xR m 297) (cost := xR m 298) (v := x1) (x4.toNat + 1) (y.toNat - (x4.toNat + 1)) (fun w w0 w1 => h3 w (by omega) (by omega))
        rw [show x4.toNat + 1 + (y.toNat - (x4.toNat + 1)) = y.toNat by omega] at sk
        rw [sk, bs, q3]
  · have sk := bnf_skip (lv := lv) (D := D) (est := xR m 297) (cost := xR m 298) (v := v) 0 v.toNat (fun w w0 w1 hb => by
      have := blw_ge hl (by omega) v0 v1 (by omega) (by omega) hb
      omega)
    rw [Nat.zero_add] at sk
    rw [sk]
    rfl
theorem cheapen_ok {v : Int} (hc : chs m lv D) (hw : ∀ d, 0 ≤ d → d < D → xR m 299 d = mpw lv D (D - 1 - d).toNat) (v0 : 0 ≤ v) (v1 : v < mpw lv D D.toNat) : ∃ m', yf208 B v m = some (.inl 0, m') ∧ (∀ a, a ≠ 298 → a ≠ 300 → a ≠ 301 → m' a = m a) ∧ ∀ w, 0 ≤ w → w < mpw lv D D.toNat → xR m' 298 w = cuf lv D (xR m 297) (xR m 298) v w := by
  have hD := hc.1
  have hV := hc.2.2.2.2
  have hl := lvnn hc
  obtain ⟨m1, e1, f1, d1⟩ := begin_v (B := B) hc v0 (by omega)
  unfold yf208
  rw [e1, xB_ret]
  have no : ∀ w, ¬ blw lv (vdg lv D v) D w → cuf lv D (xR m 297) (xR m 298) v w = xR m 298 w := fun w h => by
    unfold cuf
    rw [if_neg (fun q => h (abb_iff.mp q.2))]
  generalize hN : (1000000 : Nat) = N
  have goal := xH_ex (Q := fun s m' => s = 0 ∧ (∀ a, a ≠ 298 → a ≠ 300 → a ≠ 301 → m' a = m a) ∧ ∀ w, 0 ≤ w → w < mpw lv D D.toNat → xR m' 298 w = cuf lv D (xR m 297) (xR m 298) v w) (xl3_rule (F := yl208_8 B) (fun x1 x2 x3 m' => x1 = v ∧ 0 ≤ x3 ∧ (∀ a, a ≠ 298 → a ≠ 300 → a ≠ 301 → m' a = m a) ∧ ((x2 = -1 ∧ ∀ w, 0 ≤ w → w < mpw lv D D.toNat → xR m' 298 w = cuf lv D (xR m 297) (xR m 298) v w) ∨ (atz m' lv D v x2 ∧ x3 ≤ x2 ∧ (∀ w, 0 ≤ w → w < x2 → xR m' 298 w = cuf lv D (xR m 297) (xR m 298) v w) ∧ ∀ w, x2 ≤ w → xR m' 298 w = xR m 298 w))) (fun _ _ x3 _ => (600 - x3).toNat) ?_ N v v 0 m1 ⟨rfl, Int.le_refl _, fun a a1 a2 a3 => f1 a a2 a3, Or.inr ⟨atz_v v0 v1 d1, v0, fun w w0 w1 => ?_, fun w _ => by rw [xR_cg (f1 298 (by omega) (by omega))]⟩⟩ (by omega))
  · obtain ⟨s, m', e, rfl, h⟩ := goal
    exact ⟨m', e, h⟩
  · intro r x1 x2 x3 m' ⟨b1, b2, b3, b4⟩ ih
    subst b1
    unfold yl208_8
    rcases b4 with ⟨q1, q2⟩ | ⟨q1, q2, q3, q4⟩
    · by_cases h5 : x3 < 512
      · rw [if_pos h5, if_pos q1, xH_ret]; exact ⟨rfl, b3, q2⟩
      · rw [if_neg h5, xH_ret]; exact ⟨rfl, b3, q2⟩
    · obtain ⟨z1, z2, z3, z4⟩ := id q1
      rw [if_pos (by omega), if_neg (by omega), if_pos ⟨z3, by omega⟩, if_pos ⟨v0, by omega⟩, q4 x2 (Int.le_refl _), xR_cg (b3 297 (by omega) (by omega) (by omega))]
      have u : ∀ a, a ≠ 298 → xw_u m' 298 x2 (min (xR m 298 x2) (xR m 297 x1)) a = m' a := fun a ha => xu_c ha
      obtain ⟨y, m2, e2, f2, H⟩ := next_ok (B := B) (m := xw_u m' 298 x2 (min (xR m 298 x2) (xR m 297 x1))) (v := x1) (z := x2) (chs_cg hc (fun a ha => by rw [u a (by omega)]; exact b3 a (by omega) (by omega) (by omega))) (by rw [xR_cg (u 299 (by omega)), xR_cg (b3 299 (by omega) (by omega) (by omega))]; exact hw) ⟨fun d d0 d1 => by rw [xR_cg (u 300 (by omega)), xR_cg (u 301 (by omega))]; exact z1 d d0 d1, z2, z3, z4⟩
      rw [e2, xB_ret, w32_id (by omega) (by omega)]
      have cv : ∀ w, 0 ≤ w → w ≤ x2 → xR m2 298 w = cuf lv D (xR m 297) (xR m 298) x1 w := fun w w0 w1 => by
        rw [xR_cg (f2 298 (by omega)), xR_u]
        by_cases ew : w = x2
        · rw [if_pos ⟨rfl, ew⟩, w32_mn (w32_xR _ _ _) (w32_xR _ _ _), ew]
          unfold cuf
          by_cases hh : xR m 297 x1 < xR m 298 x2
          · rw [if_pos ⟨hh, abb_iff.mpr z2⟩]; omega
          · rw [if_neg (fun q => hh q.1)]; omega
        · rw [if_neg (by omega)]; exact q3 w w0 (by omega)
      have cn : ∀ w, x2 < w → xR m2 298 w = xR m 298 w := fun w w0 => by
        rw [xR_cg (f2 298 (by omega)), xR_u, if_neg (by omega)]; exact q4 w (by omega)
      refine ih _ _ _ _ ⟨rfl, by omega, fun a a1 a2 a3 => by rw [f2 a a3, u a a1]; exact b3 a a1 a2 a3, ?_⟩ (by omega)
      rcases H with ⟨h1, h2⟩ | ⟨h1, h2, h3⟩
      · refine Or.inl ⟨h1, fun w w0 w1 => ?_⟩
        by_cases hw' : w ≤ x2
        · exact cv w w0 hw'
        · rw [cn w (by omega), no w (h2 w (by omega) w1)]
      · refine Or.inr ⟨h1, by omega, fun w w0 w1 => ?_, fun w hw' => cn w (by omega)⟩
        by_cases hw' : w ≤ x2
        · exact cv w w0 hw'
        · rw [cn w (by omega), no w (h3 w (by omega) w1)]
  · rw [xR_cg (f1 298 (by omega) (by omega)), no w (fun hb => by
      have := blw_ge hl (by omega) v0 v1 w0 (by omega) hb
      omega)]
end BEN
