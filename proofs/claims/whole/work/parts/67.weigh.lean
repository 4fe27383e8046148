/-! A COLUMN'S WEIGHT and its shortest form -/
def nb (u : Int) : Int := if u ≤ 0 then 0 else (u.toNat.log2 + 1 : Nat)
theorem isnb_nb {u : Int} (h : 0 ≤ u) : isnb u (nb u) := by
  unfold nb
  by_cases h0 : u ≤ 0
  · rw [if_pos h0, show u = 0 from by omega]
    exact isnb_0
  · rw [if_neg h0]
    have h1 := Nat.log2_self_le (n := u.toNat) (by omega)
    have h2 := Nat.lt_log2_self (n := u.toNat)
    refine ⟨by omega, ?_, Or.inr ?_⟩
    · rw [Int.toNat_natCast]
      omega
    · rw [Int.toNat_natCast, Nat.add_sub_cancel]
      omega
theorem nb_eq {u b : Int} (h0 : 0 ≤ u) (h : isnb u b) : b = nb u := isnb_uniq h (isnb_nb h0)
theorem nb_nn (u : Int) : 0 ≤ nb u := by unfold nb; split <;> omega
/-- the spans -/
def spn (f : Int → Int) (n : Int) : Int := svH f (n - 1).toNat - svL f (n - 1).toNat
def sps (f : Int → Int) (n : Int) : Int := if 1 < n then stH f (n - 1).toNat - stL f (n - 1).toNat else 0
def wgP (f : Int → Int) (n : Int) : Int := 9 + (n * nb (spn f n) + 7) / 8
def wgL (f : Int → Int) (n : Int) : Int := 2 + 8 * (dst f n.toNat : Nat) + (n * nb ((dst f n.toNat : Nat) - 1) + 7) / 8
def wgR (f : Int → Int) (n : Int) : Int := 2 + 10 * svR f (n - 1).toNat
def wgS (f : Int → Int) (n : Int) : Int := 17 + ((n - 1) * nb (sps f n) + 7) / 8
def colB (f : Int → Int) (n : Int) : Int := min (min (min (min (8 * n) (wgP f n)) (wgL f n)) (wgR f n)) (wgS f n)
theorem spn_b {f : Int → Int} (hf : ∀ i, w64 (f i) = f i) (n : Int) : 0 ≤ spn f n ∧ spn f n < 18446744073709551616 := by
  unfold spn
  have h1 := svLH f (n - 1).toNat 0 (by omega)
  have h2 := w64_cg (svL_w hf (n - 1).toNat)
  have h3 := w64_cg (svH_w hf (n - 1).toNat)
  unfold xw_rJ at h2 h3
  omega
theorem sps_b (f : Int → Int) (n : Int) : 0 ≤ sps f n ∧ sps f n < 18446744073709551616 := by
  unfold sps
  split
  · next h =>
    have h1 := stLH f (n - 1).toNat 1 (by omega) (by omega)
    have h2 := w64_cg (stL_w f (n - 1).toNat)
    have h3 := w64_cg (stH_w f (n - 1).toNat)
    unfold xw_rJ at h2 h3
    omega
  · omega
theorem nb_le64 {u : Int} (h0 : 0 ≤ u) (h : u < 18446744073709551616) : nb u ≤ 64 := isnb_le (k := 64) (isnb_nb h0) h
theorem mulb {n b : Int} (h0 : 0 ≤ n) (h1 : n ≤ 1024) (h2 : 0 ≤ b) (h3 : b ≤ 64) : 0 ≤ n * b ∧ n * b ≤ 65536 := by
  refine ⟨Int.mul_nonneg h0 h2, ?_⟩
  have h4 : n * b ≤ 1024 * b := Int.mul_le_mul_of_nonneg_right h1 h2
  omega
/-- what weighing leaves: the cells' bits and the forms' bytes -/
def WG (m : xw_M) (f : Int → Int) (n : Int) : Prop := (xR m 522 0 = 64 ∧ xR m 522 1 = nb (spn f n) ∧ xR m 522 2 = nb ((dst f n.toNat : Nat) - 1) ∧ xR m 522 4 = nb (sps f n)) ∧ xR m 523 0 = 8 * n ∧ xR m 523 1 = wgP f n ∧ xR m 523 2 = wgL f n ∧ xR m 523 3 = wgR f n ∧ xR m 523 4 = wgS f n
theorem weigh_ok {B : Nat} {m : xw_M} {f : Int → Int} {n : Int} (hf : ∀ i, w64 (f i) = f i) (hn : 1 ≤ n) (hn2 : n ≤ 1024) (hs : SV m f n (n - 1).toNat) (hd : xR m 518 9 = (dst f n.toNat : Nat)) : ∃ m', yf187 B 518 n m = some (.inl 0, m') ∧ WG m' f n ∧ (∀ a, a ≠ 522 → a ≠ 523 → m' a = m a) := by
  obtain ⟨s1, s2, s3, s4, s5⟩ := hs
  have hdp := dst_pos f (k := n.toNat) (by omega)
  have hdl := dst_le f n.toNat
  have hr := svR_b f (n - 1).toNat
  have b1 := spn_b hf n
  have b2 := sps_b f n
  have e1 : w64 (xJ m 518 12 - xJ m 518 11) % 18446744073709551616 = spn f n := by
    rw [s1, s2]
    show w64 (spn f n) % _ = _
    unfold w64
    omega
  have e2 : w64 (xJ m 518 14 - xJ m 518 13) % 18446744073709551616 = sps f n := by
    rw [s4, s5]
    have : (if 1 < n then stH f (n - 1).toNat else 0) - (if 1 < n then stL f (n - 1).toNat else 0) = sps f n := by
      unfold sps
      split <;> omega
    rw [this]
    unfold w64
    omega
  generalize hD : (dst f n.toNat : Nat) = D at *
  unfold yf187
  rw [if_pos (by decide), show xw_rf 518 7 = 522 from by decide, show xw_le B 522 = 5 from rfl, if_pos ⟨by decide, by decide⟩, if_pos (by decide)]
  obtain ⟨p1, q1, q2, q3⟩ := bitsOf_ok (B := B) (m := xw_u m 522 0 64) (x := w64 (xJ m 518 12 - xJ m 518 11))
  rw [e1] at q1
  have ep := nb_eq b1.1 q1
  rw [q3]
  simp only [xB_ret]
  rw [if_pos ⟨by decide, by decide⟩]
  have r1 : w32 (xR (xw_u m 522 0 64) 518 9 - 1) = D - 1 := by
    rw [xR_u, if_neg (by decide), hd]
    exact w32_id (by omega) (by omega)
  obtain ⟨p2, q4, q5, q6⟩ := bitsOf_ok (B := B) (m := xw_u (xw_u m 522 0 64) 522 1 p1) (x := (D : Int) - 1)
  rw [Int.emod_eq_of_lt (by omega) (by omega)] at q4
  have el := nb_eq (by omega) q4
  rw [r1, q6]
  simp only [xB_ret]
  rw [if_pos ⟨by decide, by decide⟩]
  have r2 : w64 (xJ (xw_u (xw_u m 522 0 64) 522 1 p1) 518 14 - xJ (xw_u (xw_u m 522 0 64) 522 1 p1) 518 13) = w64 (xJ m 518 14 - xJ m 518 13) := by
    simp only [xJ_u]
    simp
  obtain ⟨p3, q7, q8, q9⟩ := bitsOf_ok (B := B) (m := xw_u (xw_u (xw_u m 522 0 64) 522 1 p1) 522 2 p2) (x := w64 (xJ m 518 14 - xJ m 518 13))
  rw [e2] at q7
  have es := nb_eq b2.1 q7
  rw [r2, q9]
  simp only [xB_ret]
  have c1 : xR (xw_u (xw_u (xw_u m 522 0 64) 522 1 p1) 522 2 p2) 522 1 = p1 := by
    simp only [xR_u]
    simp
    exact w32_id (by have := q1.1; omega) (by omega)
  have c2 : xR (xw_u (xw_u (xw_u m 522 0 64) 522 1 p1) 522 2 p2) 522 2 = p2 := by
    simp only [xR_u]
    simp
    exact w32_id (by have := q4.1; omega) (by omega)
  have c3 : xR (xw_u (xw_u (xw_u m 522 0 64) 522 1 p1) 522 2 p2) 518 9 = D := by
    simp only [xR_u]
    simp
    exact hd
  have c4 : xR (xw_u (xw_u (xw_u m 522 0 64) 522 1 p1) 522 2 p2) 518 10 = svR f (n - 1).toNat := by
    simp only [xR_u]
    simp
    simp at s3
    exact s3
  have m1 := mulb (n := n) (b := p1) (by omega) hn2 q1.1 q2
  have m2 := mulb (n := n) (b := p2) (by omega) hn2 q4.1 q5
  have m3 := mulb (n := n - 1) (b := p3) (by omega) (by omega) q7.1 q8
  rw [c1, c2, c3, c4, show xw_rf 518 8 = 523 from by decide, show xw_le B 523 = 5 from rfl, if_pos ⟨by decide, by decide⟩, if_pos ⟨by decide, by decide⟩, if_pos (by decide), w32_id (x := n * p1 + 7) (by omega) (by omega), w32_id (x := n * p2 + 7) (by omega) (by omega), w32_id (x := (n - 1) * p3 + 7) (by omega) (by omega), if_pos (by omega), if_pos ⟨by decide, by decide⟩, if_pos (by omega), if_pos ⟨by decide, by decide⟩, if_pos ⟨by decide, by decide⟩, if_pos (by omega), if_pos ⟨by decide, by decide⟩]
  refine ⟨_, rfl, ⟨⟨?_, ?_, ?_, ?_⟩, ?_, ?_, ?_, ?_, ?_⟩, ?_⟩
  · simp only [xR_u]
    simp
    decide
  · simp only [xR_u]
    simp
    rw [← ep]
    exact w32_id (by have := q1.1; omega) (by omega)
  · simp only [xR_u]
    simp
    rw [hD, ← el]
    exact w32_id (by have := q4.1; omega) (by omega)
  · simp only [xR_u]
    simp
    rw [← es]
    exact w32_id (by have := q7.1; omega) (by omega)
  · simp only [xR_u]
    simp
    exact w32_id (by omega) (by omega)
  · simp only [xR_u]
    simp
    unfold wgP
    rw [← ep]
    exact w32_id (by omega) (by omega)
  · simp only [xR_u]
    simp
    unfold wgL
    rw [hD, ← el]
    exact w32_id (by omega) (by omega)
  · simp only [xR_u]
    simp
    unfold wgR
    simp
    simp at hr
    exact w32_id (by omega) (by omega)
  · simp only [xR_u]
    simp
    unfold wgS
    rw [← es]
    exact w32_id (by omega) (by omega)
  · intro a h1 h2
    rw [xu_c h2, xu_c h2, xu_c h2, xu_c h2, xu_c h2, xu_c h1, xu_c h1, xu_c h1, xu_c h1]
theorem short_ok {B : Nat} {m : xw_M} : ∃ v, yf188 B 518 m = some (.inl v, m) ∧ (0 ≤ v ∧ v < 5) ∧ ∀ j, 0 ≤ j → j < 5 → xR m 523 v ≤ xR m 523 j := by
  unfold yf188
  have goal := xH_ex (Q := fun v m' => m' = m ∧ (0 ≤ v ∧ v < 5) ∧ ∀ j, 0 ≤ j → j < 5 → xR m 523 v ≤ xR m 523 j) (xl3_rule (F := yl188_4 B) (fun x0 x1 x2 m' => x0 = 518 ∧ m' = m ∧ 0 ≤ x1 ∧ x1 < 5 ∧ 0 ≤ x2 ∧ x2 ≤ 5 ∧ ∀ j, 0 ≤ j → j < x2 → xR m 523 x1 ≤ xR m 523 j) (fun _ _ x2 _ => (5 - x2).toNat) ?_ 1000000 518 0 1 m ⟨rfl, rfl, by decide, by decide, by decide, by decide, fun j h1 h2 => by rw [show j = 0 from by omega]; exact Int.le_refl _⟩ (by decide))
  · obtain ⟨v, m', e, rfl, h⟩ := goal
    exact ⟨v, e, h⟩
  · intro r x0 x1 x2 m' ⟨a0, a1, a2, a3, a4, a5, a6⟩ ih
    subst a0 a1
    unfold yl188_4
    by_cases h : x2 < 5
    · rw [if_pos h, if_pos (by decide), show xw_rf 518 8 = 523 from by decide, show xw_le B 523 = 5 from rfl, if_pos ⟨by omega, by omega⟩, if_pos (by decide), if_pos ⟨by omega, by omega⟩, w32_id (by omega) (by omega)]
      by_cases hc : xR m' 523 x2 < xR m' 523 x1
      · rw [if_pos hc]
        refine ih _ _ _ _ ⟨rfl, rfl, by omega, by omega, by omega, by omega, fun j h1 h2 => ?_⟩ (by omega)
        by_cases e : j = x2
        · rw [e]; exact Int.le_refl _
        · have := a6 j h1 (by omega)
          omega
      · rw [if_neg hc]
        refine ih _ _ _ _ ⟨rfl, rfl, by omega, by omega, by omega, by omega, fun j h1 h2 => ?_⟩ (by omega)
        by_cases e : j = x2
        · rw [e]; omega
        · exact a6 j h1 (by omega)
    · rw [if_neg h, xH_ret]
      exact ⟨rfl, ⟨a2, a3⟩, fun j h1 h2 => a6 j h1 (by omega)⟩
