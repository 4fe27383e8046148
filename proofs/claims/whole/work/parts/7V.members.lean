/-! BOTH SIDES ARRANGE THE MEMBERS ALIKE -/
theorem vperm_uniq {f p q : Int → Int} {n : Int} (hp : prm p n) (hq : prm q n) (hf : ∀ x y, 0 ≤ x → x < n → 0 ≤ y → y < n → f x = f y → x = y) (sp : ∀ i j, 0 ≤ i → i < j → j < n → f (p i) ≤ f (p j)) (sq : ∀ i j, 0 ≤ i → i < j → j < n → f (q i) ≤ f (q j)) : ∀ i, 0 ≤ i → i < n → p i = q i := by
  have e : lst p n.toNat = lst q n.toNat := by
    refine List.Perm.eq_of_pairwise (le := fun a b => f a ≤ f b) (fun a b ha hb h1 h2 => ?_) (lst_pair (fun i j h1 h2 => sp i j (by omega) (by omega) (by omega))) (lst_pair (fun i j h1 h2 => sq i j (by omega) (by omega) (by omega))) ((prm_perm hp).trans (prm_perm hq).symm)
    obtain ⟨i, hi, ei⟩ := lst_mem.mp ha
    obtain ⟨j, hj, ej⟩ := lst_mem.mp hb
    have a1 := hp.1 i (by omega) (by omega)
    have b1 := hq.1 j (by omega) (by omega)
    rw [ei] at a1
    rw [ej] at b1
    exact hf a b a1.1 a1.2 b1.1 b1.2 (by omega)
  intro i h0 h1
  have := lst_get e i.toNat (by omega)
  rw [Int.toNat_of_nonneg h0] at this
  exact this
/-- ranks of values that all differ and stand in order are the places -/
theorem RK_inc {V u rk : Int → Int} {n K : Int} (h : RK V n K u rk) (hV : ∀ i j, 0 ≤ i → i < j → j < n → V i < V j) : ∀ i j, 0 ≤ i → i < j → j < n → rk i < rk j := by
  intro i j i0 ij jn
  obtain ⟨a1, a2⟩ := h.2.2.1 i i0 (by omega)
  obtain ⟨b1, b2⟩ := h.2.2.1 j (by omega) jn
  have lt := hV i j i0 ij jn
  rcases Int.lt_trichotomy (rk i) (rk j) with hl | hl | hl
  · exact hl
  · rw [hl, b2] at a2
    omega
  · have := h.2.1 _ _ b1.1 hl a1.2
    omega
section MEMBERS
variable {m mc mr : xw_M} {d L n : Int} {o π ρ : Int → Int}
/-- the class's members p are the reference's ρ p -/
def mem2 (m : xw_M) (d L n : Int) (ρ : Int → Int) : Prop := prm ρ n ∧ ∀ l p, 0 ≤ l → l < L → 0 ≤ p → p < n → xR m (15 + 26 * d + 9 + l) p = xR m 540 (4000 * d + 4 * ρ p + l)
theorem members_same (hL : 1 ≤ L ∧ L ≤ 4) (hm : mem2 m d L n ρ) (hdist : ∀ x y, 0 ≤ x → x < n → 0 ≤ y → y < n → xR m 540 (4000 * d + 4 * x + 0) = xR m 540 (4000 * d + 4 * y + 0) → x = y) (hv : vsrt (xR m (15 + 26 * d + 9)) o n) (vc : ∀ l i, 0 ≤ l → l < L → 0 ≤ i → i < n → xR mc (15 + 26 * d + 9 + l) i = xR m (15 + 26 * d + 9 + l) (o i)) (hπ : prm π n) (vr : ∀ l p, 0 ≤ l → l < 4 → 0 ≤ p → p < n → xR mr 540 (4000 * d + 4 * p + l) = xR m 540 (4000 * d + 4 * π p + l)) (so : ∀ a b, 0 ≤ a → a < b → b < n → xR mr 540 (4000 * d + 4 * a + 0) ≤ xR mr 540 (4000 * d + 4 * b + 0)) : (∀ i, 0 ≤ i → i < n → ρ (o i) = π i) ∧ (∀ l p, 0 ≤ l → l < L → 0 ≤ p → p < n → xR mc (15 + 26 * d + 9 + l) p = xR mr 540 (4000 * d + 4 * p + l)) ∧ ∀ i j, 0 ≤ i → i < j → j < n → xR mc (15 + 26 * d + 9) i < xR mc (15 + 26 * d + 9) j := by
  have e0 : ∀ p, 0 ≤ p → p < n → xR m (15 + 26 * d + 9) p = xR m 540 (4000 * d + 4 * ρ p + 0) := fun p p0 p1 => by
    have := hm.2 0 p (by decide) (by omega) p0 p1
    rw [Int.add_zero (15 + 26 * d + 9)] at this
    exact this
  have eo : ∀ i, 0 ≤ i → i < n → ρ (o i) = π i := vperm_uniq (f := fun x => xR m 540 (4000 * d + 4 * x + 0)) (p := fun i => ρ (o i)) (prm_comp hm.1 hv.1) hπ hdist (fun i j i0 ij jn => by
      show xR m 540 (4000 * d + 4 * ρ (o i) + 0) ≤ xR m 540 (4000 * d + 4 * ρ (o j) + 0)
      have a := hv.1.1 i i0 (by omega)
      have b := hv.1.1 j (by omega) jn
      rw [← e0 _ a.1 a.2, ← e0 _ b.1 b.2]
      exact hv.2 i j i0 ij jn) (fun i j i0 ij jn => by
      show xR m 540 (4000 * d + 4 * π i + 0) ≤ xR m 540 (4000 * d + 4 * π j + 0)
      rw [← vr 0 i (by decide) (by decide) i0 (by omega), ← vr 0 j (by decide) (by decide) (by omega) jn]
      exact so i j i0 ij jn)
  have ev : ∀ l p, 0 ≤ l → l < L → 0 ≤ p → p < n → xR mc (15 + 26 * d + 9 + l) p = xR mr 540 (4000 * d + 4 * p + l) := fun l p l0 l1 p0 p1 => by
    have a := hv.1.1 p p0 p1
    rw [vc l p l0 l1 p0 p1, hm.2 l _ l0 l1 a.1 a.2, eo p p0 p1, vr l p l0 (by omega) p0 p1]
  refine ⟨eo, ev, fun i j i0 ij jn => ?_⟩
  have a := ev 0 i (by decide) (by omega) i0 (by omega)
  have b := ev 0 j (by decide) (by omega) (by omega) jn
  rw [Int.add_zero (15 + 26 * d + 9)] at a b
  rw [a, b]
  have le := so i j i0 ij jn
  rcases Int.lt_or_eq_of_le le with h | h
  · exact h
  · rw [vr 0 i (by decide) (by decide) i0 (by omega), vr 0 j (by decide) (by decide) (by omega) jn] at h
    have a1 := hπ.1 i i0 (by omega)
    have b1 := hπ.1 j (by omega) jn
    have := hπ.2 i j i0 (by omega) (by omega) jn (hdist _ _ a1.1 a1.2 b1.1 b1.2 h)
    omega
end MEMBERS
