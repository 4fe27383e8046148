/-! THE ANSWER, by the reference: whether a view can tell, and which table serves -/
section SRV
variable {B : Nat} {m : xw_M} {D q : Int}
theorem tell2_l {v n b0 : Int} (q0 : q = 544 ∨ q = 558) (hD : D ≤ 8) (h14 : xR m 536 14 = D) (hv : 0 ≤ v ∧ v < 2147483648) (hl : ∀ d, 0 ≤ d → d < D → 0 ≤ xR m 538 d ∧ xR m 538 d ≤ 4) (hn : xR m q 13 = n) (n1 : n ≤ 60) (hc : ∀ i, 0 ≤ i → i < n → 0 ≤ xR m (q + 9) i ∧ xR m (q + 9) i < 4 * D) : ∀ (N : Nat) (i x : Int), 0 ≤ i → i ≤ n → (n - i).toNat < N → (x = 0 ∨ x = 1) → ∃ b : Bool, xl4 (yl301_59 B) N v q x i m = some (.inl (b01 b), m) ∧ (b = true ↔ x = 1 ∧ ∀ j, i ≤ j → j < n → vdg (xR m 538) D v (xR m (q + 9) j / 4) ≤ xR m (q + 9) j % 4) := by
  have QL := fun _ : Unit => q_l B q0
  have o9 := fun _ : Unit => (q_l B q0).2.2.1 9 (by decide) (by decide)
  intro N
  induction N with
  | zero => intro i x _ _ h; omega
  | succ N ih =>
    intro i x i0 i1 hN hx
    rw [xl4_s]
    have IH := fun x => ih (i + 1) x
    clear ih
    generalize xl4 (yl301_59 B) N = G at IH ⊢
    unfold yl301_59
    rw [(QL ()).2.1.2.2.2.2.2.2.2.2.1, (QL ()).2.2.2.2.2.2.2.2.2.2.2.1, if_pos (QL ()).1, hn]
    by_cases c : i < n
    · have wi : w32 (i + 1) = i + 1 := w32_id (by omega) (by omega)
      have IH2 := fun x hx => IH x (by omega) (by omega) (by omega) hx
      obtain ⟨c0, c1⟩ := hc i i0 c
      rw [if_pos c, wi]
      by_cases x0 : x = 0
      · rw [if_pos x0]
        obtain ⟨b, e1, e2⟩ := IH2 0 (Or.inl rfl)
        exact ⟨b, e1, e2.trans ⟨fun h => by omega, fun h => by omega⟩⟩
      · have dg := digit_ok (B := B) (m := m) (D := D) (v := v) (d := xR m (q + 9) i / 4) hD h14 hv hl (by omega) (by omega)
        rw [if_neg x0, if_pos (by omega), if_pos (o9 ()), if_pos c0, dg, xB_ret, if_pos c0]
        have x1 : x = 1 := by omega
        by_cases z : xR m (q + 9) i % 4 < vdg (xR m 538) D v (xR m (q + 9) i / 4)
        · rw [if_pos z]
          obtain ⟨b, e1, e2⟩ := IH2 0 (Or.inl rfl)
          exact ⟨b, e1, e2.trans ⟨fun h => by omega, fun h => by have := h.2 i (Int.le_refl _) c; omega⟩⟩
        · rw [if_neg z]
          obtain ⟨b, e1, e2⟩ := IH2 1 (Or.inr rfl)
          refine ⟨b, e1, e2.trans ⟨fun h => ⟨x1, fun j j0 j1 => ?_⟩, fun h => ⟨rfl, fun j j0 j1 => h.2 j (by omega) j1⟩⟩⟩
          by_cases ji : j = i
          · rw [ji]; omega
          · exact h.2 j (by omega) j1
    · rw [if_neg c, if_pos hx]
      rcases hx with h | h
      · rw [h]; exact ⟨false, rfl, fun h => by simp at h, fun h => by omega⟩
      · rw [h]; exact ⟨true, rfl, fun _ => ⟨rfl, fun j j0 j1 => by omega⟩, fun _ => rfl⟩
end SRV
