/-! THE ANSWER, by the reference: canTell whole; serving; both sides take the same table -/
section SRW
variable {B : Nat} {m : xw_M} {D q : Int}
theorem tell1_l {v n k : Int} (q0 : q = 544 ∨ q = 558) (hD : D ≤ 8) (h14 : xR m 536 14 = D) (hv : 0 ≤ v ∧ v < 2147483648) (hl : ∀ d, 0 ≤ d → d < D → 0 ≤ xR m 538 d ∧ xR m 538 d ≤ 4) (hk : xR m q 4 = k) (k1 : k ≤ 8) (hg : ∀ i, 0 ≤ i → i < k → 0 ≤ xR m (q + 4) i ∧ xR m (q + 4) i < 4 * D) (hn : xR m q 13 = n) (n0 : 0 ≤ n) (n1 : n ≤ 60) (hc : ∀ i, 0 ≤ i → i < n → 0 ≤ xR m (q + 9) i ∧ xR m (q + 9) i < 4 * D) : ∀ (N : Nat) (i x : Int), 0 ≤ i → i ≤ k → (k - i).toNat < N → (x = 0 ∨ x = 1) → ∃ b : Bool, xl4 (yl301_5 B) N v q x i m = some (.inl (b01 b), m) ∧ (b = true ↔ x = 1 ∧ (∀ j, i ≤ j → j < k → vdg (xR m 538) D v (xR m (q + 4) j / 4) ≤ xR m (q + 4) j % 4) ∧ ∀ j, 0 ≤ j → j < n → vdg (xR m 538) D v (xR m (q + 9) j / 4) ≤ xR m (q + 9) j % 4) := by
  have QL := fun _ : Unit => q_l B q0
  have o4 := fun _ : Unit => (q_l B q0).2.2.1 4 (by decide) (by decide)
  intro N
  induction N with
  | zero => intro i x _ _ h; omega
  | succ N ih =>
    intro i x i0 i1 hN hx
    rw [xl4_s]
    have IH := fun x => ih (i + 1) x
    clear ih
    generalize xl4 (yl301_5 B) N = G at IH ⊢
    unfold yl301_5
    rw [(QL ()).2.1.2.2.2.1, (QL ()).2.2.2.2.2.2.1, if_pos (QL ()).1, hk]
    by_cases c : i < k
    · have wi : w32 (i + 1) = i + 1 := w32_id (by omega) (by omega)
      have IH2 := fun x hx => IH x (by omega) (by omega) (by omega) hx
      obtain ⟨c0, c1⟩ := hg i i0 c
      rw [if_pos c, wi]
      by_cases x0 : x = 0
      · rw [if_pos x0]
        obtain ⟨b, e1, e2⟩ := IH2 0 (Or.inl rfl)
        exact ⟨b, e1, e2.trans ⟨fun h => by omega, fun h => by omega⟩⟩
      · have dg := digit_ok (B := B) (m := m) (D := D) (v := v) (d := xR m (q + 4) i / 4) hD h14 hv hl (by omega) (by omega)
        rw [if_neg x0, if_pos (by omega), if_pos (o4 ()), if_pos c0, dg, xB_ret, if_pos c0]
        have x1 : x = 1 := by omega
        by_cases z : xR m (q + 4) i % 4 < vdg (xR m 538) D v (xR m (q + 4) i / 4)
        · rw [if_pos z]
          obtain ⟨b, e1, e2⟩ := IH2 0 (Or.inl rfl)
          exact ⟨b, e1, e2.trans ⟨fun h => by omega, fun h => by have := h.2.1 i (Int.le_refl _) c; omega⟩⟩
        · rw [if_neg z]
          obtain ⟨b, e1, e2⟩ := IH2 1 (Or.inr rfl)
          refine ⟨b, e1, e2.trans ⟨fun h => ⟨x1, fun j j0 j1 => ?_, h.2.2⟩, fun h => ⟨rfl, fun j j0 j1 => h.2.1 j (by omega) j1, h.2.2⟩⟩⟩
          by_cases ji : j = i
          · rw [ji]; omega
          · exact h.2.1 j (by omega) j1
    · rw [if_neg c]
      generalize hN' : (1000000 : Nat) = N'
      obtain ⟨b, e1, e2⟩ := tell2_l (B := B) (b0 := 0) q0 hD h14 hv hl hn n1 hc N' 0 x (by omega) n0 (by omega) hx
      exact ⟨b, e1, e2.trans ⟨fun h => ⟨h.1, fun j j0 j1 => by omega, h.2⟩, fun h => ⟨h.1, h.2.2⟩⟩⟩
end SRW
