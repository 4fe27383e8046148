/-! THE ANSWER, by the class: the columns that a question wants (columnsFor) -/
section CFO
variable {B : Nat} {m : xw_M}
theorem cfd_l {n D : Int} (hD : xR m 3 1 = D) (D8 : D ≤ 8) (h72 : ∀ d, 0 ≤ d → d < D → xR m 372 d = -1 ∨ (0 ≤ xR m 372 d ∧ xR m 372 d < 33)) (hn : xR m 223 2 = n) (n0 : 0 ≤ n) (n1 : n ≤ 24) (hc : ∀ i, 0 ≤ i → i < n → (xR m 224 i = 210 ∨ xR m 224 i = 212 ∨ xR m 224 i = 213) → ∃ cc, yf112 B (xR m 224 i) (xR m 225 i) m = some (.inl cc, m) ∧ 0 ≤ cc ∧ cc < 33) : ∀ (N : Nat) (i w : Int), 0 ≤ i → i ≤ D → (D - i).toNat < N → ∃ w', xl2 (yl111_21 B) N w i m = some (.inl w', m) ∧ (∀ j, bt w j = true → bt w' j = true) ∧ (∀ d, i ≤ d → d < D → xR m 292 d < 4 → xR m 372 d ≠ -1 → bt w' (xR m 372 d).toNat = true) ∧ ∀ j, 0 ≤ j → j < n → (xR m 224 j = 210 ∨ xR m 224 j = 212 ∨ xR m 224 j = 213) → ∀ cc, yf112 B (xR m 224 j) (xR m 225 j) m = some (.inl cc, m) → bt w' cc.toNat = true := by
  intro N
  induction N with
  | zero => intro i w _ _ h; omega
  | succ N ih =>
    intro i w i0 i1 hN
    show ∃ w', yl111_21 B (xl2 (yl111_21 B) N) w i m = _ ∧ _
    have IH := fun w => ih (i + 1) w
    clear ih
    generalize xl2 (yl111_21 B) N = R at IH ⊢
    unfold yl111_21
    rw [hD]
    by_cases q : i < D
    · have ib : 0 ≤ i ∧ i < 8 := by omega
      have wi : w32 (i + 1) = i + 1 := w32_id (by omega) (by omega)
      have IH2 := fun w => IH w (by omega) (by omega) (by omega)
      rw [if_pos q, if_pos ib, wi]
      have skip : (xR m 372 i = -1 ∨ ¬ xR m 292 i < 4) → ∃ w', R w (i + 1) m = some (.inl w', m) ∧ (∀ j, bt w j = true → bt w' j = true) ∧ (∀ d, i ≤ d → d < D → xR m 292 d < 4 → xR m 372 d ≠ -1 → bt w' (xR m 372 d).toNat = true) ∧ ∀ j, 0 ≤ j → j < n → (xR m 224 j = 210 ∨ xR m 224 j = 212 ∨ xR m 224 j = 213) → ∀ cc, yf112 B (xR m 224 j) (xR m 225 j) m = some (.inl cc, m) → bt w' cc.toNat = true := by
        intro hs
        obtain ⟨w', e1, e2, e3, e4⟩ := IH2 w
        refine ⟨w', e1, e2, fun d d0 d1 d2 d3 => ?_, e4⟩
        by_cases di : d = i
        · rw [di] at d2 d3
          rcases hs with h | h
          · exact absurd h d3
          · exact absurd d2 h
        · exact e3 d (by omega) d1 d2 d3
      by_cases k1 : xR m 372 i = -1
      · rw [if_pos k1]; exact skip (Or.inl k1)
      · rw [if_neg k1]
        unfold yf96
        rw [if_pos ib]
        by_cases k2 : xR m 292 i < 4
        · have kb := h72 i i0 q
          obtain ⟨b1, b2⟩ := orb (w := w) (by omega : 0 ≤ xR m 372 i) (by omega : xR m 372 i < 64)
          rw [if_pos k2, xB_ret, if_neg (by decide)]
          obtain ⟨w', e1, e2, e3, e4⟩ := IH2 (xw_lorf w (xw_lshlf 1 (xR m 372 i)))
          refine ⟨w', e1, fun j hj => e2 j (b2 j hj), fun d d0 d1 d2 d3 => ?_, e4⟩
          by_cases di : d = i
          · rw [di]; exact e2 _ b1
          · exact e3 d (by omega) d1 d2 d3
        · rw [if_neg k2, xB_ret, if_pos rfl]; exact skip (Or.inr k2)
    · rw [if_neg q]
      generalize hN' : (1000000 : Nat) = N'
      obtain ⟨w', e1, e2, e3⟩ := cfi_l (B := B) hn n1 hc N' 0 w (by omega) n0 (by omega)
      exact ⟨w', e1, e2, fun d d0 d1 => by omega, e3⟩
theorem cfor_ok {n D P : Int} (hD : xR m 3 1 = D) (D0 : 0 ≤ D) (D8 : D ≤ 8) (h72 : ∀ d, 0 ≤ d → d < D → xR m 372 d = -1 ∨ (0 ≤ xR m 372 d ∧ xR m 372 d < 33)) (hn : xR m 223 2 = n) (n0 : 0 ≤ n) (n1 : n ≤ 24) (h5 : xR m 302 5 = P) (p0 : 0 ≤ P) (p1 : P ≤ 8) (hc : ∀ i, 0 ≤ i → i < n → (xR m 224 i = 210 ∨ xR m 224 i = 212 ∨ xR m 224 i = 213) → ∃ cc, yf112 B (xR m 224 i) (xR m 225 i) m = some (.inl cc, m) ∧ 0 ≤ cc ∧ cc < 33) : ∃ w, yf111 B m = some (.inl w, m) ∧ (xR m 302 7 ≠ 0 → bt w P.toNat = true) ∧ (∀ d, 0 ≤ d → d < D → xR m 292 d < 4 → xR m 372 d ≠ -1 → bt w (xR m 372 d).toNat = true) ∧ ∀ j, 0 ≤ j → j < n → (xR m 224 j = 210 ∨ xR m 224 j = 212 ∨ xR m 224 j = 213) → ∀ cc, yf112 B (xR m 224 j) (xR m 225 j) m = some (.inl cc, m) → bt w cc.toNat = true := by
  unfold yf111
  generalize hN : (1000000 : Nat) = N
  by_cases h7 : xR m 302 7 = 0
  · rw [if_pos h7]
    obtain ⟨w, e1, e2, e3, e4⟩ := cfd_l (B := B) hD D8 h72 hn n0 n1 hc N 0 0 (by omega) D0 (by omega)
    exact ⟨w, e1, fun h => absurd h7 h, e3, e4⟩
  · rw [if_neg h7, h5]
    obtain ⟨w, e1, e2, e3, e4⟩ := cfd_l (B := B) hD D8 h72 hn n0 n1 hc N 0 (xw_lshlf 1 P) (by omega) D0 (by omega)
    refine ⟨w, e1, fun _ => e2 _ ?_, e3, e4⟩
    rw [bt_shlI 1 p0 (by omega), decide_eq_true (by omega : P.toNat < 64), decide_eq_true (Nat.le_refl _), Nat.sub_self, bt_e (by decide)]
    simp
end CFO
