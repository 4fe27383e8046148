/-! READING A COLUMN: list -/
section RCOL2
variable {B : Nat} {m : xw_M} {c n p b : Int}
theorem list_rd (hB : B ≤ 512) (hc : cellsOk B c) (hn : 0 ≤ n) (hn2 : n ≤ 1024) (h : rs B m p) {d : Int} {b : Nat} (hd : 1 ≤ d) (hd2 : d ≤ 1024) (hb : isnb (d - 1) b) (hf : p + (16 + 64 * d + n * (b : Int)) ≤ 64 * (B * 512 : Nat)) (h16 : tk (m 516) p 16 = d) {f : Int → Int}
    (hv : ∀ i : Int, 0 ≤ i → i < n → (0 ≤ tk (m 516) (p + (16 + 64 * d) + (b : Int) * i) b ∧ tk (m 516) (p + (16 + 64 * d) + (b : Int) * i) b < d) ∧ tk (m 516) (p + 16 + 64 * tk (m 516) (p + (16 + 64 * d) + (b : Int) * i) b) 64 = f i) :
    ∃ m' p', yf115 B 530 c n m = some (.inl 0, m') ∧ rs B m' p' ∧ rf m m' c ∧ ∀ i : Int, 0 ≤ i → i < n → xJ m' c i = f i := by
  obtain ⟨c1, c2, c3, c4, c5⟩ := hc
  have hp := h.2.2
  have hb10 : (b : Int) ≤ 10 := isnb_le (k := 10) hb (by show _ < (1024 : Int); omega)
  have hnb : 0 ≤ n * (b : Int) := Int.mul_nonneg hn (by omega)
  obtain ⟨m1, e1, R1, G1⟩ := take_b (b := 16) hB h (by decide) (by decide) (by omega)
  rw [show (16 : Int).toNat = 16 from rfl, h16] at e1
  unfold yf115
  rw [if_pos (by decide), e1]
  simp only [xB_ret]
  rw [w32_id (x := min d 1024) (by omega) (by omega), show min d 1024 = d from by omega]
  have goal := xH_ex (Q := fun v m' => v = 0 ∧ (∃ p', rs B m' p') ∧ rf m m' c ∧ ∀ i : Int, 0 ≤ i → i < n → xJ m' c i = f i) (xl5_rule (F := yl115_17 B) (fun x0 x1 x2 x3 x4 m' => x0 = 530 ∧ x1 = c ∧ x2 = n ∧ x3 = d ∧ 0 ≤ x4 ∧ x4 ≤ d ∧ rs B m' (p + 16 + 64 * x4) ∧ rf m m' c ∧ m' c = m c ∧ ∀ j : Int, 0 ≤ j → j < x4 → xJ m' 532 j = tk (m 516) (p + 16 + 64 * j) 64) (fun _ _ _ _ x4 _ => (d - x4).toNat) ?_ 1000000 530 c n d 0 m1 ⟨rfl, rfl, rfl, rfl, by omega, by omega, by rw [Int.mul_zero, Int.add_zero]; exact R1, rg_rf G1 c, G1.1 c c4, fun j h1 h2 => by omega⟩ (by omega))
  · obtain ⟨v, m', e, rfl, ⟨p', h1⟩, h2, h3⟩ := goal
    exact ⟨m', p', e, h1, h2, h3⟩
  · intro r x0 x1 x2 x3 x4 m2 ⟨a0, a1, a2, a3, a4, a5, R, F, C, V⟩ ih
    subst a0 a1 a2 a3
    unfold yl115_17
    by_cases hx : x4 < x3
    · obtain ⟨m3, e3, R3, G3⟩ := take_b (b := 64) hB R (by decide) (by decide) (by omega)
      rw [if_pos hx, if_pos (by decide), e3]
      simp only [xB_ret]
      rw [show xw_rf 530 5 = 532 from by decide, show xw_le B 532 = 1024 from rfl, if_pos ⟨a4, by omega⟩, if_pos (by decide), w32_id (by omega) (by omega), show (64 : Int).toNat = 64 from rfl, F.1 516 (by decide) (by decide) (fun e => c3 e.symm)]
      have F3 : rf m m3 x1 := rf_trans F (rg_rf G3 x1)
      refine ih _ _ _ _ _ _ ⟨rfl, rfl, rfl, rfl, by omega, by omega, ?_, ?_, ?_, ?_⟩ (by omega)
      · rw [show p + 16 + 64 * (x4 + 1) = p + 16 + 64 * x4 + 64 from by omega]
        exact rs_u R3 (by decide)
      · exact ⟨fun a h1 h2 h3 => by rw [xu_c h2]; exact F3.1 a h1 h2 h3, fun k hk => by rw [xu_c (by decide)]; exact F3.2 k hk⟩
      · rw [xu_c c5, G3.1 x1 c4]
        exact C
      · intro j h1 h2
        rw [xJ_u]
        by_cases hj : j = x4
        · rw [if_pos ⟨rfl, hj⟩, hj]
          exact tk_w _ _ _
        · rw [if_neg (fun e => hj e.2), xJ_cg (G3.1 532 (by decide))]
          exact V j h1 (by omega)
    · rw [if_neg hx]
      have : x4 = x3 := by omega
      subst this
      obtain ⟨b', q1, q2, q3⟩ := bitsOf_ok (B := B) (m := m2) (x := x4 - 1)
      rw [Int.emod_eq_of_lt (by omega) (by omega)] at q1
      have eb : b' = (b : Int) := isnb_uniq q1 hb
      subst eb
      rw [w32_id (by omega) (by omega), q3]
      simp only [xB_ret]
      refine xl5_rule (F := yl115_54 B) (fun y0 y1 y2 y3 y4 m' => y0 = 530 ∧ y1 = x1 ∧ y2 = x2 ∧ y3 = (b : Int) ∧ 0 ≤ y4 ∧ y4 ≤ x2 ∧ rs B m' (p + (16 + 64 * x4) + (b : Int) * y4) ∧ rf m m' x1 ∧ m' 532 = m2 532 ∧ ∀ i : Int, 0 ≤ i → i < y4 → xJ m' x1 i = f i) (fun _ _ _ _ y4 _ => (x2 - y4).toNat) ?_ 1000000 530 x1 x2 (b : Int) 0 m2 ⟨rfl, rfl, rfl, rfl, by omega, by omega, by rw [Int.mul_zero, Int.add_zero, ← Int.add_assoc]; exact R, F, rfl, fun i h1 h2 => by omega⟩ (by omega)
      intro r' y0 y1 y2 y3 y4 m3 ⟨b0, b1, b2, b3, b4, b5, R3, F3, C3, V3⟩ ih'
      subst b0 b1 b2 b3
      unfold yl115_54
      by_cases hy : y4 < y2
      · have hq : (b : Int) * (y4 + 1) ≤ (b : Int) * y2 := Int.mul_le_mul_of_nonneg_left (by omega) (by omega)
        rw [Int.mul_add, Int.mul_one, Int.mul_comm (b : Int) y2] at hq
        obtain ⟨m4, e4, R4, G4⟩ := take_b (b := (b : Int)) hB R3 (by omega) (by omega) (by omega)
        rw [Int.toNat_natCast, F3.1 516 (by decide) (by decide) (fun e => c3 e.symm)] at e4
        obtain ⟨v1, v2⟩ := hv y4 b4 hy
        rw [if_pos hy, if_pos (by decide), e4]
        simp only [xB_ret]
        rw [show xw_rf 530 5 = 532 from by decide, show xw_le B 532 = 1024 from rfl, show min (tk (m 516) (p + (16 + 64 * x4) + (b : Int) * y4) b) 1023 = tk (m 516) (p + (16 + 64 * x4) + (b : Int) * y4) b from by omega, if_pos ⟨v1.1, by omega⟩, if_pos (by decide), if_pos ⟨b4, by omega⟩, if_pos c1, w32_id (by omega) (by omega)]
        refine ih' _ _ _ _ _ _ ⟨rfl, rfl, rfl, rfl, by omega, by omega, ?_, rf_u (rf_trans F3 (rg_rf G4 y1)) c4, ?_, ?_⟩ (by omega)
        · rw [show p + (16 + 64 * x4) + (b : Int) * (y4 + 1) = p + (16 + 64 * x4) + (b : Int) * y4 + (b : Int) from by rw [Int.mul_add, Int.mul_one]; omega]
          exact rs_u R4 c4
        · rw [xu_c (fun e => c5 e.symm), G4.1 532 (by decide)]
          exact C3
        · intro i h1 h2
          rw [xJ_u]
          by_cases hi : i = y4
          · rw [if_pos ⟨rfl, hi⟩, hi, w64_xJ, xJ_cg (G4.1 532 (by decide)), xJ_cg C3, V _ v1.1 v1.2]
            exact v2
          · rw [if_neg (fun e => hi e.2), xJ_cg (G4.1 y1 c4)]
            exact V3 i h1 (by omega)
      · rw [if_neg hy, xH_ret]
        have : y4 = y2 := by omega
        subst this
        exact ⟨rfl, ⟨_, R3⟩, F3, V3⟩
end RCOL2
