/-! READING A COLUMN, the whole; skipping one -/
section RCOL2
variable {B : Nat} {m : xw_M} {c n p b : Int}
/-- reading a column -/
theorem rd_col (hB : B ≤ 512) (hc : cellsOk B c) (hn : 1 ≤ n) (hn2 : n ≤ 1024) (h : rs B m p) {f : Int → Int} {Wt : Int} (hC : Col (m 516) p n f Wt) (hf : p + 8 * (Wt + 20) ≤ 64 * (B * 512 : Nat)) :
    ∃ m', yf114 B 530 c n m = some (.inl 0, m') ∧ rs B m' (p + 8 * (Wt + 20)) ∧ rf m m' c ∧ ∀ i : Int, 0 ≤ i → i < n → xJ m' c i = f i := by
  obtain ⟨form, t1, t2, b1, b2, body⟩ := hC
  have hp := h.2.2
  obtain ⟨m1, e1, R1, G1⟩ := take_b (b := 8) hB h (by decide) (by decide) (by omega)
  obtain ⟨m2, e2, R2, G2⟩ := take_b (b := 24) hB R1 (by decide) (by decide) (by omega)
  obtain ⟨m3, e3, R3, G3⟩ := take_b (b := 64) hB R2 (by decide) (by decide) (by omega)
  obtain ⟨m4, e4, R4, G4⟩ := take_b (b := 64) hB R3 (by decide) (by decide) (by omega)
  rw [show (8 : Int).toNat = 8 from rfl, t1] at e1
  rw [show (24 : Int).toNat = 24 from rfl, G1.1 516 (by decide), t2] at e2
  have G : rg m m4 := rg_trans G1 (rg_trans G2 (rg_trans G3 G4))
  have R5 : rs B m4 (p + 160) := by rw [show p + 160 = p + 8 + 24 + 64 + 64 from by omega]; exact R4
  have W4 : m4 516 = m 516 := G.1 516 (by decide)
  have hform : 0 ≤ form ∧ form ≤ 4 := by
    rcases body with ⟨q, _⟩ | ⟨q, _⟩ | ⟨q, _⟩ | ⟨q, _⟩ | ⟨q, _⟩ <;> rw [q] <;> decide
  unfold yf114 yf20
  rw [if_pos (by decide), e1, xB_ret]
  rw [show min form 4 = form from by omega, w32_id (x := form) (by omega) (by omega), if_pos (by decide), xB_ret, e2, xB_ret]
  rw [e3, xB_ret]
  rw [e4, xB_ret]
  rw [R5.1, R5.2.1, w32_id (x := Wt) (by omega) (by omega), w32_id (x := p + 160 + Wt * 8) (by omega) (by omega), show min (64 * ((B * 512 : Nat) : Int)) (p + 160 + Wt * 8) = p + 8 * (Wt + 20) from by omega]
  have fin : ∀ m', (∃ p', rs B m' p') → rf m4 m' c → (∀ i : Int, 0 ≤ i → i < n → xJ m' c i = f i) → rs B (xw_u m' 530 2 (p + 8 * (Wt + 20))) (p + 8 * (Wt + 20)) ∧ rf m (xw_u m' 530 2 (p + 8 * (Wt + 20))) c ∧ ∀ i : Int, 0 ≤ i → i < n → xJ (xw_u m' 530 2 (p + 8 * (Wt + 20))) c i = f i := by
    intro m' ⟨p', q1⟩ q2 q3
    refine ⟨rs_to hB q1 (by omega) hf, rf_to (rf_trans (rg_rf G c) q2), fun i h1 h2 => ?_⟩
    rw [xJ_cg (xu_c hc.2.2.2.1)]
    exact q3 i h1 h2
  rcases body with ⟨rfl, hw, hv⟩ | ⟨rfl, b, q1, q2, q3, hv⟩ | ⟨rfl, d, b, d1, d2, d3, d4, d5, hv⟩ | ⟨rfl, r, e, r1, r2, r3, r4, r5, hv⟩ | ⟨rfl, b, q1, q2, q3, q4, hv⟩
  · rw [if_neg (by decide), if_neg (by decide)]
    obtain ⟨m5, p5, e5, s1, s2, s3⟩ := num_rd (f := f) (base := 0) (step := 0) (form := 0) (b := 64) hB hc (by omega) hn2 (by decide) (by decide) R5 (by omega) (by decide) (fun i h1 h2 => by
      have := hv i h1 h2
      rw [W4, Int.zero_add, tk_w]
      exact this)
    unfold yf122
    rw [if_pos rfl, if_neg (by decide), e5, xB_ret]
    exact ⟨_, rfl, fin m5 ⟨p5, s1⟩ s2 s3⟩
  · rw [if_neg (by decide), if_neg (by decide)]
    have hnb : 0 ≤ n * (b : Int) := Int.mul_nonneg (by omega) (by omega)
    obtain ⟨m5, e5, R6, G5⟩ := take_b (b := 64) hB R5 (by decide) (by decide) (by omega)
    obtain ⟨m6, e6, R7, G6⟩ := take_b (b := 8) hB R6 (by decide) (by decide) (by omega)
    rw [show (64 : Int).toNat = 64 from rfl, W4] at e5
    rw [show (8 : Int).toNat = 8 from rfl, G5.1 516 (by decide), W4, q3] at e6
    have W6 : m6 516 = m 516 := by rw [G6.1 516 (by decide), G5.1 516 (by decide), W4]
    obtain ⟨m7, p7, e7, s1, s2, s3⟩ := num_rd (f := f) (base := tk (m 516) (p + 160) 64) (step := 0) (form := 1) (b := (b : Int)) hB hc (by omega) hn2 (by omega) (by omega) R7 (by omega) (by decide) (fun i h1 h2 => by
      have := hv i h1 h2
      rw [W6, Int.toNat_natCast, show p + 160 + 64 + 8 + (b : Int) * i = p + 160 + 72 + (b : Int) * i from by omega]
      exact this)
    unfold yf122
    rw [if_neg (by decide), if_pos (by decide), e5, xB_ret]
    rw [if_neg (by decide), e6, xB_ret]
    rw [show min (b : Int) 64 = (b : Int) from by omega, w32_id (x := (b : Int)) (by omega) (by omega), e7, xB_ret]
    exact ⟨_, rfl, fin m7 ⟨p7, s1⟩ (rf_trans (rg_rf (rg_trans G5 G6) c) s2) s3⟩
  · rw [if_pos rfl]
    rw [← W4] at d5 hv
    obtain ⟨m5, p5, e5, s1, s2, s3⟩ := list_rd hB hc (by omega) hn2 R5 d1 d2 d3 (by omega) d5 hv
    rw [e5, xB_ret]
    exact ⟨_, rfl, fin m5 ⟨p5, s1⟩ s2 s3⟩
  · rw [if_neg (by decide), if_pos rfl]
    rw [← W4] at r3 hv
    obtain ⟨m5, p5, e5, s1, s2, s3⟩ := runs_rd hB hc (by omega) hn2 R5 r1 (by omega) r3 r4 r5 hv
    rw [e5, xB_ret]
    exact ⟨_, rfl, fin m5 ⟨p5, s1⟩ s2 s3⟩
  · rw [if_neg (by decide), if_neg (by decide)]
    have hnb : 0 ≤ (n - 1) * (b : Int) := Int.mul_nonneg (by omega) (by omega)
    obtain ⟨m5, e5, R6, G5⟩ := take_b (b := 64) hB R5 (by decide) (by decide) (by omega)
    obtain ⟨m6, e6, R7, G6⟩ := take_b (b := 64) hB R6 (by decide) (by decide) (by omega)
    obtain ⟨m7, e7, R8, G7⟩ := take_b (b := 8) hB R7 (by decide) (by decide) (by omega)
    have W5 : m5 516 = m 516 := by rw [G5.1 516 (by decide), W4]
    have W6 : m6 516 = m 516 := by rw [G6.1 516 (by decide), W5]
    have W7 : m7 516 = m 516 := by rw [G7.1 516 (by decide), W6]
    rw [show (64 : Int).toNat = 64 from rfl, W4, q3] at e5
    rw [show (64 : Int).toNat = 64 from rfl, W5] at e6
    rw [show (8 : Int).toNat = 8 from rfl, W6, show p + 160 + 64 + 64 = p + 160 + 128 from by omega, q4] at e7
    have hw0 : w64 (f 0) = f 0 := by rw [← q3]; exact tk_w _ _ _
    obtain ⟨m8, p8, e8, s1, s2, s3⟩ := stp_rd (f := f) (base := f 0) (step := tk (m 516) (p + 160 + 64) 64) (b := (b : Int)) hB hc hn hn2 (by omega) (by omega) R8 (by omega) hw0 (fun i h1 h2 => by
      have := hv i h1 h2
      rw [W7, Int.toNat_natCast, show p + 160 + 64 + 64 + 8 + (b : Int) * (i - 1) = p + 160 + 136 + (b : Int) * (i - 1) from by omega]
      exact this)
    unfold yf122
    rw [if_neg (by decide), if_pos (by decide), e5, xB_ret]
    rw [if_pos rfl, e6, xB_ret]
    rw [e7, xB_ret]
    rw [show min (b : Int) 64 = (b : Int) from by omega, w32_id (x := (b : Int)) (by omega) (by omega), e8, xB_ret]
    exact ⟨_, rfl, fin m8 ⟨p8, s1⟩ (rf_trans (rg_rf (rg_trans G5 (rg_trans G6 G7)) c) s2) s3⟩
theorem skip_col (hB : B ≤ 512) (h : rs B m p) {n : Int} {f : Int → Int} {Wt : Int} (hn2 : n ≤ 1024) (hC : Col (m 516) p n f Wt) (hf : p + 8 * (Wt + 20) ≤ 64 * (B * 512 : Nat)) :
    ∃ m', yf108 B 530 m = some (.inl 0, m') ∧ rs B m' (p + 8 * (Wt + 20)) ∧ rg m m' := by
  obtain ⟨form, t1, t2, b1, b2, body⟩ := hC
  have hp := h.2.2
  obtain ⟨m1, e1, R1, G1⟩ := take_b (b := 8) hB h (by decide) (by decide) (by omega)
  obtain ⟨m2, e2, R2, G2⟩ := take_b (b := 24) hB R1 (by decide) (by decide) (by omega)
  rw [show (24 : Int).toNat = 24 from rfl, G1.1 516 (by decide), t2] at e2
  unfold yf108
  rw [if_pos (by decide), e1, xB_ret]
  rw [e2, xB_ret]
  rw [R2.1, R2.2.1, w32_id (x := Wt) (by omega) (by omega), w32_id (x := p + 8 + 24 + 128 + Wt * 8) (by omega) (by omega), show min (64 * ((B * 512 : Nat) : Int)) (p + 8 + 24 + 128 + Wt * 8) = p + 8 * (Wt + 20) from by omega]
  exact ⟨_, rfl, rs_to hB R2 (by omega) hf, rg_to (rg_trans G1 G2)⟩
end RCOL2
