/-! READING A COLUMN -/
def rs (B : Nat) (m : xw_M) (p : Int) : Prop := xR m 530 1 = 64 * (B * 512 : Nat) ∧ xR m 530 2 = p ∧ 0 ≤ p
/-- only the reading tape's place is another -/
def rg (m m' : xw_M) : Prop := (∀ a, a ≠ 530 → m' a = m a) ∧ (∀ k, k ≠ 2 → m' 530 k = m 530 k)
/-- also the cells c, and the list -/
def rf (m m' : xw_M) (c : Int) : Prop := (∀ a, a ≠ 530 → a ≠ 532 → a ≠ c → m' a = m a) ∧ (∀ k, k ≠ 2 → m' 530 k = m 530 k)
theorem rg_refl (m : xw_M) : rg m m := ⟨fun _ _ => rfl, fun _ _ => rfl⟩
theorem rg_trans {m m1 m2 : xw_M} (h : rg m m1) (h2 : rg m1 m2) : rg m m2 := ⟨fun a ha => (h2.1 a ha).trans (h.1 a ha), fun k hk => (h2.2 k hk).trans (h.2 k hk)⟩
theorem rg_rf {m m1 : xw_M} (h : rg m m1) (c : Int) : rf m m1 c := ⟨fun a h1 _ _ => h.1 a h1, h.2⟩
theorem rf_trans {m m1 m2 : xw_M} {c : Int} (h : rf m m1 c) (h2 : rf m1 m2 c) : rf m m2 c := ⟨fun a h1 h3 h4 => (h2.1 a h1 h3 h4).trans (h.1 a h1 h3 h4), fun k hk => (h2.2 k hk).trans (h.2 k hk)⟩
theorem rf_u {m m1 : xw_M} {c i v : Int} (h : rf m m1 c) (hc : c ≠ 530) : rf m (xw_u m1 c i v) c := by
  refine ⟨fun a h1 h2 h3 => by rw [xu_c h3]; exact h.1 a h1 h2 h3, fun k hk => ?_⟩
  rw [xu_c (fun e => hc e.symm)]
  exact h.2 k hk
theorem rs_u {B : Nat} {m : xw_M} {p c i v : Int} (h : rs B m p) (hc : c ≠ 530) : rs B (xw_u m c i v) p := by
  obtain ⟨h1, h2, h3⟩ := h
  refine ⟨?_, ?_, h3⟩
  · rw [xR_u, if_neg (fun e => hc e.1.symm)]
    exact h1
  · rw [xR_u, if_neg (fun e => hc e.1.symm)]
    exact h2
theorem rs_to {B : Nat} (hB : B ≤ 512) {m : xw_M} {p p' : Int} (h : rs B m p) (h0 : 0 ≤ p') (h1 : p' ≤ 64 * (B * 512 : Nat)) : rs B (xw_u m 530 2 p') p' := by
  refine ⟨?_, ?_, h0⟩
  · rw [xR_u, if_neg (by decide)]
    exact h.1
  · rw [xR_u, if_pos ⟨rfl, rfl⟩]
    exact w32_id (by omega) (by omega)
theorem rg_to {m m1 : xw_M} {p' : Int} (h : rg m m1) : rg m (xw_u m1 530 2 p') := by
  refine ⟨fun a ha => by rw [xu_c ha]; exact h.1 a ha, fun k hk => ?_⟩
  unfold xw_u
  rw [if_neg (fun e => hk e.2)]
  exact h.2 k hk
theorem rf_to {m m1 : xw_M} {c p' : Int} (h : rf m m1 c) : rf m (xw_u m1 530 2 p') c := by
  refine ⟨fun a h1 h2 h3 => by rw [xu_c h1]; exact h.1 a h1 h2 h3, fun k hk => ?_⟩
  unfold xw_u
  rw [if_neg (fun e => hk e.2)]
  exact h.2 k hk
theorem tk_0 (W : Int → Int) (p : Int) : tk W p 0 = 0 := by
  rw [tk_def]
  exact w64_id (show _ ≤ (0 : Int) by decide) (show (0 : Int) < _ by decide)
section RCOL
variable {B : Nat} {m : xw_M} {c n p b : Int}
theorem take_b (hB : B ≤ 512) (h : rs B m p) (hb : 0 ≤ b) (hb2 : b ≤ 64) (hf : p + b ≤ 64 * (B * 512 : Nat)) : ∃ m', yf19 B 530 b m = some (.inl (tk (m 516) p b.toNat), m') ∧ rs B m' (p + b) ∧ rg m m' := by
  by_cases hz : b = 0
  · subst hz
    rw [take_0, show (0 : Int).toNat = 0 from rfl, tk_0]
    exact ⟨m, rfl, by rw [Int.add_zero]; exact h, rg_refl m⟩
  · rw [take_ok (tp530 hB) h.2.2 h.2.1 h.1 (by omega) hb2 hf]
    have := h.2.2
    exact ⟨_, rfl, rs_to hB h (by omega) hf, rg_to (rg_refl m)⟩
/-- what the reader needs of the cells' row -/
def cellsOk (B : Nat) (c : Int) : Prop := xw_obb 17 c = true ∧ xw_le B c = 1024 ∧ c ≠ 516 ∧ c ≠ 530 ∧ c ≠ 532
theorem num_rd (hB : B ≤ 512) (hc : cellsOk B c) (hn : 0 ≤ n) (hn2 : n ≤ 1024) (hb : 0 ≤ b) (hb2 : b ≤ 64) (h : rs B m p) (hf : p + n * b ≤ 64 * (B * 512 : Nat)) {form base step : Int} (hform : form ≠ 4) {f : Int → Int} (hv : ∀ i : Int, 0 ≤ i → i < n → w64 (base + tk (m 516) (p + b * i) b.toNat) = f i) :
    ∃ m' p', xl8 (yl122_60 B) 1000000 530 form c n base step b 0 m = some (.inl 0, m') ∧ rs B m' p' ∧ rf m m' c ∧ ∀ i : Int, 0 ≤ i → i < n → xJ m' c i = f i := by
  obtain ⟨c1, c2, c3, c4, c5⟩ := hc
  have hp := h.2.2
  have goal := xH_ex (Q := fun v m' => v = 0 ∧ (∃ p', rs B m' p') ∧ rf m m' c ∧ ∀ i : Int, 0 ≤ i → i < n → xJ m' c i = f i) (xl8_rule (F := yl122_60 B) (fun x0 x1 x2 x3 x4 x5 x6 x7 m' => x0 = 530 ∧ x1 = form ∧ x2 = c ∧ x3 = n ∧ x4 = base ∧ x5 = step ∧ x6 = b ∧ 0 ≤ x7 ∧ x7 ≤ n ∧ rs B m' (p + b * x7) ∧ rf m m' c ∧ ∀ i : Int, 0 ≤ i → i < x7 → xJ m' c i = f i) (fun _ _ _ _ _ _ _ x7 _ => (n - x7).toNat) ?_ 1000000 530 form c n base step b 0 m ⟨rfl, rfl, rfl, rfl, rfl, rfl, rfl, by omega, by omega, by rw [Int.mul_zero, Int.add_zero]; exact h, rg_rf (rg_refl m) c, fun i h1 h2 => by omega⟩ (by omega))
  · obtain ⟨v, m', e, rfl, ⟨p', h1⟩, h2, h3⟩ := goal
    exact ⟨m', p', e, h1, h2, h3⟩
  · intro r x0 x1 x2 x3 x4 x5 x6 x7 m1 ⟨a0, a1, a2, a3, a4, a5, a6, a7, a8, R, F, V⟩ ih
    subst a0 a1 a2 a3 a4 a5 a6
    unfold yl122_60
    by_cases hx : x7 < x3
    · have hq : x6 * (x7 + 1) ≤ x6 * x3 := Int.mul_le_mul_of_nonneg_left (by omega) hb
      rw [Int.mul_add, Int.mul_one, Int.mul_comm x6 x3] at hq
      obtain ⟨m2, e2, R2, G2⟩ := take_b hB R hb hb2 (by omega)
      rw [if_pos hx, if_neg hform, if_pos (by decide), e2]
      simp only [xB_ret]
      rw [if_pos ⟨a7, by omega⟩, if_pos c1, w32_id (by omega) (by omega)]
      have F2 : rf m (xw_u m2 x2 x7 (x4 + tk (m1 516) (p + x6 * x7) x6.toNat)) x2 := rf_u (rf_trans F (rg_rf G2 x2)) c4
      refine ih _ _ _ _ _ _ _ _ _ ⟨rfl, rfl, rfl, rfl, rfl, rfl, rfl, by omega, by omega, ?_, F2, ?_⟩ (by omega)
      · rw [Int.mul_add, Int.mul_one, ← Int.add_assoc]
        exact rs_u R2 c4
      · intro i h1 h2
        rw [xJ_u]
        by_cases hi : i = x7
        · rw [if_pos ⟨rfl, hi⟩, hi, F.1 516 (by decide) (by decide) (fun e => c3 e.symm)]
          exact hv x7 a7 hx
        · rw [if_neg (fun e => hi e.2), xJ_cg (G2.1 x2 c4)]
          exact V i h1 (by omega)
    · rw [if_neg hx, xH_ret]
      have : x7 = x3 := by omega
      subst this
      exact ⟨rfl, ⟨_, R⟩, F, V⟩
theorem stp_rd (hB : B ≤ 512) (hc : cellsOk B c) (hn : 1 ≤ n) (hn2 : n ≤ 1024) (hb : 0 ≤ b) (hb2 : b ≤ 64) (h : rs B m p) (hf : p + (n - 1) * b ≤ 64 * (B * 512 : Nat)) {base step : Int} {f : Int → Int} (h0 : w64 base = f 0) (hv : ∀ i : Int, 1 ≤ i → i < n → w64 (f (i - 1) + step + tk (m 516) (p + b * (i - 1)) b.toNat) = f i) :
    ∃ m' p', xl8 (yl122_60 B) 1000000 530 4 c n base step b 0 m = some (.inl 0, m') ∧ rs B m' p' ∧ rf m m' c ∧ ∀ i : Int, 0 ≤ i → i < n → xJ m' c i = f i := by
  obtain ⟨c1, c2, c3, c4, c5⟩ := hc
  have hp := h.2.2
  have goal := xH_ex (Q := fun v m' => v = 0 ∧ (∃ p', rs B m' p') ∧ rf m m' c ∧ ∀ i : Int, 0 ≤ i → i < n → xJ m' c i = f i) (xl8_rule (F := yl122_60 B) (fun x0 x1 x2 x3 x4 x5 x6 x7 m' => x0 = 530 ∧ x1 = 4 ∧ x2 = c ∧ x3 = n ∧ x4 = base ∧ x5 = step ∧ x6 = b ∧ 0 ≤ x7 ∧ x7 ≤ n ∧ rs B m' (if x7 = 0 then p else p + b * (x7 - 1)) ∧ rf m m' c ∧ ∀ i : Int, 0 ≤ i → i < x7 → xJ m' c i = f i) (fun _ _ _ _ _ _ _ x7 _ => (n - x7).toNat) ?_ 1000000 530 4 c n base step b 0 m ⟨rfl, rfl, rfl, rfl, rfl, rfl, rfl, by omega, by omega, by rw [if_pos rfl]; exact h, rg_rf (rg_refl m) c, fun i h1 h2 => by omega⟩ (by omega))
  · obtain ⟨v, m', e, rfl, ⟨p', h1⟩, h2, h3⟩ := goal
    exact ⟨m', p', e, h1, h2, h3⟩
  · intro r x0 x1 x2 x3 x4 x5 x6 x7 m1 ⟨a0, a1, a2, a3, a4, a5, a6, a7, a8, R, F, V⟩ ih
    subst a0 a1 a2 a3 a4 a5 a6
    unfold yl122_60
    by_cases hx : x7 < x3
    · rw [if_pos hx, if_pos rfl]
      by_cases hz : x7 = 0
      · rw [if_pos hz, if_pos ⟨a7, by omega⟩, if_pos c1, w32_id (by omega) (by omega)]
        refine ih _ _ _ _ _ _ _ _ _ ⟨rfl, rfl, rfl, rfl, rfl, rfl, rfl, by omega, by omega, ?_, rf_u F c4, ?_⟩ (by omega)
        · rw [if_neg (by omega), hz, show x6 * (0 + 1 - 1) = 0 from by simp, Int.add_zero]
          rw [if_pos hz] at R
          exact rs_u R c4
        · intro i h1 h2
          have hi : i = x7 := by omega
          rw [xJ_u, if_pos ⟨rfl, hi⟩, hi, hz]
          exact h0
      · rw [if_neg hz] at R
        have hq : x6 * (x7 - 1 + 1) ≤ x6 * (x3 - 1) := Int.mul_le_mul_of_nonneg_left (by omega) hb
        rw [Int.mul_add, Int.mul_one, Int.mul_comm x6 (x3 - 1)] at hq
        obtain ⟨m2, e2, R2, G2⟩ := take_b hB R hb hb2 (by omega)
        rw [if_neg hz, if_pos ⟨by omega, by omega⟩, if_pos c1, if_pos (by decide), e2]
        simp only [xB_ret]
        rw [if_pos ⟨a7, by omega⟩, w32_id (by omega) (by omega)]
        refine ih _ _ _ _ _ _ _ _ _ ⟨rfl, rfl, rfl, rfl, rfl, rfl, rfl, by omega, by omega, ?_, rf_u (rf_trans F (rg_rf G2 x2)) c4, ?_⟩ (by omega)
        · rw [if_neg (by omega), show x6 * (x7 + 1 - 1) = x6 * (x7 - 1) + x6 from by rw [show x7 + 1 - 1 = (x7 - 1) + 1 from by omega, Int.mul_add, Int.mul_one], ← Int.add_assoc]
          exact rs_u R2 c4
        · intro i h1 h2
          rw [xJ_u]
          by_cases hi : i = x7
          · rw [if_pos ⟨rfl, hi⟩, hi, F.1 516 (by decide) (by decide) (fun e => c3 e.symm), V (x7 - 1) (by omega) (by omega)]
            exact hv x7 (by omega) hx
          · rw [if_neg (fun e => hi e.2), xJ_cg (G2.1 x2 c4)]
            exact V i h1 (by omega)
    · rw [if_neg hx, xH_ret]
      have : x7 = x3 := by omega
      subst this
      exact ⟨rfl, ⟨_, R⟩, F, V⟩
end RCOL
