/-! READING A COLUMN: runs -/
section RCOL2
variable {B : Nat} {m : xw_M} {c n p b : Int}
theorem runs_rd (hB : B ≤ 512) (hc : cellsOk B c) (hn : 0 ≤ n) (hn2 : n ≤ 1024) (h : rs B m p) {r : Nat} {e : Nat → Int} (hr : r ≤ 1024) (hf : p + (16 + 80 * (r : Int)) ≤ 64 * (B * 512 : Nat)) (h16 : tk (m 516) p 16 = (r : Int)) (he0 : e 0 = 0) (her : e r = n) {f : Int → Int}
    (hv : ∀ j : Nat, j < r → e j < e (j + 1) ∧ tk (m 516) (p + 16 + 80 * (j : Int) + 64) 16 = e (j + 1) - e j ∧ ∀ i : Int, e j ≤ i → i < e (j + 1) → f i = tk (m 516) (p + 16 + 80 * (j : Int)) 64) :
    ∃ m' p', yf119 B 530 c n m = some (.inl 0, m') ∧ rs B m' p' ∧ rf m m' c ∧ ∀ i : Int, 0 ≤ i → i < n → xJ m' c i = f i := by
  obtain ⟨c1, c2, c3, c4, c5⟩ := hc
  have hp := h.2.2
  have mono : ∀ k j : Nat, j + k ≤ r → e j ≤ e (j + k) := by
    intro k
    induction k with
    | zero => intro j _; exact Int.le_refl _
    | succ k ih =>
      intro j hj
      have h1 := ih j (by omega)
      have h2 := (hv (j + k) (by omega)).1
      rw [show j + (k + 1) = j + k + 1 from by omega]
      omega
  have lo : ∀ j : Nat, j ≤ r → 0 ≤ e j := fun j hj => by
    have := mono j 0 (by omega)
    rw [he0, Nat.zero_add] at this
    exact this
  have hi : ∀ j : Nat, j ≤ r → e j ≤ n := fun j hj => by
    have := mono (r - j) j (by omega)
    rw [show j + (r - j) = r from by omega, her] at this
    exact this
  obtain ⟨m1, e1, R1, G1⟩ := take_b (b := 16) hB h (by decide) (by decide) (by omega)
  rw [show (16 : Int).toNat = 16 from rfl, h16] at e1
  unfold yf119
  rw [if_pos (by decide), e1, xB_ret, w32_id (x := (r : Int)) (by omega) (by omega)]
  have goal := xH_ex (Q := fun v m' => v = 0 ∧ (∃ p', rs B m' p') ∧ rf m m' c ∧ ∀ i : Int, 0 ≤ i → i < n → xJ m' c i = f i) (xl5_rule (F := yl119_11 B) (fun x0 x1 x2 x3 x4 m' => x0 = 530 ∧ x1 = c ∧ x2 = n ∧ ∃ j : Nat, j ≤ r ∧ x3 = (r : Int) - j ∧ x4 = e j ∧ rs B m' (p + 16 + 80 * (j : Int)) ∧ rf m m' c ∧ ∀ i : Int, 0 ≤ i → i < e j → xJ m' c i = f i) (fun _ _ _ x3 _ _ => x3.toNat) ?_ 1000000 530 c n (r : Int) 0 m1 ⟨rfl, rfl, rfl, 0, by omega, by omega, he0.symm, by rw [show p + 16 + 80 * ((0 : Nat) : Int) = p + 16 from by omega]; exact R1, rg_rf G1 c, fun i h1 h2 => by omega⟩ (by omega))
  · obtain ⟨v, m', e, rfl, ⟨p', h1⟩, h2, h3⟩ := goal
    exact ⟨m', p', e, h1, h2, h3⟩
  · intro q x0 x1 x2 x3 x4 m2 ⟨a0, a1, a2, j, a3, a4, a5, R, F, V⟩ ih
    subst a0 a1 a2 a4 a5
    unfold yl119_11
    by_cases hx : 0 < (r : Int) - (j : Int)
    · obtain ⟨v1, v2, v3⟩ := hv j (by omega)
      have l1 := lo j a3
      have l2 := hi (j + 1) (by omega)
      obtain ⟨m3, e3, R3, G3⟩ := take_b (b := 64) hB R (by decide) (by decide) (by omega)
      obtain ⟨m4, e4, R4, G4⟩ := take_b (b := 16) hB R3 (by decide) (by decide) (by omega)
      have W2 : m2 516 = m 516 := F.1 516 (by decide) (by decide) (fun e => c3 e.symm)
      rw [show (64 : Int).toNat = 64 from rfl, W2] at e3
      rw [show (16 : Int).toNat = 16 from rfl, G3.1 516 (by decide), W2, v2] at e4
      rw [if_pos hx, if_pos (by decide), e3]
      simp only [xB_ret]
      rw [e4]
      simp only [xB_ret]
      rw [w64_id (x := e j + (e (j + 1) - e j)) (by omega) (by omega), show min x2 (e j + (e (j + 1) - e j)) = e (j + 1) from by omega, w32_id (x := e (j + 1)) (by omega) (by omega), fill120 c1 l1 (by omega) (by omega) (by omega)]
      simp only [xB_ret]
      rw [w32_id (by omega) (by omega)]
      have F4 : rf m m4 x1 := rf_trans F (rf_trans (rg_rf G3 x1) (rg_rf G4 x1))
      refine ih _ _ _ _ _ _ ⟨rfl, rfl, rfl, j + 1, by omega, by omega, rfl, ?_, ?_, ?_⟩ (by omega)
      · rw [show p + 16 + 80 * ((j + 1 : Nat) : Int) = p + 16 + 80 * (j : Int) + 64 + 16 from by omega]
        refine ⟨?_, ?_, R4.2.2⟩
        · rw [xR_cg (xfill_ne (fun e => c4 e.symm))]
          exact R4.1
        · rw [xR_cg (xfill_ne (fun e => c4 e.symm))]
          exact R4.2.1
      · exact ⟨fun a h1 h2 h3 => by rw [xfill_ne h3]; exact F4.1 a h1 h2 h3, fun k hk => by rw [xfill_ne (fun e => c4 e.symm)]; exact F4.2 k hk⟩
      · intro i h1 h2
        by_cases hij : e j ≤ i
        · unfold xJ
          rw [xfill_at hij h2, v3 i hij h2]
          exact tk_w _ _ _
        · have : xJ (xfill m4 x1 (e j) (e (j + 1)) (tk (m 516) (p + 16 + 80 * (j : Int)) 64)) x1 i = xJ m4 x1 i := by
            unfold xJ
            rw [xfill_out (Or.inl (by omega))]
          rw [this, xJ_cg (G4.1 x1 c4), xJ_cg (G3.1 x1 c4)]
          exact V i h1 (by omega)
    · rw [if_neg hx, xH_ret]
      have : j = r := by omega
      subst this
      rw [her] at V
      exact ⟨rfl, ⟨_, R⟩, F, V⟩
end RCOL2
