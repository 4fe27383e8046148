/-! SEGMENTS: what stands on the tape; writing one -/
theorem bW_tk {W W' : Int → Int} {p p' z : Int} (h : ∀ q, 0 ≤ q → q < z → bW W' (p' + q) = bW W (p + q)) {o : Int} {n : Nat} (h0 : 0 ≤ o) (h1 : o + n ≤ z) : tk W' (p' + o) n = tk W (p + o) n := by
  refine tk_cg (fun i hi => ?_)
  rw [Int.add_assoc, Int.add_assoc]
  exact h _ (by omega) (by omega)
theorem colBody_cg {W W' : Int → Int} {p p' n : Int} {f : Int → Int} {form Wt : Int} (hn : 1 ≤ n) (h : ∀ q, 0 ≤ q → q < 8 * Wt → bW W' (p' + q) = bW W (p + q)) (hb : colBody W p n f form Wt) : colBody W' p' n f form Wt := by
  have T : ∀ {o : Int} {k : Nat}, 0 ≤ o → o + k ≤ 8 * Wt → tk W' (p' + o) k = tk W (p + o) k := fun h0 h1 => bW_tk h h0 h1
  have T0 : ∀ {k : Nat}, (k : Int) ≤ 8 * Wt → tk W' p' k = tk W p k := fun {k} h1 => by
    have := T (o := 0) (k := k) (by omega) (by omega)
    rw [Int.add_zero, Int.add_zero] at this
    exact this
  rcases hb with ⟨rfl, hw, hv⟩ | ⟨rfl, b, q1, q2, q3, hv⟩ | ⟨rfl, d, b, d1, d2, d3, d4, d5, hv⟩ | ⟨rfl, r, e, r1, r2, r3, r4, r5, hv⟩ | ⟨rfl, b, q1, q2, q3, q4, hv⟩
  · refine Or.inl ⟨rfl, hw, fun i h1 h2 => ?_⟩
    rw [T (by omega) (by omega)]
    exact hv i h1 h2
  · have hnb : 0 ≤ n * (b : Int) := Int.mul_nonneg (by omega) (by omega)
    refine Or.inr (Or.inl ⟨rfl, b, q1, q2, ?_, fun i h1 h2 => ?_⟩)
    · rw [T (by omega) (by omega)]
      exact q3
    · have hi : (b : Int) * (i + 1) ≤ (b : Int) * n := Int.mul_le_mul_of_nonneg_left (by omega) (by omega)
      have hi0 : 0 ≤ (b : Int) * i := Int.mul_nonneg (by omega) h1
      rw [Int.mul_add, Int.mul_one, Int.mul_comm (b : Int) n] at hi
      have := hv i h1 h2
      rw [Int.add_assoc] at this ⊢
      rw [T0 (by omega), T (by omega) (by omega)]
      exact this
  · have hnb : 0 ≤ n * (b : Int) := Int.mul_nonneg (by omega) (by omega)
    refine Or.inr (Or.inr (Or.inl ⟨rfl, d, b, d1, d2, d3, d4, ?_, fun i h1 h2 => ?_⟩))
    · rw [T0 (by omega)]
      exact d5
    · have hi : (b : Int) * (i + 1) ≤ (b : Int) * n := Int.mul_le_mul_of_nonneg_left (by omega) (by omega)
      have hi0 : 0 ≤ (b : Int) * i := Int.mul_nonneg (by omega) h1
      rw [Int.mul_add, Int.mul_one, Int.mul_comm (b : Int) n] at hi
      have := hv i h1 h2
      have e1 : tk W' (p' + (16 + 64 * d) + (b : Int) * i) b = tk W (p + (16 + 64 * d) + (b : Int) * i) b := by
        rw [Int.add_assoc, Int.add_assoc p]
        exact T (by omega) (by omega)
      rw [e1]
      refine ⟨this.1, ?_⟩
      rw [Int.add_assoc, T (by omega) (by omega), ← Int.add_assoc]
      exact this.2
  · refine Or.inr (Or.inr (Or.inr (Or.inl ⟨rfl, r, e, r1, r2, ?_, r4, r5, fun j hj => ?_⟩)))
    · rw [T0 (by omega)]
      exact r3
    · obtain ⟨v1, v2, v3⟩ := hv j hj
      refine ⟨v1, ?_, fun i h1 h2 => ?_⟩
      · rw [show p' + 16 + 80 * (j : Int) + 64 = p' + (16 + 80 * (j : Int) + 64) from by omega, T (by omega) (by omega), show p + (16 + 80 * (j : Int) + 64) = p + 16 + 80 * (j : Int) + 64 from by omega]
        exact v2
      · rw [show p' + 16 + 80 * (j : Int) = p' + (16 + 80 * (j : Int)) from by omega, T (by omega) (by omega), show p + (16 + 80 * (j : Int)) = p + 16 + 80 * (j : Int) from by omega]
        exact v3 i h1 h2
  · have hnb0 : 0 ≤ (n - 1) * (b : Int) := Int.mul_nonneg (by omega) (by omega)
    refine Or.inr (Or.inr (Or.inr (Or.inr ⟨rfl, b, q1, q2, ?_, ?_, fun i h1 h2 => ?_⟩)))
    · rw [T0 (by omega)]
      exact q3
    · rw [T (by omega) (by omega)]
      exact q4
    · have hnb : 0 ≤ (n - 1) * (b : Int) := Int.mul_nonneg (by omega) (by omega)
      have hi : (b : Int) * (i - 1 + 1) ≤ (b : Int) * (n - 1) := Int.mul_le_mul_of_nonneg_left (by omega) (by omega)
      have hi0 : 0 ≤ (b : Int) * (i - 1) := Int.mul_nonneg (by omega) (by omega)
      rw [Int.mul_add, Int.mul_one, Int.mul_comm (b : Int) (n - 1)] at hi
      have := hv i h1 h2
      rw [Int.add_assoc p 136] at this
      rw [Int.add_assoc p' 136, T (by omega) (by omega), T (by omega) (by omega)]
      exact this
theorem Col_cg {W W' : Int → Int} {p p' n : Int} {f : Int → Int} {Wt : Int} (hn : 1 ≤ n) (h : ∀ q, 0 ≤ q → q < 8 * (Wt + 20) → bW W' (p' + q) = bW W (p + q)) (hC : Col W p n f Wt) : Col W' p' n f Wt := by
  obtain ⟨form, t1, t2, b1, b2, body⟩ := hC
  have T0 : tk W' p' 8 = tk W p 8 := by
    have := bW_tk h (o := 0) (n := 8) (by omega) (by omega)
    rw [Int.add_zero, Int.add_zero] at this
    exact this
  refine ⟨form, by rw [T0]; exact t1, by rw [bW_tk h (by omega) (by omega)]; exact t2, b1, b2, colBody_cg hn (fun q h1 h2 => ?_) body⟩
  rw [Int.add_assoc, Int.add_assoc]
  exact h _ (by omega) (by omega)
theorem Col_f {W : Int → Int} {p n : Int} {f g : Int → Int} {Wt : Int} (hn : 1 ≤ n) (h : ∀ i : Int, 0 ≤ i → i < n → f i = g i) (hC : Col W p n f Wt) : Col W p n g Wt := by
  obtain ⟨form, t1, t2, b1, b2, hb⟩ := hC
  refine ⟨form, t1, t2, b1, b2, ?_⟩
  rcases hb with ⟨rfl, hw, hv⟩ | ⟨rfl, b, q1, q2, q3, hv⟩ | ⟨rfl, d, b, d1, d2, d3, d4, d5, hv⟩ | ⟨rfl, r, e, r1, r2, r3, r4, r5, hv⟩ | ⟨rfl, b, q1, q2, q3, q4, hv⟩
  · exact Or.inl ⟨rfl, hw, fun i h1 h2 => by rw [← h i h1 h2]; exact hv i h1 h2⟩
  · exact Or.inr (Or.inl ⟨rfl, b, q1, q2, q3, fun i h1 h2 => by rw [← h i h1 h2]; exact hv i h1 h2⟩)
  · exact Or.inr (Or.inr (Or.inl ⟨rfl, d, b, d1, d2, d3, d4, d5, fun i h1 h2 => by rw [← h i h1 h2]; exact hv i h1 h2⟩))
  · have mono : ∀ k j : Nat, j + k ≤ r → e j ≤ e (j + k) := by
      intro k
      induction k with
      | zero => intro j _; exact Int.le_refl _
      | succ k ih =>
        intro j hj
        have h1 := ih j (by omega)
        have h2 := (hv (j + k) (by omega)).1
        rw [show j + (k + 1) = j + k + 1 from by omega]
        omega
    refine Or.inr (Or.inr (Or.inr (Or.inl ⟨rfl, r, e, r1, r2, r3, r4, r5, fun j hj => ?_⟩)))
    obtain ⟨v1, v2, v3⟩ := hv j hj
    refine ⟨v1, v2, fun i h1 h2 => ?_⟩
    have l1 := mono j 0 (by omega)
    have l2 := mono (r - (j + 1)) (j + 1) (by omega)
    rw [r4, Nat.zero_add] at l1
    rw [show j + 1 + (r - (j + 1)) = r from by omega, r5] at l2
    rw [← h i (by omega) (by omega)]
    exact v3 i h1 h2
  · exact Or.inr (Or.inr (Or.inr (Or.inr ⟨rfl, b, q1, q2, by rw [← h 0 (by omega) (by omega)]; exact q3, q4, fun i h1 h2 => by rw [← h i (by omega) h2, ← h (i - 1) (by omega) (by omega)]; exact hv i h1 h2⟩)))
/-- the columns' bytes -/
def csum (C : Int → Int → Int) (n : Int) : Nat → Int
  | 0 => 0
  | k + 1 => csum C n k + (20 + colB (C k) n)
def cwd (C : Int → Int → Int) : Prop := ∀ c i, w64 (C c i) = C c i
theorem csum_mono {C : Int → Int → Int} (hC : cwd C) {n : Int} (hn : 1 ≤ n) (hn2 : n ≤ 1024) (k j : Nat) : csum C n k + 20 * j ≤ csum C n (k + j) ∧ csum C n (k + j) ≤ csum C n k + (20 + 8 * n) * j := by
  induction j with
  | zero => exact ⟨by simp, by simp⟩
  | succ j ih =>
    have := colB_b (hC (k + j : Nat)) hn hn2
    have e : csum C n (k + j + 1) = csum C n (k + j) + (20 + colB (C (k + j : Nat)) n) := rfl
    rw [show k + (j + 1) = k + j + 1 from by omega, e]
    have e5 : (20 + 8 * n) * ((j : Int) + 1) = (20 + 8 * n) * (j : Int) + (20 + 8 * n) := by rw [Int.mul_add, Int.mul_one]
    rw [show (((j + 1 : Nat)) : Int) = (j : Int) + 1 from by omega, e5]
    omega
theorem csum_b {C : Int → Int → Int} (hC : cwd C) {n : Int} (hn : 1 ≤ n) (hn2 : n ≤ 1024) {k : Nat} (hk : k ≤ 33) : 0 ≤ csum C n k ∧ csum C n k ≤ 300000 := by
  have h := csum_mono hC hn hn2 0 k
  rw [Nat.zero_add, show csum C n 0 = 0 from rfl] at h
  have h2 : (20 + 8 * n) * (k : Int) ≤ (20 + 8 * n) * 33 := Int.mul_le_mul_of_nonneg_left (by omega) (by omega)
  omega
theorem csum_cg {C C' : Int → Int → Int} {n : Int} (hn : 1 ≤ n) (k : Nat) (h : ∀ c i : Int, 0 ≤ c → c < k → 0 ≤ i → i < n → C c i = C' c i) : csum C n k = csum C' n k := by
  induction k with
  | zero => rfl
  | succ k ih =>
    unfold csum
    rw [ih (fun c i h1 h2 => h c i h1 (by omega)), colB_cg hn (fun i h1 h2 => h k i (by omega) (by omega) h1 h2)]
/-- a segment: n rows of k columns -/
def Seg (W : Int → Int) (p n : Int) (k : Nat) (C : Int → Int → Int) : Prop := tk W p 16 = n ∧ ∀ c : Nat, c < k → Col W (p + 16 + 8 * csum C n c) n (C c) (colB (C c) n)
theorem ce_ob {B : Nat} {c : Int} (h0 : 0 ≤ c) (h1 : c < 33) : xw_obb 17 (304 + c) = true ∧ xw_le B (304 + c) = 1024 := by
  have h : ∀ c : Nat, c < 33 → xw_obb 17 (304 + (c : Int)) = true ∧ xw_ln 0 (304 + (c : Int)).toNat = 1024 := by decide +kernel
  obtain ⟨q1, q2⟩ := h c.toNat (by omega)
  rw [Int.toNat_of_nonneg h0] at q1 q2
  refine ⟨q1, ?_⟩
  unfold xw_le
  have : xw_ln B (304 + c).toNat = xw_ln 0 (304 + c).toNat := by
    unfold xw_ln
    have e1 : Nat.beq (304 + c).toNat 516 = false := by
      cases hq : Nat.beq (304 + c).toNat 516
      · rfl
      · have := Nat.eq_of_beq_eq_true hq; omega
    have e2 : Nat.beq (304 + c).toNat 517 = false := by
      cases hq : Nat.beq (304 + c).toNat 517
      · rfl
      · have := Nat.eq_of_beq_eq_true hq; omega
    rw [e1, e2]
    simp
  rw [this, q2]
  rfl
theorem fw_tk {m m' : xw_M} {p q : Int} {n : Nat} (h : fw m m' p) (h0 : 0 ≤ q) (h1 : q + n ≤ p) : tk (m' 517) q n = tk (m 517) q n := tk_cg (fun i hi => h.2 _ (by omega) (by omega))
theorem put_ov {B : Nat} (hB : B ≤ 512) {m : xw_M} {v n p : Int} (h : ov B m ∨ (ws B m p ∧ p ≤ 64 * (B * 512 : Nat) ∧ 64 * (B * 512 : Nat) < p + n)) : ∃ m', yf152 B 518 v n m = some (.inl 0, m') ∧ ov B m' ∧ (∀ a, a ≠ 518 → m' a = m a) := by
  have hL : xR m 518 1 = 64 * (B * 512 : Nat) := by
    rcases h with h | h
    · exact h.1.1
    · exact h.1.1
  obtain ⟨m', e, q1, q2, q3⟩ := put_over (v := v) (n := n) (m := m) (tp518 hB) (by
    rcases h with h | ⟨h, h2, h3⟩
    · exact Or.inl h.2
    · have := h.2.2.2.1
      right
      rw [h.1, h.2.1, w32_id (by omega) (by omega)]
      omega)
  have ht : ∃ a, xR m 518 2 = a ∧ 0 ≤ a ∧ a ≤ 64 * (B * 512 : Nat) ∧ ∀ q, a ≤ q → q < 64 * (B * 512 : Nat) → bW (m 517) q = false := by
    rcases h with h | h
    · exact h.1.2
    · exact ⟨p, h.1.2.1, h.1.2.2.2.1, h.2.1, h.1.2.2.2.2⟩
  obtain ⟨a, z1, z2, z3, z4⟩ := ht
  refine ⟨m', e, ⟨⟨?_, a, ?_, z2, z3, by rw [q3 517 (by decide)]; exact z4⟩, q1⟩, q3⟩
  · unfold xR at hL ⊢
    rw [q2 1 (by decide)]
    exact hL
  · unfold xR at z1 ⊢
    rw [q2 2 (by decide)]
    exact z1
/-- writeSegment: it fits, or the tape is over -/
theorem wr_seg {B : Nat} (hB : B ≤ 512) {m : xw_M} {n p : Int} {k : Nat} (hk : k ≤ 33) (hn : 1 ≤ n) (hn2 : n ≤ 1024) (h8 : xR m 302 8 = n) (h6 : xR m 302 6 = k) (h : (ws B m p ∧ p ≤ 64 * (B * 512 : Nat)) ∨ (ov B m ∧ 64 * (B * 512 : Nat) < p + 16 + 8 * csum (fun c => xJ m (304 + c)) n k)) (hp : 0 ≤ p) :
    ∃ m', yf182 B 518 m = some (.inl 0, m') ∧ fw m m' p ∧ ((ws B m' (p + 16 + 8 * csum (fun c => xJ m (304 + c)) n k) ∧ p + 16 + 8 * csum (fun c => xJ m (304 + c)) n k ≤ 64 * (B * 512 : Nat) ∧ Seg (m' 517) p n k (fun c => xJ m (304 + c))) ∨ (ov B m' ∧ 64 * (B * 512 : Nat) < p + 16 + 8 * csum (fun c => xJ m (304 + c)) n k)) := by
  generalize hC : (fun c => xJ m (304 + c)) = C at *
  have hCw : cwd C := by rw [← hC]; exact fun c i => w64_w _
  have cb := csum_b hCw hn hn2 hk
  -- the size
  have first : ∃ m1, yf152 B 518 n 16 m = some (.inl 0, m1) ∧ fw m m1 p ∧ ((ws B m1 (p + 16) ∧ p + 16 ≤ 64 * (B * 512 : Nat) ∧ tk (m1 517) p 16 = n) ∨ (ov B m1 ∧ 64 * (B * 512 : Nat) < p + 16 + 8 * csum C n k)) := by
    by_cases hfit : (ws B m p ∧ p ≤ 64 * (B * 512 : Nat)) ∧ p + 16 ≤ 64 * (B * 512 : Nat)
    · obtain ⟨m1, e1, w1, f1, t1⟩ := put_ws (v := n) (n := 16) hB hfit.1.1 (by decide) (by decide) hfit.2
      refine ⟨m1, e1, fr_fw f1, Or.inl ⟨w1, hfit.2, ?_⟩⟩
      rw [show (16 : Int).toNat = 16 from rfl] at t1
      rw [t1]
      exact msk_nn (by omega) (by show _ < (65536 : Int); omega) (by decide)
    · obtain ⟨m1, e1, o1, g1⟩ := put_ov (v := n) (n := 16) (p := p) hB (m := m) (by
        rcases h with h | h
        · exact Or.inr ⟨h.1, h.2, by
            have : ¬ p + 16 ≤ 64 * ((B * 512 : Nat) : Int) := fun q => hfit ⟨h, q⟩
            omega⟩
        · exact Or.inl h.1)
      refine ⟨m1, e1, ⟨fun a ha => g1 a (by omega), fun q _ _ => by rw [g1 517 (by decide)]⟩, Or.inr ⟨o1, ?_⟩⟩
      rcases h with h | h
      · have : ¬ p + 16 ≤ 64 * ((B * 512 : Nat) : Int) := fun q => hfit ⟨h, q⟩
        omega
      · exact h.2
  obtain ⟨m1, e1, F1, S1⟩ := first
  unfold yf182
  rw [if_pos (by decide), h8, e1, xB_ret]
  have goal := xH_ex (Q := fun v m' => v = 0 ∧ fw m m' p ∧ ((ws B m' (p + 16 + 8 * csum C n k) ∧ p + 16 + 8 * csum C n k ≤ 64 * (B * 512 : Nat) ∧ Seg (m' 517) p n k C) ∨ (ov B m' ∧ 64 * (B * 512 : Nat) < p + 16 + 8 * csum C n k))) (xl2_rule (F := yl182_13 B) (fun x0 x1 m' => x0 = 518 ∧ 0 ≤ x1 ∧ x1 ≤ k ∧ fw m m' p ∧ ((ws B m' (p + 16 + 8 * csum C n x1.toNat) ∧ p + 16 + 8 * csum C n x1.toNat ≤ 64 * (B * 512 : Nat) ∧ Seg (m' 517) p n x1.toNat C) ∨ (ov B m' ∧ 64 * (B * 512 : Nat) < p + 16 + 8 * csum C n k))) (fun _ x1 _ => ((k : Int) - x1).toNat) ?_ 1000000 518 0 m1 ⟨rfl, by omega, by omega, F1, ?_⟩ (by omega))
  · obtain ⟨v, m', e, rfl, h⟩ := goal
    exact ⟨m', e, h⟩
  · intro r x0 x1 m2 ⟨a0, a1, a2, F2, S2⟩ ih
    subst a0
    unfold yl182_13
    have r6 : xR m2 302 6 = k := by rw [xR_cg (F2.1 302 (by omega))]; exact h6
    have r8 : xR m2 302 8 = n := by rw [xR_cg (F2.1 302 (by omega))]; exact h8
    rw [r6, r8]
    by_cases hx : x1 < (k : Int)
    · rw [if_pos hx, if_pos ⟨a1, by omega⟩, if_pos (by decide)]
      have et : (x1 + 1).toNat = x1.toNat + 1 := by omega
      have ec : ((x1.toNat : Nat) : Int) = x1 := by omega
      have es : csum C n (x1 + 1).toNat = csum C n x1.toNat + (20 + colB (C x1) n) := by
        rw [et]
        show csum C n x1.toNat + (20 + colB (C (x1.toNat : Nat)) n) = _
        rw [ec]
      obtain ⟨ob1, ob2⟩ := ce_ob (B := B) a1 (show x1 < 33 by omega)
      have rC : xJ m2 (304 + x1) = C x1 := by rw [xJ_cg (F2.1 (304 + x1) (by omega)), ← hC]
      have mono := csum_mono hCw hn hn2 (x1 + 1).toNat (k - (x1 + 1).toNat)
      rw [show (x1 + 1).toNat + (k - (x1 + 1).toNat) = k from by omega] at mono
      rcases S2 with ⟨w, hl, sg⟩ | ⟨o, hl⟩
      · have W := wr_col (n := n) hB ob1 ob2 (by omega) hn hn2 w hl
        rw [rC] at W
        have hq : 0 ≤ csum C n x1.toNat := (csum_b hCw hn hn2 (by omega)).1
        by_cases hfit : p + 16 + 8 * csum C n x1.toNat + 8 * (colB (C x1) n + 20) ≤ 64 * ((B * 512 : Nat) : Int)
        · obtain ⟨m3, e3, w3, f3, c3⟩ := W.1 hfit
          rw [e3, xB_ret, w32_id (by omega) (by omega)]
          refine ih _ _ _ ⟨rfl, by omega, by omega, fw_trans F2 f3 (by omega), Or.inl ⟨?_, by rw [es]; omega, ?_, ?_⟩⟩ (by omega)
          · rw [es, show p + 16 + 8 * (csum C n x1.toNat + (20 + colB (C x1) n)) = p + 16 + 8 * csum C n x1.toNat + 8 * (colB (C x1) n + 20) from by omega]
            exact w3
          · rw [fw_tk f3 hp (by omega)]
            exact sg.1
          · intro c hc
            by_cases hcx : c = x1.toNat
            · rw [hcx, ec]
              exact c3
            · have hm := csum_mono hCw hn hn2 (c + 1) (x1.toNat - (c + 1))
              rw [show c + 1 + (x1.toNat - (c + 1)) = x1.toNat from by omega] at hm
              have hs : csum C n (c + 1) = csum C n c + (20 + colB (C c) n) := rfl
              have hc0 : 0 ≤ csum C n c := (csum_b hCw hn hn2 (by omega)).1
              refine Col_cg (by omega) (fun q h1 h2 => f3.2 _ (by omega) (by omega)) (sg.2 c (by omega))
        · obtain ⟨m3, e3, o3, f3⟩ := W.2 (by omega)
          rw [e3, xB_ret, w32_id (by omega) (by omega)]
          exact ih _ _ _ ⟨rfl, by omega, by omega, fw_trans F2 f3 (by omega), Or.inr ⟨o3, by omega⟩⟩ (by omega)
      · rw [wr_over o, xB_ret, w32_id (by omega) (by omega)]
        exact ih _ _ _ ⟨rfl, by omega, by omega, F2, Or.inr ⟨o, hl⟩⟩ (by omega)
    · rw [if_neg hx, xH_ret]
      have ex : x1 = (k : Int) := by omega
      subst ex
      rw [Int.toNat_natCast] at S2
      exact ⟨rfl, F2, S2⟩
  · rcases S1 with ⟨q1, q2, q3⟩ | q
    · refine Or.inl ⟨?_, ?_, q3, fun c hc => ?_⟩
      · rw [show csum C n (0 : Int).toNat = 0 from rfl, Int.mul_zero, Int.add_zero]
        exact q1
      · rw [show csum C n (0 : Int).toNat = 0 from rfl, Int.mul_zero, Int.add_zero]
        exact q2
      · exact absurd hc (by show ¬ c < 0; omega)
    · exact Or.inr q
