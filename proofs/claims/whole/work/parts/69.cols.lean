/-! WRITING A COLUMN: list, runs, the whole -/
section COL2
variable {B : Nat} {m : xw_M} {c n p : Int}
theorem wr_list (hB : B ≤ 512) (hn : 1 ≤ n) (hn2 : n ≤ 1024) (h : ws B m p) {f : Int → Int} (l1 : xR m 518 9 = (dst f n.toNat : Nat)) (l5 : ∀ i' : Int, 0 ≤ i' → i' < n → (0 ≤ xR m 521 i' ∧ xR m 521 i' < (dst f n.toNat : Nat)) ∧ xJ m 520 (xR m 521 i') = f i') (hG : WG m f n) (hf : p + 8 * xR m 523 2 ≤ 64 * (B * 512 : Nat)) :
    ∃ m' p', yf189 B 518 n m = some (.inl 0, m') ∧ p ≤ p' ∧ p' ≤ p + 8 * xR m 523 2 ∧ ws B m' p' ∧ fr m m' p ∧ colBody (m' 517) p n f 2 (xR m 523 2) := by
  have hp : 0 ≤ p := h.2.2.2.1
  obtain ⟨⟨g1, g2, g3, g4⟩, k0, k1, k2, k3, k4⟩ := hG
  have hd1 := dst_pos f (k := n.toNat) (by omega)
  have hd2 := dst_le f n.toNat
  have hk2 := k2
  unfold wgL at hk2
  generalize hD : (dst f n.toNat : Nat) = D at *
  have nbd : isnb ((D : Int) - 1) (nb ((D : Int) - 1)) := isnb_nb (by omega)
  have nb0 := nbd.1
  have nb1 : nb ((D : Int) - 1) ≤ 10 := isnb_le (k := 10) nbd (by show _ < (1024 : Int); omega)
  generalize hb : nb ((D : Int) - 1) = b at *
  have lm := mulb (n := n) (b := b) (by omega) hn2 nb0 (by omega)
  rw [hk2] at hf
  obtain ⟨m1, e1, w1, f1, t1⟩ := put_ws (v := (D : Int)) (n := 16) hB h (by decide) (by decide) (by omega)
  have goal := xH_ex (Q := fun v m' => v = 0 ∧ ∃ m2, pw B m1 m2 (p + 16) 64 (fun j => xJ m 520 j) (D : Int) ∧ pw B m2 m' (p + 16 + 64 * (D : Int)) b (fun i => xR m 521 i) n) (xl3_rule (F := yl189_13 B) (fun x0 x1 x2 m' => x0 = 518 ∧ x1 = n ∧ 0 ≤ x2 ∧ x2 ≤ (D : Int) ∧ pw B m1 m' (p + 16) 64 (fun j => xJ m 520 j) x2) (fun _ _ x2 _ => ((D : Int) - x2).toNat) ?_ 1000000 518 n 0 m1 ⟨rfl, rfl, by omega, by omega, pw_0 w1⟩ (by omega))
  · obtain ⟨v, m', e, rfl, m2, P, P2⟩ := goal
    have hmul : b * n = n * b := Int.mul_comm _ _
    refine ⟨m', p + 16 + 64 * (D : Int) + b * n, ?_, by omega, by omega, P2.1, fr_trans f1 (fr_trans P.2.1 P2.2.1 (by omega)) (by omega), Or.inr (Or.inr (Or.inl ⟨rfl, D, b.toNat, by omega, by omega, ?_, ?_, ?_, ?_⟩))⟩
    · unfold yf189
      rw [if_pos (by decide), l1, e1]
      simp only [xB_ret]
      exact e
    · rw [Int.toNat_of_nonneg nb0]
      exact nbd
    · rw [Int.toNat_of_nonneg nb0]
      omega
    · rw [fr_tk P2.2.1 hp (by omega), fr_tk P.2.1 hp (by omega)]
      have := t1
      rw [show ((16 : Int).toNat) = 16 from rfl] at this
      rw [this]
      exact msk_nn (by omega) (by show _ < (65536 : Int); omega) (by decide)
    · intro i h1 h2
      have q1 := P2.2.2 i h1 h2
      dsimp only at q1
      obtain ⟨x1, x2⟩ := l5 i h1 h2
      have ep : p + (16 + 64 * (D : Int)) + ((b.toNat : Nat) : Int) * i = p + 16 + 64 * (D : Int) + b * i := by rw [Int.toNat_of_nonneg nb0]; omega
      rw [ep, q1]
      refine ⟨x1, ?_⟩
      rw [fr_tk P2.2.1 (by omega) (by omega)]
      have q2 := P.2.2 _ x1.1 x1.2
      dsimp only at q2
      rw [show ((64 : Int).toNat) = 64 from rfl] at q2
      rw [q2, x2]
  · intro r x0 x1 x2 m2 ⟨a0, a1, a2, a3, P⟩ ih
    subst a0 a1
    unfold yl189_13
    have rD : xR m2 518 9 = (D : Int) := by rw [fr_R8 P.2.1 (by decide), fr_R8 f1 (by decide), l1]
    rw [if_pos (by decide), rD]
    by_cases hx : x2 < (D : Int)
    · have rl : xJ m2 520 x2 = xJ m 520 x2 := by rw [fr_J P.2.1 (by decide) (by decide), fr_J f1 (by decide) (by decide)]
      obtain ⟨m3, e3, P'⟩ := pw_step (v := xJ m 520 x2) hB P (by omega) a2 (by decide) (by decide) (by omega) (by show msk _ (64 : Int).toNat = xJ m 520 x2; exact msk_64 (w64_xJ _ _ _))
      rw [if_pos hx, show xw_rf 518 5 = 520 from by decide, show xw_le B 520 = 1024 from rfl, if_pos ⟨a2, by omega⟩, if_pos (by decide), rl, e3]
      simp only [xB_ret]
      rw [w32_id (by omega) (by omega)]
      exact ih _ _ _ _ ⟨rfl, rfl, by omega, by omega, P'⟩ (by omega)
    · rw [if_neg hx]
      have ex : x2 = (D : Int) := by omega
      subst ex
      refine xl3_rule (F := yl189_41 B) (fun y0 y1 y2 m' => y0 = 518 ∧ y1 = x1 ∧ 0 ≤ y2 ∧ y2 ≤ x1 ∧ pw B m2 m' (p + 16 + 64 * (D : Int)) b (fun i => xR m 521 i) y2) (fun _ _ y2 _ => (x1 - y2).toNat) ?_ 1000000 518 x1 0 m2 ⟨rfl, rfl, by omega, by omega, pw_0 P.1⟩ (by omega)
      intro r' y0 y1 y2 m3 ⟨b0, b1, b2, b3, P2⟩ ih'
      subst b0 b1
      unfold yl189_41
      by_cases hy : y2 < y1
      · have ri : xR m3 521 y2 = xR m 521 y2 := by rw [fr_R P2.2.1 (by decide) (by decide), fr_R P.2.1 (by decide) (by decide), fr_R f1 (by decide) (by decide)]
        have rb : xR m3 522 2 = b := by rw [fr_R P2.2.1 (by decide) (by decide), fr_R P.2.1 (by decide) (by decide), fr_R f1 (by decide) (by decide), g3]
        have hq : b * (y2 + 1) ≤ b * y1 := Int.mul_le_mul_of_nonneg_left (by omega) nb0
        rw [Int.mul_add, Int.mul_one, Int.mul_comm b y1] at hq
        obtain ⟨x3, x4⟩ := l5 y2 b2 hy
        have hu := nbd.2.1
        obtain ⟨m4, e4, P'⟩ := pw_step (v := xR m 521 y2) hB P2 (by omega) b2 nb0 (by omega) (by omega) (by show msk _ b.toNat = xR m 521 y2; exact msk_nn x3.1 (by omega) (by omega))
        rw [if_pos hy, if_pos (by decide), show xw_rf 518 6 = 521 from by decide, show xw_le B 521 = 1024 from rfl, if_pos ⟨b2, by omega⟩, if_pos (by decide), show xw_rf 518 7 = 522 from by decide, show xw_le B 522 = 5 from rfl, if_pos ⟨by decide, by decide⟩, if_pos (by decide), ri, rb, e4]
        simp only [xB_ret]
        rw [w32_id (by omega) (by omega)]
        exact ih' _ _ _ _ ⟨rfl, rfl, by omega, by omega, P'⟩ (by omega)
      · rw [if_neg hy, xH_ret]
        have ey : y2 = y1 := by omega
        subst ey
        exact ⟨rfl, m2, P, P2⟩
theorem svR_mono (f : Int → Int) (k j : Nat) : svR f k ≤ svR f (k + j) := by
  induction j with
  | zero => exact Int.le_refl _
  | succ j ih =>
    show svR f k ≤ svR f (k + j) + _
    split <;> omega
theorem stp_z {f : Int → Int} (hf : ∀ i, w64 (f i) = f i) (i : Int) : stp f i = 0 ↔ f i = f (i - 1) := by
  have h1 := w64_cg (hf i)
  have h2 := w64_cg (hf (i - 1))
  unfold xw_rJ at h1 h2
  unfold stp w64
  omega
/-- the runs as far as the cell i, the last of which began at s -/
def RI (B : Nat) (m m' : xw_M) (p n : Int) (f : Int → Int) (s i : Int) : Prop := ∃ (j : Nat) (e : Nat → Int), e 0 = 0 ∧ e j = s ∧ (i ≤ n → s < i ∧ svR f (i - 1).toNat = j + 1 ∧ ∀ q, s ≤ q → q < i → f q = f s) ∧ (n < i → i = n + 1 ∧ s = n ∧ svR f (n - 1).toNat = j) ∧ ws B m' (p + 16 + 80 * j) ∧ fr m m' (p + 16) ∧ ∀ q : Nat, q < j → e q < e (q + 1) ∧ tk (m' 517) (p + 16 + 80 * (q : Int) + 64) 16 = e (q + 1) - e q ∧ ∀ i : Int, e q ≤ i → i < e (q + 1) → f i = tk (m' 517) (p + 16 + 80 * (q : Int)) 64
theorem run_put (hB : B ≤ 512) {m0 m1 : xw_M} {f : Int → Int} (hf : ∀ i, w64 (f i) = f i) {s i : Int} (hR : RI B m0 m1 p n f s i) (hp : 0 ≤ p) (h0 : 0 ≤ s) (h1 : 1 ≤ i) (hn2 : n ≤ 1024) (hi : i ≤ n) (hx : i = n ∨ ¬ f i = f s) (hfit : p + 16 + 80 * svR f (n - 1).toNat ≤ 64 * (B * 512 : Nat)) : ∃ m2 m3, yf152 B 518 (f s) 64 m1 = some (.inl 0, m2) ∧ yf152 B 518 (i - s) 16 m2 = some (.inl 0, m3) ∧ RI B m0 m3 p n f i (i + 1) := by
  obtain ⟨j, e, e0, ej, r1, r2, w, fr0, r3⟩ := hR
  obtain ⟨s1, s2, s3⟩ := r1 hi
  have hm := svR_mono f (i - 1).toNat ((n - 1).toNat - (i - 1).toNat)
  rw [show (i - 1).toNat + ((n - 1).toNat - (i - 1).toNat) = (n - 1).toNat from by omega] at hm
  obtain ⟨m2, e2, w2, f2, t2⟩ := put_ws (v := f s) (n := 64) hB w (by decide) (by decide) (by omega)
  obtain ⟨m3, e3, w3, f3, t3⟩ := put_ws (v := i - s) (n := 16) hB w2 (by decide) (by decide) (by omega)
  refine ⟨m2, m3, e2, e3, j + 1, fun q => if q ≤ j then e q else i, ?_, ?_, ?_, ?_, ?_, fr_trans fr0 (fr_trans f2 f3 (by omega)) (by omega), ?_⟩
  · show (if 0 ≤ j then e 0 else i) = 0
    rw [if_pos (by omega)]
    exact e0
  · show (if j + 1 ≤ j then e (j + 1) else i) = i
    rw [if_neg (by omega)]
  · intro hi2
    refine ⟨by omega, ?_, fun q h3 h4 => by rw [show q = i from by omega]⟩
    have hne : ¬ f i = f s := hx.resolve_left (by omega)
    have e4 : svR f (i + 1 - 1).toNat = svR f (i - 1).toNat + (if stp f i = 0 then 0 else 1) := by
      rw [show (i + 1 - 1).toNat = (i - 1).toNat + 1 from by omega]
      show svR f (i - 1).toNat + (if stp f (((i - 1).toNat : Nat) + 1) = 0 then 0 else 1) = _
      rw [show (((i - 1).toNat : Nat) : Int) + 1 = i from by omega]
    rw [e4, if_neg (by rw [stp_z hf, s3 (i - 1) (by omega) (by omega)]; exact hne), s2]
    omega
  · intro hi2
    have : i = n := by omega
    subst this
    refine ⟨by omega, rfl, ?_⟩
    rw [s2]
    omega
  · rw [show p + 16 + 80 * ((j + 1 : Nat) : Int) = p + 16 + 80 * (j : Int) + 64 + 16 from by omega]
    exact w3
  · intro q hq
    by_cases hqj : q = j
    · subst hqj
      refine ⟨?_, ?_, ?_⟩
      · show (if q ≤ q then e q else i) < (if q + 1 ≤ q then e (q + 1) else i)
        rw [if_pos (by omega), if_neg (by omega), ej]
        exact s1
      · show _ = (if q + 1 ≤ q then e (q + 1) else i) - (if q ≤ q then e q else i)
        rw [if_pos (Nat.le_refl _), if_neg (by omega), ej]
        have := t3
        rw [show ((16 : Int).toNat) = 16 from rfl] at this
        rw [this]
        exact msk_nn (by omega) (by show _ < (65536 : Int); omega) (by decide)
      · intro x
        show (if q ≤ q then e q else i) ≤ x → x < (if q + 1 ≤ q then e (q + 1) else i) → _
        rw [if_pos (Nat.le_refl _), if_neg (by omega), ej]
        intro h3 h4
        rw [fr_tk f3 (by omega) (by omega)]
        have := t2
        rw [show ((64 : Int).toNat) = 64 from rfl] at this
        rw [this, msk_64 (hf s)]
        exact s3 x h3 h4
    · obtain ⟨q1, q2, q3⟩ := r3 q (by omega)
      refine ⟨?_, ?_, ?_⟩
      · show (if q ≤ j then e q else i) < (if q + 1 ≤ j then e (q + 1) else i)
        rw [if_pos (by omega), if_pos (by omega)]
        exact q1
      · show _ = (if q + 1 ≤ j then e (q + 1) else i) - (if q ≤ j then e q else i)
        rw [if_pos (by omega), if_pos (by omega), fr_tk f3 (by omega) (by omega), fr_tk f2 (by omega) (by omega)]
        exact q2
      · intro x
        show (if q ≤ j then e q else i) ≤ x → x < (if q + 1 ≤ j then e (q + 1) else i) → _
        rw [if_pos (by omega), if_pos (by omega), fr_tk f3 (by omega) (by omega), fr_tk f2 (by omega) (by omega)]
        exact q3 x
theorem wr_runs (hB : B ≤ 512) (hc : xw_obb 17 c = true) (hle : xw_le B c = 1024) (hcn : c ≠ 517 ∧ c ≠ 518) (hn : 1 ≤ n) (hn2 : n ≤ 1024) (h : ws B m p) (hS : SV m (xJ m c) n (n - 1).toNat) (hG : WG m (xJ m c) n) (hf : p + 8 * xR m 523 3 ≤ 64 * (B * 512 : Nat)) :
    ∃ m' p', yf190 B 518 c n m = some (.inl 0, m') ∧ p ≤ p' ∧ p' ≤ p + 8 * xR m 523 3 ∧ ws B m' p' ∧ fr m m' p ∧ colBody (m' 517) p n (xJ m c) 3 (xR m 523 3) := by
  have hfw : ∀ i, w64 (xJ m c i) = xJ m c i := fun i => w64_w _
  have hp : 0 ≤ p := h.2.2.2.1
  obtain ⟨⟨g1, g2, g3, g4⟩, k0, k1, k2, k3, k4⟩ := hG
  have hr := svR_b (xJ m c) (n - 1).toNat
  have hk3 := k3
  unfold wgR at hk3
  rw [hk3] at hf
  obtain ⟨m1, e1, w1, f1, t1⟩ := put_ws (v := svR (xJ m c) (n - 1).toNat) (n := 16) hB h (by decide) (by decide) (by omega)
  have start : RI B m1 m1 p n (xJ m c) 0 1 := ⟨0, fun _ => 0, rfl, rfl, fun _ => ⟨by decide, rfl, fun q h1 h2 => by rw [show q = 0 from by omega]⟩, fun h => by omega, by rw [show p + 16 + 80 * ((0 : Nat) : Int) = p + 16 from by omega]; exact w1, fr_refl _ _, fun q hq => by omega⟩
  have goal := xH_ex (Q := fun v m' => v = 0 ∧ RI B m1 m' p n (xJ m c) n (n + 1)) (xl5_rule (F := yl190_16 B) (fun x0 x1 x2 x3 x4 m' => x0 = 518 ∧ x1 = c ∧ x2 = n ∧ 0 ≤ x3 ∧ 1 ≤ x4 ∧ x4 ≤ n + 1 ∧ RI B m1 m' p n (xJ m c) x3 x4) (fun _ _ _ _ x4 _ => (n + 1 - x4).toNat) ?_ 1000000 518 c n 0 1 m1 ⟨rfl, rfl, rfl, by omega, by omega, by omega, start⟩ (by omega))
  · obtain ⟨v, m', e, rfl, j, ee, e0, ej, r1, r2, w, fr0, r3⟩ := goal
    obtain ⟨_, _, s3⟩ := r2 (by omega)
    refine ⟨m', p + 16 + 80 * (j : Int), ?_, by omega, by omega, w, fr_trans f1 fr0 (by omega), Or.inr (Or.inr (Or.inr (Or.inl ⟨rfl, j, ee, by omega, by omega, ?_, e0, ej, r3⟩)))⟩
    · unfold yf190
      rw [if_pos (by decide), hS.2.2.1, e1]
      simp only [xB_ret]
      exact e
    · rw [fr_tk fr0 hp (by omega)]
      have := t1
      rw [show ((16 : Int).toNat) = 16 from rfl] at this
      rw [this, s3]
      exact msk_nn (by omega) (by show _ < (65536 : Int); omega) (by decide)
  · intro r x0 x1 x2 x3 x4 m2 ⟨a0, a1, a2, a3, a4, a5, R⟩ ih
    subst a0 a1 a2
    have rd : xJ m2 x1 = xJ m x1 := by
      have R2 := R
      obtain ⟨_, _, _, _, _, _, _, fr0, _⟩ := R2
      rw [fr_J fr0 hcn.1 hcn.2, fr_J f1 hcn.1 hcn.2]
    have fin : (x4 = x2 ∨ ¬ xJ m x1 x4 = xJ m x1 x3) → x4 ≤ x2 → xH (yk190_39 B r 518 x1 x2 x3 x4 m2) (fun v m' => v = 0 ∧ RI B m1 m' p x2 (xJ m x1) x2 (x2 + 1)) (fun _ _ => False) := by
      intro hx hi
      have R2 := R
      obtain ⟨_, _, _, _, r1, _⟩ := R2
      have hs := (r1 hi).1
      obtain ⟨m3, m4, e3, e4, R'⟩ := run_put hB hfw R hp a3 a4 hn2 hi hx (by omega)
      unfold yk190_39
      rw [if_pos ⟨a3, by omega⟩, if_pos hc, if_pos (by decide), rd, e3]
      simp only [xB_ret]
      rw [w32_id (x := x4 - x3) (by omega) (by omega), e4]
      simp only [xB_ret]
      rw [w32_id (by omega) (by omega)]
      exact ih _ _ _ _ _ _ ⟨rfl, rfl, rfl, by omega, by omega, by omega, R'⟩ (by omega)
    unfold yl190_16
    by_cases h1 : x2 < x4
    · rw [if_pos h1, xH_ret]
      have : x4 = x2 + 1 := by omega
      subst this
      have R2 := R
      obtain ⟨_, _, _, _, _, r2, _⟩ := R2
      have := (r2 h1).2.1
      subst this
      exact ⟨rfl, R⟩
    · rw [if_neg h1]
      by_cases h2 : x4 = x2
      · rw [if_pos h2]
        exact fin (Or.inl h2) (by omega)
      · have R2 := R
        obtain ⟨_, _, _, _, r1, _⟩ := R2
        have hs := (r1 (by omega)).1
        rw [if_neg h2, if_pos ⟨by omega, by omega⟩, if_pos hc, if_pos ⟨a3, by omega⟩, rd]
        by_cases h3 : xJ m x1 x4 = xJ m x1 x3
        · rw [if_pos h3, w32_id (by omega) (by omega)]
          refine ih _ _ _ _ _ _ ⟨rfl, rfl, rfl, a3, by omega, by omega, ?_⟩ (by omega)
          obtain ⟨j, e, e0, ej, r1, r2, w, fr0, r3⟩ := R
          obtain ⟨s1, s2, s3⟩ := r1 (by omega)
          refine ⟨j, e, e0, ej, fun _ => ⟨by omega, ?_, fun q q1 q2 => ?_⟩, fun hx => by omega, w, fr0, r3⟩
          · rw [show (x4 + 1 - 1).toNat = (x4 - 1).toNat + 1 from by omega]
            show svR (xJ m x1) (x4 - 1).toNat + (if stp (xJ m x1) (((x4 - 1).toNat : Nat) + 1) = 0 then 0 else 1) = _
            rw [show (((x4 - 1).toNat : Nat) : Int) + 1 = x4 from by omega, if_pos (by rw [stp_z hfw, h3, s3 (x4 - 1) (by omega) (by omega)]), s2]
            omega
          · by_cases hq : q = x4
            · rw [hq]; exact h3
            · exact s3 q q1 (by omega)
        · rw [if_neg h3]
          exact fin (Or.inr h3) (by omega)
end COL2
