/-! WRITING A COLUMN: what stands on the tape then -/
def colBody (W : Int → Int) (p n : Int) (f : Int → Int) (form Wt : Int) : Prop :=
  (form = 0 ∧ Wt = 8 * n ∧ ∀ i : Int, 0 ≤ i → i < n → tk W (p + 64 * i) 64 = f i) ∨
  (form = 1 ∧ ∃ b : Nat, b ≤ 64 ∧ 72 + n * (b : Int) ≤ 8 * Wt ∧ tk W (p + 64) 8 = (b : Int) ∧ ∀ i : Int, 0 ≤ i → i < n → w64 (tk W p 64 + tk W (p + 72 + (b : Int) * i) b) = f i) ∨
  (form = 2 ∧ ∃ (d : Int) (b : Nat), 1 ≤ d ∧ d ≤ 1024 ∧ isnb (d - 1) b ∧ 16 + 64 * d + n * (b : Int) ≤ 8 * Wt ∧ tk W p 16 = d ∧ ∀ i : Int, 0 ≤ i → i < n → (0 ≤ tk W (p + (16 + 64 * d) + (b : Int) * i) b ∧ tk W (p + (16 + 64 * d) + (b : Int) * i) b < d) ∧ tk W (p + 16 + 64 * tk W (p + (16 + 64 * d) + (b : Int) * i) b) 64 = f i) ∨
  (form = 3 ∧ ∃ (r : Nat) (e : Nat → Int), r ≤ 1024 ∧ 16 + 80 * (r : Int) ≤ 8 * Wt ∧ tk W p 16 = (r : Int) ∧ e 0 = 0 ∧ e r = n ∧ ∀ j : Nat, j < r → e j < e (j + 1) ∧ tk W (p + 16 + 80 * (j : Int) + 64) 16 = e (j + 1) - e j ∧ ∀ i : Int, e j ≤ i → i < e (j + 1) → f i = tk W (p + 16 + 80 * (j : Int)) 64) ∨
  (form = 4 ∧ ∃ b : Nat, b ≤ 64 ∧ 136 + (n - 1) * (b : Int) ≤ 8 * Wt ∧ tk W p 64 = f 0 ∧ tk W (p + 128) 8 = (b : Int) ∧ ∀ i : Int, 1 ≤ i → i < n → w64 (f (i - 1) + tk W (p + 64) 64 + tk W (p + 136 + (b : Int) * (i - 1)) b) = f i)
def Col (W : Int → Int) (p n : Int) (f : Int → Int) (Wt : Int) : Prop := ∃ form, tk W p 8 = form ∧ tk W (p + 8) 24 = Wt ∧ 0 ≤ Wt ∧ Wt ≤ 8 * n ∧ colBody W (p + 160) n f form Wt
/-- a row of puts of b bits each, from p on -/
def pw (B : Nat) (m0 m : xw_M) (p b : Int) (g : Int → Int) (i : Int) : Prop := ws B m (p + b * i) ∧ fr m0 m p ∧ ∀ j, 0 ≤ j → j < i → tk (m 517) (p + b * j) b.toNat = g j
theorem pw_0 {B : Nat} {m : xw_M} {p b : Int} {g : Int → Int} (h : ws B m p) : pw B m m p b g 0 := ⟨by rw [Int.mul_zero, Int.add_zero]; exact h, fr_refl _ _, fun j h1 h2 => by omega⟩
theorem pw_step {B : Nat} (hB : B ≤ 512) {m0 m : xw_M} {p b i v : Int} {g : Int → Int} (h : pw B m0 m p b g i) (hp : 0 ≤ p) (hi : 0 ≤ i) (hb : 0 ≤ b) (hb2 : b ≤ 64) (hf : p + b * i + b ≤ 64 * (B * 512 : Nat)) (hv : msk v b.toNat = g i) : ∃ m', yf152 B 518 v b m = some (.inl 0, m') ∧ pw B m0 m' p b g (i + 1) := by
  obtain ⟨m', e, h1, h2, h3⟩ := put_ws (v := v) hB h.1 hb hb2 hf
  have hbi : 0 ≤ b * i := Int.mul_nonneg hb hi
  refine ⟨m', e, ?_, fr_trans h.2.1 h2 (by omega), ?_⟩
  · rw [Int.mul_add, Int.mul_one, ← Int.add_assoc]
    exact h1
  · intro j hj hj2
    by_cases hji : j = i
    · rw [hji, h3, hv]
    · have hle : b * (j + 1) ≤ b * i := Int.mul_le_mul_of_nonneg_left (by omega) hb
      have hj0 : 0 ≤ b * j := Int.mul_nonneg hb hj
      rw [Int.mul_add, Int.mul_one] at hle
      rw [fr_tk h2 (by omega) (by omega)]
      exact h.2.2 j hj (by omega)
theorem fr_R {m m' : xw_M} {p a : Int} (h : fr m m' p) (h1 : a ≠ 517) (h2 : a ≠ 518) : xR m' a = xR m a := xR_cg (h.1 a h1 h2)
theorem fr_J {m m' : xw_M} {p a : Int} (h : fr m m' p) (h1 : a ≠ 517) (h2 : a ≠ 518) : xJ m' a = xJ m a := xJ_cg (h.1 a h1 h2)
theorem fr_R8 {m m' : xw_M} {p k : Int} (h : fr m m' p) (hk : k ≠ 2) : xR m' 518 k = xR m 518 k := by unfold xR; rw [h.2.1 k hk]
theorem fr_J8 {m m' : xw_M} {p k : Int} (h : fr m m' p) (hk : k ≠ 2) : xJ m' 518 k = xJ m 518 k := by unfold xJ; rw [h.2.1 k hk]
section COL
variable {B : Nat} {m : xw_M} {c n p b base : Int}
/-- PLAIN and PACKED: a number for each cell -/
theorem num_loop (hB : B ≤ 512) (hc : xw_obb 17 c = true) (hle : xw_le B c = 1024) (hcn : c ≠ 517 ∧ c ≠ 518) (hn : 1 ≤ n) (hn2 : n ≤ 1024) (hb : 0 ≤ b) (hb2 : b ≤ 64) (h : ws B m p) (hf : p + n * b ≤ 64 * (B * 512 : Nat)) : ∃ m', xl6 (yl191_113 B) 1000000 518 c n b base 0 m = some (.inl 0, m') ∧ pw B m m' p b (fun j => msk (w64 (xJ m c j - base)) b.toNat) n := by
  have hp : 0 ≤ p := h.2.2.2.1
  have goal := xH_ex (Q := fun v m' => v = 0 ∧ pw B m m' p b (fun j => msk (w64 (xJ m c j - base)) b.toNat) n) (xl6_rule (F := yl191_113 B) (fun x0 x1 x2 x3 x4 x5 m' => x0 = 518 ∧ x1 = c ∧ x2 = n ∧ x3 = b ∧ x4 = base ∧ 0 ≤ x5 ∧ x5 ≤ n ∧ pw B m m' p b (fun j => msk (w64 (xJ m c j - base)) b.toNat) x5) (fun _ _ _ _ _ x5 _ => (n - x5).toNat) ?_ 1000000 518 c n b base 0 m ⟨rfl, rfl, rfl, rfl, rfl, by omega, by omega, pw_0 h⟩ (by omega))
  · obtain ⟨v, m', e, rfl, h⟩ := goal
    exact ⟨m', e, h⟩
  · intro r x0 x1 x2 x3 x4 x5 m1 ⟨a0, a1, a2, a3, a4, a5, a6, P⟩ ih
    subst a0 a1 a2 a3 a4
    unfold yl191_113
    by_cases h : x5 < x2
    · have hq : x3 * (x5 + 1) ≤ x3 * x2 := Int.mul_le_mul_of_nonneg_left (by omega) hb
      rw [Int.mul_add, Int.mul_one, Int.mul_comm x3 x2] at hq
      obtain ⟨m', e, P'⟩ := pw_step (v := w64 (xJ m x1 x5 - x4)) hB P hp a5 hb hb2 (by omega) rfl
      rw [if_pos h, if_pos ⟨a5, by omega⟩, if_pos hc, if_pos (by decide), fr_J P.2.1 hcn.1 hcn.2, e]
      simp only [xB_ret]
      rw [w32_id (by omega) (by omega)]
      exact ih _ _ _ _ _ _ _ ⟨rfl, rfl, rfl, rfl, rfl, by omega, by omega, P'⟩ (by omega)
    · rw [if_neg h, xH_ret]
      have : x5 = x2 := by omega
      subst this
      exact ⟨rfl, P⟩
theorem stp_loop (hB : B ≤ 512) (hc : xw_obb 17 c = true) (hle : xw_le B c = 1024) (hcn : c ≠ 517 ∧ c ≠ 518) (hn : 1 ≤ n) (hn2 : n ≤ 1024) (hb : 0 ≤ b) (hb2 : b ≤ 64) (h : ws B m p) (hf : p + (n - 1) * b ≤ 64 * (B * 512 : Nat)) : ∃ m', xl5 (yl191_44 B) 1000000 518 c n b 1 m = some (.inl 0, m') ∧ pw B m m' p b (fun j => msk (w64 (xJ m c (j + 1) - xJ m c j - xJ m 518 13)) b.toNat) (n - 1) := by
  have hp : 0 ≤ p := h.2.2.2.1
  have goal := xH_ex (Q := fun v m' => v = 0 ∧ pw B m m' p b (fun j => msk (w64 (xJ m c (j + 1) - xJ m c j - xJ m 518 13)) b.toNat) (n - 1)) (xl5_rule (F := yl191_44 B) (fun x0 x1 x2 x3 x4 m' => x0 = 518 ∧ x1 = c ∧ x2 = n ∧ x3 = b ∧ 1 ≤ x4 ∧ x4 ≤ n ∧ pw B m m' p b (fun j => msk (w64 (xJ m c (j + 1) - xJ m c j - xJ m 518 13)) b.toNat) (x4 - 1)) (fun _ _ _ _ x4 _ => (n - x4).toNat) ?_ 1000000 518 c n b 1 m ⟨rfl, rfl, rfl, rfl, by omega, by omega, pw_0 h⟩ (by omega))
  · obtain ⟨v, m', e, rfl, h⟩ := goal
    exact ⟨m', e, h⟩
  · intro r x0 x1 x2 x3 x4 m1 ⟨a0, a1, a2, a3, a5, a6, P⟩ ih
    subst a0 a1 a2 a3
    unfold yl191_44
    by_cases h : x4 < x2
    · have hq : x3 * (x4 - 1 + 1) ≤ x3 * (x2 - 1) := Int.mul_le_mul_of_nonneg_left (by omega) hb
      rw [Int.mul_add, Int.mul_one, Int.mul_comm x3 (x2 - 1)] at hq
      obtain ⟨m', e, P'⟩ := pw_step (v := w64 (xJ m x1 x4 - xJ m x1 (x4 - 1) - xJ m 518 13)) hB P hp (by omega) hb hb2 (by omega) (by show _ = msk (w64 (xJ m x1 (x4 - 1 + 1) - xJ m x1 (x4 - 1) - xJ m 518 13)) x3.toNat; rw [show x4 - 1 + 1 = x4 from by omega])
      rw [if_pos h, if_pos ⟨by omega, by omega⟩, if_pos hc, if_pos ⟨by omega, by omega⟩, if_pos (by decide), fr_J P.2.1 hcn.1 hcn.2, fr_J8 P.2.1 (by decide), e]
      simp only [xB_ret]
      rw [w32_id (by omega) (by omega)]
      exact ih _ _ _ _ _ _ ⟨rfl, rfl, rfl, rfl, by omega, by omega, by rw [show x4 + 1 - 1 = x4 - 1 + 1 from by omega]; exact P'⟩ (by omega)
    · rw [if_neg h, xH_ret]
      have : x4 = x2 := by omega
      subst this
      exact ⟨rfl, P⟩
theorem w64_back {x y : Int} (hx : w64 x = x) : w64 (y + w64 (x - y)) = x := by
  have := w64_cg hx
  unfold xw_rJ at this
  unfold w64
  omega
theorem wr_num (hB : B ≤ 512) (hc : xw_obb 17 c = true) (hle : xw_le B c = 1024) (hcn : c ≠ 517 ∧ c ≠ 518) (hn : 1 ≤ n) (hn2 : n ≤ 1024) (h : ws B m p) (hS : SV m (xJ m c) n (n - 1).toNat) (hG : WG m (xJ m c) n) {form : Int} (hform : form = 0 ∨ form = 1 ∨ form = 4) (hf : p + 8 * xR m 523 form ≤ 64 * (B * 512 : Nat)) :
    ∃ m' p', yf191 B 518 form c n m = some (.inl 0, m') ∧ p ≤ p' ∧ p' ≤ p + 8 * xR m 523 form ∧ ws B m' p' ∧ fr m m' p ∧ colBody (m' 517) p n (xJ m c) form (xR m 523 form) := by
  have hfw : ∀ i, w64 (xJ m c i) = xJ m c i := fun i => w64_w _
  have hp : 0 ≤ p := h.2.2.2.1
  obtain ⟨⟨g1, g2, g3, g4⟩, k0, k1, k2, k3, k4⟩ := hG
  have bs := spn_b hfw n
  have bt' := sps_b (xJ m c) n
  have n1 := nb_nn (spn (xJ m c) n)
  have n2 := nb_le64 bs.1 bs.2
  have n3 := nb_nn (sps (xJ m c) n)
  have n4 := nb_le64 bt'.1 bt'.2
  have l1 := mulb (n := n) (b := nb (spn (xJ m c) n)) (by omega) hn2 n1 n2
  have l2 := mulb (n := n - 1) (b := nb (sps (xJ m c) n)) (by omega) (by omega) n3 n4
  unfold yf191
  rw [if_pos (by decide), show xw_rf 518 7 = 522 from by decide, show xw_le B 522 = 5 from rfl, if_pos ⟨by omega, by omega⟩, if_pos (by decide)]
  rcases hform with rfl | rfl | rfl
  · rw [if_neg (by decide), if_neg (by decide), g1]
    rw [k0] at hf ⊢
    obtain ⟨m', e, P⟩ := num_loop (base := 0) hB hc hle hcn hn hn2 (b := 64) (by decide) (by decide) h (by omega)
    refine ⟨m', p + 64 * n, e, by omega, by omega, P.1, P.2.1, Or.inl ⟨rfl, rfl, fun i h1 h2 => ?_⟩⟩
    have := P.2.2 i h1 h2
    dsimp only at this
    rw [show ((64 : Int).toNat) = 64 from rfl] at this
    rw [this, Int.sub_zero, hfw]
    exact msk_64 (hfw _)
  · rw [if_neg (by decide), if_pos rfl, g2, hS.1]
    rw [k1] at hf ⊢
    have hw : 72 + n * nb (spn (xJ m c) n) ≤ 8 * wgP (xJ m c) n := by unfold wgP; omega
    obtain ⟨m1, e1, w1, f1, t1⟩ := put_ws (v := svL (xJ m c) (n - 1).toNat) (n := 64) hB h (by decide) (by decide) (by omega)
    obtain ⟨m2, e2, w2, f2, t2⟩ := put_ws (v := nb (spn (xJ m c) n)) (n := 8) hB w1 (by decide) (by decide) (by omega)
    have fJ : xJ m2 c = xJ m c := by rw [fr_J f2 hcn.1 hcn.2, fr_J f1 hcn.1 hcn.2]
    obtain ⟨m', e, P⟩ := num_loop (base := svL (xJ m c) (n - 1).toNat) hB hc hle hcn hn hn2 (b := nb (spn (xJ m c) n)) n1 n2 w2 (by omega)
    rw [e1]
    simp only [xB_ret]
    rw [e2]
    simp only [xB_ret]
    rw [fJ] at P
    have hmul : nb (spn (xJ m c) n) * n = n * nb (spn (xJ m c) n) := Int.mul_comm _ _
    refine ⟨m', _, e, ?_, ?_, P.1, fr_trans (fr_trans f1 f2 (by omega)) P.2.1 (by omega), Or.inr (Or.inl ⟨rfl, (nb (spn (xJ m c) n)).toNat, by omega, ?_, ?_, ?_⟩)⟩
    · omega
    · omega
    · rw [Int.toNat_of_nonneg n1]
      exact hw
    · rw [fr_tk P.2.1 (by omega) (by omega)]
      have := t2
      rw [show ((8 : Int).toNat) = 8 from rfl] at this
      rw [this, Int.toNat_of_nonneg n1]
      exact msk_nn n1 (by show _ < (256 : Int); omega) (by decide)
    · intro i h1 h2
      have q1 := P.2.2 i h1 h2
      dsimp only at q1
      have hb := svLH (xJ m c) (n - 1).toNat i.toNat (by omega)
      rw [Int.toNat_of_nonneg h1] at hb
      have hu := (isnb_nb bs.1).2.1
      rw [msk_u (by omega) (by omega) (Int.lt_of_le_of_lt (show _ ≤ spn (xJ m c) n by unfold spn; omega) hu)] at q1
      have q2 : tk (m' 517) p 64 = svL (xJ m c) (n - 1).toNat := by
        rw [fr_tk P.2.1 hp (by omega), fr_tk f2 hp (by omega)]
        have := t1
        rw [show ((64 : Int).toNat) = 64 from rfl] at this
        rw [this]
        exact msk_64 (svL_w hfw _)
      rw [Int.toNat_of_nonneg n1, q2, show p + 72 + nb (spn (xJ m c) n) * i = p + 64 + 8 + nb (spn (xJ m c) n) * i from by omega, q1]
      exact w64_back (hfw i)
  · rw [if_pos rfl, if_pos ⟨by decide, by omega⟩, if_pos hc, g4]
    rw [k4] at hf ⊢
    have hw : 136 + (n - 1) * nb (sps (xJ m c) n) ≤ 8 * wgS (xJ m c) n := by unfold wgS; omega
    obtain ⟨m1, e1, w1, f1, t1⟩ := put_ws (v := xJ m c 0) (n := 64) hB h (by decide) (by decide) (by omega)
    obtain ⟨m2, e2, w2, f2, t2⟩ := put_ws (v := xJ m1 518 13) (n := 64) hB w1 (by decide) (by decide) (by omega)
    obtain ⟨m3, e3, w3, f3, t3⟩ := put_ws (v := nb (sps (xJ m c) n)) (n := 8) hB w2 (by decide) (by decide) (by omega)
    have fJ : xJ m3 c = xJ m c := by rw [fr_J f3 hcn.1 hcn.2, fr_J f2 hcn.1 hcn.2, fr_J f1 hcn.1 hcn.2]
    have fL1 : xJ m1 518 13 = xJ m 518 13 := fr_J8 f1 (by decide)
    have fL : xJ m3 518 13 = xJ m 518 13 := by rw [fr_J8 f3 (by decide), fr_J8 f2 (by decide), fL1]
    obtain ⟨m', e, P⟩ := stp_loop hB hc hle hcn hn hn2 (b := nb (sps (xJ m c) n)) n3 n4 w3 (by omega)
    rw [e1]
    simp only [xB_ret]
    rw [e2]
    simp only [xB_ret]
    rw [e3]
    simp only [xB_ret]
    rw [fJ, fL] at P
    have hmul : nb (sps (xJ m c) n) * (n - 1) = (n - 1) * nb (sps (xJ m c) n) := Int.mul_comm _ _
    have q2 : tk (m' 517) p 64 = xJ m c 0 := by
      rw [fr_tk P.2.1 hp (by omega), fr_tk f3 hp (by omega), fr_tk f2 hp (by omega)]
      have := t1
      rw [show ((64 : Int).toNat) = 64 from rfl] at this
      rw [this]
      exact msk_64 (hfw _)
    have q3 : tk (m' 517) (p + 64) 64 = xJ m 518 13 := by
      rw [fr_tk P.2.1 (by omega) (by omega), fr_tk f3 (by omega) (by omega)]
      have := t2
      rw [show ((64 : Int).toNat) = 64 from rfl] at this
      rw [this, fL1]
      exact msk_64 (w64_xJ _ _ _)
    refine ⟨m', _, e, ?_, ?_, P.1, fr_trans (fr_trans (fr_trans f1 f2 (by omega)) f3 (by omega)) P.2.1 (by omega), Or.inr (Or.inr (Or.inr (Or.inr ⟨rfl, (nb (sps (xJ m c) n)).toNat, by omega, ?_, q2, ?_, ?_⟩)))⟩
    · omega
    · omega
    · rw [Int.toNat_of_nonneg n3]
      exact hw
    · rw [show p + 128 = p + 64 + 64 from by omega, fr_tk P.2.1 (by omega) (by omega)]
      have := t3
      rw [show ((8 : Int).toNat) = 8 from rfl] at this
      rw [this, Int.toNat_of_nonneg n3]
      exact msk_nn n3 (by show _ < (256 : Int); omega) (by decide)
    · intro i h1 h2
      have q1 := P.2.2 (i - 1) (by omega) (by omega)
      dsimp only at q1
      have hL : xJ m 518 13 = stL (xJ m c) (n - 1).toNat := by rw [hS.2.2.2.1, if_pos (by omega)]
      have hb := stLH (xJ m c) (n - 1).toNat i.toNat (by omega) (by omega)
      rw [Int.toNat_of_nonneg (by omega)] at hb
      have hsp : sps (xJ m c) n = stH (xJ m c) (n - 1).toNat - stL (xJ m c) (n - 1).toNat := by unfold sps; rw [if_pos (by omega)]
      have hu := (isnb_nb bt'.1).2.1
      rw [show i - 1 + 1 = i from by omega] at q1
      have ew : w64 (xJ m c i - xJ m c (i - 1) - xJ m 518 13) = w64 (stp (xJ m c) i - stL (xJ m c) (n - 1).toNat) := by
        rw [hL]
        unfold stp w64
        omega
      rw [ew, msk_u (by omega) (by omega) (Int.lt_of_le_of_lt (show _ ≤ sps (xJ m c) n by omega) hu)] at q1
      rw [Int.toNat_of_nonneg n3, q3, show p + 136 + nb (sps (xJ m c) n) * (i - 1) = p + 64 + 64 + 8 + nb (sps (xJ m c) n) * (i - 1) from by omega, q1, hL]
      have := w64_cg (hfw i)
      unfold xw_rJ at this
      unfold stp w64
      omega
end COL
