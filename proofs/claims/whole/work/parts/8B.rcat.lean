/-! THE CATALOG COMES BACK FROM THE DISK, and is arranged; forgetting -/
section RCAT
variable {B : Nat} {m w : xw_M} {D M p : Int}
theorem sdm_cg {m1 m2 : xw_M} {d : Int} (d0 : 0 ≤ d) (d1 : d < 8) (hL : xR w (15 + 26 * d) 10 ≤ 4) (h : ∀ a, 15 ≤ a → a ≤ 222 → m2 a = m1 a) (F : sdm w m1 d) : sdm w m2 d := by
  have R : ∀ a, 15 ≤ a → a ≤ 222 → xR m2 a = xR m1 a := fun a a0 a1 => xR_cg (h a a0 a1)
  obtain ⟨a, b, c⟩ := F
  refine ⟨by rw [R (15 + 26 * d) (by omega) (by omega)]; exact a, by rw [R (15 + 26 * d + 1) (by omega) (by omega)]; exact b, fun l l0 l1 => ?_⟩
  rw [R (15 + 26 * d + 7) (by omega) (by omega), R (15 + 26 * d + 3 + l) (by omega) (by omega), R (15 + 26 * d + 9 + l) (by omega) (by omega)]
  exact c l l0 l1
theorem msB_msm (w : xw_M) : ∀ n : Nat, msB (xR w 14) n = msm w n := by
  intro n
  induction n with
  | zero => rfl
  | succ n ih =>
    show msB (xR w 14) n + (1 + xR w 14 n) = msm w n + (1 + xR w 14 n)
    rw [ih]
theorem rdcat_ok (hB : B ≤ 512) (hc : ctn w D M) (h8 : nm8 w D) (h9 : ∀ k i, 0 ≤ k → k < M → 0 ≤ i → i < xR w 14 k → w8 (xR w (6 + k) i) = xR w (6 + k) i) (h : rs B m p) (hC : Ctl w (m 516) p D M) (hf : p + 8 * dsm w D.toNat + 8 * msm w M.toNat ≤ 64 * (B * 512 : Nat)) : ∃ m', yf23 B 530 (D + 256 * M) m = some (.inl 0, m') ∧ (∃ q, rs B m' q) ∧ (∀ a, a ≠ 530 → (a < 3 ∨ a = 4 ∨ a = 5 ∨ 222 < a) → m' a = m a) ∧ (∀ k, k ≠ 2 → m' 530 k = m 530 k) ∧ xR m' 3 1 = D ∧ xR m' 3 2 = M ∧ (∀ d, 0 ≤ d → d < D → sdm w m' d) ∧ ∀ k, 0 ≤ k → k < M → xR m' 14 k = xR w 14 k ∧ ∀ i, 0 ≤ i → i < xR w 14 k → xR m' (6 + k) i = xR w (6 + k) i := by
  have hD := hc.1
  have hM := hc.2.1
  have e1 : xw_iandf (D + 256 * M) 255 = D := by
    have := iand_m (x := D + 256 * M) (y := 255) (by omega) (by omega) (k := 8) (by decide) rfl
    rw [this]
    show (D + 256 * M) % 256 = D
    omega
  have e2 : xw_ishrf (D + 256 * M) 8 = M := by
    have := ishr_d (x := D + 256 * M) (w32_id (by omega) (by omega)) (s := 8) (by decide)
    rw [show ((8 : Nat) : Int) = 8 from rfl] at this
    rw [this]
    show (D + 256 * M) / 256 = M
    omega
  have ed := dm_end hc
  unfold yf23
  rw [e1, e2, show min D 8 = D by omega, show min M 8 = M by omega]
  have W : (xw_u (xw_u m 3 1 D) 3 2 M) 516 = m 516 := by rw [xu_c (by omega), xu_c (by omega)]
  have goal := xH_ex (rd_dims (w := w) (M := M) (m := xw_u (xw_u m 3 1 D) 3 2 M) (p := p) hB hc h8 (by rw [xR_ne (by omega), xR_at (w32_id (by omega) (by omega))]) (rs_fr h (by rw [xu_c (by omega), xu_c (by omega)])) (by rw [W]; exact hC.1) (by omega) (Q := fun v m' => v = 0 ∧ (∃ q, rs B m' q) ∧ (∀ a, a ≠ 530 → (a < 3 ∨ a = 4 ∨ a = 5 ∨ 222 < a) → m' a = m a) ∧ (∀ k, k ≠ 2 → m' 530 k = m 530 k) ∧ xR m' 3 1 = D ∧ xR m' 3 2 = M ∧ (∀ d, 0 ≤ d → d < D → sdm w m' d) ∧ ∀ k, 0 ≤ k → k < M → xR m' 14 k = xR w 14 k ∧ ∀ i, 0 ≤ i → i < xR w 14 k → xR m' (6 + k) i = xR w (6 + k) i) (fun m' r f g s => by
    obtain ⟨m2, z, r2, f2, g2, k2⟩ := rd_meas (B := B) (m := m') (M := M) (ms := xR w 14) (mn := fun k => xR w (6 + k)) (Q0 := p + 8 * dsm w D.toNat) hB hM (by rw [xR_cg (f 3 (by omega) (by omega)), xR_at (w32_id (by omega) (by omega))]) hc.2.2.2.2.2 (fun k i k0 k1 i0 i1 => h9 k i k0 k1 i0 i1) r (fun k k0 k1 => by
      rw [f 516 (by omega) (by omega), W, msB_msm]
      exact hC.2 k k0 k1) (by rw [msB_msm]; exact hf)
    rw [z, xH_ret]
    refine ⟨rfl, ⟨_, r2⟩, fun a a1 a2 => ?_, fun k hk => ?_, ?_, ?_, fun d d0 d1 => sdm_cg d0 (by omega) (hc.2.2.2.2.1 d d0 d1).2.1.2 (fun a a0 a1 => f2 a (by omega) (by omega)) (s d d0 d1), k2⟩
    · rw [f2 a a1 (by omega), f a a1 (by omega), xu_c (by omega), xu_c (by omega)]
    · rw [g2 k hk, g k hk, xu_c (by omega), xu_c (by omega)]
    · rw [xR_cg (f2 3 (by omega) (by omega)), xR_cg (f 3 (by omega) (by omega)), xR_ne (by omega), xR_at (w32_id (by omega) (by omega))]
    · rw [xR_cg (f2 3 (by omega) (by omega)), xR_cg (f 3 (by omega) (by omega)), xR_at (w32_id (by omega) (by omega))]))
  obtain ⟨v, m', e, rfl, q⟩ := goal
  exact ⟨m', e, q⟩
/-- the class's catalog read back is that of w -/
theorem ctn_sdm (hc : ctn w D M) (h31 : xR m 3 1 = D) (h32 : xR m 3 2 = M) (s : ∀ d, 0 ≤ d → d < D → sdm w m d) (k : ∀ k, 0 ≤ k → k < M → xR m 14 k = xR w 14 k) : ctn m D M := by
  refine ⟨hc.1, hc.2.1, h31, h32, fun d d0 d1 => ?_, fun j j0 j1 => ?_⟩
  · obtain ⟨⟨a1, a2, a3⟩, b, c⟩ := s d d0 d1
    obtain ⟨q1, q2, q3, q4⟩ := hc.2.2.2.2.1 d d0 d1
    rw [a1, a2, a3]
    exact ⟨q1, q2, q3, fun l l0 l1 => by rw [(c l l0 l1).1]; exact q4 l l0 l1⟩
  · rw [k j j0 j1]; exact hc.2.2.2.2.2 j j0 j1
/-- a row in order by values that all grow is as it is -/
theorem vsrt_id {V o : Int → Int} {n : Int} (h : vsrt V o n) (hi : ∀ i j, 0 ≤ i → i < j → j < n → V i < V j) : ∀ i, 0 ≤ i → i < n → o i = i := by
  refine vperm_uniq (f := V) h.1 ⟨fun i i0 i1 => ⟨i0, i1⟩, fun i j _ _ _ _ e => e⟩ (fun x y x0 x1 y0 y1 e => ?_) h.2 (fun i j i0 ij j1 => Int.le_of_lt (hi i j i0 ij j1))
  rcases Int.lt_trichotomy x y with g | g | g
  · have := hi x y x0 g y1; omega
  · exact g
  · have := hi y x y0 g x1; omega
end RCAT
