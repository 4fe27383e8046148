/-! THE LAW: all calls of a script -/
section LAL
variable {B : Nat} {xs : Nat → Int32} {SL : Nat}
theorem xz_w (i : Int) : w32 (xZs xs i) = xZs xs i := w32_ti _
theorem xz_6 (i : Int) : w64 (xZs xs i) = xZs xs i := w64_32 (xz_w i)
theorem law_s {R : Int → xw_M → xP} {c x : Int} {m : xw_M} (h : Inw B c m) (a : ans m) (hc : c < 600) (x0 : 0 ≤ x) (x1 : x + 6 ≤ SL) (S1 : (SL : Int) ≤ 3073) : ∃ m2, yl349_33 B xs SL R x m = R (x + 6) m2 ∧ (Inw B (c + 1) m2 ∨ Inw B c m2) ∧ ans m2 := by
  have wx : w32 (x + 6) = x + 6 := w32_id (by omega) (by omega)
  have ws : w32 ((SL : Int) - 6) = (SL : Int) - 6 := w32_id (by omega) (by omega)
  have b0 : (0 : Int) ≤ x ∧ x < (SL : Int) := ⟨by omega, by omega⟩
  have b1 : (0 : Int) ≤ (x + 1) ∧ (x + 1) < (SL : Int) := ⟨by omega, by omega⟩
  have b2 : (0 : Int) ≤ (x + 2) ∧ (x + 2) < (SL : Int) := ⟨by omega, by omega⟩
  have b3 : (0 : Int) ≤ (x + 3) ∧ (x + 3) < (SL : Int) := ⟨by omega, by omega⟩
  have b4 : (0 : Int) ≤ (x + 4) ∧ (x + 4) < (SL : Int) := ⟨by omega, by omega⟩
  have b5 : (0 : Int) ≤ (x + 5) ∧ (x + 5) < (SL : Int) := ⟨by omega, by omega⟩
  have fin : ∀ {o : xP}, (∃ m2, o = R (x + 6) m2 ∧ Inw B (c + 1) m2 ∧ ans m2) → ∃ m2, o = R (x + 6) m2 ∧ (Inw B (c + 1) m2 ∨ Inw B c m2) ∧ ans m2 := fun ⟨m2, e, i, a⟩ => ⟨m2, e, Or.inl i, a⟩
  unfold yl349_33
  rw [ws, if_neg (by omega), if_pos b0, wx]
  by_cases k0 : xw_iandf (xZs xs x) 31 = 0
  · rw [if_pos k0, if_pos b1, if_pos b2, if_pos b3, if_pos b4, if_pos b5]
    exact fin (st_v HA_1 (opA_of h a (feed_ok h hc (xz_w _) (xz_w _) (xz_w _) (xz_w _) (xz_w _))) (fun m1 => k4_yf244 B _ _ _ _ _ m1 rfl) (fun m1 => w4_yf244 B _ _ _ _ _ m1 (xz_6 _) (xz_6 _) (xz_6 _) (xz_6 _) (xz_6 _)) (R (x + 6)))
  rw [if_neg k0]
  by_cases k1 : xw_iandf (xZs xs x) 31 = 1
  · rw [if_pos k1, if_pos b1]
    exact fin (st_v HA_2 (opA_of h a (trim_ok h hc)) (fun m1 => k4_yf246 B _ m1 rfl) (fun m1 => w4_yf246 B _ m1 (xz_6 _)) (R (x + 6)))
  rw [if_neg k1]
  by_cases k2 : xw_iandf (xZs xs x) 31 = 2
  · rw [if_pos k2]
    exact fin (st_v HA_1 (run_op h hc a) (fun m1 => k4_yf247 B m1 rfl) (fun m1 => w4_yf247 B m1) (R (x + 6)))
  rw [if_neg k2]
  by_cases k3 : xw_iandf (xZs xs x) 31 = 3
  · rw [if_pos k3, if_pos b1]
    exact fin (st_v HA_2 (opA_of h a (fault_ok h hc)) (fun m1 => k4_yf302 B _ m1 rfl) (fun m1 => w4_yf302 B _ m1 (xz_6 _)) (R (x + 6)))
  rw [if_neg k3]
  by_cases k4 : xw_iandf (xZs xs x) 31 = 4
  · rw [if_pos k4]
    exact fin (st_v HA_1 (opA_of h a (open_op h hc)) (fun m1 => k4_yf303 B m1 rfl) (fun m1 => w4_yf303 B m1) (R (x + 6)))
  rw [if_neg k4]
  by_cases k5 : xw_iandf (xZs xs x) 31 = 5
  · rw [if_pos k5, if_pos b1, if_pos b2]
    exact fin (st_b HA_2 (opA_of h a (key_op h hc)) (fun m1 => k4_yf316 B _ _ m1 rfl) (R (x + 6)))
  rw [if_neg k5]
  by_cases k6 : xw_iandf (xZs xs x) 31 = 6
  · rw [if_pos k6, if_pos b1, if_pos b2, if_pos b3]
    exact fin (st_v HA_2 (opA_of h a (amount_op h hc (lor_w _ _))) (fun m1 => k4_yf317 B _ _ m1 rfl) (fun m1 => w4_yf317 B _ _ m1 (xz_6 _) (lor_w _ _)) (R (x + 6)))
  rw [if_neg k6]
  by_cases k7 : xw_iandf (xZs xs x) 31 = 7
  · rw [if_pos k7, if_pos b1]
    exact fin (st_v HA_2 (opA_of h a (stage_op h hc)) (fun m1 => k4_yf318 B _ m1 rfl) (fun m1 => w4_yf318 B _ m1 (xz_6 _)) (R (x + 6)))
  rw [if_neg k7]
  by_cases k8 : xw_iandf (xZs xs x) 31 = 8
  · rw [if_pos k8, if_pos b1, if_pos b2, if_pos b3]
    exact fin (st_v HA_2 (opA_of h a (spread_op h hc)) (fun m1 => k4_yf321 B _ _ m1 rfl) (fun m1 => w4_yf321 B _ _ m1 (xz_6 _) (lor_w _ _)) (R (x + 6)))
  rw [if_neg k8]
  by_cases k9 : xw_iandf (xZs xs x) 31 = 9
  · rw [if_pos k9]
    exact fin (st_v HA_1 (opA_of h a (drop_op h hc)) (fun m1 => k4_yf322 B m1 rfl) (fun m1 => w4_yf322 B m1) (R (x + 6)))
  rw [if_neg k9]
  by_cases k10 : xw_iandf (xZs xs x) 31 = 10
  · rw [if_pos k10]
    exact fin (st_v HA_1 (opA_of h a (load_op h hc)) (fun m1 => k4_yf323 B m1 rfl) (fun m1 => w4_yf323 B m1) (R (x + 6)))
  rw [if_neg k10]
  by_cases k11 : xw_iandf (xZs xs x) 31 = 11
  · rw [if_pos k11, if_pos b1]
    exact fin (st_v HA_2 (opA_of h a (choose_op h hc)) (fun m1 => k4_yf330 B _ m1 rfl) (fun m1 => w4_yf330 B _ m1 (xz_6 _)) (R (x + 6)))
  rw [if_neg k11]
  by_cases k12 : xw_iandf (xZs xs x) 31 = 12
  · rw [if_pos k12]
    exact fin (st_v HA_1 (opA_of h a (settle_op h hc)) (fun m1 => k4_yf336 B m1 rfl) (fun m1 => w4_yf336 B m1) (R (x + 6)))
  rw [if_neg k12]
  by_cases k13 : xw_iandf (xZs xs x) 31 = 13
  · rw [if_pos k13, if_pos b1]
    exact fin (st_n HA_2 (opA_of h a (crash_op h hc)) (R (x + 6)))
  rw [if_neg k13]
  have xNr : ∀ {v : Int} {m : xw_M} {K : Int → xw_M → xP}, xN (some (.inl v, m)) K = K v m := rfl
  have dir : ∀ {F G : xw_M → xP}, opA B c m F G ag0 → ∃ m2, (xN (F m) fun v1 m1 => xN (G m1) fun v2 m2 => if v1 = v2 then (R (x + 6) m2) else (some (.inl 0, m2))) = R (x + 6) m2 ∧ Inw B (c + 1) m2 ∧ ans m2 := fun ⟨r, m1, eF, hh⟩ => by
    obtain ⟨v2, m2, eG, i, a, g⟩ := hh m1 (fun _ _ => rfl)
    have g : r = .inl v2 := g
    refine ⟨m2, ?_, i, a⟩
    rw [eF, g, xNr, eG, xNr, if_pos rfl]
  by_cases k14 : xw_iandf (xZs xs x) 31 = 14
  · rw [if_pos k14]
    exact fin (dir (opA_of h a (recover_op h hc)))
  rw [if_neg k14]
  by_cases k15 : xw_iandf (xZs xs x) 31 = 15
  · rw [if_pos k15]
    exact fin (dir (opA_of h a (state_ok h hc)))
  rw [if_neg k15]
  by_cases k16 : xw_iandf (xZs xs x) 31 = 16
  · rw [if_pos k16]
    exact fin (dir (opA_of h a (writes_ok h hc)))
  rw [if_neg k16]
  by_cases k17 : xw_iandf (xZs xs x) 31 = 17
  · rw [if_pos k17, if_pos b1]
    exact fin (st_v HA_2 (opA_of h a (count_op h hc)) (fun m1 => k4_yf339 B _ m1 rfl) (fun m1 => w4_yf339 B _ m1 (xz_6 _)) (R (x + 6)))
  rw [if_neg k17]
  by_cases k18 : xw_iandf (xZs xs x) 31 = 18
  · rw [if_pos k18, if_pos b1, if_pos b2]
    exact fin (st_v HA_3 (opA_of h a (view_op h hc)) (fun m1 => k4_yf340 B _ _ m1 rfl) (fun m1 => w4_yf340 B _ _ m1 (xz_6 _) (xz_6 _)) (R (x + 6)))
  rw [if_neg k18]
  by_cases k19 : xw_iandf (xZs xs x) 31 = 19
  · rw [if_pos k19]
    exact fin (st_v HA_1 (opA_of h a (rows_op h a hc)) (fun m1 => k4_yf341 B m1 rfl) (fun m1 => w4_yf341 B m1) (R (x + 6)))
  rw [if_neg k19]
  by_cases k20 : xw_iandf (xZs xs x) 31 = 20
  · rw [if_pos k20, if_pos b1, if_pos b2]
    exact fin (st_v HA_3 (opA_of h a (cell_op h a hc).1) (fun m1 => k4_yf342 B _ _ m1 rfl) (fun m1 => w4_yf342 B _ _ m1 (xz_6 _) (xz_6 _)) (R (x + 6)))
  rw [if_neg k20]
  by_cases k21 : xw_iandf (xZs xs x) 31 = 21
  · rw [if_pos k21, if_pos b1, if_pos b2]
    exact fin (st_b HA_3 (opA_of h a (cell_op h a hc).2) (fun m1 => k4_yf346 B _ _ m1 rfl) (R (x + 6)))
  rw [if_neg k21]
  by_cases k22 : xw_iandf (xZs xs x) 31 = 22
  · rw [if_pos k22]
    exact fin (st_v HA_1 (opA_of h a (served_op h a hc)) (fun m1 => k4_yf347 B m1 rfl) (fun m1 => w4_yf347 B m1) (R (x + 6)))
  rw [if_neg k22]
  by_cases k23 : xw_iandf (xZs xs x) 31 = 23
  · rw [if_pos k23]
    exact fin (st_v HA_1 (opA_of h a (audit_op h hc)) (fun m1 => k4_yf348 B m1 rfl) (fun m1 => w4_yf348 B m1) (R (x + 6)))
  rw [if_neg k23]
  exact ⟨m, rfl, Or.inr h, a⟩
theorem law_l (S1 : (SL : Int) ≤ 3073) (S0 : 0 ≤ (SL : Int)) : ∀ (N : Nat) (c x : Int) (m : xw_M), 0 ≤ x → 6 * c ≤ x → x ≤ SL + 6 → ((SL : Int) + 6 - x).toNat < N → Inw B c m → ans m → ∃ m2, xl1 (yl349_33 B xs SL) N x m = some (.inl 1, m2) := by
  have ws : w32 ((SL : Int) - 6) = (SL : Int) - 6 := w32_id (by omega) (by omega)
  intro N
  induction N with
  | zero => intro c x m _ _ _ h; omega
  | succ N ih =>
    intro c x m x0 cx xS hN h a
    show ∃ m2, yl349_33 B xs SL (xl1 (yl349_33 B xs SL) N) x m = _
    by_cases k : (SL : Int) - 6 < x
    · unfold yl349_33
      rw [ws, if_pos k]
      exact ⟨m, rfl⟩
    · obtain ⟨m2, e, i, a2⟩ := law_s (R := xl1 (yl349_33 B xs SL) N) (xs := xs) h a (by omega) x0 (by omega) S1
      rw [e]
      rcases i with i | i
      · exact ih (c + 1) (x + 6) m2 (by omega) (by omega) (by omega) (by omega) i a2
      · exact ih c (x + 6) m2 (by omega) (by omega) (by omega) (by omega) i a2
end LAL
