/-! PARTS: what stands on the tape; reading a segment, skipping a part -/
theorem bt_lshr0 (x : Int) {s : Int} (h0 : 0 ≤ s) (h1 : s < 64) : bt (xw_lshrf x s) 0 = bt x s.toNat := by
  obtain ⟨k, rfl⟩ := Int.eq_ofNat_of_zero_le h0
  unfold bt xw_lshrf
  rw [bv_f, Int64.toBitVec_shiftRight, BitVec.sshiftRight_eq', (lt63 k (by omega)).1, BitVec.getLsbD_sshiftRight, if_pos (by omega), Int.toNat_natCast, Nat.add_zero]
  rfl
theorem land1 (y : Int) : xw_landf y 1 = (if bt y 0 = true then 1 else 0) := by
  have h1 : ∀ i, i < 64 → bt 1 i = decide (i = 0) := by decide +kernel
  have h0 : ∀ i, i < 64 → bt 0 i = false := by decide +kernel
  refine bt_ext (land_w _ _) (by split <;> decide) (fun i hi => ?_)
  rw [bt_and, h1 i hi]
  by_cases e : i = 0
  · subst e
    rw [decide_eq_true rfl, Bool.and_true]
    by_cases hb : bt y 0 = true
    · rw [if_pos hb, hb, h1 0 hi]
      rfl
    · rw [if_neg hb, h0 0 hi]
      simpa using hb
  · rw [decide_eq_false e, Bool.and_false]
    split
    · rw [h1 i hi, decide_eq_false e]
    · rw [h0 i hi]
theorem lshr_bit {w c : Int} (h0 : 0 ≤ c) (h1 : c < 64) : (xw_landf (xw_lshrf w c) 1 = 0) ↔ bt w c.toNat = false := by
  rw [land1, bt_lshr0 w h0 h1]
  by_cases hb : bt w c.toNat = true
  · rw [if_pos hb, hb]
    exact ⟨fun h => absurd h (by decide), fun h => absurd h (by decide)⟩
  · rw [if_neg hb]
    exact ⟨fun _ => by simpa using hb, fun _ => rfl⟩
/-- the two rows of columns -/
def intoOk (a b : Int) : Prop := (a = 303 ∧ b = 304) ∨ (a = 337 ∧ b = 338)
theorem into_f {B : Nat} {a b c : Int} (h : intoOk a b) (h0 : 0 ≤ c) (h1 : c < 33) : xw_le B a = 33 ∧ 5 ≤ xw_kd a c ∧ xw_obb 21 a = true ∧ xw_rf a c = b + c ∧ cellsOk B (b + c) := by
  have key : ∀ c : Nat, c < 33 → (5 ≤ xw_kd 303 c ∧ xw_rf 303 c = 304 + (c : Int) ∧ xw_obb 17 (304 + (c : Int)) = true ∧ xw_ln 0 (304 + (c : Int)).toNat = 1024) ∧ (5 ≤ xw_kd 337 c ∧ xw_rf 337 c = 338 + (c : Int) ∧ xw_obb 17 (338 + (c : Int)) = true ∧ xw_ln 0 (338 + (c : Int)).toNat = 1024) := by decide +kernel
  have len : ∀ d : Int, 0 ≤ d → d < 500 → xw_ln 0 d.toNat = 1024 → xw_le B d = 1024 := by
    intro d d0 d1 hd
    unfold xw_le
    have : xw_ln B d.toNat = xw_ln 0 d.toNat := by
      unfold xw_ln
      have e1 : Nat.beq d.toNat 516 = false := by
        cases hq : Nat.beq d.toNat 516
        · rfl
        · have := Nat.eq_of_beq_eq_true hq; omega
      have e2 : Nat.beq d.toNat 517 = false := by
        cases hq : Nat.beq d.toNat 517
        · rfl
        · have := Nat.eq_of_beq_eq_true hq; omega
      rw [e1, e2]
      simp
    rw [this, hd]
    rfl
  obtain ⟨q1, q2⟩ := key c.toNat (by omega)
  rw [Int.toNat_of_nonneg h0] at q1 q2
  rcases h with ⟨rfl, rfl⟩ | ⟨rfl, rfl⟩
  · exact ⟨rfl, q1.1, by decide, q1.2.1, q1.2.2.1, len _ (by omega) (by omega) q1.2.2.2, by omega, by omega, by omega⟩
  · exact ⟨rfl, q2.1, by decide, q2.2.1, q2.2.2.1, len _ (by omega) (by omega) q2.2.2.2, by omega, by omega, by omega⟩
/-- only the reading tape, its list and the columns from b on are others -/
def rfS (m m' : xw_M) (b : Int) : Prop := (∀ a, a ≠ 530 → a ≠ 532 → (a < b ∨ b + 33 ≤ a) → m' a = m a) ∧ (∀ k, k ≠ 2 → m' 530 k = m 530 k)
theorem rfS_trans {m m1 m2 : xw_M} {b : Int} (h : rfS m m1 b) (h2 : rfS m1 m2 b) : rfS m m2 b := ⟨fun a h1 h3 h4 => (h2.1 a h1 h3 h4).trans (h.1 a h1 h3 h4), fun k hk => (h2.2 k hk).trans (h.2 k hk)⟩
theorem rg_rfS {m m1 : xw_M} (h : rg m m1) (b : Int) : rfS m m1 b := ⟨fun a h1 _ _ => h.1 a h1, h.2⟩
theorem rf_rfS {m m1 : xw_M} {b c : Int} (h : rf m m1 (b + c)) (h0 : 0 ≤ c) (h1 : c < 33) : rfS m m1 b := ⟨fun a h2 h3 h4 => h.1 a h2 h3 (by omega), h.2⟩
/-- readSegment -/
theorem rd_seg {B : Nat} (hB : B ≤ 512) {m : xw_M} {n p w a b : Int} {k : Nat} {C : Int → Int → Int} (hC : cwd C) (hab : intoOk a b) (hk : k ≤ 33) (hn : 1 ≤ n) (hn2 : n ≤ 1024) (h6 : xR m 302 6 = k) (h : rs B m p) (hS : Seg (m 516) p n k C) (hf : p + 16 + 8 * csum C n k ≤ 64 * (B * 512 : Nat)) :
    ∃ m', yf113 B 530 w a m = some (.inl n, m') ∧ rs B m' (p + 16 + 8 * csum C n k) ∧ rfS m m' b ∧ ∀ c : Nat, c < k → bt w c = true → ∀ i : Int, 0 ≤ i → i < n → xJ m' (b + c) i = C c i := by
  have cb := csum_b hC hn hn2 hk
  have hp := h.2.2
  obtain ⟨m1, e1, R1, G1⟩ := take_b (b := 16) hB h (by decide) (by decide) (by omega)
  rw [show (16 : Int).toNat = 16 from rfl, hS.1] at e1
  have ha302 : (302 : Int) < b ∨ b + 33 ≤ 302 := by rcases hab with q | q <;> omega
  have ha516 : (516 : Int) < b ∨ b + 33 ≤ 516 := by rcases hab with q | q <;> omega
  unfold yf113 yf20
  rw [if_pos (by decide), if_pos (by decide), e1, xB_ret, xB_ret, show min n 1024 = n from by omega, w32_id (x := n) (by omega) (by omega)]
  have goal := xH_ex (Q := fun v m' => v = n ∧ rs B m' (p + 16 + 8 * csum C n k) ∧ rfS m m' b ∧ ∀ c : Nat, c < k → bt w c = true → ∀ i : Int, 0 ≤ i → i < n → xJ m' (b + c) i = C c i) (xl5_rule (F := yl113_14 B) (fun x0 x1 x2 x3 x4 m' => x0 = 530 ∧ x1 = w ∧ x2 = a ∧ x3 = n ∧ 0 ≤ x4 ∧ x4 ≤ k ∧ rs B m' (p + 16 + 8 * csum C n x4.toNat) ∧ rfS m m' b ∧ ∀ c : Nat, (c : Int) < x4 → bt w c = true → ∀ i : Int, 0 ≤ i → i < n → xJ m' (b + c) i = C c i) (fun _ _ _ _ x4 _ => ((k : Int) - x4).toNat) ?_ 1000000 530 w a n 0 m1 ⟨rfl, rfl, rfl, rfl, by omega, by omega, by rw [show csum C n (0 : Int).toNat = 0 from rfl, Int.mul_zero, Int.add_zero]; exact R1, rg_rfS G1 b, fun c hc => by omega⟩ (by omega))
  · obtain ⟨v, m', e, rfl, h⟩ := goal
    exact ⟨m', e, h⟩
  · intro r x0 x1 x2 x3 x4 m2 ⟨a0, a1, a2, a3, a4, a5, R, F, V⟩ ih
    subst a0 a1 a2 a3
    unfold yl113_14
    have r6 : xR m2 302 6 = k := by rw [xR_cg (F.1 302 (by decide) (by decide) ha302)]; exact h6
    have W2 : m2 516 = m 516 := F.1 516 (by decide) (by decide) ha516
    rw [r6]
    by_cases hx : x4 < (k : Int)
    · have et : (x4 + 1).toNat = x4.toNat + 1 := by omega
      have ec : ((x4.toNat : Nat) : Int) = x4 := by omega
      have es : csum C x3 (x4 + 1).toNat = csum C x3 x4.toNat + (20 + colB (C x4) x3) := by
        rw [et]
        show csum C x3 x4.toNat + (20 + colB (C (x4.toNat : Nat)) x3) = _
        rw [ec]
      have hcol := hS.2 x4.toNat (by omega)
      rw [ec, ← W2] at hcol
      have mono := csum_mono hC hn hn2 (x4 + 1).toNat (k - (x4 + 1).toNat)
      rw [show (x4 + 1).toNat + (k - (x4 + 1).toNat) = k from by omega] at mono
      have hpos : p + 16 + 8 * csum C x3 x4.toNat + 8 * (colB (C x4) x3 + 20) = p + 16 + 8 * csum C x3 (x4 + 1).toNat := by rw [es]; omega
      rw [if_pos hx]
      by_cases hw : bt x1 x4.toNat = false
      · obtain ⟨m3, e3, R3, G3⟩ := skip_col hB R hn2 hcol (by omega)
        rw [if_pos ((lshr_bit a4 (by omega)).mpr hw), if_pos (by decide), e3, xB_ret, w32_id (by omega) (by omega)]
        refine ih _ _ _ _ _ _ ⟨rfl, rfl, rfl, rfl, by omega, by omega, by rw [← hpos]; exact R3, rfS_trans F (rg_rfS G3 b), fun c hc hb i h1 h2 => ?_⟩ (by omega)
        by_cases hcx : c = x4.toNat
        · rw [hcx, hw] at hb
          exact absurd hb (by decide)
        · rw [xJ_cg (G3.1 (b + c) (by rcases hab with q | q <;> omega))]
          exact V c (by omega) hb i h1 h2
      · obtain ⟨f1, f2, f3, f4, f5⟩ := into_f (B := B) hab a4 (show x4 < 33 by omega)
        obtain ⟨m3, e3, R3, F3, V3⟩ := rd_col hB f5 hn hn2 R hcol (by omega)
        rw [if_neg (fun q => hw ((lshr_bit a4 (by omega)).mp q)), if_pos ⟨a4, by rw [f1]; omega⟩, if_pos f2, if_pos f3, if_pos (by decide), f4, e3, xB_ret, w32_id (by omega) (by omega)]
        refine ih _ _ _ _ _ _ ⟨rfl, rfl, rfl, rfl, by omega, by omega, by rw [← hpos]; exact R3, rfS_trans F (rf_rfS F3 a4 (by omega)), fun c hc hb i h1 h2 => ?_⟩ (by omega)
        by_cases hcx : c = x4.toNat
        · rw [hcx, ec]
          exact V3 i h1 h2
        · rw [xJ_cg (F3.1 (b + c) (by rcases hab with q | q <;> omega) (by rcases hab with q | q <;> omega) (by omega))]
          exact V c (by omega) hb i h1 h2
    · rw [if_neg hx, xH_ret]
      have ex : x4 = (k : Int) := by omega
      subst ex
      rw [Int.toNat_natCast] at R
      exact ⟨rfl, R, F, fun c hc => V c (by omega)⟩
/-- a part: R rows of k columns, in segments -/
def nrow (R s : Int) : Int := min 1024 (R - 1024 * s)
def Tseg (T : Int → Int → Int) (s : Int) : Int → Int → Int := fun c i => T c (1024 * s + i)
def ssum (T : Int → Int → Int) (R : Int) (k : Nat) : Nat → Int
  | 0 => 0
  | s + 1 => ssum T R k s + (2 + csum (Tseg T s) (nrow R s) k)
def nseg (R : Int) : Nat := ((R + 1023) / 1024).toNat
def partB (T : Int → Int → Int) (R : Int) (k : Nat) : Int := 4 + ssum T R k (nseg R)
def Part (W : Int → Int) (p R : Int) (k : Nat) (T : Int → Int → Int) : Prop := tk W p 32 = R ∧ (0 ≤ R ∧ R ≤ 20000) ∧ ∀ s : Nat, 1024 * (s : Int) < R → Seg W (p + 32 + 8 * ssum T R k s) (nrow R s) k (Tseg T s)
theorem Tseg_w {T : Int → Int → Int} (h : cwd T) (s : Int) : cwd (Tseg T s) := fun c i => h c _
theorem ssum_step {T : Int → Int → Int} (hT : cwd T) {R : Int} {k : Nat} (hk : k ≤ 33) {s : Nat} (hs : 1024 * (s : Int) < R) : ssum T R k s + 2 ≤ ssum T R k (s + 1) ∧ ssum T R k (s + 1) ≤ ssum T R k s + 300002 := by
  have := csum_b (Tseg_w hT s) (n := nrow R s) (by unfold nrow; omega) (by unfold nrow; omega) hk
  show _ ≤ ssum T R k s + (2 + _) ∧ ssum T R k s + (2 + _) ≤ _
  omega
theorem ssum_mono {T : Int → Int → Int} (hT : cwd T) {R : Int} {k : Nat} (hk : k ≤ 33) (s j : Nat) (h : 1024 * ((s + j : Nat) : Int) < R + 1024) : ssum T R k s ≤ ssum T R k (s + j) := by
  induction j with
  | zero => exact Int.le_refl _
  | succ j ih =>
    have := ih (by omega)
    have := (ssum_step hT hk (R := R) (s := s + j) (by omega)).1
    rw [show s + (j + 1) = s + j + 1 from by omega]
    omega
theorem ssum_nn {T : Int → Int → Int} (hT : cwd T) {R : Int} {k : Nat} (hk : k ≤ 33) {s : Nat} (h : 1024 * (s : Int) < R + 1024) : 0 ≤ ssum T R k s := by
  have := ssum_mono hT hk (R := R) 0 s (by omega)
  rw [Nat.zero_add] at this
  exact this
/-- skipPart -/
theorem skip_part {B : Nat} (hB : B ≤ 512) {m : xw_M} {R p : Int} {k : Nat} {T : Int → Int → Int} (hT : cwd T) (hk : k ≤ 33) (h6 : xR m 302 6 = k) (h : rs B m p) (hP : Part (m 516) p R k T) (hf : p + 8 * partB T R k ≤ 64 * (B * 512 : Nat)) :
    ∃ m', yf106 B 530 m = some (.inl 0, m') ∧ rs B m' (p + 8 * partB T R k) ∧ rg m m' := by
  obtain ⟨t1, b1, b2⟩ := hP
  have hp := h.2.2
  unfold partB at hf
  have hnn := ssum_nn hT hk (R := R) (s := nseg R) (by unfold nseg; omega)
  obtain ⟨m1, e1, R1, G1⟩ := take_b (b := 32) hB h (by decide) (by decide) (by omega)
  rw [show (32 : Int).toNat = 32 from rfl, t1] at e1
  unfold yf106 yf107 yf20
  rw [if_pos (by decide), if_pos (by decide), e1, xB_ret, xB_ret, xB_ret, show min R 20000 = R from by omega, w32_id (x := R) (by omega) (by omega)]
  have goal := xH_ex (Q := fun v m' => v = 0 ∧ rs B m' (p + 8 * partB T R k) ∧ rg m m') (xl2_rule (F := yl106_6 B) (fun x0 x1 m' => x0 = 530 ∧ ∃ s : Nat, x1 = R - 1024 * (s : Int) ∧ 1024 * (s : Int) < R + 1024 ∧ rs B m' (p + 32 + 8 * ssum T R k s) ∧ rg m m') (fun _ x1 _ => x1.toNat) ?_ 1000000 530 R m1 ⟨rfl, 0, by omega, by omega, by rw [show ssum T R k 0 = 0 from rfl, Int.mul_zero, Int.add_zero]; exact R1, G1⟩ (by omega))
  · obtain ⟨v, m', e, rfl, h⟩ := goal
    exact ⟨m', e, h⟩
  · intro r x0 x1 m2 ⟨a0, s, a1, a2, R2, G2⟩ ih
    subst a0 a1
    unfold yl106_6
    by_cases hx : 0 < R - 1024 * (s : Int)
    · have hS := b2 s (by omega)
      have st := ssum_step hT hk (R := R) (s := s) (by omega)
      have es : ssum T R k (s + 1) = ssum T R k s + (2 + csum (Tseg T s) (nrow R s) k) := rfl
      have mono := ssum_mono hT hk (R := R) (s + 1) (nseg R - (s + 1)) (by unfold nseg; omega)
      rw [show s + 1 + (nseg R - (s + 1)) = nseg R from by unfold nseg; omega] at mono
      have snn := ssum_nn hT hk (R := R) (s := s) (by omega)
      have cb := csum_b (Tseg_w hT s) (n := nrow R s) (by unfold nrow; omega) (by unfold nrow; omega) hk
      obtain ⟨m3, e3, R3, G3⟩ := take_b (b := 16) hB R2 (by decide) (by decide) (by omega)
      rw [if_pos hx, if_pos (by decide), e3, xB_ret]
      refine xl3_rule (F := yl106_19 B r) (fun y0 y1 y2 m' => y0 = 530 ∧ y1 = R - 1024 * (s : Int) ∧ 0 ≤ y2 ∧ y2 ≤ k ∧ rs B m' (p + 32 + 8 * ssum T R k s + 16 + 8 * csum (Tseg T s) (nrow R s) y2.toNat) ∧ rg m m') (fun _ _ y2 _ => ((k : Int) - y2).toNat) ?_ 1000000 530 (R - 1024 * (s : Int)) 0 m3 ⟨rfl, rfl, by omega, by omega, by rw [show csum (Tseg T s) (nrow R s) (0 : Int).toNat = 0 from rfl, Int.mul_zero, Int.add_zero]; exact R3, rg_trans G2 G3⟩ (by omega)
      intro r' y0 y1 y2 m4 ⟨c0, c1, c2, c3, R4, G4⟩ ih'
      subst c0 c1
      unfold yl106_19
      have r6 : xR m4 302 6 = k := by rw [xR_cg (G4.1 302 (by decide))]; exact h6
      rw [r6]
      by_cases hy : y2 < (k : Int)
      · have et : (y2 + 1).toNat = y2.toNat + 1 := by omega
        have ec : ((y2.toNat : Nat) : Int) = y2 := by omega
        have ecs : csum (Tseg T s) (nrow R s) (y2 + 1).toNat = csum (Tseg T s) (nrow R s) y2.toNat + (20 + colB (Tseg T s y2) (nrow R s)) := by
          rw [et]
          show csum (Tseg T s) (nrow R s) y2.toNat + (20 + colB (Tseg T s (y2.toNat : Nat)) (nrow R s)) = _
          rw [ec]
        have hcol := hS.2 y2.toNat (by omega)
        rw [ec, ← G4.1 516 (by decide)] at hcol
        have cm := csum_mono (Tseg_w hT s) (n := nrow R s) (by unfold nrow; omega) (by unfold nrow; omega) (y2 + 1).toNat (k - (y2 + 1).toNat)
        rw [show (y2 + 1).toNat + (k - (y2 + 1).toNat) = k from by omega] at cm
        obtain ⟨m5, e5, R5, G5⟩ := skip_col hB R4 (by unfold nrow; omega) hcol (by omega)
        rw [if_pos hy, if_pos (by decide), e5, xB_ret, w32_id (by omega) (by omega)]
        refine ih' _ _ _ _ ⟨rfl, rfl, by omega, by omega, ?_, rg_trans G4 G5⟩ (by omega)
        rw [ecs, show p + 32 + 8 * ssum T R k s + 16 + 8 * (csum (Tseg T s) (nrow R s) y2.toNat + (20 + colB (Tseg T s y2) (nrow R s))) = p + 32 + 8 * ssum T R k s + 16 + 8 * csum (Tseg T s) (nrow R s) y2.toNat + 8 * (colB (Tseg T s y2) (nrow R s) + 20) from by omega]
        exact R5
      · have ey : y2 = (k : Int) := by omega
        subst ey
        rw [if_neg hy, w32_id (by omega) (by omega)]
        refine ih _ _ _ ⟨rfl, s + 1, by omega, by omega, ?_, G4⟩ (by omega)
        rw [Int.toNat_natCast] at R4
        rw [es, show p + 32 + 8 * (ssum T R k s + (2 + csum (Tseg T s) (nrow R s) k)) = p + 32 + 8 * ssum T R k s + 16 + 8 * csum (Tseg T s) (nrow R s) k from by omega]
        exact R4
    · rw [if_neg hx, xH_ret]
      have : s = nseg R := by unfold nseg; omega
      refine ⟨rfl, ?_, G2⟩
      unfold partB
      rw [← this, show p + 8 * (4 + ssum T R k s) = p + 32 + 8 * ssum T R k s from by omega]
      exact R2
/-- a part stands as its bits stand -/
theorem Seg_cg {W W' : Int → Int} {p p' n : Int} {k : Nat} {C : Int → Int → Int} (hC : cwd C) (hn : 1 ≤ n) (hn2 : n ≤ 1024) (hk : k ≤ 33) (h : ∀ q, 0 ≤ q → q < 16 + 8 * csum C n k → bW W' (p' + q) = bW W (p + q)) (hS : Seg W p n k C) : Seg W' p' n k C := by
  have cb := csum_b hC hn hn2 hk
  refine ⟨?_, fun c hc => ?_⟩
  · have := bW_tk h (o := 0) (n := 16) (by omega) (by omega)
    rw [Int.add_zero, Int.add_zero] at this
    rw [this]
    exact hS.1
  · have hm := csum_mono hC hn hn2 (c + 1) (k - (c + 1))
    rw [show c + 1 + (k - (c + 1)) = k from by omega] at hm
    have hs : csum C n (c + 1) = csum C n c + (20 + colB (C c) n) := rfl
    have hc0 : 0 ≤ csum C n c := (csum_b hC hn hn2 (by omega)).1
    refine Col_cg hn (fun q h1 h2 => ?_) (hS.2 c hc)
    rw [show p' + 16 + 8 * csum C n c + q = p' + (16 + 8 * csum C n c + q) from by omega, show p + 16 + 8 * csum C n c + q = p + (16 + 8 * csum C n c + q) from by omega]
    exact h _ (by omega) (by omega)
theorem Part_cg {W W' : Int → Int} {p p' R : Int} {k : Nat} {T : Int → Int → Int} (hT : cwd T) (hk : k ≤ 33) (h : ∀ q, 0 ≤ q → q < 8 * partB T R k → bW W' (p' + q) = bW W (p + q)) (hP : Part W p R k T) : Part W' p' R k T := by
  obtain ⟨t1, b1, b2⟩ := hP
  have hnn := ssum_nn hT hk (R := R) (s := nseg R) (by unfold nseg; omega)
  unfold partB at h
  refine ⟨?_, b1, fun s hs => ?_⟩
  · have := bW_tk h (o := 0) (n := 32) (by omega) (by omega)
    rw [Int.add_zero, Int.add_zero] at this
    rw [this]
    exact t1
  · have es : ssum T R k (s + 1) = ssum T R k s + (2 + csum (Tseg T s) (nrow R s) k) := rfl
    have mono := ssum_mono hT hk (R := R) (s + 1) (nseg R - (s + 1)) (by unfold nseg; omega)
    rw [show s + 1 + (nseg R - (s + 1)) = nseg R from by unfold nseg; omega] at mono
    have snn := ssum_nn hT hk (R := R) (s := s) (by omega)
    refine Seg_cg (Tseg_w hT s) (by unfold nrow; omega) (by unfold nrow; omega) hk (fun q h1 h2 => ?_) (b2 s hs)
    rw [show p' + 32 + 8 * ssum T R k s + q = p' + (32 + 8 * ssum T R k s + q) from by omega, show p + 32 + 8 * ssum T R k s + q = p + (32 + 8 * ssum T R k s + q) from by omega]
    exact h _ (by omega) (by omega)
