/-! THE DISK'S BLOCKS: writeBlock, commit -/
theorem w32_rng (x : Int) : -2147483648 ≤ w32 x ∧ w32 x < 2147483648 := by unfold w32; omega
section COMMIT
variable {B : Nat} {m : xw_M}
/-- the fuse behind b more blocks -/
def fz (f b : Int) : Int := if 0 < f then f - b else f
theorem wb_ok {a s g f wr : Int} (ha : xw_obb 17 a = true) (a1 : a ≠ 508) (s0 : 0 ≤ s) (s1 : s * 512 + 512 ≤ xw_le B a) (g0 : 0 ≤ g) (g1 : g < B) (hB : B ≤ 512) (hf : xR m 508 18 = f) (hw : xR m 508 19 = wr) (w1 : wr < 2000000000) (w0 : 0 ≤ wr) : ∃ m', yf161 B a s g m = some (.inl (if fz f 1 = 0 then 0 else 1), m') ∧ (∀ a', a' ≠ 516 → a' ≠ 508 → m' a' = m a') ∧ (∀ k, k ≠ 18 → k ≠ 19 → m' 508 k = m 508 k) ∧ xR m' 508 18 = fz f 1 ∧ xR m' 508 19 = wr + 1 ∧ ∀ k, m' 516 k = if g * 512 ≤ k ∧ k < g * 512 + 512 then m a (k - g * 512 + s * 512) else m 516 k := by
  have l516 : xw_le B 516 = (B * 512 : Nat) := (tp530 hB).2.2.2.1
  have fr1 : f < 2147483648 := by rw [← hf]; exact (w32_rng _).2
  have fr0 : -2147483648 ≤ f := by rw [← hf]; exact (w32_rng _).1
  unfold yf161
  rw [if_pos (by unfold xw_cpok; omega), if_pos ha]
  generalize hc : xw_cp m a (s * 512) 516 (g * 512) 512 = mc
  have c8 : mc 508 = m 508 := by
    rw [← hc]
    funext k
    unfold xw_cp
    rw [if_neg (fun h => absurd h.1 (by decide))]
  have cn : ∀ a', a' ≠ 516 → mc a' = m a' := by
    intro a' h'
    rw [← hc]
    funext k
    unfold xw_cp
    rw [if_neg (fun h => h' h.1)]
  have c5 : ∀ k, mc 516 k = if g * 512 ≤ k ∧ k < g * 512 + 512 then m a (k - g * 512 + s * 512) else m 516 k := by
    intro k
    rw [← hc]
    unfold xw_cp
    by_cases h : g * 512 ≤ k ∧ k < g * 512 + 512
    · rw [if_pos h, if_pos ⟨rfl, h⟩]
    · rw [if_neg h, if_neg (fun h' => h h'.2)]
  rw [xR_cg c8, hf, hw]
  by_cases h : 0 < f
  · have e1 : xR (xw_u (xw_u mc 508 19 (wr + 1)) 508 18 (f - 1)) 508 18 = fz f 1 := by
      unfold fz
      rw [xR_u, if_pos ⟨rfl, rfl⟩, w32_id (by omega) (by omega), if_pos h]
    rw [if_pos h]
    unfold yk161_48
    rw [e1]
    refine ⟨xw_u (xw_u mc 508 19 (wr + 1)) 508 18 (f - 1), ?_, fun a' h1 h2 => by rw [xu_c h2, xu_c h2]; exact cn a' h1, fun k k1 k2 => ?_, e1, ?_, fun k => by rw [xu_c (by decide), xu_c (by decide)]; exact c5 k⟩
    · by_cases hz : fz f 1 = 0
      · rw [if_pos hz, if_pos hz]
      · rw [if_neg hz, if_neg hz]
    · unfold xw_u
      rw [if_neg (fun h => k1 h.2), if_neg (fun h => k2 h.2), c8]
    · rw [xR_u, if_neg (fun h => absurd h.2 (by decide)), xR_u, if_pos ⟨rfl, rfl⟩, w32_id (by omega) (by omega)]
  · have e1 : xR (xw_u mc 508 19 (wr + 1)) 508 18 = fz f 1 := by
      unfold fz
      rw [xR_u, if_neg (fun h => absurd h.2 (by decide)), xR_cg c8, hf, if_neg h]
    rw [if_neg h]
    unfold yk161_48
    rw [e1]
    refine ⟨xw_u mc 508 19 (wr + 1), ?_, fun a' h1 h2 => by rw [xu_c h2]; exact cn a' h1, fun k k1 k2 => ?_, e1, ?_, fun k => by rw [xu_c (by decide)]; exact c5 k⟩
    · by_cases hz : fz f 1 = 0
      · rw [if_pos hz, if_pos hz]
      · rw [if_neg hz, if_neg hz]
    · unfold xw_u
      rw [if_neg (fun h => k2 h.2), c8]
    · rw [xR_u, if_pos ⟨rfl, rfl⟩, w32_id (by omega) (by omega)]
/-- the state behind b blocks of the fresh extent -/
def cst (m m' : xw_M) (pl f wr b : Int) : Prop := (∀ a, a ≠ 516 → a ≠ 508 → m' a = m a) ∧ (∀ k, k ≠ 18 → k ≠ 19 → m' 508 k = m 508 k) ∧ xR m' 508 18 = fz f b ∧ xR m' 508 19 = wr + b ∧ ∀ k, m' 516 k = if pl * 512 ≤ k ∧ k < (pl + b) * 512 then m 517 (k - pl * 512) else m 516 k
theorem cst_0 {pl f wr : Int} (hf : xR m 508 18 = f) (hw : xR m 508 19 = wr) : cst m m pl f wr 0 := by
  refine ⟨fun _ _ _ => rfl, fun _ _ _ => rfl, ?_, by omega, fun k => (if_neg (by omega)).symm⟩
  unfold fz
  rw [hf]
  split <;> omega
theorem cst_s {m1 : xw_M} {pl f wr b n : Int} (hB : B ≤ 512) (p0 : 2 ≤ pl) (p1 : pl + n ≤ B) (b0 : 0 ≤ b) (b1 : b < n) (w0 : 0 ≤ wr) (w1 : wr < 1000000000) (f0 : f = -1 ∨ b < f) (h : cst m m1 pl f wr b) : ∃ m2, yf161 B 517 b (w32 (pl + b)) m1 = some (.inl (if fz f (b + 1) = 0 then 0 else 1), m2) ∧ cst m m2 pl f wr (b + 1) := by
  obtain ⟨c1, c2, c3, c4, c5⟩ := h
  have l517 : xw_le B 517 = (B * 512 : Nat) := (tp518 hB).2.2.2.1
  obtain ⟨m2, e, d1, d2, d3, d4, d5⟩ := wb_ok (B := B) (m := m1) (a := 517) (s := b) (g := pl + b) (by decide) (by decide) b0 (by omega) (by omega) (by omega) hB c3 c4 (by omega) (by omega)
  have ef : fz (fz f b) 1 = fz f (b + 1) := by
    unfold fz
    rcases f0 with f0 | f0
    · rw [f0]
      rfl
    · rw [if_pos (by omega), if_pos (by omega), if_pos (by omega)]
      omega
  rw [ef] at e d3
  refine ⟨m2, by rw [w32_id (by omega) (by omega)]; exact e, fun a h1 h2 => (d1 a h1 h2).trans (c1 a h1 h2), fun k h1 h2 => (d2 k h1 h2).trans (c2 k h1 h2), d3, by omega, fun k => ?_⟩
  rw [d5, c1 517 (by decide) (by decide), c5]
  by_cases h1 : (pl + b) * 512 ≤ k ∧ k < (pl + b) * 512 + 512
  · rw [if_pos h1, if_pos (by omega)]
    congr 1
    omega
  · rw [if_neg h1]
    by_cases h2 : pl * 512 ≤ k ∧ k < (pl + b) * 512
    · rw [if_pos h2, if_pos (by omega)]
    · rw [if_neg h2, if_neg (by omega)]
theorem commit_cut {pl n f wr : Int} (hB : B ≤ 512) (p0 : 2 ≤ pl) (p1 : pl + n ≤ B) (f0 : 1 ≤ f) (f1 : f ≤ n) (hf : xR m 508 18 = f) (hw : xR m 508 19 = wr) (w0 : 0 ≤ wr) (w1 : wr < 1000000000) : ∃ m', yf160 B pl n m = some (.inl 0, m') ∧ cst m m' pl f wr f := by
  unfold yf160
  generalize hN : (1000000 : Nat) = N
  have goal := xH_ex (Q := fun v m' => v = 0 ∧ cst m m' pl f wr f) (xl3_rule (F := yl160_2 B) (fun x0 x1 b m' => x0 = pl ∧ x1 = n ∧ 0 ≤ b ∧ b < f ∧ cst m m' pl f wr b) (fun _ _ b _ => (f - b).toNat) ?_ N pl n 0 m ⟨rfl, rfl, by omega, by omega, cst_0 hf hw⟩ (by omega))
  · obtain ⟨v, m', e, rfl, h⟩ := goal
    exact ⟨m', e, h⟩
  · intro r x0 x1 b m1 ⟨e0, e1, b0, b1, C⟩ ih
    subst e0 e1
    obtain ⟨m2, e2, C2⟩ := cst_s hB p0 p1 b0 (by omega) w0 w1 (Or.inr b1) C
    unfold yl160_2
    rw [if_pos (by omega), e2, xB_ret]
    have ez : fz f (b + 1) = f - (b + 1) := if_pos (by omega)
    rw [ez]
    by_cases h : f - (b + 1) = 0
    · rw [if_pos h, if_pos rfl, xH_ret]
      rw [show b + 1 = f from by omega] at C2
      exact ⟨rfl, C2⟩
    · rw [if_neg h, if_neg (by decide), w32_id (by omega) (by omega)]
      exact ih _ _ _ _ ⟨rfl, rfl, by omega, by omega, C2⟩ (by omega)
theorem commit_ok {pl n f wr tu lo fa vi ex p : Int} {VN VR K S L : Int → Int} (hB : B ≤ 512) (hB2 : 2 ≤ B) (n0 : 0 ≤ n) (p1 : (2 ≤ pl ∧ pl + n ≤ B) ∨ n = 0) (f0 : f = -1 ∨ n + 1 ≤ f) (hf : xR m 508 18 = f) (hw : xR m 508 19 = wr) (w0 : 0 ≤ wr) (w1 : wr < 1000000000)
    (c1 : xR m 508 8 = tu) (tu0 : 0 ≤ tu) (tu1 : tu < 2000000000) (c2 : xR m 508 9 = lo) (c3 : xR m 508 10 = fa) (c4 : xR m 508 11 = vi) (c5 : xR m 508 14 = ex) (c6 : xR m 511 = VN) (c7 : xR m 512 = VR) (c8 : xR m 513 = K) (c9 : xR m 514 = S) (c10 : xR m 515 = L) (hv : 0 ≤ vi) (hv2 : vi ≤ 16) (he : 0 ≤ ex) (he2 : ex ≤ 200) (h1 : xR m 524 1 = 64 * 512) (h2 : xR m 524 2 = p) (q0 : 0 ≤ p) (q1 : p ≤ 64 * 512) (Z : ∀ q, p ≤ q → q < 64 * 512 → bW (m 509) q = false) : ∃ m', yf160 B pl n m = some (.inl (if f = n + 1 then 0 else 1), m') ∧ (∀ a, a ≠ 516 → a ≠ 508 → a ≠ 509 → a ≠ 524 → m' a = m a) ∧ (∀ k, k ≠ 8 → k ≠ 18 → k ≠ 19 → m' 508 k = m 508 k) ∧ xR m' 508 8 = tu + 1 ∧ xR m' 508 18 = fz f (n + 1) ∧ xR m' 508 19 = wr + n + 1 ∧ wt 524 509 512 m' (128 + 64 * vi + 40 * ex) ∧ Man (m' 516) ((tu + 1) % 2 * 32768) (tu + 1) lo fa vi ex VN VR K S L ∧ (∀ k, pl * 512 ≤ k → k < (pl + n) * 512 → m' 516 k = m 517 (k - pl * 512)) ∧ ∀ k, ¬ (pl * 512 ≤ k ∧ k < (pl + n) * 512) → ¬ ((tu + 1) % 2 * 512 ≤ k ∧ k < (tu + 1) % 2 * 512 + 512) → m' 516 k = m 516 k := by
  unfold yf160
  generalize hN : (1000000 : Nat) = N
  have goal := xH_ex (Q := fun v m' => v = (if f = n + 1 then 0 else 1) ∧ (∀ a, a ≠ 516 → a ≠ 508 → a ≠ 509 → a ≠ 524 → m' a = m a) ∧ (∀ k, k ≠ 8 → k ≠ 18 → k ≠ 19 → m' 508 k = m 508 k) ∧ xR m' 508 8 = tu + 1 ∧ xR m' 508 18 = fz f (n + 1) ∧ xR m' 508 19 = wr + n + 1 ∧ wt 524 509 512 m' (128 + 64 * vi + 40 * ex) ∧ Man (m' 516) ((tu + 1) % 2 * 32768) (tu + 1) lo fa vi ex VN VR K S L ∧ (∀ k, pl * 512 ≤ k → k < (pl + n) * 512 → m' 516 k = m 517 (k - pl * 512)) ∧ ∀ k, ¬ (pl * 512 ≤ k ∧ k < (pl + n) * 512) → ¬ ((tu + 1) % 2 * 512 ≤ k ∧ k < (tu + 1) % 2 * 512 + 512) → m' 516 k = m 516 k) (xl3_rule (F := yl160_2 B) (fun x0 x1 b m' => x0 = pl ∧ x1 = n ∧ 0 ≤ b ∧ b ≤ n ∧ cst m m' pl f wr b) (fun _ _ b _ => (n - b).toNat) ?_ N pl n 0 m ⟨rfl, rfl, by omega, by omega, cst_0 hf hw⟩ (by omega))
  · obtain ⟨v, m', e, rfl, h⟩ := goal
    exact ⟨m', e, h⟩
  · intro r x0 x1 b m1 ⟨e0, e1, b0, b1, C⟩ ih
    subst e0 e1
    unfold yl160_2
    by_cases hb : b < x1
    · obtain ⟨m2, e2, C2⟩ := cst_s hB (p1.resolve_right (by omega)).1 (p1.resolve_right (by omega)).2 b0 hb w0 w1 (by omega) C
      rw [if_pos hb, e2, xB_ret]
      have ez : fz f (b + 1) ≠ 0 := by
        unfold fz
        split <;> omega
      rw [if_neg ez, if_neg (by decide), w32_id (by omega) (by omega)]
      exact ih _ _ _ _ ⟨rfl, rfl, by omega, by omega, C2⟩ (by omega)
    · have eb : b = x1 := by omega
      subst eb
      obtain ⟨C1, C2, C3, C4, C5⟩ := C
      have t8 : xR m1 508 8 = tu := by
        unfold xR
        rw [C2 8 (by decide) (by decide)]
        exact c1
      rw [if_neg hb, t8]
      have u8 : ∀ k, k ≠ 8 → k ≠ 18 → k ≠ 19 → xR (xw_u m1 508 8 (tu + 1)) 508 k = xR m 508 k := by
        intro k k1 k2 k3
        rw [xR_u, if_neg (fun h => k1 h.2)]
        unfold xR
        rw [C2 k k2 k3]
      have uo : ∀ a, a ≠ 516 → a ≠ 508 → (xw_u m1 508 8 (tu + 1)) a = m a := fun a k1 k2 => by rw [xu_c k2]; exact C1 a k1 k2
      obtain ⟨m2, e2, w2, M2, F2, G2⟩ := mani_ok (B := B) (m := xw_u m1 508 8 (tu + 1)) (tu := tu + 1) (lo := lo) (fa := fa) (vi := vi) (ex := ex) (p := p) (VN := VN) (VR := VR) (K := K) (S := S) (L := L) (by rw [xR_u, if_pos ⟨rfl, rfl⟩, w32_id (by omega) (by omega)]) (by rw [u8 9 (by decide) (by decide) (by decide)]; exact c2) (by rw [u8 10 (by decide) (by decide) (by decide)]; exact c3) (by rw [u8 11 (by decide) (by decide) (by decide)]; exact c4) (by rw [u8 14 (by decide) (by decide) (by decide)]; exact c5) (by rw [xR_cg (uo 511 (by decide) (by decide))]; exact c6) (by rw [xR_cg (uo 512 (by decide) (by decide))]; exact c7) (by rw [xR_cg (uo 513 (by decide) (by decide))]; exact c8) (by rw [xR_cg (uo 514 (by decide) (by decide))]; exact c9) (by rw [xR_cg (uo 515 (by decide) (by decide))]; exact c10) hv hv2 he he2 (by rw [xR_cg (uo 524 (by decide) (by decide))]; exact h1) (by rw [xR_cg (uo 524 (by decide) (by decide))]; exact h2) q0 q1 (by rw [uo 509 (by decide) (by decide)]; exact Z)
      have m8 : m2 508 = xw_u m1 508 8 (tu + 1) 508 := F2 508 (by decide) (by decide)
      have m5 : m2 516 = m1 516 := (F2 516 (by decide) (by decide)).trans (xu_c (by decide))
      have tk8 : xR m2 508 8 = tu + 1 := by rw [xR_cg m8, xR_u, if_pos ⟨rfl, rfl⟩, w32_id (by omega) (by omega)]
      have tk18 : xR m2 508 18 = fz f b := by rw [xR_cg m8, xR_u, if_neg (fun h => absurd h.2 (by decide))]; exact C3
      have tk19 : xR m2 508 19 = wr + b := by rw [xR_cg m8, xR_u, if_neg (fun h => absurd h.2 (by decide))]; exact C4
      have i1 : xw_iandf (tu + 1) 1 = (tu + 1) % 2 := iand_m (by omega) (by omega) (k := 1) (by decide) rfl
      obtain ⟨m3, e3, d1, d2, d3, d4, d5⟩ := wb_ok (B := B) (m := m2) (a := 509) (s := 0) (g := (tu + 1) % 2) (f := fz f b) (wr := wr + b) (by decide) (by decide) (by decide) (by show (0 : Int) * 512 + 512 ≤ 512; decide) (by omega) (by omega) hB tk18 tk19 (by omega) (by omega)
      have ef : fz (fz f b) 1 = fz f (b + 1) := by
        unfold fz
        rcases f0 with f0 | f0
        · rw [f0]
          rfl
        · rw [if_pos (by omega), if_pos (by omega), if_pos (by omega)]
          omega
      have ev : (fz f (b + 1) = 0) ↔ f = b + 1 := by
        unfold fz
        split <;> omega
      rw [ef] at e3 d3
      rw [e2, xB_ret, tk8, i1, e3, xB_ret, xH_ret]
      refine ⟨?_, fun a h1 h2 h3 h4 => ((d1 a h1 h2).trans (F2 a h3 h4)).trans (uo a h1 h2), fun k k1 k2 k3 => ?_, ?_, d3, by omega, ?_, ?_, fun k k1 k2 => ?_, fun k k1 k2 => ?_⟩
      · by_cases h : f = b + 1
        · rw [if_pos h, if_pos (ev.mpr h)]
        · rw [if_neg h, if_neg (fun h' => h (ev.mp h'))]
      · rw [d2 k k2 k3, m8]
        unfold xw_u
        rw [if_neg (fun h => k1 h.2)]
        exact C2 k k2 k3
      · unfold xR
        rw [d2 8 (by decide) (by decide)]
        exact tk8
      · obtain ⟨z1, z2, z3, z4, z5⟩ := w2
        have x4 : m3 524 = m2 524 := d1 524 (by decide) (by decide)
        have x9 : m3 509 = m2 509 := d1 509 (by decide) (by decide)
        refine ⟨?_, ?_, ?_, z4, ?_⟩
        · rw [xR_cg x4]; exact z1
        · rw [xR_cg x4]; exact z2
        · rw [xR_cg x4]; exact z3
        · rw [x9]; exact z5
      · refine Man_cg M2 hv hv2 he2 (fun x x0 x1 => ?_)
        unfold bW
        rw [d5, if_pos (by omega)]
        congr 1
        · congr 1
          omega
        · omega
      · rw [d5, if_neg (by omega), m5, C5, if_pos ⟨k1, k2⟩]
      · rw [d5, if_neg k2, m5, C5, if_neg k1]
end COMMIT
