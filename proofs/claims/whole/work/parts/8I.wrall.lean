/-! A CHANGE: the class writes its extent -/
section WRA
variable {B : Nat} {m : xw_M} {D M : Int}
theorem cat2_of (hc : cgr m m D M) (hv : vls m m D) (ha : ∀ d, 0 ≤ d → d < D → arrd m d (xR m (15 + 26 * d) 10) (xR m (15 + 26 * d) 11)) (hr : rrk m D) : cat2 m D M := by
  have hD := hc.cn.1
  have rk : ∀ d, 0 ≤ d → d < D → ∀ l, 0 ≤ l → l < xR m (15 + 26 * d) 10 → (0 ≤ xR m (15 + 26 * d + 23) l ∧ xR m (15 + 26 * d + 23) l ≤ 1000) ∧ (∀ p, 0 ≤ p → p < xR m (15 + 26 * d) 11 → (0 ≤ xR m (15 + 26 * d + 14 + l) p ∧ xR m (15 + 26 * d + 14 + l) p < xR m (15 + 26 * d + 23) l) ∧ xR m 573 (4000 * d + 4 * p + l) = xR m (15 + 26 * d + 14 + l) p) := fun d d0 d1 l l0 l1 => by
    obtain ⟨K, e, b, R⟩ := ha d d0 d1 l l0 l1
    obtain ⟨u, R'⟩ := (hr d d0 d1).1 l l0 (by rw [(hc.sz d d0 d1).2.1]; exact l1)
    have n1 := (hc.cn.2.2.2.2.1 d d0 d1).2.2.1
    rw [(hc.sz d d0 d1).2.2.1] at R'
    have U := RK_uniq R R' (fun i i0 i1 => (hv d d0 d1).1 l i l0 l1 i0 i1)
    have k0 := R.1
    rw [e]
    exact ⟨⟨k0.1, by omega⟩, fun p p0 p1 => ⟨(R.2.2.1 p p0 p1).1, (U.2 p p0 p1).symm⟩⟩
  refine ⟨⟨hD, hc.cn.2.1, hc.cn.2.2.1, hc.cn.2.2.2.1, fun d d0 d1 => ?_⟩, hc.r14, hc.r19, fun d d0 d1 => ⟨(hc.sz d d0 d1).2.1, (hc.sz d d0 d1).2.2.1, fun l p l0 l1 p0 p1 => ((rk d d0 d1 l l0 l1).2 p p0 p1).2, fun p p' p0 pp p1 => ?_⟩⟩
  · have q := hc.cn.2.2.2.2.1 d d0 d1
    exact ⟨⟨(hc.sz d d0 d1).1, q.2.1.2⟩, q.2.2.1, fun l l0 l1 => ⟨(rk d d0 d1 l l0 l1).1, fun p p0 p1 => ((rk d d0 d1 l l0 l1).2 p p0 p1).1⟩⟩
  · have L1 := (hc.sz d d0 d1).1
    obtain ⟨K, e, b, R⟩ := ha d d0 d1 0 (Int.le_refl _) (by omega)
    rw [Int.add_zero, Int.add_zero, Int.add_zero] at R
    exact RK_inc R (hv d d0 d1).2 p p' p0 pp p1
theorem cat2_fr {m' : xw_M} (h : cat2 m D M) (A : ∀ a, a < 302 → m' a = m a) (f : ∀ k, k = 14 ∨ k = 19 → m' 536 k = m 536 k) (c : ∀ a, a = 538 ∨ a = 539 ∨ a = 573 → m' a = m a) : cat2 m' D M := by
  obtain ⟨h1, h2, h3, h4⟩ := h
  have hD := h1.1
  refine ⟨ctk_cg h1 A, (xR_fld (f 14 (by omega))).trans h2, (xR_fld (f 19 (by omega))).trans h3, fun d d0 d1 => ?_⟩
  rw [xR_cg (c 538 (by omega)), xR_cg (c 539 (by omega)), xR_cg (c 573 (by omega)), xR_cg (A (15 + 26 * d) (by omega)), xR_cg (A (15 + 26 * d + 14) (by omega))]
  obtain ⟨q1, q2, q3, q4⟩ := h4 d d0 d1
  refine ⟨q1, q2, fun l p l0 l1 p0 p1 => ?_, q4⟩
  have := (h1.2.2.2.2 d d0 d1).1
  rw [xR_cg (A (15 + 26 * d + 14 + l) (by omega))]
  exact q3 l p l0 l1 p0 p1
theorem tst_tpz {p : Int} (h : tst B m p) : tpz 518 517 (B * 512 : Nat) m := by
  rcases h with ⟨w, hl⟩ | ⟨⟨o, _⟩, hl⟩
  · exact ⟨w.1, p, w.2.1, w.2.2.2.1, hl, w.2.2.2.2⟩
  · exact o
theorem rok_fr {m' : xw_M} {r n : Int} (hD : D ≤ 8) (h : rok m r D n) (A : ∀ a, a < 302 → m' a = m a) (R : ∀ k, 0 ≤ k → k < 8 → m' (r + 3 + k) = m (r + 3 + k)) : rok m' r D n := fun d i d0 d1 i0 i1 => by
  rw [xR_cg (R d d0 (by omega)), xR_cg (A (15 + 26 * d) (by omega))]
  exact h d i d0 d1 i0 i1
theorem fct_fr {m' : xw_M} {r n f : Int} {π : Int → Int} (hD : D ≤ 8) (hM : M ≤ 8) (h : fct m r D M n f π) (R : ∀ k, 0 ≤ k → k < 8 → m' (r + 3 + k) = m (r + 3 + k) ∧ m' (r + 12 + k) = m (r + 12 + k)) (c : ∀ a, a = 575 ∨ a = 576 → m' a = m a) : fct m' r D M n f π := by
  refine ⟨h.1, fun x x0 x1 => ⟨fun d d0 d1 => ?_, fun k k0 k1 => ?_⟩⟩
  · rw [xR_cg (R d d0 (by omega)).1, xR_cg (c 575 (by omega))]; exact (h.2 x x0 x1).1 d d0 d1
  · rw [xJ_cg (R k k0 (by omega)).2, xJ_cg (c 576 (by omega))]; exact (h.2 x x0 x1).2 k k0 k1
/-- what a writing may change -/
def fWr (m m' : xw_M) (r : Int) : Prop := ∀ a, (a < 302 ∨ 336 < a) → a ≠ 371 → a ≠ 372 → (a < 517 ∨ 523 < a) → a ≠ r + 1 → a ≠ r + 20 → a ≠ r + 21 → a ≠ 419 → m' a = m a
/-- facts and views of the rows r -/
theorem wr_both {r cap n f k kd note tu : Int} {π vs : Int → Int} (hB : B ≤ 512) (hB2 : 2 ≤ B) (hr : rwo r 8 cap) (tz : tpz 518 517 (B * 512 : Nat) m) (htu : xR m 508 8 = tu) (hc : cat2 m D M) (hn : 0 ≤ n ∧ n ≤ cap) (hfn : 0 ≤ f ∧ f + n ≤ 20000) (h5 : xR m r 5 = n) (hk : rok m r D n) (hF : fct m r D M n f π) (ht : ∀ x y, 0 ≤ x → x < y → y < n → (∀ d, 0 ≤ d → d < D → xR m (r + 3 + d) x = xR m (r + 3 + d) y) → π x < π y) (k0 : 0 ≤ k) (k1 : k ≤ 16) (h11 : xR m 508 11 = k) (hv : ∀ i, 0 ≤ i → i < k → xR m 511 i = vs i ∧ 0 ≤ vs i) : ∃ m3 m4 m5 bF b Rs, yf150 B kd note m = some (.inl 0, m3) ∧ yf179 B r m3 = some (.inl 0, m4) ∧ xR m4 508 11 = k ∧ yf192 B r 511 k m4 = some (.inl 0, m5) ∧ fWr m m5 r ∧ fbt m D M f n bF ∧ (∀ i, 0 ≤ i → i < k → vbt m D M (vs i) f n (Rs i) (b i)) ∧ tst B m5 (64 + 8 * (bF + rsum b k.toNat)) ∧ (ws B m5 (64 + 8 * (bF + rsum b k.toNat)) → (∀ i, 0 ≤ i → i < k → xR m5 419 i = Rs i) ∧ fps (m5 517) m D M f n 64 (64 + 8 * bF) ∧ vps (m5 517) m D M f n k vs Rs (64 + 8 * bF) (64 + 8 * (bF + rsum b k.toNat))) := by
  have hD := hc.1.1
  have hM := hc.1.2.1
  have rb := rw_b hr
  obtain ⟨t1, p, t2, t3, t4, t5⟩ := tz
  obtain ⟨m3, z3, w3, f3, g3, _, _, _⟩ := begin_ext (B := B) (m := m) (kd := kd) (note := note) hB hB2 t1 t2 t3 t4 t5 htu
  have A3 : ∀ a, a < 517 ∨ 518 < a → m3 a = m a := fun a ha => f3 a (by omega) (by omega)
  have c3 : cat2 m3 D M := cat2_fr hc (fun a ha => A3 a (by omega)) (fun k hk => by rw [A3 536 (by omega)]) (fun a ha => A3 a (by omega))
  have F3 : fct m3 r D M n f π := fct_fr hD.2 hM.2 hF (fun k k0 k1 => ⟨A3 _ (by omega), A3 _ (by omega)⟩) (fun a ha => A3 a (by omega))
  have K3 : rok m3 r D n := rok_fr hD.2 hk (fun a ha => A3 a (by omega)) (fun k k0 k1 => A3 _ (by omega))
  have s3 : ∀ x d, 0 ≤ d → d < D → xR m3 (r + 3 + d) x = xR m (r + 3 + d) x := fun x d d0 d1 => by rw [xR_cg (A3 (r + 3 + d) (by omega))]
  have ws64 : (64 : Int) ≤ 64 * (B * 512 : Nat) := by omega
  obtain ⟨m4, bF, z4, p4, b4, t4', P4⟩ := wrF (B := B) (m := m3) hB hr c3 hn (by rw [xR_cg (A3 r (by omega))]; exact h5) K3 F3 (fun x y x0 xy y1 he => ht x y x0 xy y1 (fun d d0 d1 => by rw [← s3 x d d0 d1, ← s3 y d d0 d1]; exact he d d0 d1)) (p := 64) (by omega) (Or.inl ⟨w3, ws64⟩)
  have A4 : ∀ a, (a < 302 ∨ 336 < a) → a ≠ 371 → a ≠ 372 → (a < 517 ∨ 523 < a) → a ≠ r + 1 → a ≠ r + 20 → a ≠ r + 21 → m4 a = m a := fun a h1 h2 h3 h4 h5 h6 h7 => by rw [p4.1 a h1 h2 h3 h4 h5 (by omega) (by omega), A3 a (by omega)]
  have r3 : rsm m3 m (f + n) := ⟨(A3 538 (by omega)).symm, (A3 539 (by omega)).symm, (A3 573 (by omega)).symm, fun i _ _ => ⟨by rw [A3 575 (by omega)], by rw [A3 576 (by omega)]⟩⟩
  have bF0 := fbt_b hD hM (by omega) b4
  have c4 : cat2 m4 D M := cat2_fr hc (fun a ha => A4 a (by omega) (by omega) (by omega) (by omega) (by omega) (by omega) (by omega)) (fun k hk => by rw [A4 536 (by omega) (by omega) (by omega) (by omega) (by omega) (by omega) (by omega)]) (fun a ha => A4 a (by omega) (by omega) (by omega) (by omega) (by omega) (by omega) (by omega))
  have F4 : fct m4 r D M n f π := fct_fr hD.2 hM.2 hF (fun k k0 k1 => ⟨A4 _ (by omega) (by omega) (by omega) (by omega) (by omega) (by omega) (by omega), A4 _ (by omega) (by omega) (by omega) (by omega) (by omega) (by omega) (by omega)⟩) (fun a ha => A4 a (by omega) (by omega) (by omega) (by omega) (by omega) (by omega) (by omega))
  have K4 : rok m4 r D n := rok_fr hD.2 hk (fun a ha => A4 a (by omega) (by omega) (by omega) (by omega) (by omega) (by omega) (by omega)) (fun k k0 k1 => A4 _ (by omega) (by omega) (by omega) (by omega) (by omega) (by omega) (by omega))
  have l511 : xw_le B 511 = 16 := le_B B (by omega) (by omega) (by omega)
  obtain ⟨m5, b, Rs, z5, p5, V5, t5', P5⟩ := wrV (B := B) (m := m4) (a := 511) (k := k) (num := vs) hB hr c4 hn (by rw [xR_cg (A4 r (by omega) (by omega) (by omega) (by omega) (by omega) (by omega) (by omega))]; exact h5) K4 F4 k0 k1 (by decide) (by omega) ⟨by omega, by omega, by omega, by omega, by omega, by omega, by omega, by omega⟩ (fun i i0 i1 => by
    have q := hv i i0 i1
    have e : xR m4 511 i = vs i := by rw [xR_cg (A4 511 (by omega) (by omega) (by omega) (by omega) (by omega) (by omega) (by omega))]; exact q.1
    exact ⟨e, q.2, by rw [← q.1]; exact (w32_rng _).2⟩) (p := 64 + 8 * bF) (by omega) t4'
  have r4 : rsm m4 m (f + n) := ⟨(A4 538 (by omega) (by omega) (by omega) (by omega) (by omega) (by omega) (by omega)).symm, (A4 539 (by omega) (by omega) (by omega) (by omega) (by omega) (by omega) (by omega)).symm, (A4 573 (by omega) (by omega) (by omega) (by omega) (by omega) (by omega) (by omega)).symm, fun i _ _ => ⟨by rw [A4 575 (by omega) (by omega) (by omega) (by omega) (by omega) (by omega) (by omega)], by rw [A4 576 (by omega) (by omega) (by omega) (by omega) (by omega) (by omega) (by omega)]⟩⟩
  have ee : 64 + 8 * bF + 8 * rsum b k.toNat = 64 + 8 * (bF + rsum b k.toNat) := by omega
  rw [ee] at t5' P5
  refine ⟨m3, m4, m5, bF, b, Rs, z3, z4, by rw [xR_cg (A4 508 (by omega) (by omega) (by omega) (by omega) (by omega) (by omega) (by omega))]; exact h11, z5, fun a h1 h2 h3 h4 h5 h6 h7 h8 => by rw [p5.1 a h1 h2 h3 h4 h5 (by omega) (by omega) h8]; exact A4 a h1 h2 h3 h4 h5 h6 h7, fbt_m r3 hD hM hfn.1 hn.1 (Int.le_refl _) b4, fun i i0 i1 => vbt_m r4 hD hM hfn.1 (Int.le_refl _) (V5 i i0 i1), t5', fun hw => ?_⟩
  have vb := fun i i0 i1 => vbt_b hD hM (show n ≤ 20000 by omega) (V5 i i0 i1)
  have rb2 := rsum_b (b := b) (lo := 4) (hi := 7000000) k.toNat (fun i i0 i1 => by have := vb i i0 (by omega); omega)
  -- the tape was not over behind the facts' part
  have w4 : ws B m4 (64 + 8 * bF) := by
    rcases t4' with h | h
    · exact h.1
    · exfalso
      rcases t5' with q | q
      · omega
      · have := hw.2.2.1
        have := q.1.2
        omega
  refine ⟨(P5 hw).1, ?_, ?_⟩
  · have q := fps_m r3 hD hM hfn.1 hn.1 (Int.le_refl _) (P4 w4)
    have q2 := fps_W (δ := 0) (W' := m5 517) hD hM (fun x x0 x1 => by rw [Int.add_zero]; exact p5.2 x (by omega) x1) q
    rw [Int.add_zero, Int.add_zero] at q2
    exact q2
  · exact vps_m r4 hD hM hfn.1 (Int.le_refl _) (P5 hw).2
/-- views alone -/
theorem wr_only {r cap n f k kd note tu : Int} {π vs : Int → Int} (hB : B ≤ 512) (hB2 : 2 ≤ B) (hr : rwo r 8 cap) (tz : tpz 518 517 (B * 512 : Nat) m) (htu : xR m 508 8 = tu) (hc : cat2 m D M) (hn : 0 ≤ n ∧ n ≤ cap) (hfn : 0 ≤ f ∧ f + n ≤ 20000) (h5 : xR m r 5 = n) (hk : rok m r D n) (hF : fct m r D M n f π) (k0 : 0 ≤ k) (k1 : k ≤ 16) (hv : ∀ i, 0 ≤ i → i < k → xR m 296 i = vs i ∧ 0 ≤ vs i) : ∃ m3 m5 b Rs, yf150 B kd note m = some (.inl 0, m3) ∧ yf192 B r 296 k m3 = some (.inl 0, m5) ∧ fWr m m5 r ∧ (∀ i, 0 ≤ i → i < k → vbt m D M (vs i) f n (Rs i) (b i)) ∧ tst B m5 (64 + 8 * rsum b k.toNat) ∧ (ws B m5 (64 + 8 * rsum b k.toNat) → (∀ i, 0 ≤ i → i < k → xR m5 419 i = Rs i) ∧ vps (m5 517) m D M f n k vs Rs 64 (64 + 8 * rsum b k.toNat)) := by
  have hD := hc.1.1
  have hM := hc.1.2.1
  have rb := rw_b hr
  obtain ⟨t1, p, t2, t3, t4, t5⟩ := tz
  obtain ⟨m3, z3, w3, f3, g3, _, _, _⟩ := begin_ext (B := B) (m := m) (kd := kd) (note := note) hB hB2 t1 t2 t3 t4 t5 htu
  have A3 : ∀ a, a < 517 ∨ 518 < a → m3 a = m a := fun a ha => f3 a (by omega) (by omega)
  have c3 : cat2 m3 D M := cat2_fr hc (fun a ha => A3 a (by omega)) (fun k hk => by rw [A3 536 (by omega)]) (fun a ha => A3 a (by omega))
  have F3 : fct m3 r D M n f π := fct_fr hD.2 hM.2 hF (fun k k0 k1 => ⟨A3 _ (by omega), A3 _ (by omega)⟩) (fun a ha => A3 a (by omega))
  have K3 : rok m3 r D n := rok_fr hD.2 hk (fun a ha => A3 a (by omega)) (fun k k0 k1 => A3 _ (by omega))
  have ws64 : (64 : Int) ≤ 64 * (B * 512 : Nat) := by omega
  have l296 : xw_le B 296 = 16 := le_B B (by omega) (by omega) (by omega)
  obtain ⟨m5, b, Rs, z5, p5, V5, t5', P5⟩ := wrV (B := B) (m := m3) (a := 296) (k := k) (num := vs) hB hr c3 hn (by rw [xR_cg (A3 r (by omega))]; exact h5) K3 F3 k0 k1 (by decide) (by omega) ⟨by omega, by omega, by omega, by omega, by omega, by omega, by omega, by omega⟩ (fun i i0 i1 => by
    have q := hv i i0 i1
    have e : xR m3 296 i = vs i := by rw [xR_cg (A3 296 (by omega))]; exact q.1
    exact ⟨e, q.2, by rw [← q.1]; exact (w32_rng _).2⟩) (p := 64) (by omega) (Or.inl ⟨w3, ws64⟩)
  have r3 : rsm m3 m (f + n) := ⟨(A3 538 (by omega)).symm, (A3 539 (by omega)).symm, (A3 573 (by omega)).symm, fun i _ _ => ⟨by rw [A3 575 (by omega)], by rw [A3 576 (by omega)]⟩⟩
  exact ⟨m3, m5, b, Rs, z3, z5, fun a h1 h2 h3 h4 h5 h6 h7 h8 => by rw [p5.1 a h1 h2 h3 h4 h5 (by omega) (by omega) h8]; exact A3 a (by omega), fun i i0 i1 => vbt_m r3 hD hM hfn.1 (Int.le_refl _) (V5 i i0 i1), t5', fun hw => ⟨(P5 hw).1, vps_m r3 hD hM hfn.1 (Int.le_refl _) (P5 hw).2⟩⟩
end WRA
