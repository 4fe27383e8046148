/-! OPERATIONS: spread's loops -/
/-- the numbers of a spread -/
def spn_it (s : Int) : Nat → Int
  | 0 => s
  | j + 1 => w64 (spn_it s j * 6364136223846793005 + 1442695040888963407)
def spn_hf (s : Int) (N : Nat) : Nat → Int
  | 0 => s
  | i + 1 => spn_it (spn_hf s N i) N
def spP (s : Int) (N : Nat) (nm : Int → Int) (x d : Int) : Int := (xw_lushrf (spn_it (spn_hf s N x.toNat) (d + 1).toNat) 33) % nm d
def spA (s : Int) (N : Nat) (D : Int) (x k : Int) : Int := xw_lshrf (spn_it (spn_hf s N x.toNat) (D + k + 1).toNat) (8 * (k % 8))
theorem lushr33 (x : Int) : 0 ≤ xw_lushrf x 33 := by
  have := lushr_d x (s := 33) (by decide) (by decide)
  rw [show ((33 : Nat) : Int) = 33 from rfl] at this
  rw [this]
  exact Int.ediv_nonneg (Int.emod_nonneg _ (by decide)) (by decide)
theorem spP_b {s : Int} {N : Nat} {nm : Int → Int} {x d : Int} (h : 0 < nm d) : 0 ≤ spP s N nm x d ∧ spP s N nm x d < nm d := ⟨Int.emod_nonneg _ (by omega), Int.emod_lt_of_pos _ h⟩
section SPR
variable {B : Nat} {m : xw_M} {c : Int}
theorem spread_cl {n s b D M : Int} (hD : 0 ≤ D ∧ D ≤ 8) (hM : 0 ≤ M ∧ M ≤ 8) (h31 : xR m 3 1 = D) (h32 : xR m 3 2 = M) (h5 : xR m 373 5 = b) (b0 : 0 ≤ b) (n0 : 0 ≤ n) (n1 : n ≤ 4096) (bn : b + n ≤ 8192) (hm : ∀ d, 0 ≤ d → d < D → 1 ≤ xR m (15 + 26 * d) 11 ∧ xR m (15 + 26 * d) 11 ≤ 1000) : ∃ m1, xl3 (yl174_31 B) 1000000 n s 0 m = some (.inl (b + n), xw_u m1 0 15 (xR m 0 15 + n)) ∧ bst m m1 D M b n (spP s (D + M).toNat (fun d => xR m (15 + 26 * d) 11)) (spA s (D + M).toNat D) := by
  generalize hN : (1000000 : Nat) = N
  have goal := xH_ex (Q := fun v m' => ∃ m1, m' = xw_u m1 0 15 (xR m 0 15 + n) ∧ v = b + n ∧ bst m m1 D M b n (spP s (D + M).toNat (fun d => xR m (15 + 26 * d) 11)) (spA s (D + M).toNat D)) (xl3_rule (F := yl174_31 B) (fun x1 x4 x2 m' => x1 = n ∧ x4 = spn_hf s (D + M).toNat x2.toNat ∧ 0 ≤ x2 ∧ x2 ≤ n ∧ bst m m' D M b x2 (spP s (D + M).toNat (fun d => xR m (15 + 26 * d) 11)) (spA s (D + M).toNat D)) (fun _ _ x2 _ => (n - x2).toNat) ?_ N n s 0 m ⟨rfl, rfl, by omega, n0, fun a _ _ => rfl, by omega, fun a x _ _ _ => rfl, fun x x0 x1 => absurd x1 (Int.not_lt.mpr x0)⟩ (by omega))
  · obtain ⟨v, m', e, m1, rfl, rfl, h⟩ := goal
    exact ⟨m1, e, h⟩
  · intro r x1 x4 x2 m' ⟨q1, q4, q2, q3, e1, e2, e3, e4⟩ ih
    subst q1
    unfold yl174_31
    by_cases hx : x2 < x1
    · rw [if_pos hx]
      generalize hN2 : (1000000 : Nat) = N2
      refine xl4_rule (F := yl174_40 B r) (fun y1 y4 y2 y3 m2 => y1 = x1 ∧ y2 = x2 ∧ (0 ≤ y3 ∧ y3 ≤ D) ∧ y4 = spn_it x4 y3.toNat ∧ (∀ a, (a < 376 ∨ 392 < a) → m2 a = m' a) ∧ (∀ a x, 376 ≤ a → a ≤ 392 → x < b + x2 → m2 a x = m' a x) ∧ ∀ d, 0 ≤ d → d < y3 → xR m2 (376 + d) (b + x2) = spP s (D + M).toNat (fun d => xR m (15 + 26 * d) 11) x2 d) (fun _ _ _ y3 _ => (D - y3).toNat) ?_ N2 x1 x4 x2 0 m' ⟨rfl, rfl, ⟨by omega, hD.1⟩, rfl, fun a _ => rfl, fun a x _ _ _ => rfl, fun d d0 d1 => absurd d1 (Int.not_lt.mpr d0)⟩ (by omega)
      intro r2 y1 y4 y2 y3 m2 ⟨p1, p2, p3, p4, f1, f2, f3⟩ ih2
      subst p1 p2
      have s3 : xR m2 3 = xR m 3 := by rw [xR_cg (f1 3 (by omega)), xR_cg (e1 3 (by omega) (by omega))]
      have s5 : xR m2 373 5 = b + y2 := by rw [xR_cg (f1 373 (by omega))]; exact e2
      unfold yl174_40
      rw [s3, h31]
      by_cases hy : y3 < D
      · obtain ⟨g1, g2, g3, g4⟩ := rw_p B (r := 373) (W := 8) (cap := 8192) (Or.inl ⟨rfl, rfl, rfl⟩) p3.1 (show y3 < 8 by omega)
        have g3' : xw_obb 16 (376 + y3) = true := g3
        have g4' : xw_le B (376 + y3) = 8192 := g4
        have hmy := hm y3 p3.1 hy
        have s11 : xR m2 (15 + 26 * y3) 11 = xR m (15 + 26 * y3) 11 := by rw [xR_cg (f1 (15 + 26 * y3) (by omega)), xR_cg (e1 (15 + 26 * y3) (by omega) (by omega))]
        have nx : w64 (y4 * 6364136223846793005 + 1442695040888963407) = spn_it x4 (y3 + 1).toNat := by
          rw [show (y3 + 1).toNat = y3.toNat + 1 by omega, p4]; rfl
        rw [if_pos hy, if_pos ⟨p3.1, by omega⟩, if_pos (dm_f B p3.1 (show y3 < 8 by omega)).1, if_pos (lushr33 _), s11, if_pos (by omega), s5, g4', if_pos ⟨by omega, by omega⟩, if_pos g3', w32_id (by omega) (by omega), nx]
        refine ih2 _ _ _ _ _ ⟨rfl, rfl, ⟨by omega, by omega⟩, rfl, fun a ha => by rw [xu_c (by omega)]; exact f1 a ha, fun a x a0 a1 hx => by rw [xu_ne (by omega)]; exact f2 a x a0 a1 hx, fun d d0 d1 => ?_⟩ (by omega)
        rw [xR_u]
        by_cases ed : d = y3
        · rw [if_pos ⟨by omega, rfl⟩, ed, q4]
          have pb := spP_b (s := s) (N := (D + M).toNat) (nm := fun d => xR m (15 + 26 * d) 11) (x := y2) (d := y3) (by show 0 < xR m (15 + 26 * y3) 11; omega)
          have : xR m (15 + 26 * y3) 11 ≤ 1000 := hmy.2
          have pb2 : spP s (D + M).toNat (fun d => xR m (15 + 26 * d) 11) y2 y3 < xR m (15 + 26 * y3) 11 := pb.2
          show w32 (spP s (D + M).toNat (fun d => xR m (15 + 26 * d) 11) y2 y3) = _
          exact w32_id (by have := pb.1; omega) (by omega)
        · rw [if_neg (by omega)]; exact f3 d d0 (by omega)
      · rw [if_neg hy]
        have ey : y3 = D := by omega
        subst ey
        generalize hN3 : (1000000 : Nat) = N3
        refine xl4_rule (F := yl174_112 B r) (fun z1 z4 z2 z3 m3 => z1 = y1 ∧ z2 = y2 ∧ (0 ≤ z3 ∧ z3 ≤ M) ∧ z4 = spn_it x4 (y3 + z3).toNat ∧ (∀ a, (a < 376 ∨ 392 < a) → m3 a = m' a) ∧ (∀ a x, 376 ≤ a → a ≤ 392 → x < b + y2 → m3 a x = m' a x) ∧ (∀ d, 0 ≤ d → d < y3 → xR m3 (376 + d) (b + y2) = spP s (y3 + M).toNat (fun d => xR m (15 + 26 * d) 11) y2 d) ∧ ∀ k, 0 ≤ k → k < z3 → xJ m3 (385 + k) (b + y2) = spA s (y3 + M).toNat y3 y2 k) (fun _ _ _ z3 _ => (M - z3).toNat) ?_ N3 y1 y4 y2 0 m2 ⟨rfl, rfl, ⟨by omega, hM.1⟩, by rw [Int.add_zero]; exact p4, f1, f2, f3, fun d d0 d1 => absurd d1 (Int.not_lt.mpr d0)⟩ (by omega)
        intro r3 z1 z4 z2 z3 m3 ⟨o1, o2, o3, o4, t1, t2, t3, t4⟩ ih3
        subst o1 o2
        have s3 : xR m3 3 = xR m 3 := by rw [xR_cg (t1 3 (by omega)), xR_cg (e1 3 (by omega) (by omega))]
        have s5 : xR m3 373 5 = b + z2 := by rw [xR_cg (t1 373 (by omega))]; exact e2
        unfold yl174_112
        rw [s3, h32]
        by_cases hz : z3 < M
        · obtain ⟨g1, g2, g3, g4⟩ := rw_a B (r := 373) (W := 8) (cap := 8192) (Or.inl ⟨rfl, rfl, rfl⟩) o3.1 (show z3 < 8 by omega)
          have g3' : xw_obb 17 (385 + z3) = true := g3
          have g4' : xw_le B (385 + z3) = 8192 := g4
          have nx : w64 (z4 * 6364136223846793005 + 1442695040888963407) = spn_it x4 (y3 + (z3 + 1)).toNat := by
            rw [show (y3 + (z3 + 1)).toNat = (y3 + z3).toNat + 1 by omega, o4]; rfl
          rw [if_pos hz, if_pos ⟨o3.1, by omega⟩, if_pos o3.1, s5, g4', if_pos ⟨by omega, by omega⟩, if_pos g3', w32_id (by omega) (by omega), nx]
          refine ih3 _ _ _ _ _ ⟨rfl, rfl, ⟨by omega, by omega⟩, rfl, fun a ha => by rw [xu_c (by omega)]; exact t1 a ha, fun a x a0 a1 hx => by rw [xu_ne (by omega)]; exact t2 a x a0 a1 hx, fun d d0 d1 => by rw [xR_ne (by omega)]; exact t3 d d0 d1, fun d d0 d1 => ?_⟩ (by omega)
          rw [xJ_u]
          by_cases ed : d = z3
          · rw [if_pos ⟨by omega, rfl⟩, lshr_w, ed, q4]
            unfold spA
            rw [show y3 + (z3 + 1) = y3 + z3 + 1 by omega]
          · rw [if_neg (by omega)]; exact t4 d d0 (by omega)
        · rw [if_neg hz, s5, w32_id (by omega) (by omega)]
          have ez : z3 = M := by omega
          subst ez
          refine ih _ _ _ _ ⟨rfl, ?_, by omega, by omega, fun a a1 a2 => by rw [xu_c a1, t1 a a2]; exact e1 a a1 a2, by rw [xR_at (w32_id (by omega) (by omega))]; omega, fun a x a0 a1 hx => by rw [xu_c (by omega), t2 a x a0 a1 (by omega)]; exact e3 a x a0 a1 hx, fun x x0 x1 => ?_⟩ (by omega)
          · rw [show (z2 + 1).toNat = z2.toNat + 1 by omega, o4, q4]; rfl
          · by_cases ex : x = z2
            · rw [ex]
              exact ⟨fun d d0 d1 => by rw [xR_ne (by omega)]; exact t3 d d0 d1, fun k k0 k1 => by rw [xJ_ne (by omega)]; exact t4 k k0 k1⟩
            · refine ⟨fun d d0 d1 => ?_, fun k k0 k1 => ?_⟩
              · rw [xR_ne (by omega), xR_fld (t2 (376 + d) (b + x) (by omega) (by omega) (by omega))]; exact (e4 x x0 (by omega)).1 d d0 d1
              · rw [xJ_ne (by omega), xJ_fld (t2 (385 + k) (b + x) (by omega) (by omega) (by omega))]; exact (e4 x x0 (by omega)).2 k k0 k1
    · rw [if_neg hx, xH_ret]
      have ex : x2 = x1 := by omega
      subst ex
      refine ⟨m', by rw [xR_cg (e1 0 (by omega) (by omega))], e2, e1, e2, e3, e4⟩
theorem spread_rf {n s b f D M : Int} (hD : 0 ≤ D ∧ D ≤ 8) (hM : 0 ≤ M ∧ M ≤ 8) (h14 : xR m 536 14 = D) (h19 : xR m 536 19 = M) (h1 : xR m 536 1 = 0) (h31 : xR m 536 31 = f) (h32 : xR m 536 32 = b) (f0 : 0 ≤ f) (b0 : 0 ≤ b) (n0 : 0 ≤ n) (n1 : n ≤ 4096) (fb : f + b + n ≤ 20000) (h33 : 0 ≤ xR m 536 33 ∧ xR m 536 33 + n ≤ 20000) (hm : ∀ d, 0 ≤ d → d < D → 1 ≤ xR m 539 d ∧ xR m 539 d ≤ 1000) : ∃ m1, xl3 (yl321_39 B) 1000000 n s 0 m = some (.inl (b + n), m1) ∧ rst m m1 D M f b n (spP s (D + M).toNat (xR m 539)) (spA s (D + M).toNat D) := by
  generalize hN : (1000000 : Nat) = N
  have goal := xH_ex (Q := fun v m' => v = b + n ∧ rst m m' D M f b n (spP s (D + M).toNat (xR m 539)) (spA s (D + M).toNat D)) (xl3_rule (F := yl321_39 B) (fun x1 x4 x2 m' => x1 = n ∧ x4 = spn_hf s (D + M).toNat x2.toNat ∧ 0 ≤ x2 ∧ x2 ≤ n ∧ rst m m' D M f b x2 (spP s (D + M).toNat (xR m 539)) (spA s (D + M).toNat D)) (fun _ _ x2 _ => (n - x2).toNat) ?_ N n s 0 m ⟨rfl, rfl, by omega, n0, fun a _ _ _ => rfl, fun k _ _ => rfl, by omega, by omega, fun i _ => ⟨rfl, rfl⟩, fun x x0 x1 => absurd x1 (Int.not_lt.mpr x0)⟩ (by omega))
  · obtain ⟨v, m', e, rfl, h⟩ := goal
    exact ⟨m', e, h⟩
  · intro r x1 x4 x2 m' ⟨q1, q4, q2, q3, e1, e2, e3, e4, e5, e6⟩ ih
    subst q1
    have fin : yk321_204 B m' = some (.inl (b + x2), m') := by
      unfold yk321_204
      rw [xR_fld (e2 1 (by omega) (by omega)), h1, if_neg (by omega), e3]
    unfold yl321_39
    by_cases hx : x2 < x1
    · rw [if_pos hx, xR_fld (e2 1 (by omega) (by omega)), if_pos h1]
      generalize hN2 : (1000000 : Nat) = N2
      refine xl4_rule (F := yl321_55 B r) (fun y1 y4 y2 y3 m2 => y1 = x1 ∧ y2 = x2 ∧ (0 ≤ y3 ∧ y3 ≤ D) ∧ y4 = spn_it x4 y3.toNat ∧ (∀ a, a ≠ 575 → m2 a = m' a) ∧ (∀ i, i < 8 * (f + (b + x2)) → m2 575 i = m' 575 i) ∧ ∀ d, 0 ≤ d → d < y3 → xR m2 575 (8 * (f + (b + x2)) + d) = spP s (D + M).toNat (xR m 539) x2 d) (fun _ _ _ y3 _ => (D - y3).toNat) ?_ N2 x1 x4 x2 0 m' ⟨rfl, rfl, ⟨by omega, hD.1⟩, rfl, fun a _ => rfl, fun i _ => rfl, fun d d0 d1 => absurd d1 (Int.not_lt.mpr d0)⟩ (by omega)
      intro r2 y1 y4 y2 y3 m2 ⟨p1, p2, p3, p4, f1, f2, f3⟩ ih2
      subst p1 p2
      have s31 : xR m2 536 31 = f := by rw [xR_cg (f1 536 (by omega)), xR_fld (e2 31 (by omega) (by omega))]; exact h31
      have s32 : xR m2 536 32 = b + y2 := by rw [xR_cg (f1 536 (by omega))]; exact e3
      have s14 : xR m2 536 14 = D := by rw [xR_cg (f1 536 (by omega)), xR_fld (e2 14 (by omega) (by omega))]; exact h14
      unfold yl321_55
      rw [s31, s32, s14]
      by_cases hy : y3 < D
      · have hmy := hm y3 p3.1 hy
        have s9 : xR m2 539 y3 = xR m 539 y3 := by rw [xR_cg (f1 539 (by omega)), xR_cg (e1 539 (by omega) (by omega) (by omega))]
        have nx : w64 (y4 * 6364136223846793005 + 1442695040888963407) = spn_it x4 (y3 + 1).toNat := by
          rw [show (y3 + 1).toNat = y3.toNat + 1 by omega, p4]; rfl
        rw [if_pos hy, if_pos ⟨p3.1, by omega⟩, if_pos (lushr33 _), s9, if_pos (by omega), if_pos ⟨by omega, by omega⟩, w32_id (by omega) (by omega), nx]
        refine ih2 _ _ _ _ _ ⟨rfl, rfl, ⟨by omega, by omega⟩, rfl, fun a a1 => by rw [xu_c a1]; exact f1 a a1, fun i hi => ?_, fun d d0 d1 => ?_⟩ (by omega)
        · rw [xu_ne (by omega)]; exact f2 i hi
        · rw [xR_u]
          by_cases ed : d = y3
          · rw [if_pos ⟨rfl, by omega⟩, ed, q4]
            have pb := spP_b (s := s) (N := (D + M).toNat) (nm := xR m 539) (x := y2) (d := y3) (by omega)
            exact w32_id (by have := pb.1; unfold spP at this; omega) (by have := pb.2; unfold spP at this; omega)
          · rw [if_neg (by omega)]; exact f3 d d0 (by omega)
      · rw [if_neg hy]
        have ey : y3 = D := by omega
        subst ey
        generalize hN3 : (1000000 : Nat) = N3
        refine xl4_rule (F := yl321_120 B r) (fun z1 z4 z2 z3 m3 => z1 = y1 ∧ z2 = y2 ∧ (0 ≤ z3 ∧ z3 ≤ M) ∧ z4 = spn_it x4 (y3 + z3).toNat ∧ (∀ a, a ≠ 575 → a ≠ 576 → m3 a = m' a) ∧ (∀ i, i < 8 * (f + (b + y2)) → m3 575 i = m' 575 i ∧ m3 576 i = m' 576 i) ∧ (∀ d, 0 ≤ d → d < y3 → xR m3 575 (8 * (f + (b + y2)) + d) = spP s (y3 + M).toNat (xR m 539) y2 d) ∧ ∀ k, 0 ≤ k → k < z3 → xJ m3 576 (8 * (f + (b + y2)) + k) = spA s (y3 + M).toNat y3 y2 k) (fun _ _ _ z3 _ => (M - z3).toNat) ?_ N3 y1 y4 y2 0 m2 ⟨rfl, rfl, ⟨by omega, hM.1⟩, by rw [Int.add_zero]; exact p4, fun a a1 _ => f1 a a1, fun i hi => ⟨f2 i hi, by rw [f1 576 (by omega)]⟩, f3, fun d d0 d1 => absurd d1 (Int.not_lt.mpr d0)⟩ (by omega)
        intro r3 z1 z4 z2 z3 m3 ⟨o1, o2, o3, o4, t1, t2, t3, t4⟩ ih3
        subst o1 o2
        have s31 : xR m3 536 31 = f := by rw [xR_cg (t1 536 (by omega) (by omega)), xR_fld (e2 31 (by omega) (by omega))]; exact h31
        have s32 : xR m3 536 32 = b + z2 := by rw [xR_cg (t1 536 (by omega) (by omega))]; exact e3
        have s33 : xR m3 536 33 = xR m 536 33 + z2 := by rw [xR_cg (t1 536 (by omega) (by omega))]; exact e4
        have s19 : xR m3 536 19 = M := by rw [xR_cg (t1 536 (by omega) (by omega)), xR_fld (e2 19 (by omega) (by omega))]; exact h19
        unfold yl321_120
        rw [s31, s32, s33, s19]
        by_cases hz : z3 < M
        · have nx : w64 (z4 * 6364136223846793005 + 1442695040888963407) = spn_it x4 (y3 + (z3 + 1)).toNat := by
            rw [show (y3 + (z3 + 1)).toNat = (y3 + z3).toNat + 1 by omega, o4]; rfl
          rw [if_pos hz, if_pos o3.1, if_pos ⟨by omega, by omega⟩, w32_id (by omega) (by omega), nx]
          refine ih3 _ _ _ _ _ ⟨rfl, rfl, ⟨by omega, by omega⟩, rfl, fun a a1 a2 => by rw [xu_c a2]; exact t1 a a1 a2, fun i hi => ?_, fun d d0 d1 => by rw [xR_cg (xu_c (by omega))]; exact t3 d d0 d1, fun d d0 d1 => ?_⟩ (by omega)
          · rw [xu_c (by omega), xu_ne (by omega)]; exact t2 i hi
          · rw [xJ_u]
            by_cases ed : d = z3
            · rw [if_pos ⟨rfl, by omega⟩, lshr_w, ed, q4]
              unfold spA
              rw [show y3 + (z3 + 1) = y3 + z3 + 1 by omega]
            · rw [if_neg (by omega)]; exact t4 d d0 (by omega)
        · rw [if_neg hz, w32_id (by omega) (by omega)]
          have ez : z3 = M := by omega
          subst ez
          refine ih _ _ _ _ ⟨rfl, ?_, by omega, by omega, fun a a1 a2 a3 => by rw [xu_c a1, xu_c a1, t1 a a2 a3]; exact e1 a a1 a2 a3, fun k k1 k2 => by rw [xu_ne (by omega), xu_ne (by omega), t1 536 (by omega) (by omega)]; exact e2 k k1 k2, by rw [xR_ne (by omega), xR_at (w32_id (by omega) (by omega))]; omega, by rw [xR_at (w32_id (by omega) (by omega))]; omega, fun i hi => ?_, fun x x0 x1 => ?_⟩ (by omega)
          · rw [show (z2 + 1).toNat = z2.toNat + 1 by omega, o4, q4]; rfl
          · rw [xu_c (by omega), xu_c (by omega), xu_c (by omega), xu_c (by omega), (t2 i (by omega)).1, (t2 i (by omega)).2]; exact e5 i hi
          · rw [xR_cg (xu_c (by omega)), xR_cg (xu_c (by omega)), xJ_cg (xu_c (by omega)), xJ_cg (xu_c (by omega))]
            by_cases ex : x = z2
            · rw [ex]
              exact ⟨t3, t4⟩
            · refine ⟨fun d d0 d1 => ?_, fun k k0 k1 => ?_⟩
              · rw [xR_fld (t2 _ (by omega)).1]; exact (e6 x x0 (by omega)).1 d d0 d1
              · rw [xJ_fld (t2 _ (by omega)).2]; exact (e6 x x0 (by omega)).2 k k0 k1
    · rw [if_neg hx, fin, xH_ret]
      have ex : x2 = x1 := by omega
      subst ex
      exact ⟨rfl, e1, e2, e3, e4, e5, e6⟩
end SPR
