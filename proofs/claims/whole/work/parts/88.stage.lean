/-! OPERATIONS: stage, spread -/
/-- the class's batch has n rows more -/
def bst (m m' : xw_M) (D M b n : Int) (P A : Int → Int → Int) : Prop := (∀ a, a ≠ 373 → (a < 376 ∨ 392 < a) → m' a = m a) ∧ xR m' 373 5 = b + n ∧ (∀ a x, 376 ≤ a → a ≤ 392 → x < b → m' a x = m a x) ∧ ∀ x, 0 ≤ x → x < n → (∀ d, 0 ≤ d → d < D → xR m' (376 + d) (b + x) = P x d) ∧ ∀ k, 0 ≤ k → k < M → xJ m' (385 + k) (b + x) = A x k
/-- the reference's -/
def rst (m m' : xw_M) (D M f b n : Int) (P A : Int → Int → Int) : Prop := (∀ a, a ≠ 536 → a ≠ 575 → a ≠ 576 → m' a = m a) ∧ (∀ k, k ≠ 32 → k ≠ 33 → m' 536 k = m 536 k) ∧ xR m' 536 32 = b + n ∧ xR m' 536 33 = xR m 536 33 + n ∧ (∀ i, i < 8 * (f + b) → m' 575 i = m 575 i ∧ m' 576 i = m 576 i) ∧ ∀ x, 0 ≤ x → x < n → (∀ d, 0 ≤ d → d < D → xR m' 575 (8 * (f + (b + x)) + d) = P x d) ∧ ∀ k, 0 ≤ k → k < M → xJ m' 576 (8 * (f + (b + x)) + k) = A x k
section STG
variable {B : Nat} {m : xw_M} {c : Int}
theorem stage_cl {n b D M : Int} (hD : 0 ≤ D ∧ D ≤ 8) (hM : 0 ≤ M ∧ M ≤ 8) (h31 : xR m 3 1 = D) (h32 : xR m 3 2 = M) (h5 : xR m 373 5 = b) (b0 : 0 ≤ b) (n0 : 0 ≤ n) (n1 : n ≤ 1000) (bn : b + n ≤ 8192) : ∃ m1, xl2 (yl171_27 B) 1000000 n 0 m = some (.inl (b + n), xw_u m1 0 15 (xR m 0 15 + n)) ∧ bst m m1 D M b n (fun _ d => xR m 417 d) (fun _ k => xJ m 418 k) := by
  generalize hN : (1000000 : Nat) = N
  have goal := xH_ex (Q := fun v m' => ∃ m1, m' = xw_u m1 0 15 (xR m 0 15 + n) ∧ v = b + n ∧ bst m m1 D M b n (fun _ d => xR m 417 d) (fun _ k => xJ m 418 k)) (xl2_rule (F := yl171_27 B) (fun x1 x2 m' => x1 = n ∧ 0 ≤ x2 ∧ x2 ≤ n ∧ bst m m' D M b x2 (fun _ d => xR m 417 d) (fun _ k => xJ m 418 k)) (fun _ x2 _ => (n - x2).toNat) ?_ N n 0 m ⟨rfl, by omega, n0, fun a _ _ => rfl, by omega, fun a x _ _ _ => rfl, fun x x0 x1 => absurd x1 (Int.not_lt.mpr x0)⟩ (by omega))
  · obtain ⟨v, m', e, m1, rfl, rfl, h⟩ := goal
    exact ⟨m1, e, h⟩
  · intro r x1 x2 m' ⟨q1, q2, q3, e1, e2, e3, e4⟩ ih
    subst q1
    unfold yl171_27
    by_cases hx : x2 < x1
    · rw [if_pos hx]
      generalize hN2 : (1000000 : Nat) = N2
      refine xl3_rule (F := yl171_34 B r) (fun y1 y2 y3 m2 => y1 = x1 ∧ y2 = x2 ∧ (0 ≤ y3 ∧ y3 ≤ D) ∧ (∀ a, (a < 376 ∨ 392 < a) → m2 a = m' a) ∧ (∀ a x, 376 ≤ a → a ≤ 392 → x < b + x2 → m2 a x = m' a x) ∧ ∀ d, 0 ≤ d → d < y3 → xR m2 (376 + d) (b + x2) = xR m 417 d) (fun _ _ y3 _ => (D - y3).toNat) ?_ N2 x1 x2 0 m' ⟨rfl, rfl, ⟨by omega, hD.1⟩, fun a _ => rfl, fun a x _ _ _ => rfl, fun d d0 d1 => absurd d1 (Int.not_lt.mpr d0)⟩ (by omega)
      intro r2 y1 y2 y3 m2 ⟨p1, p2, p3, f1, f2, f3⟩ ih2
      subst p1 p2
      have s3 : xR m2 3 = xR m 3 := by rw [xR_cg (f1 3 (by omega)), xR_cg (e1 3 (by omega) (by omega))]
      have s5 : xR m2 373 5 = b + y2 := by rw [xR_cg (f1 373 (by omega))]; exact e2
      unfold yl171_34
      rw [s3, h31]
      by_cases hy : y3 < D
      · obtain ⟨g1, g2, g3, g4⟩ := rw_p B (r := 373) (W := 8) (cap := 8192) (Or.inl ⟨rfl, rfl, rfl⟩) p3.1 (show y3 < 8 by omega)
        have g3' : xw_obb 16 (376 + y3) = true := g3
        have g4' : xw_le B (376 + y3) = 8192 := g4
        rw [if_pos hy, if_pos ⟨p3.1, by omega⟩, s5, g4', if_pos ⟨by omega, by omega⟩, if_pos g3', w32_id (by omega) (by omega)]
        refine ih2 _ _ _ _ ⟨rfl, rfl, ⟨by omega, by omega⟩, fun a ha => by rw [xu_c (by omega)]; exact f1 a ha, fun a x a0 a1 hx => by rw [xu_ne (by omega)]; exact f2 a x a0 a1 hx, fun d d0 d1 => ?_⟩ (by omega)
        rw [xR_u]
        by_cases ed : d = y3
        · rw [if_pos ⟨by omega, rfl⟩, w32_xR, ed, xR_cg (f1 417 (by omega)), xR_cg (e1 417 (by omega) (by omega))]
        · rw [if_neg (by omega)]; exact f3 d d0 (by omega)
      · rw [if_neg hy]
        have ey : y3 = D := by omega
        subst ey
        generalize hN3 : (1000000 : Nat) = N3
        refine xl3_rule (F := yl171_76 B r) (fun z1 z2 z3 m3 => z1 = y1 ∧ z2 = y2 ∧ (0 ≤ z3 ∧ z3 ≤ M) ∧ (∀ a, (a < 376 ∨ 392 < a) → m3 a = m' a) ∧ (∀ a x, 376 ≤ a → a ≤ 392 → x < b + y2 → m3 a x = m' a x) ∧ (∀ d, 0 ≤ d → d < y3 → xR m3 (376 + d) (b + y2) = xR m 417 d) ∧ ∀ k, 0 ≤ k → k < z3 → xJ m3 (385 + k) (b + y2) = xJ m 418 k) (fun _ _ z3 _ => (M - z3).toNat) ?_ N3 y1 y2 0 m2 ⟨rfl, rfl, ⟨by omega, hM.1⟩, f1, f2, f3, fun d d0 d1 => absurd d1 (Int.not_lt.mpr d0)⟩ (by omega)
        intro r3 z1 z2 z3 m3 ⟨o1, o2, o3, t1, t2, t3, t4⟩ ih3
        subst o1 o2
        have s3 : xR m3 3 = xR m 3 := by rw [xR_cg (t1 3 (by omega)), xR_cg (e1 3 (by omega) (by omega))]
        have s5 : xR m3 373 5 = b + z2 := by rw [xR_cg (t1 373 (by omega))]; exact e2
        unfold yl171_76
        rw [s3, h32]
        by_cases hz : z3 < M
        · obtain ⟨g1, g2, g3, g4⟩ := rw_a B (r := 373) (W := 8) (cap := 8192) (Or.inl ⟨rfl, rfl, rfl⟩) o3.1 (show z3 < 8 by omega)
          have g3' : xw_obb 17 (385 + z3) = true := g3
          have g4' : xw_le B (385 + z3) = 8192 := g4
          rw [if_pos hz, if_pos ⟨o3.1, by omega⟩, s5, g4', if_pos ⟨by omega, by omega⟩, if_pos g3', w32_id (by omega) (by omega)]
          refine ih3 _ _ _ _ ⟨rfl, rfl, ⟨by omega, by omega⟩, fun a ha => by rw [xu_c (by omega)]; exact t1 a ha, fun a x a0 a1 hx => by rw [xu_ne (by omega)]; exact t2 a x a0 a1 hx, fun d d0 d1 => by rw [xR_ne (by omega)]; exact t3 d d0 d1, fun d d0 d1 => ?_⟩ (by omega)
          rw [xJ_u]
          by_cases ed : d = z3
          · rw [if_pos ⟨by omega, rfl⟩, w64_xJ, ed, xJ_cg (t1 418 (by omega)), xJ_cg (e1 418 (by omega) (by omega))]
          · rw [if_neg (by omega)]; exact t4 d d0 (by omega)
        · rw [if_neg hz, s5, w32_id (by omega) (by omega)]
          have ez : z3 = M := by omega
          subst ez
          refine ih _ _ _ ⟨rfl, by omega, by omega, fun a a1 a2 => by rw [xu_c a1, t1 a a2]; exact e1 a a1 a2, by rw [xR_at (w32_id (by omega) (by omega))]; omega, fun a x a0 a1 hx => by rw [xu_c (by omega), t2 a x a0 a1 (by omega)]; exact e3 a x a0 a1 hx, fun x x0 x1 => ?_⟩ (by omega)
          by_cases ex : x = z2
          · rw [ex]
            exact ⟨fun d d0 d1 => by rw [xR_ne (by omega)]; exact t3 d d0 d1, fun k k0 k1 => by rw [xJ_ne (by omega)]; exact t4 k k0 k1⟩
          · refine ⟨fun d d0 d1 => ?_, fun k k0 k1 => ?_⟩
            · rw [xR_ne (by omega), xR_fld (t2 (376 + d) (b + x) (by omega) (by omega) (by omega))]; exact (e4 x x0 (by omega)).1 d d0 d1
            · rw [xJ_ne (by omega), xJ_fld (t2 (385 + k) (b + x) (by omega) (by omega) (by omega))]; exact (e4 x x0 (by omega)).2 k k0 k1
    · rw [if_neg hx, xH_ret]
      have ex : x2 = x1 := by omega
      subst ex
      refine ⟨m', by rw [xR_cg (e1 0 (by omega) (by omega))], e2, e1, e2, e3, e4⟩
theorem stage_rf {n b f D M : Int} (hD : 0 ≤ D ∧ D ≤ 8) (hM : 0 ≤ M ∧ M ≤ 8) (h1 : xR m 536 1 = 0) (h31 : xR m 536 31 = f) (h32 : xR m 536 32 = b) (f0 : 0 ≤ f) (b0 : 0 ≤ b) (n0 : 0 ≤ n) (n1 : n ≤ 1000) (fb : f + b + n ≤ 20000) (h33 : 0 ≤ xR m 536 33 ∧ xR m 536 33 + n ≤ 20000) : ∃ m1, xl2 (yl318_35 B) 1000000 n 0 m = some (.inl (b + n), m1) ∧ rst m m1 D M f b n (fun _ d => xR m 577 d) (fun _ k => xJ m 578 k) := by
  generalize hN : (1000000 : Nat) = N
  have goal := xH_ex (Q := fun v m' => v = b + n ∧ rst m m' D M f b n (fun _ d => xR m 577 d) (fun _ k => xJ m 578 k)) (xl2_rule (F := yl318_35 B) (fun x1 x2 m' => x1 = n ∧ 0 ≤ x2 ∧ x2 ≤ n ∧ rst m m' D M f b x2 (fun _ d => xR m 577 d) (fun _ k => xJ m 578 k)) (fun _ x2 _ => (n - x2).toNat) ?_ N n 0 m ⟨rfl, by omega, n0, fun a _ _ _ => rfl, fun k _ _ => rfl, by omega, by omega, fun i _ => ⟨rfl, rfl⟩, fun x x0 x1 => absurd x1 (Int.not_lt.mpr x0)⟩ (by omega))
  · obtain ⟨v, m', e, rfl, h⟩ := goal
    exact ⟨m', e, h⟩
  · intro r x1 x2 m' ⟨q1, q2, q3, e1, e2, e3, e4, e5, e6⟩ ih
    subst q1
    have fin : yk318_137 B m' = some (.inl (b + x2), m') := by
      unfold yk318_137
      rw [xR_fld (e2 1 (by omega) (by omega)), h1, if_neg (by omega), e3]
    unfold yl318_35
    by_cases hx : x2 < x1
    · rw [if_pos hx, xR_fld (e2 1 (by omega) (by omega)), if_pos h1]
      generalize hN2 : (1000000 : Nat) = N2
      refine xl3_rule (F := yl318_49 B r) (fun y1 y2 y3 m2 => y1 = x1 ∧ y2 = x2 ∧ (0 ≤ y3 ∧ y3 ≤ 8) ∧ (∀ a, a ≠ 575 → a ≠ 576 → m2 a = m' a) ∧ (∀ i, i < 8 * (f + (b + x2)) → m2 575 i = m' 575 i ∧ m2 576 i = m' 576 i) ∧ ∀ d, 0 ≤ d → d < y3 → xR m2 575 (8 * (f + (b + x2)) + d) = xR m 577 d ∧ xJ m2 576 (8 * (f + (b + x2)) + d) = xJ m 578 d) (fun _ _ y3 _ => (8 - y3).toNat) ?_ N2 x1 x2 0 m' ⟨rfl, rfl, ⟨by omega, by omega⟩, fun a _ _ => rfl, fun i _ => ⟨rfl, rfl⟩, fun d d0 d1 => absurd d1 (Int.not_lt.mpr d0)⟩ (by omega)
      intro r2 y1 y2 y3 m2 ⟨p1, p2, p3, f1, f2, f3⟩ ih2
      subst p1 p2
      have s31 : xR m2 536 31 = f := by rw [xR_cg (f1 536 (by omega) (by omega)), xR_fld (e2 31 (by omega) (by omega))]; exact h31
      have s32 : xR m2 536 32 = b + y2 := by rw [xR_cg (f1 536 (by omega) (by omega))]; exact e3
      have s33 : xR m2 536 33 = xR m 536 33 + y2 := by rw [xR_cg (f1 536 (by omega) (by omega))]; exact e4
      unfold yl318_49
      rw [s31, s32, s33]
      by_cases hy : y3 < 8
      · rw [if_pos hy, if_pos ⟨p3.1, hy⟩, if_pos ⟨by omega, by omega⟩, w32_id (by omega) (by omega)]
        refine ih2 _ _ _ _ ⟨rfl, rfl, ⟨by omega, by omega⟩, fun a a1 a2 => by rw [xu_c a2, xu_c a1]; exact f1 a a1 a2, fun i hi => ?_, fun d d0 d1 => ?_⟩ (by omega)
        · rw [xu_ne (by omega), xu_ne (by omega), xu_ne (by omega), xu_c (by omega)]; exact f2 i hi
        · rw [xR_cg (xu_c (by omega)), xR_u, xJ_u]
          by_cases ed : d = y3
          · rw [if_pos ⟨rfl, by omega⟩, if_pos ⟨rfl, by omega⟩, w32_xR, w64_xJ, ed, xR_cg (f1 577 (by omega) (by omega)), xJ_cg (f1 578 (by omega) (by omega)), xR_cg (e1 577 (by omega) (by omega) (by omega)), xJ_cg (e1 578 (by omega) (by omega) (by omega))]
            exact ⟨rfl, rfl⟩
          · rw [if_neg (by omega), if_neg (by omega), xJ_cg (xu_c (by omega))]; exact f3 d d0 (by omega)
      · rw [if_neg hy, w32_id (by omega) (by omega)]
        have s33' : xR m2 536 33 = xR m 536 33 + y2 := s33
        refine ih _ _ _ ⟨rfl, by omega, by omega, fun a a1 a2 a3 => by rw [xu_c a1, xu_c a1, f1 a a2 a3]; exact e1 a a1 a2 a3, fun k k1 k2 => by rw [xu_ne (by omega), xu_ne (by omega), f1 536 (by omega) (by omega)]; exact e2 k k1 k2, by rw [xR_ne (by omega), xR_at (w32_id (by omega) (by omega))]; omega, ?_, fun i hi => ?_, fun x x0 x1 => ?_⟩ (by omega)
        · first
            | rw [xR_at (w32_id (by omega) (by omega))]; omega
            | rw [xR_at (by rw [xR_ne (by omega), s33']; exact w32_id (by omega) (by omega)), xR_ne (by omega), s33']; omega
        · rw [xu_c (by omega), xu_c (by omega), xu_c (by omega), xu_c (by omega), (f2 i (by omega)).1, (f2 i (by omega)).2]; exact e5 i hi
        · rw [xR_cg (xu_c (by omega)), xR_cg (xu_c (by omega)), xJ_cg (xu_c (by omega)), xJ_cg (xu_c (by omega))]
          by_cases ex : x = y2
          · rw [ex]
            exact ⟨fun d d0 d1 => (f3 d d0 (by omega)).1, fun k k0 k1 => (f3 k k0 (by omega)).2⟩
          · refine ⟨fun d d0 d1 => ?_, fun k k0 k1 => ?_⟩
            · rw [xR_fld (f2 _ (by omega)).1]; exact (e6 x x0 (by omega)).1 d d0 d1
            · rw [xJ_fld (f2 _ (by omega)).2]; exact (e6 x x0 (by omega)).2 k k0 k1
    · rw [if_neg hx, fin, xH_ret]
      have ex : x2 = x1 := by omega
      subst ex
      exact ⟨rfl, e1, e2, e3, e4, e5, e6⟩
end STG
