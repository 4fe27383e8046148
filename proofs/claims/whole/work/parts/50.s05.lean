/-! the machine does what the functions say, 5 -/
theorem ysl174_112 {B : Nat} (hB : B ≤ 512) {xs : Nat → Int32} {SL d : Nat} {r31 : Int → Int → Int → xw_M → xP} (hr31 : ∀ x1 x4 x6 m, w32 x1 = x1 → w64 x4 = x4 → w32 x6 = x6 → xS B xs SL (d + 3) 174 (8, (some .int), [], 1) 1 31 [(0, xa 0), (1, xi x1), (4, xj x4), (6, xi x6)] [] m (r31 x1 x4 x6 m)) {r112 : Int → Int → Int → Int → xw_M → xP} (hr112 : ∀ x1 x4 x6 x7 m, w32 x1 = x1 → w64 x4 = x4 → w32 x6 = x6 → w32 x7 = x7 → xS B xs SL (d + 3) 174 (8, (some .int), [], 1) 1 112 [(0, xa 0), (1, xi x1), (4, xj x4), (6, xi x6), (7, xi x7)] [] m (r112 x1 x4 x6 x7 m)) : ∀ x1 x4 x6 x7 m, w32 x1 = x1 → w64 x4 = x4 → w32 x6 = x6 → w32 x7 = x7 → xS B xs SL (d + 3) 174 (8, (some .int), [], 1) 1 112 [(0, xa 0), (1, xi x1), (4, xj x4), (6, xi x6), (7, xi x7)] [] m (yl174_112 B r31 r112 x1 x4 x6 x7 m) := by
  intro x1 x4 x6 x7 m c1 c4 c6 c7
  unfold yl174_112
  refine xS_of (pc' := 121) (L' := [(0, xa 0), (1, xi x1), (4, xj x4), (6, xi x6), (7, xi x7)]) (st' := [xi (xR m 3 2), xi x7]) (m' := m) (fun ex ns r q => ?_) ?_
  · refine xw_iload rfl rfl ?_
    refine xw_aload_n rfl rfl rfl ?_
    refine xw_gfR (n := 3) (e := 3) rfl (xw_obd (by decide +kernel)) (by decide +kernel) (by decide +kernel) rfl ?_
    refine xw_gfIc (v := (m 3 2)) (v' := (xR m 3 2)) rfl (xw_obd (by decide +kernel)) xk2_2 (qi := 2) rfl rfl rfl ?_
    exact q
  refine xS_if (fun h0 => ?_) (fun h0 => ?_)
  · refine xS_g (fun g1 => ?_)
    refine xS_g (fun g2 => ?_)
    refine xS_g (fun g3 => ?_)
    refine xS_g (fun g4 => ?_)
    refine xS_of (pc' := 112) (L' := [(0, xa 0), (1, xi x1), (4, xj (w64 ((x4 * 6364136223846793005) + 1442695040888963407))), (6, xi x6), (7, xi (w32 (x7 + 1)))]) (st' := []) (m' := (xw_u m (385 + x7) (xR m 373 5) (xw_lshrf (w64 ((x4 * 6364136223846793005) + 1442695040888963407)) (8 * (x7 % 8))))) (fun ex ns r q => ?_) ?_
    · refine xw_ic_geF rfl (w32_cg c7) (w32_cg (w32_xR _ _ _)) (Int.not_le.mpr h0) ?_
      refine xw_lload rfl rfl ?_
      refine xw_ldc2 (e := 6364136223846793005) rfl (by decide +kernel) ?_
      refine xw_lmul rfl ?_
      refine xw_ldc2 (e := 1442695040888963407) rfl (by decide +kernel) ?_
      refine xw_ladd rfl ?_
      refine xw_cst (st' := [xj (w64 ((x4 * 6364136223846793005) + 1442695040888963407))]) (xw_sc (xj_c rfl) rfl) ?_
      refine xw_lstore (L' := [(4, xj (w64 ((x4 * 6364136223846793005) + 1442695040888963407))), (0, xa 0), (1, xi x1), (6, xi x6), (7, xi x7)]) rfl (by decide) rfl ?_
      refine xw_aload_n rfl rfl rfl ?_
      refine xw_gfR (n := 373) (e := 373) rfl (xw_obd (by decide +kernel)) (by decide +kernel) (by decide +kernel) rfl ?_
      refine xw_gfR (n := 384) (e := 384) rfl (xw_obd (by decide +kernel)) (by decide +kernel) (by decide +kernel) rfl ?_
      refine xw_iload rfl rfl ?_
      refine xw_aald (t := 21) (n := 8) (q := 385 + 1 * (x7).toNat) (e := (385 + x7)) rfl hB (xw_obd (by decide +kernel)) (by decide) rfl g1 (show 390 + 1 * (x7 : Int).toNat = 385 + 1 * (x7 : Int).toNat + 5 from by omega) (by have := g1; omega) ?_
      refine xw_aload_n rfl rfl rfl ?_
      refine xw_gfR (n := 373) (e := 373) rfl (xw_obd (by decide +kernel)) (by decide +kernel) (by decide +kernel) rfl ?_
      refine xw_gfIc (v := (m 373 5)) (v' := (xR m 373 5)) rfl (xw_obd (by decide +kernel)) xk8_5 (qi := 5) rfl rfl rfl ?_
      refine xw_lload rfl rfl ?_
      refine xw_bipush (e := 8) rfl (by decide +kernel) ?_
      refine xw_iload rfl rfl ?_
      refine xw_bipush (e := 8) rfl (by decide +kernel) ?_
      refine xw_irem (z := (x7 % 8)) rfl (xw_iremn ⟨(by decide), (w32_cg rfl).2⟩) (xw_ireme ⟨g2, (w32_cg c7).2⟩ ⟨(by decide), (w32_cg rfl).2⟩) ?_
      refine xw_imul rfl ?_
      refine xw_lshr (z := (xw_lshrf (w64 ((x4 * 6364136223846793005) + 1442695040888963407)) (8 * (x7 % 8)))) rfl (xw_lshre _ _) ?_
      refine xw_last (n := (xw_le B (385 + x7))) rfl hB (xw_obd g4) rfl g3 ?_
      refine xw_iincc (z := (w32 (x7 + 1))) (L' := [(7, xi (w32 (x7 + 1))), (4, xj (w64 ((x4 * 6364136223846793005) + 1442695040888963407))), (0, xa 0), (1, xi x1), (6, xi x6)]) rfl rfl (by decide) rfl rfl ?_
      refine xw_goto rfl ?_
      refine xw_lo (L2 := [(0, xa 0), (1, xi x1), (4, xj (w64 ((x4 * 6364136223846793005) + 1442695040888963407))), (6, xi x6), (7, xi (w32 (x7 + 1)))]) (List.forall_mem_cons.mpr ⟨rfl, List.forall_mem_cons.mpr ⟨rfl, List.forall_mem_cons.mpr ⟨rfl, List.forall_mem_cons.mpr ⟨rfl, List.forall_mem_cons.mpr ⟨rfl, fun _ h => absurd h List.not_mem_nil⟩⟩⟩⟩⟩) ?_
      exact q
    exact hr112 _ _ _ _ _ c1 (w64_w _) c6 (w32_w _)
  · refine xS_of (pc' := 31) (L' := [(0, xa 0), (1, xi x1), (4, xj x4), (6, xi (w32 (x6 + 1)))]) (st' := []) (m' := (xw_u m 373 5 ((xR m 373 5) + 1))) (fun ex ns r q => ?_) ?_
    · refine xw_ic_geT rfl (w32_cg c7) (w32_cg (w32_xR _ _ _)) (Int.not_lt.mp h0) ?_
      refine xw_aload_n rfl rfl rfl ?_
      refine xw_gfR (n := 373) (e := 373) rfl (xw_obd (by decide +kernel)) (by decide +kernel) (by decide +kernel) rfl ?_
      refine xw_dup rfl rfl ?_
      refine xw_gfIc (v := (m 373 5)) (v' := (xR m 373 5)) rfl (xw_obd (by decide +kernel)) xk8_5 (qi := 5) rfl rfl rfl ?_
      refine xw_iconst rfl ?_
      refine xw_iadd rfl ?_
      refine xw_pfI rfl (xw_obd (by decide +kernel)) xk8_5 (qi := 5) rfl (xw_okI rfl) ?_
      refine xw_iincc (z := (w32 (x6 + 1))) (L' := [(6, xi (w32 (x6 + 1))), (0, xa 0), (1, xi x1), (4, xj x4), (7, xi x7)]) rfl rfl (by decide) rfl rfl ?_
      refine xw_goto rfl ?_
      refine xw_lo (L2 := [(0, xa 0), (1, xi x1), (4, xj x4), (6, xi (w32 (x6 + 1)))]) (List.forall_mem_cons.mpr ⟨rfl, List.forall_mem_cons.mpr ⟨rfl, List.forall_mem_cons.mpr ⟨rfl, List.forall_mem_cons.mpr ⟨rfl, fun _ h => absurd h List.not_mem_nil⟩⟩⟩⟩) ?_
      exact q
    exact hr31 _ _ _ _ c1 c4 (w32_w _)
theorem ygl174_112 {B : Nat} (hB : B ≤ 512) {xs : Nat → Int32} {SL d : Nat} {r31 : Int → Int → Int → xw_M → xP} (hr31 : ∀ x1 x4 x6 m, w32 x1 = x1 → w64 x4 = x4 → w32 x6 = x6 → xS B xs SL (d + 3) 174 (8, (some .int), [], 1) 1 31 [(0, xa 0), (1, xi x1), (4, xj x4), (6, xi x6)] [] m (r31 x1 x4 x6 m)) : ∀ n x1 x4 x6 x7 m, w32 x1 = x1 → w64 x4 = x4 → w32 x6 = x6 → w32 x7 = x7 → xS B xs SL (d + 3) 174 (8, (some .int), [], 1) 1 112 [(0, xa 0), (1, xi x1), (4, xj x4), (6, xi x6), (7, xi x7)] [] m (xl4 (yl174_112 B r31) n x1 x4 x6 x7 m) := by
  intro n
  induction n with
  | zero => intro x1 x4 x6 x7 m c1 c4 c6 c7; exact xS_none
  | succ n ih => exact ysl174_112 hB hr31 ih
theorem ysl174_40 {B : Nat} (hB : B ≤ 512) {xs : Nat → Int32} {SL d : Nat} {r31 : Int → Int → Int → xw_M → xP} (hr31 : ∀ x1 x4 x6 m, w32 x1 = x1 → w64 x4 = x4 → w32 x6 = x6 → xS B xs SL (d + 3) 174 (8, (some .int), [], 1) 1 31 [(0, xa 0), (1, xi x1), (4, xj x4), (6, xi x6)] [] m (r31 x1 x4 x6 m)) {r40 : Int → Int → Int → Int → xw_M → xP} (hr40 : ∀ x1 x4 x6 x7 m, w32 x1 = x1 → w64 x4 = x4 → w32 x6 = x6 → w32 x7 = x7 → xS B xs SL (d + 3) 174 (8, (some .int), [], 1) 1 40 [(0, xa 0), (1, xi x1), (4, xj x4), (6, xi x6), (7, xi x7)] [] m (r40 x1 x4 x6 x7 m)) : ∀ x1 x4 x6 x7 m, w32 x1 = x1 → w64 x4 = x4 → w32 x6 = x6 → w32 x7 = x7 → xS B xs SL (d + 3) 174 (8, (some .int), [], 1) 1 40 [(0, xa 0), (1, xi x1), (4, xj x4), (6, xi x6), (7, xi x7)] [] m (yl174_40 B r31 r40 x1 x4 x6 x7 m) := by
  intro x1 x4 x6 x7 m c1 c4 c6 c7
  unfold yl174_40
  refine xS_of (pc' := 49) (L' := [(0, xa 0), (1, xi x1), (4, xj x4), (6, xi x6), (7, xi x7)]) (st' := [xi (xR m 3 1), xi x7]) (m' := m) (fun ex ns r q => ?_) ?_
  · refine xw_iload rfl rfl ?_
    refine xw_aload_n rfl rfl rfl ?_
    refine xw_gfR (n := 3) (e := 3) rfl (xw_obd (by decide +kernel)) (by decide +kernel) (by decide +kernel) rfl ?_
    refine xw_gfIc (v := (m 3 1)) (v' := (xR m 3 1)) rfl (xw_obd (by decide +kernel)) xk2_1 (qi := 1) rfl rfl rfl ?_
    exact q
  refine xS_if (fun h0 => ?_) (fun h0 => ?_)
  · refine xS_g (fun g1 => ?_)
    refine xS_g (fun g2 => ?_)
    refine xS_g (fun g3 => ?_)
    refine xS_g (fun g4 => ?_)
    refine xS_g (fun g5 => ?_)
    refine xS_g (fun g6 => ?_)
    refine xS_of (pc' := 40) (L' := [(0, xa 0), (1, xi x1), (4, xj (w64 ((x4 * 6364136223846793005) + 1442695040888963407))), (6, xi x6), (7, xi (w32 (x7 + 1)))]) (st' := []) (m' := (xw_u m (376 + x7) (xR m 373 5) ((xw_lushrf (w64 ((x4 * 6364136223846793005) + 1442695040888963407)) 33) % (xR m (15 + (26 * x7)) 11)))) (fun ex ns r q => ?_) ?_
    · refine xw_ic_geF rfl (w32_cg c7) (w32_cg (w32_xR _ _ _)) (Int.not_le.mpr h0) ?_
      refine xw_lload rfl rfl ?_
      refine xw_ldc2 (e := 6364136223846793005) rfl (by decide +kernel) ?_
      refine xw_lmul rfl ?_
      refine xw_ldc2 (e := 1442695040888963407) rfl (by decide +kernel) ?_
      refine xw_ladd rfl ?_
      refine xw_cst (st' := [xj (w64 ((x4 * 6364136223846793005) + 1442695040888963407))]) (xw_sc (xj_c rfl) rfl) ?_
      refine xw_lstore (L' := [(4, xj (w64 ((x4 * 6364136223846793005) + 1442695040888963407))), (0, xa 0), (1, xi x1), (6, xi x6), (7, xi x7)]) rfl (by decide) rfl ?_
      refine xw_aload_n rfl rfl rfl ?_
      refine xw_gfR (n := 373) (e := 373) rfl (xw_obd (by decide +kernel)) (by decide +kernel) (by decide +kernel) rfl ?_
      refine xw_gfR (n := 375) (e := 375) rfl (xw_obd (by decide +kernel)) (by decide +kernel) (by decide +kernel) rfl ?_
      refine xw_iload rfl rfl ?_
      refine xw_aald (t := 20) (n := 8) (q := 376 + 1 * (x7).toNat) (e := (376 + x7)) rfl hB (xw_obd (by decide +kernel)) (by decide) rfl g1 (show 381 + 1 * (x7 : Int).toNat = 376 + 1 * (x7 : Int).toNat + 5 from by omega) (by have := g1; omega) ?_
      refine xw_aload_n rfl rfl rfl ?_
      refine xw_gfR (n := 373) (e := 373) rfl (xw_obd (by decide +kernel)) (by decide +kernel) (by decide +kernel) rfl ?_
      refine xw_gfIc (v := (m 373 5)) (v' := (xR m 373 5)) rfl (xw_obd (by decide +kernel)) xk8_5 (qi := 5) rfl rfl rfl ?_
      refine xw_lload rfl rfl ?_
      refine xw_bipush (e := 33) rfl (by decide +kernel) ?_
      refine xw_lushr (z := (xw_lushrf (w64 ((x4 * 6364136223846793005) + 1442695040888963407)) 33)) rfl (xw_lushre _ _) ?_
      refine xw_aload_n rfl rfl rfl ?_
      refine xw_gfR (n := 3) (e := 3) rfl (xw_obd (by decide +kernel)) (by decide +kernel) (by decide +kernel) rfl ?_
      refine xw_gfR (n := 4) (e := 4) rfl (xw_obd (by decide +kernel)) (by decide +kernel) (by decide +kernel) rfl ?_
      refine xw_iload rfl rfl ?_
      refine xw_aald (t := 23) (n := 8) (q := 15 + 26 * (x7).toNat) (e := (15 + (26 * x7))) rfl hB (xw_obd (by decide +kernel)) (by decide) rfl g1 (show 20 + 26 * (x7 : Int).toNat = 15 + 26 * (x7 : Int).toNat + 5 from by omega) (by have := g1; omega) ?_
      refine xw_gfIc (v := (m (15 + (26 * x7)) 11)) (v' := (xR m (15 + (26 * x7)) 11)) rfl (xw_obd g2) xk3_11 (qi := 11) rfl rfl rfl ?_
      refine xw_i2l rfl (w32_cg (w32_xR _ _ _)) ?_
      refine xw_lrem (z := ((xw_lushrf (w64 ((x4 * 6364136223846793005) + 1442695040888963407)) 33) % (xR m (15 + (26 * x7)) 11))) rfl (xw_lremn ⟨g4, (w64_cg (w64_32 (w32_xR _ _ _))).2⟩) (xw_lreme ⟨g3, (w64_cg (w64_ti _)).2⟩ ⟨g4, (w64_cg (w64_32 (w32_xR _ _ _))).2⟩) ?_
      refine xw_l2i rfl ?_
      refine xw_iast (n := (xw_le B (376 + x7))) rfl hB (xw_obd g6) rfl g5 ?_
      refine xw_iincc (z := (w32 (x7 + 1))) (L' := [(7, xi (w32 (x7 + 1))), (4, xj (w64 ((x4 * 6364136223846793005) + 1442695040888963407))), (0, xa 0), (1, xi x1), (6, xi x6)]) rfl rfl (by decide) rfl rfl ?_
      refine xw_goto rfl ?_
      refine xw_lo (L2 := [(0, xa 0), (1, xi x1), (4, xj (w64 ((x4 * 6364136223846793005) + 1442695040888963407))), (6, xi x6), (7, xi (w32 (x7 + 1)))]) (List.forall_mem_cons.mpr ⟨rfl, List.forall_mem_cons.mpr ⟨rfl, List.forall_mem_cons.mpr ⟨rfl, List.forall_mem_cons.mpr ⟨rfl, List.forall_mem_cons.mpr ⟨rfl, fun _ h => absurd h List.not_mem_nil⟩⟩⟩⟩⟩) ?_
      exact q
    exact hr40 _ _ _ _ _ c1 (w64_w _) c6 (w32_w _)
  · refine xS_of (pc' := 112) (L' := [(0, xa 0), (1, xi x1), (4, xj x4), (6, xi x6), (7, xi 0)]) (st' := []) (m' := m) (fun ex ns r q => ?_) ?_
    · refine xw_ic_geT rfl (w32_cg c7) (w32_cg (w32_xR _ _ _)) (Int.not_lt.mp h0) ?_
      refine xw_iconst rfl ?_
      refine xw_istore (L' := [(7, xi 0), (0, xa 0), (1, xi x1), (4, xj x4), (6, xi x6)]) rfl (by decide) rfl ?_
      refine xw_lo (L2 := [(0, xa 0), (1, xi x1), (4, xj x4), (6, xi x6), (7, xi 0)]) (List.forall_mem_cons.mpr ⟨rfl, List.forall_mem_cons.mpr ⟨rfl, List.forall_mem_cons.mpr ⟨rfl, List.forall_mem_cons.mpr ⟨rfl, List.forall_mem_cons.mpr ⟨rfl, fun _ h => absurd h List.not_mem_nil⟩⟩⟩⟩⟩) ?_
      exact q
    exact ygl174_112 hB hr31 1000000 _ _ _ _ _ c1 c4 c6 rfl
theorem ygl174_40 {B : Nat} (hB : B ≤ 512) {xs : Nat → Int32} {SL d : Nat} {r31 : Int → Int → Int → xw_M → xP} (hr31 : ∀ x1 x4 x6 m, w32 x1 = x1 → w64 x4 = x4 → w32 x6 = x6 → xS B xs SL (d + 3) 174 (8, (some .int), [], 1) 1 31 [(0, xa 0), (1, xi x1), (4, xj x4), (6, xi x6)] [] m (r31 x1 x4 x6 m)) : ∀ n x1 x4 x6 x7 m, w32 x1 = x1 → w64 x4 = x4 → w32 x6 = x6 → w32 x7 = x7 → xS B xs SL (d + 3) 174 (8, (some .int), [], 1) 1 40 [(0, xa 0), (1, xi x1), (4, xj x4), (6, xi x6), (7, xi x7)] [] m (xl4 (yl174_40 B r31) n x1 x4 x6 x7 m) := by
  intro n
  induction n with
  | zero => intro x1 x4 x6 x7 m c1 c4 c6 c7; exact xS_none
  | succ n ih => exact ysl174_40 hB hr31 ih
theorem ysl174_31 {B : Nat} (hB : B ≤ 512) {xs : Nat → Int32} {SL d : Nat} {r31 : Int → Int → Int → xw_M → xP} (hr31 : ∀ x1 x4 x6 m, w32 x1 = x1 → w64 x4 = x4 → w32 x6 = x6 → xS B xs SL (d + 3) 174 (8, (some .int), [], 1) 1 31 [(0, xa 0), (1, xi x1), (4, xj x4), (6, xi x6)] [] m (r31 x1 x4 x6 m)) : ∀ x1 x4 x6 m, w32 x1 = x1 → w64 x4 = x4 → w32 x6 = x6 → xS B xs SL (d + 3) 174 (8, (some .int), [], 1) 1 31 [(0, xa 0), (1, xi x1), (4, xj x4), (6, xi x6)] [] m (yl174_31 B r31 x1 x4 x6 m) := by
  intro x1 x4 x6 m c1 c4 c6
  unfold yl174_31
  refine xS_of (pc' := 34) (L' := [(0, xa 0), (1, xi x1), (4, xj x4), (6, xi x6)]) (st' := [xi x1, xi x6]) (m' := m) (fun ex ns r q => ?_) ?_
  · refine xw_iload rfl rfl ?_
    refine xw_iload_n rfl rfl ?_
    exact q
  refine xS_if (fun h0 => ?_) (fun h0 => ?_)
  · refine xS_of (pc' := 40) (L' := [(0, xa 0), (1, xi x1), (4, xj x4), (6, xi x6), (7, xi 0)]) (st' := []) (m' := m) (fun ex ns r q => ?_) ?_
    · refine xw_ic_geF rfl (w32_cg c6) (w32_cg c1) (Int.not_le.mpr h0) ?_
      refine xw_iconst rfl ?_
      refine xw_istore (L' := [(7, xi 0), (0, xa 0), (1, xi x1), (4, xj x4), (6, xi x6)]) rfl (by decide) rfl ?_
      refine xw_lo (L2 := [(0, xa 0), (1, xi x1), (4, xj x4), (6, xi x6), (7, xi 0)]) (List.forall_mem_cons.mpr ⟨rfl, List.forall_mem_cons.mpr ⟨rfl, List.forall_mem_cons.mpr ⟨rfl, List.forall_mem_cons.mpr ⟨rfl, List.forall_mem_cons.mpr ⟨rfl, fun _ h => absurd h List.not_mem_nil⟩⟩⟩⟩⟩) ?_
      exact q
    exact ygl174_40 hB hr31 1000000 _ _ _ _ _ c1 c4 c6 rfl
  · refine xS_of (pc' := 207) (L' := [(0, xa 0), (1, xi x1), (4, xj x4), (6, xi x6)]) (st' := [xi (xR m 373 5)]) (m' := (xw_u m 0 15 ((xR m 0 15) + x1))) (fun ex ns r q => ?_) ?_
    · refine xw_ic_geT rfl (w32_cg c6) (w32_cg c1) (Int.not_lt.mp h0) ?_
      refine xw_aload_n rfl rfl rfl ?_
      refine xw_dup rfl rfl ?_
      refine xw_gfIc (v := (m 0 15)) (v' := (xR m 0 15)) rfl (xw_obd (by decide +kernel)) xk0_15 (qi := 15) rfl rfl rfl ?_
      refine xw_iload_n rfl rfl ?_
      refine xw_iadd rfl ?_
      refine xw_pfI rfl (xw_obd (by decide +kernel)) xk0_15 (qi := 15) rfl (xw_okI rfl) ?_
      refine xw_aload_n rfl rfl rfl ?_
      refine xw_gfR (n := 373) (e := 373) rfl (xw_obd (by decide +kernel)) (by decide +kernel) (by decide +kernel) rfl ?_
      refine xw_gfIc (v := (m 373 5)) (v' := (xR m 373 5)) rfl (xw_obd (by decide +kernel)) xk8_5 (qi := 5) rfl (xw_un (fun e => absurd e.1 (by decide)) rfl) rfl ?_
      exact q
    exact xS_ret (v := (xR m 373 5)) rfl rfl xw_rtI (w32_xR _ _ _)
theorem ygl174_31 {B : Nat} (hB : B ≤ 512) {xs : Nat → Int32} {SL d : Nat} : ∀ n x1 x4 x6 m, w32 x1 = x1 → w64 x4 = x4 → w32 x6 = x6 → xS B xs SL (d + 3) 174 (8, (some .int), [], 1) 1 31 [(0, xa 0), (1, xi x1), (4, xj x4), (6, xi x6)] [] m (xl3 (yl174_31 B) n x1 x4 x6 m) := by
  intro n
  induction n with
  | zero => intro x1 x4 x6 m c1 c4 c6; exact xS_none
  | succ n ih => exact ysl174_31 hB ih
theorem ygk174_16 {B : Nat} (hB : B ≤ 512) {xs : Nat → Int32} {SL d : Nat} : ∀ x1 x2 m, w32 x1 = x1 → w64 x2 = x2 → xS B xs SL (d + 3) 174 (8, (some .int), [], 1) 1 16 [(0, xa 0), (1, xi x1), (2, xj x2)] [] m (yk174_16 B x1 x2 m) := by
  intro x1 x2 m c1 c2
  unfold yk174_16
  refine xS_of (pc' := 17) (L' := [(0, xa 0), (1, xi x1), (2, xj x2)]) (st' := [xi 0]) (m' := m) (fun ex ns r q => ?_) ?_
  · refine xw_iconst rfl ?_
    refine xw_lo (L2 := [(0, xa 0), (1, xi x1), (2, xj x2)]) (List.forall_mem_cons.mpr ⟨rfl, List.forall_mem_cons.mpr ⟨rfl, List.forall_mem_cons.mpr ⟨rfl, fun _ h => absurd h List.not_mem_nil⟩⟩⟩) ?_
    exact q
  refine xS_call (q := 43) (n := 1) (kq := 0) (as := [xi 0]) (st1 := []) rfl rfl rfl rfl rfl rfl rfl rfl rfl rfl (fun _ => xw_rcv0 rfl) rfl (List.forall_mem_cons.mpr ⟨rfl, fun _ h => absurd h List.not_mem_nil⟩) (ygf43 hB _ _ rfl) (fun v1 m1 cv1 => ?_)
  refine xS_of (pc' := 22) (L' := [(0, xa 0), (1, xi x1), (2, xj x2)]) (st' := [xi x1, xa 0]) (m' := m1) (fun ex ns r q => ?_) ?_
  · refine xw_aload_n rfl rfl rfl ?_
    refine xw_iload_n rfl rfl ?_
    refine xw_lo (L2 := [(0, xa 0), (1, xi x1), (2, xj x2)]) (List.forall_mem_cons.mpr ⟨rfl, List.forall_mem_cons.mpr ⟨rfl, List.forall_mem_cons.mpr ⟨rfl, fun _ h => absurd h List.not_mem_nil⟩⟩⟩) ?_
    exact q
  refine xS_call (q := 172) (n := 2) (kq := 0) (as := [xa 0, xi x1]) (st1 := []) rfl rfl rfl rfl rfl rfl rfl rfl rfl rfl (fun _ => xw_rcv1 (t := 0) (xw_obd (by decide +kernel)) rfl) rfl (List.forall_mem_cons.mpr ⟨rfl, List.forall_mem_cons.mpr ⟨rfl, fun _ h => absurd h List.not_mem_nil⟩⟩) (ygf172 hB _ _ c1) (fun v2 m2 cv2 => ?_)
  refine xS_of (pc' := 31) (L' := [(0, xa 0), (1, xi x1), (4, xj x2), (6, xi 0)]) (st' := []) (m' := m2) (fun ex ns r q => ?_) ?_
  · refine xw_lload_n rfl rfl ?_
    refine xw_lstore (L' := [(4, xj x2), (0, xa 0), (1, xi x1), (2, xj x2)]) rfl (by decide) rfl ?_
    refine xw_iconst rfl ?_
    refine xw_istore (L' := [(6, xi 0), (4, xj x2), (0, xa 0), (1, xi x1), (2, xj x2)]) rfl (by decide) rfl ?_
    refine xw_lo (L2 := [(0, xa 0), (1, xi x1), (4, xj x2), (6, xi 0)]) (List.forall_mem_cons.mpr ⟨rfl, List.forall_mem_cons.mpr ⟨rfl, List.forall_mem_cons.mpr ⟨rfl, List.forall_mem_cons.mpr ⟨rfl, fun _ h => absurd h List.not_mem_nil⟩⟩⟩⟩) ?_
    exact q
  exact ygl174_31 hB 1000000 _ _ _ _ c1 c2 rfl
theorem ygf174 {B : Nat} (hB : B ≤ 512) {xs : Nat → Int32} {SL d : Nat} : ∀ p0 p1 m, w32 p0 = p0 → w64 p1 = p1 → xS B xs SL (d + 3) 174 (8, (some .int), [], 1) 1 0 [(0, xa 0), (1, xi p0), (2, xj p1)] [] m (yf174 B p0 p1 m) := by
  intro p0 p1 m cp0 cp1
  unfold yf174
  refine xS_of (pc' := 2) (L' := [(0, xa 0), (1, xi p0), (2, xj p1)]) (st' := [xi 1, xi p0]) (m' := m) (fun ex ns r q => ?_) ?_
  · refine xw_iload_n rfl rfl ?_
    refine xw_iconst rfl ?_
    exact q
  refine xS_if (fun h0 => ?_) (fun h0 => ?_)
  · refine xS_of (pc' := 16) (L' := [(0, xa 0), (1, xi p0), (2, xj p1)]) (st' := []) (m' := m) (fun ex ns r q => ?_) ?_
    · refine xw_ic_ltT rfl (w32_cg cp0) (w32_cg rfl) h0 ?_
      refine xw_lo (L2 := [(0, xa 0), (1, xi p0), (2, xj p1)]) (List.forall_mem_cons.mpr ⟨rfl, List.forall_mem_cons.mpr ⟨rfl, List.forall_mem_cons.mpr ⟨rfl, fun _ h => absurd h List.not_mem_nil⟩⟩⟩) ?_
      exact q
    exact ygk174_16 hB _ _ _ cp0 cp1
  · refine xS_of (pc' := 9) (L' := [(0, xa 0), (1, xi p0), (2, xj p1)]) (st' := [xi 4096, xi p0]) (m' := m) (fun ex ns r q => ?_) ?_
    · refine xw_ic_ltF rfl (w32_cg cp0) (w32_cg rfl) h0 ?_
      refine xw_iload_n rfl rfl ?_
      refine xw_sipush (e := 4096) rfl (by decide +kernel) ?_
      exact q
    refine xS_if (fun h1 => ?_) (fun h1 => ?_)
    · refine xS_of (pc' := 16) (L' := [(0, xa 0), (1, xi p0), (2, xj p1)]) (st' := []) (m' := m) (fun ex ns r q => ?_) ?_
      · refine xw_ic_gtT rfl (w32_cg cp0) (w32_cg rfl) h1 ?_
        refine xw_lo (L2 := [(0, xa 0), (1, xi p0), (2, xj p1)]) (List.forall_mem_cons.mpr ⟨rfl, List.forall_mem_cons.mpr ⟨rfl, List.forall_mem_cons.mpr ⟨rfl, fun _ h => absurd h List.not_mem_nil⟩⟩⟩) ?_
        exact q
      exact ygk174_16 hB _ _ _ cp0 cp1
    · refine xS_of (pc' := 17) (L' := [(0, xa 0), (1, xi p0), (2, xj p1)]) (st' := [xi 1]) (m' := m) (fun ex ns r q => ?_) ?_
      · refine xw_ic_gtF rfl (w32_cg cp0) (w32_cg rfl) h1 ?_
        refine xw_iconst rfl ?_
        refine xw_goto rfl ?_
        refine xw_lo (L2 := [(0, xa 0), (1, xi p0), (2, xj p1)]) (List.forall_mem_cons.mpr ⟨rfl, List.forall_mem_cons.mpr ⟨rfl, List.forall_mem_cons.mpr ⟨rfl, fun _ h => absurd h List.not_mem_nil⟩⟩⟩) ?_
        exact q
      refine xS_call (q := 43) (n := 1) (kq := 0) (as := [xi 1]) (st1 := []) rfl rfl rfl rfl rfl rfl rfl rfl rfl rfl (fun _ => xw_rcv0 rfl) rfl (List.forall_mem_cons.mpr ⟨rfl, fun _ h => absurd h List.not_mem_nil⟩) (ygf43 hB _ _ rfl) (fun v1 m1 cv1 => ?_)
      refine xS_of (pc' := 22) (L' := [(0, xa 0), (1, xi p0), (2, xj p1)]) (st' := [xi p0, xa 0]) (m' := m1) (fun ex ns r q => ?_) ?_
      · refine xw_aload_n rfl rfl rfl ?_
        refine xw_iload_n rfl rfl ?_
        refine xw_lo (L2 := [(0, xa 0), (1, xi p0), (2, xj p1)]) (List.forall_mem_cons.mpr ⟨rfl, List.forall_mem_cons.mpr ⟨rfl, List.forall_mem_cons.mpr ⟨rfl, fun _ h => absurd h List.not_mem_nil⟩⟩⟩) ?_
        exact q
      refine xS_call (q := 172) (n := 2) (kq := 0) (as := [xa 0, xi p0]) (st1 := []) rfl rfl rfl rfl rfl rfl rfl rfl rfl rfl (fun _ => xw_rcv1 (t := 0) (xw_obd (by decide +kernel)) rfl) rfl (List.forall_mem_cons.mpr ⟨rfl, List.forall_mem_cons.mpr ⟨rfl, fun _ h => absurd h List.not_mem_nil⟩⟩) (ygf172 hB _ _ cp0) (fun v2 m2 cv2 => ?_)
      refine xS_of (pc' := 31) (L' := [(0, xa 0), (1, xi p0), (4, xj p1), (6, xi 0)]) (st' := []) (m' := m2) (fun ex ns r q => ?_) ?_
      · refine xw_lload_n rfl rfl ?_
        refine xw_lstore (L' := [(4, xj p1), (0, xa 0), (1, xi p0), (2, xj p1)]) rfl (by decide) rfl ?_
        refine xw_iconst rfl ?_
        refine xw_istore (L' := [(6, xi 0), (4, xj p1), (0, xa 0), (1, xi p0), (2, xj p1)]) rfl (by decide) rfl ?_
        refine xw_lo (L2 := [(0, xa 0), (1, xi p0), (4, xj p1), (6, xi 0)]) (List.forall_mem_cons.mpr ⟨rfl, List.forall_mem_cons.mpr ⟨rfl, List.forall_mem_cons.mpr ⟨rfl, List.forall_mem_cons.mpr ⟨rfl, fun _ h => absurd h List.not_mem_nil⟩⟩⟩⟩) ?_
        exact q
      exact ygl174_31 hB 1000000 _ _ _ _ cp0 cp1 rfl

theorem ygf176 {B : Nat} (hB : B ≤ 512) {xs : Nat → Int32} {SL d : Nat} : ∀ m, xS B xs SL (d + 2) 176 (2, (some .int), [], 1) 1 0 [(0, xa 0)] [] m (yf176 B m) := by
  intro m
  unfold yf176
  refine xS_of (pc' := 1) (L' := [(0, xa 0)]) (st' := [xa 0]) (m' := m) (fun ex ns r q => ?_) ?_
  · refine xw_aload_n rfl rfl rfl ?_
    refine xw_lo (L2 := [(0, xa 0)]) (List.forall_mem_cons.mpr ⟨rfl, fun _ h => absurd h List.not_mem_nil⟩) ?_
    exact q
  refine xS_call (q := 166) (n := 1) (kq := 0) (as := [xa 0]) (st1 := []) rfl rfl rfl rfl rfl rfl rfl rfl rfl rfl (fun _ => xw_rcv1 (t := 0) (xw_obd (by decide +kernel)) rfl) rfl (List.forall_mem_cons.mpr ⟨rfl, fun _ h => absurd h List.not_mem_nil⟩) (ygf166 hB _) (fun v1 m1 cv1 => ?_)
  refine xS_of (pc' := 21) (L' := [(1, xi (xR m1 373 5)), (0, xa 0)]) (st' := [xi (xR m1 373 5)]) (m' := (xw_u m1 373 5 0)) (fun ex ns r q => ?_) ?_
  · refine xw_aload_n rfl rfl rfl ?_
    refine xw_gfR (n := 373) (e := 373) rfl (xw_obd (by decide +kernel)) (by decide +kernel) (by decide +kernel) rfl ?_
    refine xw_gfIc (v := (m1 373 5)) (v' := (xR m1 373 5)) rfl (xw_obd (by decide +kernel)) xk8_5 (qi := 5) rfl rfl rfl ?_
    refine xw_istore_n (L' := [(1, xi (xR m1 373 5)), (0, xa 0)]) rfl (by decide) rfl ?_
    refine xw_aload_n rfl rfl rfl ?_
    refine xw_gfR (n := 373) (e := 373) rfl (xw_obd (by decide +kernel)) (by decide +kernel) (by decide +kernel) rfl ?_
    refine xw_iconst rfl ?_
    refine xw_pfI rfl (xw_obd (by decide +kernel)) xk8_5 (qi := 5) rfl (xw_okI rfl) ?_
    refine xw_iload_n rfl rfl ?_
    exact q
  exact xS_ret (v := (xR m1 373 5)) rfl rfl xw_rtI (w32_xR _ _ _)

theorem ysl180_14 {B : Nat} (hB : B ≤ 512) {xs : Nat → Int32} {SL d : Nat} {r14 : Int → Int → xw_M → xP} (hr14 : ∀ x1 x2 m, w32 x2 = x2 → xS B xs SL (d + 3) 180 (4, none, [], 8) 0 14 [(0, xa 302), (1, xa x1), (2, xi x2)] [] m (r14 x1 x2 m)) : ∀ x1 x2 m, w32 x2 = x2 → xS B xs SL (d + 3) 180 (4, none, [], 8) 0 14 [(0, xa 302), (1, xa x1), (2, xi x2)] [] m (yl180_14 B r14 x1 x2 m) := by
  intro x1 x2 m c2
  unfold yl180_14
  refine xS_of (pc' := 15) (L' := [(0, xa 302), (1, xa x1), (2, xi x2)]) (st' := [xi x2]) (m' := m) (fun ex ns r q => ?_) ?_
  · refine xw_iload_n rfl rfl ?_
    exact q
  refine xS_if (fun h0 => ?_) (fun h0 => ?_)
  · refine xS_of (pc' := 71) (L' := [(0, xa 302), (1, xa x1), (2, xi x2)]) (st' := []) (m' := m) (fun ex ns r q => ?_) ?_
    · refine xw_if_ltT rfl (w32_cg c2) h0 ?_
      exact q
    exact xS_ret (v := 0) rfl rfl rfl rfl
  · refine xS_g (fun g1 => ?_)
    refine xS_of (pc' := 25) (L' := [(0, xa 302), (1, xa x1), (2, xi x2)]) (st' := [xi (-1), xi (xR m 372 x2)]) (m' := m) (fun ex ns r q => ?_) ?_
    · refine xw_if_ltF rfl (w32_cg c2) h0 ?_
      refine xw_aload_n rfl rfl rfl ?_
      refine xw_gfR (n := 372) (e := 372) rfl (xw_obd (by decide +kernel)) (by decide +kernel) (by decide +kernel) rfl ?_
      refine xw_iload_n rfl rfl ?_
      refine xw_ialdc (n := 8) (v := (m 372 x2)) (v' := (xR m 372 x2)) rfl hB (xw_obd (by decide +kernel)) rfl g1 rfl rfl ?_
      refine xw_iconst rfl ?_
      exact q
    refine xS_if (fun h2 => ?_) (fun h2 => ?_)
    · refine xS_of (pc' := 14) (L' := [(0, xa 302), (1, xa x1), (2, xi (w32 (x2 + (-1))))]) (st' := []) (m' := m) (fun ex ns r q => ?_) ?_
      · refine xw_ic_eqT rfl (w32_cg (w32_xR _ _ _)) (w32_cg rfl) h2 ?_
        refine xw_iincc (z := (w32 (x2 + (-1)))) (L' := [(2, xi (w32 (x2 + (-1)))), (0, xa 302), (1, xa x1)]) rfl rfl (by decide) rfl rfl ?_
        refine xw_goto rfl ?_
        refine xw_lo (L2 := [(0, xa 302), (1, xa x1), (2, xi (w32 (x2 + (-1))))]) (List.forall_mem_cons.mpr ⟨rfl, List.forall_mem_cons.mpr ⟨rfl, List.forall_mem_cons.mpr ⟨rfl, fun _ h => absurd h List.not_mem_nil⟩⟩⟩) ?_
        exact q
      exact hr14 _ _ _ (w32_w _)
    · refine xS_g (fun g3 => ?_)
      refine xS_g (fun g4 => ?_)
      refine xS_g (fun g5 => ?_)
      refine xS_g (fun g6 => ?_)
      refine xS_g (fun g7 => ?_)
      refine xS_g (fun g8 => ?_)
      refine xS_g (fun g9 => ?_)
      refine xS_of (pc' := 62) (L' := [(0, xa 302), (1, xa x1), (2, xi x2)]) (st' := [xi (xR m (xw_rf (15 + (26 * x2)) 6) (xR m 371 x2)), xa (xw_rf (xw_rf (15 + (26 * x2)) 4) (xR m 371 x2)), xi x2, xa x1]) (m' := m) (fun ex ns r q => ?_) ?_
      · refine xw_ic_eqF rfl (w32_cg (w32_xR _ _ _)) (w32_cg rfl) h2 ?_
        refine xw_aload_n rfl rfl rfl ?_
        refine xw_gfR (n := 3) (e := 3) rfl (xw_obd (by decide +kernel)) (by decide +kernel) (by decide +kernel) rfl ?_
        refine xw_gfR (n := 4) (e := 4) rfl (xw_obd (by decide +kernel)) (by decide +kernel) (by decide +kernel) rfl ?_
        refine xw_iload_n rfl rfl ?_
        refine xw_aald (t := 23) (n := 8) (q := 15 + 26 * (x2).toNat) (e := (15 + (26 * x2))) rfl hB (xw_obd (by decide +kernel)) (by decide) rfl g1 (show 20 + 26 * (x2 : Int).toNat = 15 + 26 * (x2 : Int).toNat + 5 from by omega) (by have := g1; omega) ?_
        refine xw_astore_n (L' := [(3, xa (15 + (26 * x2))), (0, xa 302), (1, xa x1), (2, xi x2)]) rfl rfl (by decide) rfl ?_
        refine xw_aload_n rfl rfl rfl ?_
        refine xw_iload_n rfl rfl ?_
        refine xw_aload_n rfl rfl rfl ?_
        refine xw_gfV (qi := 4) rfl (xw_obd g3) xk3_4 rfl ?_
        refine xw_aload_n rfl rfl rfl ?_
        refine xw_gfR (n := 371) (e := 371) rfl (xw_obd (by decide +kernel)) (by decide +kernel) (by decide +kernel) rfl ?_
        refine xw_iload_n rfl rfl ?_
        refine xw_ialdc (n := 8) (v := (m 371 x2)) (v' := (xR m 371 x2)) rfl hB (xw_obd (by decide +kernel)) rfl g1 rfl rfl ?_
        refine xw_aald (t := 20) (n := (xw_le B (xw_rf (15 + (26 * x2)) 4))) (q := xw_kd (xw_rf (15 + (26 * x2)) 4) (xR m 371 x2) - 5) (e := (xw_rf (xw_rf (15 + (26 * x2)) 4) (xR m 371 x2))) rfl hB (xw_obd g6) (by decide) rfl g4 (by have := g5; omega) (xw_rfn g5) ?_
        refine xw_aload_n rfl rfl rfl ?_
        refine xw_gfV (qi := 6) rfl (xw_obd g3) xk3_6 rfl ?_
        refine xw_aload_n rfl rfl rfl ?_
        refine xw_gfR (n := 371) (e := 371) rfl (xw_obd (by decide +kernel)) (by decide +kernel) (by decide +kernel) rfl ?_
        refine xw_iload_n rfl rfl ?_
        refine xw_ialdc (n := 8) (v := (m 371 x2)) (v' := (xR m 371 x2)) rfl hB (xw_obd (by decide +kernel)) rfl g1 rfl rfl ?_
        refine xw_ialdc (n := (xw_le B (xw_rf (15 + (26 * x2)) 6))) (v := (m (xw_rf (15 + (26 * x2)) 6) (xR m 371 x2))) (v' := (xR m (xw_rf (15 + (26 * x2)) 6) (xR m 371 x2))) rfl hB (xw_obd g8) rfl g7 rfl rfl ?_
        refine xw_lo (L2 := [(0, xa 302), (1, xa x1), (2, xi x2)]) (List.forall_mem_cons.mpr ⟨rfl, List.forall_mem_cons.mpr ⟨rfl, List.forall_mem_cons.mpr ⟨rfl, fun _ h => absurd h List.not_mem_nil⟩⟩⟩) ?_
        exact q
      refine xS_call (q := 131) (n := 4) (kq := 0) (as := [xa x1, xi x2, xa (xw_rf (xw_rf (15 + (26 * x2)) 4) (xR m 371 x2)), xi (xR m (xw_rf (15 + (26 * x2)) 6) (xR m 371 x2))]) (st1 := []) rfl rfl rfl rfl rfl rfl rfl rfl rfl rfl (fun _ => xw_rcv1 (t := 8) (xw_obd g9) rfl) rfl (List.forall_mem_cons.mpr ⟨rfl, List.forall_mem_cons.mpr ⟨rfl, List.forall_mem_cons.mpr ⟨rfl, List.forall_mem_cons.mpr ⟨rfl, fun _ h => absurd h List.not_mem_nil⟩⟩⟩⟩) (ygf131 hB _ _ _ _ _ c2 (w32_xR _ _ _)) (fun v1 m1 cv1 => ?_)
      refine xS_of (pc' := 14) (L' := [(0, xa 302), (1, xa x1), (2, xi (w32 (x2 + (-1))))]) (st' := []) (m' := m1) (fun ex ns r q => ?_) ?_
      · refine xw_iincc (z := (w32 (x2 + (-1)))) (L' := [(2, xi (w32 (x2 + (-1)))), (0, xa 302), (1, xa x1)]) rfl rfl (by decide) rfl rfl ?_
        refine xw_goto rfl ?_
        refine xw_lo (L2 := [(0, xa 302), (1, xa x1), (2, xi (w32 (x2 + (-1))))]) (List.forall_mem_cons.mpr ⟨rfl, List.forall_mem_cons.mpr ⟨rfl, List.forall_mem_cons.mpr ⟨rfl, fun _ h => absurd h List.not_mem_nil⟩⟩⟩) ?_
        exact q
      exact hr14 _ _ _ (w32_w _)
theorem ygl180_14 {B : Nat} (hB : B ≤ 512) {xs : Nat → Int32} {SL d : Nat} : ∀ n x1 x2 m, w32 x2 = x2 → xS B xs SL (d + 3) 180 (4, none, [], 8) 0 14 [(0, xa 302), (1, xa x1), (2, xi x2)] [] m (xl2 (yl180_14 B) n x1 x2 m) := by
  intro n
  induction n with
  | zero => intro x1 x2 m c2; exact xS_none
  | succ n ih => exact ysl180_14 hB ih
theorem ygf180 {B : Nat} (hB : B ≤ 512) {xs : Nat → Int32} {SL d : Nat} : ∀ p0 m, xS B xs SL (d + 3) 180 (4, none, [], 8) 0 0 [(0, xa 302), (1, xa p0)] [] m (yf180 B p0 m) := by
  intro p0 m
  unfold yf180
  refine xS_g (fun g0 => ?_)
  refine xS_of (pc' := 1) (L' := [(0, xa 302), (1, xa p0)]) (st' := [xa p0]) (m' := m) (fun ex ns r q => ?_) ?_
  · refine xw_aload_n rfl rfl rfl ?_
    refine xw_lo (L2 := [(0, xa 302), (1, xa p0)]) (List.forall_mem_cons.mpr ⟨rfl, List.forall_mem_cons.mpr ⟨rfl, fun _ h => absurd h List.not_mem_nil⟩⟩) ?_
    exact q
  refine xS_call (q := 130) (n := 1) (kq := 0) (as := [xa p0]) (st1 := []) rfl rfl rfl rfl rfl rfl rfl rfl rfl rfl (fun _ => xw_rcv1 (t := 8) (xw_obd g0) rfl) rfl (List.forall_mem_cons.mpr ⟨rfl, fun _ h => absurd h List.not_mem_nil⟩) (ygf130 hB _ _) (fun v1 m1 cv1 => ?_)
  refine xS_of (pc' := 14) (L' := [(0, xa 302), (1, xa p0), (2, xi (w32 ((xR m1 3 1) - 1)))]) (st' := []) (m' := m1) (fun ex ns r q => ?_) ?_
  · refine xw_aload_n rfl rfl rfl ?_
    refine xw_gfR (n := 3) (e := 3) rfl (xw_obd (by decide +kernel)) (by decide +kernel) (by decide +kernel) rfl ?_
    refine xw_gfIc (v := (m1 3 1)) (v' := (xR m1 3 1)) rfl (xw_obd (by decide +kernel)) xk2_1 (qi := 1) rfl rfl rfl ?_
    refine xw_iconst rfl ?_
    refine xw_isub rfl ?_
    refine xw_cst (st' := [xi (w32 ((xR m1 3 1) - 1))]) (xw_sc (xi_c rfl) rfl) ?_
    refine xw_istore_n (L' := [(2, xi (w32 ((xR m1 3 1) - 1))), (0, xa 302), (1, xa p0)]) rfl (by decide) rfl ?_
    refine xw_lo (L2 := [(0, xa 302), (1, xa p0), (2, xi (w32 ((xR m1 3 1) - 1)))]) (List.forall_mem_cons.mpr ⟨rfl, List.forall_mem_cons.mpr ⟨rfl, List.forall_mem_cons.mpr ⟨rfl, fun _ h => absurd h List.not_mem_nil⟩⟩⟩) ?_
    exact q
  exact ygl180_14 hB 1000000 _ _ _ (w32_w _)
theorem ysl184_49 {B : Nat} (hB : B ≤ 512) {xs : Nat → Int32} {SL d : Nat} {r49 : Int → Int → Int → Int → xw_M → xP} (hr49 : ∀ x0 x1 x2 x3 m, w32 x2 = x2 → w32 x3 = x3 → xS B xs SL (d + 0) 184 (6, none, [], 12) 0 49 [(0, xa x0), (1, xa x1), (2, xi x2), (3, xi x3)] [] m (r49 x0 x1 x2 x3 m)) : ∀ x0 x1 x2 x3 m, w32 x2 = x2 → w32 x3 = x3 → xS B xs SL (d + 0) 184 (6, none, [], 12) 0 49 [(0, xa x0), (1, xa x1), (2, xi x2), (3, xi x3)] [] m (yl184_49 B r49 x0 x1 x2 x3 m) := by
  intro x0 x1 x2 x3 m c2 c3
  unfold yl184_49
  refine xS_of (pc' := 51) (L' := [(0, xa x0), (1, xa x1), (2, xi x2), (3, xi x3)]) (st' := [xi x2, xi x3]) (m' := m) (fun ex ns r q => ?_) ?_
  · refine xw_iload_n rfl rfl ?_
    refine xw_iload_n rfl rfl ?_
    exact q
  refine xS_if (fun h0 => ?_) (fun h0 => ?_)
  · refine xS_g (fun g1 => ?_)
    refine xS_g (fun g2 => ?_)
    refine xS_g (fun g3 => ?_)
    refine xS_g (fun g4 => ?_)
    refine xS_of (pc' := 122) (L' := [(4, xj (w64 ((xJ m x1 x3) - (xJ m x1 (x3 - 1))))), (0, xa x0), (1, xa x1), (2, xi x2), (3, xi x3)]) (st' := [xj 0, xj (w64 ((xJ m x1 x3) - (xJ m x1 (x3 - 1))))]) (m' := (xw_u (xw_u (xw_u (xw_u m x0 11 (min (xJ m x0 11) (xJ m x1 x3))) x0 12 (max (xJ m x0 12) (xJ m x1 x3))) x0 13 (min (xJ m x0 13) (w64 ((xJ m x1 x3) - (xJ m x1 (x3 - 1)))))) x0 14 (max (xJ m x0 14) (w64 ((xJ m x1 x3) - (xJ m x1 (x3 - 1))))))) (fun ex ns r q => ?_) ?_
    · refine xw_ic_geF rfl (w32_cg c3) (w32_cg c2) (Int.not_le.mpr h0) ?_
      refine xw_aload_n rfl rfl rfl ?_
      refine xw_iload_n rfl rfl ?_
      refine xw_laldc (n := (xw_le B x1)) (v := (m x1 x3)) (v' := (xJ m x1 x3)) rfl hB (xw_obd g2) rfl g1 rfl rfl ?_
      refine xw_aload_n rfl rfl rfl ?_
      refine xw_iload_n rfl rfl ?_
      refine xw_iconst rfl ?_
      refine xw_isub rfl ?_
      refine xw_laldc (n := (xw_le B x1)) (v := (m x1 (x3 - 1))) (v' := (xJ m x1 (x3 - 1))) rfl hB (xw_obd g2) rfl g3 rfl rfl ?_
      refine xw_lsub rfl ?_
      refine xw_cst (st' := [xj (w64 ((xJ m x1 x3) - (xJ m x1 (x3 - 1))))]) (xw_sc (xj_c rfl) rfl) ?_
      refine xw_lstore (L' := [(4, xj (w64 ((xJ m x1 x3) - (xJ m x1 (x3 - 1))))), (0, xa x0), (1, xa x1), (2, xi x2), (3, xi x3)]) rfl (by decide) rfl ?_
      refine xw_aload_n rfl rfl rfl ?_
      refine xw_aload_n rfl rfl rfl ?_
      refine xw_gfJc (v := (m x0 11)) (v' := (xJ m x0 11)) rfl (xw_obd g4) xk11_11 (qi := 11) rfl rfl rfl ?_
      refine xw_aload_n rfl rfl rfl ?_
      refine xw_iload_n rfl rfl ?_
      refine xw_laldc (n := (xw_le B x1)) (v := (m x1 x3)) (v' := (xJ m x1 x3)) rfl hB (xw_obd g2) rfl g1 rfl rfl ?_
      refine xw_minJ rfl rfl (w64_cg (w64_xJ _ _ _)) (w64_cg (w64_xJ _ _ _)) rfl ?_
      refine xw_pfJ rfl (xw_obd g4) xk11_11 (qi := 11) rfl (xw_okJ rfl) ?_
      refine xw_aload_n rfl rfl rfl ?_
      refine xw_aload_n rfl rfl rfl ?_
      refine xw_gfJc (v := (m x0 12)) (v' := (xJ m x0 12)) rfl (xw_obd g4) xk11_12 (qi := 12) rfl (xw_un (fun e => absurd e.2 (by decide)) rfl) rfl ?_
      refine xw_aload_n rfl rfl rfl ?_
      refine xw_iload_n rfl rfl ?_
      refine xw_laldc (n := (xw_le B x1)) (v := (m x1 x3)) (v' := (xJ m x1 x3)) rfl hB (xw_obd g2) rfl g1 (xw_un (xw_obne (t := 11) (t' := 17) (xw_obd g4) (xw_obd g2) (by decide)) rfl) rfl ?_
      refine xw_maxJ rfl rfl (w64_cg (w64_xJ _ _ _)) (w64_cg (w64_xJ _ _ _)) rfl ?_
      refine xw_pfJ rfl (xw_obd g4) xk11_12 (qi := 12) rfl (xw_okJ rfl) ?_
      refine xw_aload_n rfl rfl rfl ?_
      refine xw_aload_n rfl rfl rfl ?_
      refine xw_gfJc (v := (m x0 13)) (v' := (xJ m x0 13)) rfl (xw_obd g4) xk11_13 (qi := 13) rfl (xw_un (fun e => absurd e.2 (by decide)) (xw_un (fun e => absurd e.2 (by decide)) rfl)) rfl ?_
      refine xw_lload rfl rfl ?_
      refine xw_minJ rfl rfl (w64_cg (w64_xJ _ _ _)) (w64_cg (w64_w _)) rfl ?_
      refine xw_pfJ rfl (xw_obd g4) xk11_13 (qi := 13) rfl (xw_okJ rfl) ?_
      refine xw_aload_n rfl rfl rfl ?_
      refine xw_aload_n rfl rfl rfl ?_
      refine xw_gfJc (v := (m x0 14)) (v' := (xJ m x0 14)) rfl (xw_obd g4) xk11_14 (qi := 14) rfl (xw_un (fun e => absurd e.2 (by decide)) (xw_un (fun e => absurd e.2 (by decide)) (xw_un (fun e => absurd e.2 (by decide)) rfl))) rfl ?_
      refine xw_lload rfl rfl ?_
      refine xw_maxJ rfl rfl (w64_cg (w64_xJ _ _ _)) (w64_cg (w64_w _)) rfl ?_
      refine xw_pfJ rfl (xw_obd g4) xk11_14 (qi := 14) rfl (xw_okJ rfl) ?_
      refine xw_lload rfl rfl ?_
      refine xw_lconst (e := 0) rfl rfl ?_
      exact q
    refine xS_if (fun h5 => ?_) (fun h5 => ?_)
    · refine xS_of (pc' := 49) (L' := [(0, xa x0), (1, xa x1), (2, xi x2), (3, xi (w32 (x3 + 1)))]) (st' := []) (m' := (xw_u (xw_u (xw_u (xw_u m x0 11 (min (xJ m x0 11) (xJ m x1 x3))) x0 12 (max (xJ m x0 12) (xJ m x1 x3))) x0 13 (min (xJ m x0 13) (w64 ((xJ m x1 x3) - (xJ m x1 (x3 - 1)))))) x0 14 (max (xJ m x0 14) (w64 ((xJ m x1 x3) - (xJ m x1 (x3 - 1))))))) (fun ex ns r q => ?_) ?_
      · refine xw_jc_eqT rfl rfl (w64_cg (w64_w _)) (w64_cg rfl) h5 ?_
        refine xw_iincc (z := (w32 (x3 + 1))) (L' := [(3, xi (w32 (x3 + 1))), (4, xj (w64 ((xJ m x1 x3) - (xJ m x1 (x3 - 1))))), (0, xa x0), (1, xa x1), (2, xi x2)]) rfl rfl (by decide) rfl rfl ?_
        refine xw_goto rfl ?_
        refine xw_lo (L2 := [(0, xa x0), (1, xa x1), (2, xi x2), (3, xi (w32 (x3 + 1)))]) (List.forall_mem_cons.mpr ⟨rfl, List.forall_mem_cons.mpr ⟨rfl, List.forall_mem_cons.mpr ⟨rfl, List.forall_mem_cons.mpr ⟨rfl, fun _ h => absurd h List.not_mem_nil⟩⟩⟩⟩) ?_
        exact q
      exact hr49 _ _ _ _ _ c2 (w32_w _)
    · refine xS_of (pc' := 49) (L' := [(0, xa x0), (1, xa x1), (2, xi x2), (3, xi (w32 (x3 + 1)))]) (st' := []) (m' := (xw_u (xw_u (xw_u (xw_u (xw_u m x0 11 (min (xJ m x0 11) (xJ m x1 x3))) x0 12 (max (xJ m x0 12) (xJ m x1 x3))) x0 13 (min (xJ m x0 13) (w64 ((xJ m x1 x3) - (xJ m x1 (x3 - 1)))))) x0 14 (max (xJ m x0 14) (w64 ((xJ m x1 x3) - (xJ m x1 (x3 - 1)))))) x0 10 ((xR m x0 10) + 1))) (fun ex ns r q => ?_) ?_
      · refine xw_jc_eqF rfl rfl (w64_cg (w64_w _)) (w64_cg rfl) h5 ?_
        refine xw_aload_n rfl rfl rfl ?_
        refine xw_dup rfl rfl ?_
        refine xw_gfIc (v := (m x0 10)) (v' := (xR m x0 10)) rfl (xw_obd g4) xk11_10 (qi := 10) rfl (xw_un (fun e => absurd e.2 (by decide)) (xw_un (fun e => absurd e.2 (by decide)) (xw_un (fun e => absurd e.2 (by decide)) (xw_un (fun e => absurd e.2 (by decide)) rfl)))) rfl ?_
        refine xw_iconst rfl ?_
        refine xw_iadd rfl ?_
        refine xw_pfI rfl (xw_obd g4) xk11_10 (qi := 10) rfl (xw_okI rfl) ?_
        refine xw_iincc (z := (w32 (x3 + 1))) (L' := [(3, xi (w32 (x3 + 1))), (4, xj (w64 ((xJ m x1 x3) - (xJ m x1 (x3 - 1))))), (0, xa x0), (1, xa x1), (2, xi x2)]) rfl rfl (by decide) rfl rfl ?_
        refine xw_goto rfl ?_
        refine xw_lo (L2 := [(0, xa x0), (1, xa x1), (2, xi x2), (3, xi (w32 (x3 + 1)))]) (List.forall_mem_cons.mpr ⟨rfl, List.forall_mem_cons.mpr ⟨rfl, List.forall_mem_cons.mpr ⟨rfl, List.forall_mem_cons.mpr ⟨rfl, fun _ h => absurd h List.not_mem_nil⟩⟩⟩⟩) ?_
        exact q
      exact hr49 _ _ _ _ _ c2 (w32_w _)
  · refine xS_of (pc' := 142) (L' := [(0, xa x0), (1, xa x1), (2, xi x2), (3, xi x3)]) (st' := []) (m' := m) (fun ex ns r q => ?_) ?_
    · refine xw_ic_geT rfl (w32_cg c3) (w32_cg c2) (Int.not_lt.mp h0) ?_
      exact q
    exact xS_ret (v := 0) rfl rfl rfl rfl
theorem ygl184_49 {B : Nat} (hB : B ≤ 512) {xs : Nat → Int32} {SL d : Nat} : ∀ n x0 x1 x2 x3 m, w32 x2 = x2 → w32 x3 = x3 → xS B xs SL (d + 0) 184 (6, none, [], 12) 0 49 [(0, xa x0), (1, xa x1), (2, xi x2), (3, xi x3)] [] m (xl4 (yl184_49 B) n x0 x1 x2 x3 m) := by
  intro n
  induction n with
  | zero => intro x0 x1 x2 x3 m c2 c3; exact xS_none
  | succ n ih => exact ysl184_49 hB ih
theorem ygf184 {B : Nat} (hB : B ≤ 512) {xs : Nat → Int32} {SL d : Nat} : ∀ t p0 p1 m, w32 p1 = p1 → xS B xs SL (d + 0) 184 (6, none, [], 12) 0 0 [(0, xa t), (1, xa p0), (2, xi p1)] [] m (yf184 B t p0 p1 m) := by
  intro t p0 p1 m cp1
  unfold yf184
  refine xS_g (fun g0 => ?_)
  refine xS_g (fun g1 => ?_)
  refine xS_g (fun g2 => ?_)
  refine xS_of (pc' := 22) (L' := [(0, xa t), (1, xa p0), (2, xi p1)]) (st' := [xi 1, xi p1, xa t]) (m' := (xw_u (xw_u (xw_u m t 11 (xJ m p0 0)) t 12 (xJ m p0 0)) t 10 1)) (fun ex ns r q => ?_) ?_
  · refine xw_aload_n rfl rfl rfl ?_
    refine xw_aload_n rfl rfl rfl ?_
    refine xw_iconst rfl ?_
    refine xw_laldc (n := (xw_le B p0)) (v := (m p0 0)) (v' := (xJ m p0 0)) rfl hB (xw_obd g1) rfl g0 rfl rfl ?_
    refine xw_pfJ rfl (xw_obd g2) xk11_11 (qi := 11) rfl (xw_okJ rfl) ?_
    refine xw_aload_n rfl rfl rfl ?_
    refine xw_aload_n rfl rfl rfl ?_
    refine xw_iconst rfl ?_
    refine xw_laldc (n := (xw_le B p0)) (v := (m p0 0)) (v' := (xJ m p0 0)) rfl hB (xw_obd g1) rfl g0 (xw_un (fun e => absurd e.2 (by decide)) rfl) rfl ?_
    refine xw_pfJ rfl (xw_obd g2) xk11_12 (qi := 12) rfl (xw_okJ rfl) ?_
    refine xw_aload_n rfl rfl rfl ?_
    refine xw_iconst rfl ?_
    refine xw_pfI rfl (xw_obd g2) xk11_10 (qi := 10) rfl (xw_okI rfl) ?_
    refine xw_aload_n rfl rfl rfl ?_
    refine xw_iload_n rfl rfl ?_
    refine xw_iconst rfl ?_
    exact q
  refine xS_if (fun h3 => ?_) (fun h3 => ?_)
  · refine xS_g (fun g4 => ?_)
    refine xS_of (pc' := 49) (L' := [(0, xa t), (1, xa p0), (2, xi p1), (3, xi 1)]) (st' := []) (m' := (xw_u (xw_u (xw_u (xw_u (xw_u m t 11 (xJ m p0 0)) t 12 (xJ m p0 0)) t 10 1) t 13 ((xJ m p0 1) - (xJ m p0 0))) t 14 (w64 ((xJ m p0 1) - (xJ m p0 0))))) (fun ex ns r q => ?_) ?_
    · refine xw_ic_leF rfl (w32_cg cp1) (w32_cg rfl) (Int.not_le.mpr h3) ?_
      refine xw_aload_n rfl rfl rfl ?_
      refine xw_iconst rfl ?_
      refine xw_laldc (n := (xw_le B p0)) (v := (m p0 1)) (v' := (xJ m p0 1)) rfl hB (xw_obd g1) rfl g4 (xw_un (fun e => absurd e.2 (by decide)) (xw_un (fun e => absurd e.2 (by decide)) (xw_un (fun e => absurd e.2 (by decide)) rfl))) rfl ?_
      refine xw_aload_n rfl rfl rfl ?_
      refine xw_iconst rfl ?_
      refine xw_laldc (n := (xw_le B p0)) (v := (m p0 0)) (v' := (xJ m p0 0)) rfl hB (xw_obd g1) rfl g0 (xw_un (fun e => absurd e.2 (by decide)) (xw_un (fun e => absurd e.2 (by decide)) (xw_un (fun e => absurd e.2 (by decide)) rfl))) rfl ?_
      refine xw_lsub rfl ?_
      refine xw_goto rfl ?_
      refine xw_pfJ rfl (xw_obd g2) xk11_13 (qi := 13) rfl (xw_okJ rfl) ?_
      refine xw_aload_n rfl rfl rfl ?_
      refine xw_aload_n rfl rfl rfl ?_
      refine xw_gfJc (v := ((xJ m p0 1) - (xJ m p0 0))) (v' := (w64 ((xJ m p0 1) - (xJ m p0 0)))) rfl (xw_obd g2) xk11_13 (qi := 13) rfl xw_us rfl ?_
      refine xw_pfJ rfl (xw_obd g2) xk11_14 (qi := 14) rfl (xw_okJ rfl) ?_
      refine xw_iconst rfl ?_
      refine xw_istore_n (L' := [(3, xi 1), (0, xa t), (1, xa p0), (2, xi p1)]) rfl (by decide) rfl ?_
      refine xw_lo (L2 := [(0, xa t), (1, xa p0), (2, xi p1), (3, xi 1)]) (List.forall_mem_cons.mpr ⟨rfl, List.forall_mem_cons.mpr ⟨rfl, List.forall_mem_cons.mpr ⟨rfl, List.forall_mem_cons.mpr ⟨rfl, fun _ h => absurd h List.not_mem_nil⟩⟩⟩⟩) ?_
      exact q
    exact ygl184_49 hB 1000000 _ _ _ _ _ cp1 rfl
  · refine xS_of (pc' := 49) (L' := [(0, xa t), (1, xa p0), (2, xi p1), (3, xi 1)]) (st' := []) (m' := (xw_u (xw_u (xw_u (xw_u (xw_u m t 11 (xJ m p0 0)) t 12 (xJ m p0 0)) t 10 1) t 13 0) t 14 0)) (fun ex ns r q => ?_) ?_
    · refine xw_ic_leT rfl (w32_cg cp1) (w32_cg rfl) (Int.not_lt.mp h3) ?_
      refine xw_lconst (e := 0) rfl rfl ?_
      refine xw_pfJ rfl (xw_obd g2) xk11_13 (qi := 13) rfl (xw_okJ rfl) ?_
      refine xw_aload_n rfl rfl rfl ?_
      refine xw_aload_n rfl rfl rfl ?_
      refine xw_gfJc (v := 0) (v' := 0) rfl (xw_obd g2) xk11_13 (qi := 13) rfl xw_us rfl ?_
      refine xw_pfJ rfl (xw_obd g2) xk11_14 (qi := 14) rfl (xw_okJ rfl) ?_
      refine xw_iconst rfl ?_
      refine xw_istore_n (L' := [(3, xi 1), (0, xa t), (1, xa p0), (2, xi p1)]) rfl (by decide) rfl ?_
      refine xw_lo (L2 := [(0, xa t), (1, xa p0), (2, xi p1), (3, xi 1)]) (List.forall_mem_cons.mpr ⟨rfl, List.forall_mem_cons.mpr ⟨rfl, List.forall_mem_cons.mpr ⟨rfl, List.forall_mem_cons.mpr ⟨rfl, fun _ h => absurd h List.not_mem_nil⟩⟩⟩⟩) ?_
      exact q
    exact ygl184_49 hB 1000000 _ _ _ _ _ cp1 rfl
theorem ygf186 {B : Nat} (hB : B ≤ 512) {xs : Nat → Int32} {SL d : Nat} : ∀ p0 m, w32 p0 = p0 → xS B xs SL (d + 1) 186 (1, (some .int), [], 0) 1 0 [(0, xi p0)] [] m (yf186 B p0 m) := by
  intro p0 m cp0
  unfold yf186
  refine xS_of (pc' := 4) (L' := []) (st' := [xi p0, xi (-2147483648), xi p0]) (m' := m) (fun ex ns r q => ?_) ?_
  · refine xw_iload_n rfl rfl ?_
    refine xw_ldc (e := (-2147483648)) rfl (by decide +kernel) ?_
    refine xw_iload_n rfl rfl ?_
    refine xw_lo (L2 := []) (fun _ h => absurd h List.not_mem_nil) ?_
    exact q
  refine xS_call (q := 118) (n := 1) (kq := 1) (as := [xi p0]) (st1 := [xi (-2147483648), xi p0]) rfl rfl rfl rfl rfl rfl rfl rfl rfl rfl (fun _ => xw_rcv0 rfl) rfl (List.forall_mem_cons.mpr ⟨rfl, fun _ h => absurd h List.not_mem_nil⟩) (ygf118 hB _ _ cp0) (fun v1 m1 cv1 => ?_)
  refine xS_of (pc' := 9) (L' := []) (st' := [xi (xw_iandf p0 (xw_iushrf (-2147483648) v1))]) (m' := m1) (fun ex ns r q => ?_) ?_
  · refine xw_iushr (z := (xw_iushrf (-2147483648) v1)) rfl (xw_iushre _ _) ?_
    refine xw_iand (z := (xw_iandf p0 (xw_iushrf (-2147483648) v1))) rfl (xw_iande _ _) ?_
    exact q
  exact xS_ret (v := (xw_iandf p0 (xw_iushrf (-2147483648) v1))) rfl rfl xw_rtI (w32_ti _)
theorem ygk185_152 {B : Nat} (hB : B ≤ 512) {xs : Nat → Int32} {SL d : Nat} {r29 : Int → Int → Int → Int → Int → xw_M → xP} (hr29 : ∀ x0 x1 x2 x3 x4 m, w32 x2 = x2 → w32 x3 = x3 → w32 x4 = x4 → xS B xs SL (d + 2) 185 (7, none, [], 12) 0 29 [(0, xa x0), (1, xa x1), (2, xi x2), (3, xi x3), (4, xi x4)] [] m (r29 x0 x1 x2 x3 x4 m)) : ∀ x0 x1 x2 x3 x4 x5 m, w32 x2 = x2 → w32 x3 = x3 → w32 x4 = x4 → w32 x5 = x5 → xS B xs SL (d + 2) 185 (7, none, [], 12) 0 152 [(0, xa x0), (1, xa x1), (2, xi x2), (3, xi x3), (4, xi x4), (5, xi x5)] [] m (yk185_152 B r29 x0 x1 x2 x3 x4 x5 m) := by
  intro x0 x1 x2 x3 x4 x5 m c2 c3 c4 c5
  unfold yk185_152
  refine xS_g (fun g0 => ?_)
  refine xS_g (fun g1 => ?_)
  refine xS_g (fun g2 => ?_)
  refine xS_g (fun g3 => ?_)
  refine xS_g (fun g4 => ?_)
  refine xS_of (pc' := 29) (L' := [(0, xa x0), (1, xa x1), (2, xi x2), (3, xi x3), (4, xi (w32 (x4 + 1)))]) (st' := []) (m' := (xw_u m (xw_rf x0 6) x4 (xR m (xw_rf x0 4) x5))) (fun ex ns r q => ?_) ?_
  · refine xw_aload_n rfl rfl rfl ?_
    refine xw_gfV (qi := 6) rfl (xw_obd g0) xk11_6 rfl ?_
    refine xw_iload rfl rfl ?_
    refine xw_aload_n rfl rfl rfl ?_
    refine xw_gfV (qi := 4) rfl (xw_obd g0) xk11_4 rfl ?_
    refine xw_iload rfl rfl ?_
    refine xw_ialdc (n := (xw_le B (xw_rf x0 4))) (v := (m (xw_rf x0 4) x5)) (v' := (xR m (xw_rf x0 4) x5)) rfl hB (xw_obd g2) rfl g1 rfl rfl ?_
    refine xw_iast (n := (xw_le B (xw_rf x0 6))) rfl hB (xw_obd g4) rfl g3 ?_
    refine xw_iincc (z := (w32 (x4 + 1))) (L' := [(4, xi (w32 (x4 + 1))), (0, xa x0), (1, xa x1), (2, xi x2), (3, xi x3), (5, xi x5)]) rfl rfl (by decide) rfl rfl ?_
    refine xw_goto rfl ?_
    refine xw_lo (L2 := [(0, xa x0), (1, xa x1), (2, xi x2), (3, xi x3), (4, xi (w32 (x4 + 1)))]) (List.forall_mem_cons.mpr ⟨rfl, List.forall_mem_cons.mpr ⟨rfl, List.forall_mem_cons.mpr ⟨rfl, List.forall_mem_cons.mpr ⟨rfl, List.forall_mem_cons.mpr ⟨rfl, fun _ h => absurd h List.not_mem_nil⟩⟩⟩⟩⟩) ?_
    exact q
  exact hr29 _ _ _ _ _ _ c2 c3 (w32_w _)
theorem ygk185_110 {B : Nat} (hB : B ≤ 512) {xs : Nat → Int32} {SL d : Nat} {r29 : Int → Int → Int → Int → Int → xw_M → xP} (hr29 : ∀ x0 x1 x2 x3 x4 m, w32 x2 = x2 → w32 x3 = x3 → w32 x4 = x4 → xS B xs SL (d + 2) 185 (7, none, [], 12) 0 29 [(0, xa x0), (1, xa x1), (2, xi x2), (3, xi x3), (4, xi x4)] [] m (r29 x0 x1 x2 x3 x4 m)) : ∀ x0 x1 x2 x3 x4 x5 m, w32 x2 = x2 → w32 x3 = x3 → w32 x4 = x4 → w32 x5 = x5 → xS B xs SL (d + 2) 185 (7, none, [], 12) 0 110 [(0, xa x0), (1, xa x1), (2, xi x2), (3, xi x3), (4, xi x4), (5, xi x5)] [] m (yk185_110 B r29 x0 x1 x2 x3 x4 x5 m) := by
  intro x0 x1 x2 x3 x4 x5 m c2 c3 c4 c5
  unfold yk185_110
  refine xS_g (fun g0 => ?_)
  refine xS_g (fun g1 => ?_)
  refine xS_g (fun g2 => ?_)
  refine xS_of (pc' := 118) (L' := [(0, xa x0), (1, xa x1), (2, xi x2), (3, xi x3), (4, xi x4), (5, xi x5)]) (st' := [xi (-1), xi (xR m (xw_rf x0 4) x5)]) (m' := m) (fun ex ns r q => ?_) ?_
  · refine xw_aload_n rfl rfl rfl ?_
    refine xw_gfV (qi := 4) rfl (xw_obd g0) xk11_4 rfl ?_
    refine xw_iload rfl rfl ?_
    refine xw_ialdc (n := (xw_le B (xw_rf x0 4))) (v := (m (xw_rf x0 4) x5)) (v' := (xR m (xw_rf x0 4) x5)) rfl hB (xw_obd g2) rfl g1 rfl rfl ?_
    refine xw_iconst rfl ?_
    exact q
  refine xS_if (fun h3 => ?_) (fun h3 => ?_)
  · refine xS_g (fun g4 => ?_)
    refine xS_g (fun g5 => ?_)
    refine xS_g (fun g6 => ?_)
    refine xS_g (fun g7 => ?_)
    refine xS_of (pc' := 152) (L' := [(0, xa x0), (1, xa x1), (2, xi x2), (3, xi x3), (4, xi x4), (5, xi x5)]) (st' := []) (m' := (xw_u (xw_u (xw_u m (xw_rf x0 4) x5 (xR m x0 9)) x0 9 ((xR m x0 9) + 1)) (xw_rf x0 5) (xR m x0 9) (xJ m x1 x4))) (fun ex ns r q => ?_) ?_
    · refine xw_ic_neF rfl (w32_cg (w32_xR _ _ _)) (w32_cg rfl) h3 ?_
      refine xw_aload_n rfl rfl rfl ?_
      refine xw_gfV (qi := 4) rfl (xw_obd g0) xk11_4 rfl ?_
      refine xw_iload rfl rfl ?_
      refine xw_aload_n rfl rfl rfl ?_
      refine xw_gfIc (v := (m x0 9)) (v' := (xR m x0 9)) rfl (xw_obd g0) xk11_9 (qi := 9) rfl rfl rfl ?_
      refine xw_iast (n := (xw_le B (xw_rf x0 4))) rfl hB (xw_obd g2) rfl g1 ?_
      refine xw_aload_n rfl rfl rfl ?_
      refine xw_gfV (qi := 5) rfl (xw_obd g0) xk11_5 rfl ?_
      refine xw_aload_n rfl rfl rfl ?_
      refine xw_dup rfl rfl ?_
      refine xw_gfIc (v := (m x0 9)) (v' := (xR m x0 9)) rfl (xw_obd g0) xk11_9 (qi := 9) rfl (xw_un (xw_obne (t := 16) (t' := 11) (xw_obd g2) (xw_obd g0) (by decide)) rfl) rfl ?_
      refine xw_dup_x1 rfl rfl ?_
      refine xw_iconst rfl ?_
      refine xw_iadd rfl ?_
      refine xw_pfI rfl (xw_obd g0) xk11_9 (qi := 9) rfl (xw_okI rfl) ?_
      refine xw_aload_n rfl rfl rfl ?_
      refine xw_iload rfl rfl ?_
      refine xw_laldc (n := (xw_le B x1)) (v := (m x1 x4)) (v' := (xJ m x1 x4)) rfl hB (xw_obd g5) rfl g4 (xw_un (xw_obne (t := 11) (t' := 17) (xw_obd g0) (xw_obd g5) (by decide)) (xw_un (xw_obne (t := 16) (t' := 17) (xw_obd g2) (xw_obd g5) (by decide)) rfl)) rfl ?_
      refine xw_last (n := (xw_le B (xw_rf x0 5))) rfl hB (xw_obd g7) rfl g6 ?_
      refine xw_lo (L2 := [(0, xa x0), (1, xa x1), (2, xi x2), (3, xi x3), (4, xi x4), (5, xi x5)]) (List.forall_mem_cons.mpr ⟨rfl, List.forall_mem_cons.mpr ⟨rfl, List.forall_mem_cons.mpr ⟨rfl, List.forall_mem_cons.mpr ⟨rfl, List.forall_mem_cons.mpr ⟨rfl, List.forall_mem_cons.mpr ⟨rfl, fun _ h => absurd h List.not_mem_nil⟩⟩⟩⟩⟩⟩) ?_
      exact q
    exact ygk185_152 hB hr29 _ _ _ _ _ _ _ c2 c3 c4 c5
  · refine xS_of (pc' := 152) (L' := [(0, xa x0), (1, xa x1), (2, xi x2), (3, xi x3), (4, xi x4), (5, xi x5)]) (st' := []) (m' := m) (fun ex ns r q => ?_) ?_
    · refine xw_ic_neT rfl (w32_cg (w32_xR _ _ _)) (w32_cg rfl) h3 ?_
      refine xw_lo (L2 := [(0, xa x0), (1, xa x1), (2, xi x2), (3, xi x3), (4, xi x4), (5, xi x5)]) (List.forall_mem_cons.mpr ⟨rfl, List.forall_mem_cons.mpr ⟨rfl, List.forall_mem_cons.mpr ⟨rfl, List.forall_mem_cons.mpr ⟨rfl, List.forall_mem_cons.mpr ⟨rfl, List.forall_mem_cons.mpr ⟨rfl, fun _ h => absurd h List.not_mem_nil⟩⟩⟩⟩⟩⟩) ?_
      exact q
    exact ygk185_152 hB hr29 _ _ _ _ _ _ _ c2 c3 c4 c5
theorem ysl185_54 {B : Nat} (hB : B ≤ 512) {xs : Nat → Int32} {SL d : Nat} {r29 : Int → Int → Int → Int → Int → xw_M → xP} (hr29 : ∀ x0 x1 x2 x3 x4 m, w32 x2 = x2 → w32 x3 = x3 → w32 x4 = x4 → xS B xs SL (d + 2) 185 (7, none, [], 12) 0 29 [(0, xa x0), (1, xa x1), (2, xi x2), (3, xi x3), (4, xi x4)] [] m (r29 x0 x1 x2 x3 x4 m)) {r54 : Int → Int → Int → Int → Int → Int → Int → xw_M → xP} (hr54 : ∀ x0 x1 x2 x3 x4 x5 x6 m, w32 x2 = x2 → w32 x3 = x3 → w32 x4 = x4 → w32 x5 = x5 → w32 x6 = x6 → xS B xs SL (d + 2) 185 (7, none, [], 12) 0 54 [(0, xa x0), (1, xa x1), (2, xi x2), (3, xi x3), (4, xi x4), (5, xi x5), (6, xi x6)] [] m (r54 x0 x1 x2 x3 x4 x5 x6 m)) : ∀ x0 x1 x2 x3 x4 x5 x6 m, w32 x2 = x2 → w32 x3 = x3 → w32 x4 = x4 → w32 x5 = x5 → w32 x6 = x6 → xS B xs SL (d + 2) 185 (7, none, [], 12) 0 54 [(0, xa x0), (1, xa x1), (2, xi x2), (3, xi x3), (4, xi x4), (5, xi x5), (6, xi x6)] [] m (yl185_54 B r29 r54 x0 x1 x2 x3 x4 x5 x6 m) := by
  intro x0 x1 x2 x3 x4 x5 x6 m c2 c3 c4 c5 c6
  unfold yl185_54
  refine xS_of (pc' := 59) (L' := [(0, xa x0), (1, xa x1), (2, xi x2), (3, xi x3), (4, xi x4), (5, xi x5), (6, xi x6)]) (st' := [xi 4096, xi x6]) (m' := m) (fun ex ns r q => ?_) ?_
  · refine xw_iload rfl rfl ?_
    refine xw_sipush (e := 4096) rfl (by decide +kernel) ?_
    exact q
  refine xS_if (fun h0 => ?_) (fun h0 => ?_)
  · refine xS_g (fun g1 => ?_)
    refine xS_g (fun g2 => ?_)
    refine xS_g (fun g3 => ?_)
    refine xS_of (pc' := 70) (L' := [(0, xa x0), (1, xa x1), (2, xi x2), (3, xi x3), (4, xi x4), (5, xi x5), (6, xi x6)]) (st' := [xi (-1), xi (xR m (xw_rf x0 4) x5)]) (m' := m) (fun ex ns r q => ?_) ?_
    · refine xw_ic_geF rfl (w32_cg c6) (w32_cg rfl) (Int.not_le.mpr h0) ?_
      refine xw_aload_n rfl rfl rfl ?_
      refine xw_gfV (qi := 4) rfl (xw_obd g1) xk11_4 rfl ?_
      refine xw_iload rfl rfl ?_
      refine xw_ialdc (n := (xw_le B (xw_rf x0 4))) (v := (m (xw_rf x0 4) x5)) (v' := (xR m (xw_rf x0 4) x5)) rfl hB (xw_obd g3) rfl g2 rfl rfl ?_
      refine xw_iconst rfl ?_
      exact q
    refine xS_if (fun h4 => ?_) (fun h4 => ?_)
    · refine xS_of (pc' := 110) (L' := [(0, xa x0), (1, xa x1), (2, xi x2), (3, xi x3), (4, xi x4), (5, xi x5)]) (st' := []) (m' := m) (fun ex ns r q => ?_) ?_
      · refine xw_ic_eqT rfl (w32_cg (w32_xR _ _ _)) (w32_cg rfl) h4 ?_
        refine xw_lo (L2 := [(0, xa x0), (1, xa x1), (2, xi x2), (3, xi x3), (4, xi x4), (5, xi x5)]) (List.forall_mem_cons.mpr ⟨rfl, List.forall_mem_cons.mpr ⟨rfl, List.forall_mem_cons.mpr ⟨rfl, List.forall_mem_cons.mpr ⟨rfl, List.forall_mem_cons.mpr ⟨rfl, List.forall_mem_cons.mpr ⟨rfl, fun _ h => absurd h List.not_mem_nil⟩⟩⟩⟩⟩⟩) ?_
        exact q
      exact ygk185_110 hB hr29 _ _ _ _ _ _ _ c2 c3 c4 c5
    · refine xS_g (fun g5 => ?_)
      refine xS_g (fun g6 => ?_)
      refine xS_g (fun g7 => ?_)
      refine xS_g (fun g8 => ?_)
      refine xS_of (pc' := 89) (L' := [(0, xa x0), (1, xa x1), (2, xi x2), (3, xi x3), (4, xi x4), (5, xi x5), (6, xi x6)]) (st' := [xj (xJ m x1 x4), xj (xJ m (xw_rf x0 5) (xR m (xw_rf x0 4) x5))]) (m' := m) (fun ex ns r q => ?_) ?_
      · refine xw_ic_eqF rfl (w32_cg (w32_xR _ _ _)) (w32_cg rfl) h4 ?_
        refine xw_aload_n rfl rfl rfl ?_
        refine xw_gfV (qi := 5) rfl (xw_obd g1) xk11_5 rfl ?_
        refine xw_aload_n rfl rfl rfl ?_
        refine xw_gfV (qi := 4) rfl (xw_obd g1) xk11_4 rfl ?_
        refine xw_iload rfl rfl ?_
        refine xw_ialdc (n := (xw_le B (xw_rf x0 4))) (v := (m (xw_rf x0 4) x5)) (v' := (xR m (xw_rf x0 4) x5)) rfl hB (xw_obd g3) rfl g2 rfl rfl ?_
        refine xw_laldc (n := (xw_le B (xw_rf x0 5))) (v := (m (xw_rf x0 5) (xR m (xw_rf x0 4) x5))) (v' := (xJ m (xw_rf x0 5) (xR m (xw_rf x0 4) x5))) rfl hB (xw_obd g6) rfl g5 rfl rfl ?_
        refine xw_aload_n rfl rfl rfl ?_
        refine xw_iload rfl rfl ?_
        refine xw_laldc (n := (xw_le B x1)) (v := (m x1 x4)) (v' := (xJ m x1 x4)) rfl hB (xw_obd g8) rfl g7 rfl rfl ?_
        exact q
      refine xS_if (fun h9 => ?_) (fun h9 => ?_)
      · refine xS_of (pc' := 110) (L' := [(0, xa x0), (1, xa x1), (2, xi x2), (3, xi x3), (4, xi x4), (5, xi x5)]) (st' := []) (m' := m) (fun ex ns r q => ?_) ?_
        · refine xw_jc_neF rfl rfl (w64_cg (w64_xJ _ _ _)) (w64_cg (w64_xJ _ _ _)) h9 ?_
          refine xw_goto rfl ?_
          refine xw_lo (L2 := [(0, xa x0), (1, xa x1), (2, xi x2), (3, xi x3), (4, xi x4), (5, xi x5)]) (List.forall_mem_cons.mpr ⟨rfl, List.forall_mem_cons.mpr ⟨rfl, List.forall_mem_cons.mpr ⟨rfl, List.forall_mem_cons.mpr ⟨rfl, List.forall_mem_cons.mpr ⟨rfl, List.forall_mem_cons.mpr ⟨rfl, fun _ h => absurd h List.not_mem_nil⟩⟩⟩⟩⟩⟩) ?_
          exact q
        exact ygk185_110 hB hr29 _ _ _ _ _ _ _ c2 c3 c4 c5
      · refine xS_of (pc' := 54) (L' := [(0, xa x0), (1, xa x1), (2, xi x2), (3, xi x3), (4, xi x4), (5, xi (xw_iandf (x5 + 1) x3)), (6, xi (w32 (x6 + 1)))]) (st' := []) (m' := m) (fun ex ns r q => ?_) ?_
        · refine xw_jc_neT rfl rfl (w64_cg (w64_xJ _ _ _)) (w64_cg (w64_xJ _ _ _)) h9 ?_
          refine xw_iload rfl rfl ?_
          refine xw_iconst rfl ?_
          refine xw_iadd rfl ?_
          refine xw_iload_n rfl rfl ?_
          refine xw_iand (z := (xw_iandf (x5 + 1) x3)) rfl (xw_iande _ _) ?_
          refine xw_istore (L' := [(5, xi (xw_iandf (x5 + 1) x3)), (0, xa x0), (1, xa x1), (2, xi x2), (3, xi x3), (4, xi x4), (6, xi x6)]) rfl (by decide) rfl ?_
          refine xw_iincc (z := (w32 (x6 + 1))) (L' := [(6, xi (w32 (x6 + 1))), (5, xi (xw_iandf (x5 + 1) x3)), (0, xa x0), (1, xa x1), (2, xi x2), (3, xi x3), (4, xi x4)]) rfl rfl (by decide) rfl rfl ?_
          refine xw_goto rfl ?_
          refine xw_lo (L2 := [(0, xa x0), (1, xa x1), (2, xi x2), (3, xi x3), (4, xi x4), (5, xi (xw_iandf (x5 + 1) x3)), (6, xi (w32 (x6 + 1)))]) (List.forall_mem_cons.mpr ⟨rfl, List.forall_mem_cons.mpr ⟨rfl, List.forall_mem_cons.mpr ⟨rfl, List.forall_mem_cons.mpr ⟨rfl, List.forall_mem_cons.mpr ⟨rfl, List.forall_mem_cons.mpr ⟨rfl, List.forall_mem_cons.mpr ⟨rfl, fun _ h => absurd h List.not_mem_nil⟩⟩⟩⟩⟩⟩⟩) ?_
          exact q
        exact hr54 _ _ _ _ _ _ _ _ c2 c3 c4 (w32_ti _) (w32_w _)
  · refine xS_of (pc' := 110) (L' := [(0, xa x0), (1, xa x1), (2, xi x2), (3, xi x3), (4, xi x4), (5, xi x5)]) (st' := []) (m' := m) (fun ex ns r q => ?_) ?_
    · refine xw_ic_geT rfl (w32_cg c6) (w32_cg rfl) (Int.not_lt.mp h0) ?_
      refine xw_lo (L2 := [(0, xa x0), (1, xa x1), (2, xi x2), (3, xi x3), (4, xi x4), (5, xi x5)]) (List.forall_mem_cons.mpr ⟨rfl, List.forall_mem_cons.mpr ⟨rfl, List.forall_mem_cons.mpr ⟨rfl, List.forall_mem_cons.mpr ⟨rfl, List.forall_mem_cons.mpr ⟨rfl, List.forall_mem_cons.mpr ⟨rfl, fun _ h => absurd h List.not_mem_nil⟩⟩⟩⟩⟩⟩) ?_
      exact q
    exact ygk185_110 hB hr29 _ _ _ _ _ _ _ c2 c3 c4 c5
theorem ygl185_54 {B : Nat} (hB : B ≤ 512) {xs : Nat → Int32} {SL d : Nat} {r29 : Int → Int → Int → Int → Int → xw_M → xP} (hr29 : ∀ x0 x1 x2 x3 x4 m, w32 x2 = x2 → w32 x3 = x3 → w32 x4 = x4 → xS B xs SL (d + 2) 185 (7, none, [], 12) 0 29 [(0, xa x0), (1, xa x1), (2, xi x2), (3, xi x3), (4, xi x4)] [] m (r29 x0 x1 x2 x3 x4 m)) : ∀ n x0 x1 x2 x3 x4 x5 x6 m, w32 x2 = x2 → w32 x3 = x3 → w32 x4 = x4 → w32 x5 = x5 → w32 x6 = x6 → xS B xs SL (d + 2) 185 (7, none, [], 12) 0 54 [(0, xa x0), (1, xa x1), (2, xi x2), (3, xi x3), (4, xi x4), (5, xi x5), (6, xi x6)] [] m (xl7 (yl185_54 B r29) n x0 x1 x2 x3 x4 x5 x6 m) := by
  intro n
  induction n with
  | zero => intro x0 x1 x2 x3 x4 x5 x6 m c2 c3 c4 c5 c6; exact xS_none
  | succ n ih => exact ysl185_54 hB hr29 ih
theorem ysl185_29 {B : Nat} (hB : B ≤ 512) {xs : Nat → Int32} {SL d : Nat} {r29 : Int → Int → Int → Int → Int → xw_M → xP} (hr29 : ∀ x0 x1 x2 x3 x4 m, w32 x2 = x2 → w32 x3 = x3 → w32 x4 = x4 → xS B xs SL (d + 2) 185 (7, none, [], 12) 0 29 [(0, xa x0), (1, xa x1), (2, xi x2), (3, xi x3), (4, xi x4)] [] m (r29 x0 x1 x2 x3 x4 m)) : ∀ x0 x1 x2 x3 x4 m, w32 x2 = x2 → w32 x3 = x3 → w32 x4 = x4 → xS B xs SL (d + 2) 185 (7, none, [], 12) 0 29 [(0, xa x0), (1, xa x1), (2, xi x2), (3, xi x3), (4, xi x4)] [] m (yl185_29 B r29 x0 x1 x2 x3 x4 m) := by
  intro x0 x1 x2 x3 x4 m c2 c3 c4
  unfold yl185_29
  refine xS_of (pc' := 32) (L' := [(0, xa x0), (1, xa x1), (2, xi x2), (3, xi x3), (4, xi x4)]) (st' := [xi x2, xi x4]) (m' := m) (fun ex ns r q => ?_) ?_
  · refine xw_iload rfl rfl ?_
    refine xw_iload_n rfl rfl ?_
    exact q
  refine xS_if (fun h0 => ?_) (fun h0 => ?_)
  · refine xS_g (fun g1 => ?_)
    refine xS_g (fun g2 => ?_)
    refine xS_of (pc' := 54) (L' := [(0, xa x0), (1, xa x1), (2, xi x2), (3, xi x3), (4, xi x4), (5, xi (xw_iandf (xw_lushrf ((xJ m x1 x4) * (-7046029254386353131)) 40) x3)), (6, xi 0)]) (st' := []) (m' := m) (fun ex ns r q => ?_) ?_
    · refine xw_ic_geF rfl (w32_cg c4) (w32_cg c2) (Int.not_le.mpr h0) ?_
      refine xw_aload_n rfl rfl rfl ?_
      refine xw_iload rfl rfl ?_
      refine xw_laldc (n := (xw_le B x1)) (v := (m x1 x4)) (v' := (xJ m x1 x4)) rfl hB (xw_obd g2) rfl g1 rfl rfl ?_
      refine xw_ldc2 (e := (-7046029254386353131)) rfl (by decide +kernel) ?_
      refine xw_lmul rfl ?_
      refine xw_bipush (e := 40) rfl (by decide +kernel) ?_
      refine xw_lushr (z := (xw_lushrf ((xJ m x1 x4) * (-7046029254386353131)) 40)) rfl (xw_lushre _ _) ?_
      refine xw_l2i rfl ?_
      refine xw_iload_n rfl rfl ?_
      refine xw_iand (z := (xw_iandf (xw_lushrf ((xJ m x1 x4) * (-7046029254386353131)) 40) x3)) rfl (xw_iande _ _) ?_
      refine xw_istore (L' := [(5, xi (xw_iandf (xw_lushrf ((xJ m x1 x4) * (-7046029254386353131)) 40) x3)), (0, xa x0), (1, xa x1), (2, xi x2), (3, xi x3), (4, xi x4)]) rfl (by decide) rfl ?_
      refine xw_iconst rfl ?_
      refine xw_istore (L' := [(6, xi 0), (5, xi (xw_iandf (xw_lushrf ((xJ m x1 x4) * (-7046029254386353131)) 40) x3)), (0, xa x0), (1, xa x1), (2, xi x2), (3, xi x3), (4, xi x4)]) rfl (by decide) rfl ?_
      refine xw_lo (L2 := [(0, xa x0), (1, xa x1), (2, xi x2), (3, xi x3), (4, xi x4), (5, xi (xw_iandf (xw_lushrf ((xJ m x1 x4) * (-7046029254386353131)) 40) x3)), (6, xi 0)]) (List.forall_mem_cons.mpr ⟨rfl, List.forall_mem_cons.mpr ⟨rfl, List.forall_mem_cons.mpr ⟨rfl, List.forall_mem_cons.mpr ⟨rfl, List.forall_mem_cons.mpr ⟨rfl, List.forall_mem_cons.mpr ⟨rfl, List.forall_mem_cons.mpr ⟨rfl, fun _ h => absurd h List.not_mem_nil⟩⟩⟩⟩⟩⟩⟩) ?_
      exact q
    exact ygl185_54 hB hr29 1000000 _ _ _ _ _ _ _ _ c2 c3 c4 (w32_ti _) rfl
  · refine xS_of (pc' := 172) (L' := [(0, xa x0), (1, xa x1), (2, xi x2), (3, xi x3), (4, xi x4)]) (st' := []) (m' := m) (fun ex ns r q => ?_) ?_
    · refine xw_ic_geT rfl (w32_cg c4) (w32_cg c2) (Int.not_lt.mp h0) ?_
      exact q
    exact xS_ret (v := 0) rfl rfl rfl rfl
theorem ygl185_29 {B : Nat} (hB : B ≤ 512) {xs : Nat → Int32} {SL d : Nat} : ∀ n x0 x1 x2 x3 x4 m, w32 x2 = x2 → w32 x3 = x3 → w32 x4 = x4 → xS B xs SL (d + 2) 185 (7, none, [], 12) 0 29 [(0, xa x0), (1, xa x1), (2, xi x2), (3, xi x3), (4, xi x4)] [] m (xl5 (yl185_29 B) n x0 x1 x2 x3 x4 m) := by
  intro n
  induction n with
  | zero => intro x0 x1 x2 x3 x4 m c2 c3 c4; exact xS_none
  | succ n ih => exact ysl185_29 hB ih
theorem ygf185 {B : Nat} (hB : B ≤ 512) {xs : Nat → Int32} {SL d : Nat} : ∀ t p0 p1 m, w32 p1 = p1 → xS B xs SL (d + 2) 185 (7, none, [], 12) 0 0 [(0, xa t), (1, xa p0), (2, xi p1)] [] m (yf185 B t p0 p1 m) := by
  intro t p0 p1 m cp1
  unfold yf185
  refine xS_of (pc' := 2) (L' := [(0, xa t), (1, xa p0), (2, xi p1)]) (st' := [xi p1, xi 4]) (m' := m) (fun ex ns r q => ?_) ?_
  · refine xw_iconst rfl ?_
    refine xw_iload_n rfl rfl ?_
    refine xw_lo (L2 := [(0, xa t), (1, xa p0), (2, xi p1)]) (List.forall_mem_cons.mpr ⟨rfl, List.forall_mem_cons.mpr ⟨rfl, List.forall_mem_cons.mpr ⟨rfl, fun _ h => absurd h List.not_mem_nil⟩⟩⟩) ?_
    exact q
  refine xS_call (q := 186) (n := 1) (kq := 1) (as := [xi p1]) (st1 := [xi 4]) rfl rfl rfl rfl rfl rfl rfl rfl rfl rfl (fun _ => xw_rcv0 rfl) rfl (List.forall_mem_cons.mpr ⟨rfl, fun _ h => absurd h List.not_mem_nil⟩) (ygf186 hB _ _ cp1) (fun v1 m1 cv1 => ?_)
  refine xS_g (fun g0 => ?_)
  refine xS_of (pc' := 18) (L' := [(0, xa t), (1, xa p0), (2, xi p1), (3, xi (w32 ((4 * v1) - 1)))]) (st' := [xi (-1), xi (w32 ((w32 ((4 * v1) - 1)) + 1)), xi 0, xa (xw_rf t 4)]) (m' := m1) (fun ex ns r q => ?_) ?_
  · refine xw_imul rfl ?_
    refine xw_iconst rfl ?_
    refine xw_isub rfl ?_
    refine xw_cst (st' := [xi (w32 ((4 * v1) - 1))]) (xw_sc (xi_c rfl) rfl) ?_
    refine xw_istore_n (L' := [(3, xi (w32 ((4 * v1) - 1))), (0, xa t), (1, xa p0), (2, xi p1)]) rfl (by decide) rfl ?_
    refine xw_aload_n rfl rfl rfl ?_
    refine xw_gfV (qi := 4) rfl (xw_obd g0) xk11_4 rfl ?_
    refine xw_iconst rfl ?_
    refine xw_iload_n rfl rfl ?_
    refine xw_iconst rfl ?_
    refine xw_iadd rfl ?_
    refine xw_iconst rfl ?_
    refine xw_cst (st' := [xi (-1), xi (w32 ((w32 ((4 * v1) - 1)) + 1)), xi 0, xa (xw_rf t 4)]) (xw_sc rfl (xw_sc (xi_c rfl) (xw_sc rfl (xw_sc rfl rfl)))) ?_
    refine xw_lo (L2 := [(0, xa t), (1, xa p0), (2, xi p1), (3, xi (w32 ((4 * v1) - 1)))]) (List.forall_mem_cons.mpr ⟨rfl, List.forall_mem_cons.mpr ⟨rfl, List.forall_mem_cons.mpr ⟨rfl, List.forall_mem_cons.mpr ⟨rfl, fun _ h => absurd h List.not_mem_nil⟩⟩⟩⟩) ?_
    exact q
  refine xS_call (q := 132) (n := 4) (kq := 0) (as := [xa (xw_rf t 4), xi 0, xi (w32 ((w32 ((4 * v1) - 1)) + 1)), xi (-1)]) (st1 := []) rfl rfl rfl rfl rfl rfl rfl rfl rfl rfl (fun _ => xw_rcv0 rfl) rfl (List.forall_mem_cons.mpr ⟨rfl, List.forall_mem_cons.mpr ⟨rfl, List.forall_mem_cons.mpr ⟨rfl, List.forall_mem_cons.mpr ⟨rfl, fun _ h => absurd h List.not_mem_nil⟩⟩⟩⟩) (ygf132 hB _ _ _ _ _ rfl (w32_w _) rfl) (fun v2 m2 cv2 => ?_)
  refine xS_of (pc' := 29) (L' := [(0, xa t), (1, xa p0), (2, xi p1), (3, xi (w32 ((4 * v1) - 1))), (4, xi 0)]) (st' := []) (m' := (xw_u m2 t 9 0)) (fun ex ns r q => ?_) ?_
  · refine xw_aload_n rfl rfl rfl ?_
    refine xw_iconst rfl ?_
    refine xw_pfI rfl (xw_obd g0) xk11_9 (qi := 9) rfl (xw_okI rfl) ?_
    refine xw_iconst rfl ?_
    refine xw_istore (L' := [(4, xi 0), (0, xa t), (1, xa p0), (2, xi p1), (3, xi (w32 ((4 * v1) - 1)))]) rfl (by decide) rfl ?_
    refine xw_lo (L2 := [(0, xa t), (1, xa p0), (2, xi p1), (3, xi (w32 ((4 * v1) - 1))), (4, xi 0)]) (List.forall_mem_cons.mpr ⟨rfl, List.forall_mem_cons.mpr ⟨rfl, List.forall_mem_cons.mpr ⟨rfl, List.forall_mem_cons.mpr ⟨rfl, List.forall_mem_cons.mpr ⟨rfl, fun _ h => absurd h List.not_mem_nil⟩⟩⟩⟩⟩) ?_
    exact q
  exact ygl185_29 hB 1000000 _ _ _ _ _ _ cp1 (w32_w _) rfl
theorem ygf187 {B : Nat} (hB : B ≤ 512) {xs : Nat → Int32} {SL d : Nat} : ∀ t p0 m, w32 p0 = p0 → xS B xs SL (d + 3) 187 (2, none, [], 12) 0 0 [(0, xa t), (1, xi p0)] [] m (yf187 B t p0 m) := by
  intro t p0 m cp0
  unfold yf187
  refine xS_g (fun g0 => ?_)
  refine xS_g (fun g1 => ?_)
  refine xS_g (fun g2 => ?_)
  refine xS_of (pc' := 22) (L' := [(0, xa t), (1, xi p0)]) (st' := [xj (w64 ((xJ m t 12) - (xJ m t 11))), xi 1, xa (xw_rf t 7)]) (m' := (xw_u m (xw_rf t 7) 0 64)) (fun ex ns r q => ?_) ?_
  · refine xw_aload_n rfl rfl rfl ?_
    refine xw_gfV (qi := 7) rfl (xw_obd g0) xk11_7 rfl ?_
    refine xw_iconst rfl ?_
    refine xw_bipush (e := 64) rfl (by decide +kernel) ?_
    refine xw_iast (n := (xw_le B (xw_rf t 7))) rfl hB (xw_obd g2) rfl g1 ?_
    refine xw_aload_n rfl rfl rfl ?_
    refine xw_gfV (qi := 7) rfl (xw_obd g0) xk11_7 rfl ?_
    refine xw_iconst rfl ?_
    refine xw_aload_n rfl rfl rfl ?_
    refine xw_gfJc (v := (m t 12)) (v' := (xJ m t 12)) rfl (xw_obd g0) xk11_12 (qi := 12) rfl (xw_un (fun e => absurd e.2 (by decide)) rfl) rfl ?_
    refine xw_aload_n rfl rfl rfl ?_
    refine xw_gfJc (v := (m t 11)) (v' := (xJ m t 11)) rfl (xw_obd g0) xk11_11 (qi := 11) rfl (xw_un (fun e => absurd e.2 (by decide)) rfl) rfl ?_
    refine xw_lsub rfl ?_
    refine xw_cst (st' := [xj (w64 ((xJ m t 12) - (xJ m t 11))), xi 1, xa (xw_rf t 7)]) (xw_sc (xj_c rfl) rfl) ?_
    refine xw_lo (L2 := [(0, xa t), (1, xi p0)]) (List.forall_mem_cons.mpr ⟨rfl, List.forall_mem_cons.mpr ⟨rfl, fun _ h => absurd h List.not_mem_nil⟩⟩) ?_
    exact q
  refine xS_call (q := 116) (n := 1) (kq := 1) (as := [xj (w64 ((xJ m t 12) - (xJ m t 11)))]) (st1 := [xi 1, xa (xw_rf t 7)]) rfl rfl rfl rfl rfl rfl rfl rfl rfl rfl (fun _ => xw_rcv0 rfl) rfl (List.forall_mem_cons.mpr ⟨rfl, fun _ h => absurd h List.not_mem_nil⟩) (ygf116 hB _ _ (w64_w _)) (fun v1 m1 cv1 => ?_)
  refine xS_g (fun g3 => ?_)
  refine xS_of (pc' := 38) (L' := [(0, xa t), (1, xi p0)]) (st' := [xj (w32 ((xR m1 t 9) - 1)), xi 2, xa (xw_rf t 7)]) (m' := (xw_u m1 (xw_rf t 7) 1 v1)) (fun ex ns r q => ?_) ?_
  · refine xw_iast (n := (xw_le B (xw_rf t 7))) rfl hB (xw_obd g2) rfl g3 ?_
    refine xw_aload_n rfl rfl rfl ?_
    refine xw_gfV (qi := 7) rfl (xw_obd g0) xk11_7 rfl ?_
    refine xw_iconst rfl ?_
    refine xw_aload_n rfl rfl rfl ?_
    refine xw_gfIc (v := (m1 t 9)) (v' := (xR m1 t 9)) rfl (xw_obd g0) xk11_9 (qi := 9) rfl (xw_un (fun e => absurd e.2 (by decide)) rfl) rfl ?_
    refine xw_iconst rfl ?_
    refine xw_isub rfl ?_
    refine xw_cst (st' := [xi (w32 ((xR m1 t 9) - 1)), xi 2, xa (xw_rf t 7)]) (xw_sc (xi_c rfl) rfl) ?_
    refine xw_i2l rfl (w32_cg (w32_w _)) ?_
    refine xw_lo (L2 := [(0, xa t), (1, xi p0)]) (List.forall_mem_cons.mpr ⟨rfl, List.forall_mem_cons.mpr ⟨rfl, fun _ h => absurd h List.not_mem_nil⟩⟩) ?_
    exact q
  refine xS_call (q := 116) (n := 1) (kq := 1) (as := [xj (w32 ((xR m1 t 9) - 1))]) (st1 := [xi 2, xa (xw_rf t 7)]) rfl rfl rfl rfl rfl rfl rfl rfl rfl rfl (fun _ => xw_rcv0 rfl) rfl (List.forall_mem_cons.mpr ⟨rfl, fun _ h => absurd h List.not_mem_nil⟩) (ygf116 hB _ _ (w64_32 (w32_w _))) (fun v2 m2 cv2 => ?_)
  refine xS_g (fun g4 => ?_)
  refine xS_of (pc' := 56) (L' := [(0, xa t), (1, xi p0)]) (st' := [xj (w64 ((xJ m2 t 14) - (xJ m2 t 13))), xi 4, xa (xw_rf t 7)]) (m' := (xw_u m2 (xw_rf t 7) 2 v2)) (fun ex ns r q => ?_) ?_
  · refine xw_iast (n := (xw_le B (xw_rf t 7))) rfl hB (xw_obd g2) rfl g4 ?_
    refine xw_aload_n rfl rfl rfl ?_
    refine xw_gfV (qi := 7) rfl (xw_obd g0) xk11_7 rfl ?_
    refine xw_iconst rfl ?_
    refine xw_aload_n rfl rfl rfl ?_
    refine xw_gfJc (v := (m2 t 14)) (v' := (xJ m2 t 14)) rfl (xw_obd g0) xk11_14 (qi := 14) rfl (xw_un (fun e => absurd e.2 (by decide)) rfl) rfl ?_
    refine xw_aload_n rfl rfl rfl ?_
    refine xw_gfJc (v := (m2 t 13)) (v' := (xJ m2 t 13)) rfl (xw_obd g0) xk11_13 (qi := 13) rfl (xw_un (fun e => absurd e.2 (by decide)) rfl) rfl ?_
    refine xw_lsub rfl ?_
    refine xw_cst (st' := [xj (w64 ((xJ m2 t 14) - (xJ m2 t 13))), xi 4, xa (xw_rf t 7)]) (xw_sc (xj_c rfl) rfl) ?_
    refine xw_lo (L2 := [(0, xa t), (1, xi p0)]) (List.forall_mem_cons.mpr ⟨rfl, List.forall_mem_cons.mpr ⟨rfl, fun _ h => absurd h List.not_mem_nil⟩⟩) ?_
    exact q
  refine xS_call (q := 116) (n := 1) (kq := 1) (as := [xj (w64 ((xJ m2 t 14) - (xJ m2 t 13)))]) (st1 := [xi 4, xa (xw_rf t 7)]) rfl rfl rfl rfl rfl rfl rfl rfl rfl rfl (fun _ => xw_rcv0 rfl) rfl (List.forall_mem_cons.mpr ⟨rfl, fun _ h => absurd h List.not_mem_nil⟩) (ygf116 hB _ _ (w64_w _)) (fun v3 m3 cv3 => ?_)
  refine xS_g (fun g5 => ?_)
  refine xS_g (fun g6 => ?_)
  refine xS_g (fun g7 => ?_)
  refine xS_g (fun g8 => ?_)
  refine xS_g (fun g9 => ?_)
  refine xS_g (fun g10 => ?_)
  refine xS_g (fun g11 => ?_)
  refine xS_g (fun g12 => ?_)
  refine xS_g (fun g13 => ?_)
  refine xS_g (fun g14 => ?_)
  refine xS_of (pc' := 163) (L' := [(0, xa t), (1, xi p0)]) (st' := []) (m' := (xw_u (xw_u (xw_u (xw_u (xw_u (xw_u m3 (xw_rf t 7) 4 v3) (xw_rf t 8) 0 (8 * p0)) (xw_rf t 8) 1 (9 + ((w32 ((p0 * (xR m3 (xw_rf t 7) 1)) + 7)) / 8))) (xw_rf t 8) 2 ((2 + (8 * (xR m3 t 9))) + ((w32 ((p0 * (xR m3 (xw_rf t 7) 2)) + 7)) / 8))) (xw_rf t 8) 3 (2 + (10 * (xR m3 t 10)))) (xw_rf t 8) 4 (17 + ((w32 (((p0 - 1) * v3) + 7)) / 8)))) (fun ex ns r q => ?_) ?_
  · refine xw_iast (n := (xw_le B (xw_rf t 7))) rfl hB (xw_obd g2) rfl g5 ?_
    refine xw_aload_n rfl rfl rfl ?_
    refine xw_gfV (qi := 8) rfl (xw_obd g0) xk11_8 rfl ?_
    refine xw_iconst rfl ?_
    refine xw_bipush (e := 8) rfl (by decide +kernel) ?_
    refine xw_iload_n rfl rfl ?_
    refine xw_imul rfl ?_
    refine xw_iast (n := (xw_le B (xw_rf t 8))) rfl hB (xw_obd g7) rfl g6 ?_
    refine xw_aload_n rfl rfl rfl ?_
    refine xw_gfV (qi := 8) rfl (xw_obd g0) xk11_8 rfl ?_
    refine xw_iconst rfl ?_
    refine xw_bipush (e := 9) rfl (by decide +kernel) ?_
    refine xw_iload_n rfl rfl ?_
    refine xw_aload_n rfl rfl rfl ?_
    refine xw_gfV (qi := 7) rfl (xw_obd g0) xk11_7 rfl ?_
    refine xw_iconst rfl ?_
    refine xw_ialdc (n := (xw_le B (xw_rf t 7))) (v := (m3 (xw_rf t 7) 1)) (v' := (xR m3 (xw_rf t 7) 1)) rfl hB (xw_obd g2) rfl g3 (xw_un (fun e => absurd e.2 (by decide)) (xw_un (fun e => absurd e.2 (by decide)) rfl)) rfl ?_
    refine xw_imul rfl ?_
    refine xw_bipush (e := 7) rfl (by decide +kernel) ?_
    refine xw_iadd rfl ?_
    refine xw_bipush (e := 8) rfl (by decide +kernel) ?_
    refine xw_cst (st' := [xi 8, xi (w32 ((p0 * (xR m3 (xw_rf t 7) 1)) + 7)), xi 9, xi 1, xa (xw_rf t 8)]) (xw_sc rfl (xw_sc (xi_c rfl) rfl)) ?_
    refine xw_idiv (z := ((w32 ((p0 * (xR m3 (xw_rf t 7) 1)) + 7)) / 8)) rfl (xw_idivn ⟨(by decide), (w32_cg rfl).2⟩) (xw_idive ⟨g8, (w32_cg (w32_w _)).2⟩ ⟨(by decide), (w32_cg rfl).2⟩) ?_
    refine xw_iadd rfl ?_
    refine xw_iast (n := (xw_le B (xw_rf t 8))) rfl hB (xw_obd g7) rfl g9 ?_
    refine xw_aload_n rfl rfl rfl ?_
    refine xw_gfV (qi := 8) rfl (xw_obd g0) xk11_8 rfl ?_
    refine xw_iconst rfl ?_
    refine xw_iconst rfl ?_
    refine xw_bipush (e := 8) rfl (by decide +kernel) ?_
    refine xw_aload_n rfl rfl rfl ?_
    refine xw_gfIc (v := (m3 t 9)) (v' := (xR m3 t 9)) rfl (xw_obd g0) xk11_9 (qi := 9) rfl (xw_un (fun e => absurd e.2 (by decide)) (xw_un (fun e => absurd e.2 (by decide)) (xw_un (fun e => absurd e.2 (by decide)) rfl))) rfl ?_
    refine xw_imul rfl ?_
    refine xw_iadd rfl ?_
    refine xw_iload_n rfl rfl ?_
    refine xw_aload_n rfl rfl rfl ?_
    refine xw_gfV (qi := 7) rfl (xw_obd g0) xk11_7 rfl ?_
    refine xw_iconst rfl ?_
    refine xw_ialdc (n := (xw_le B (xw_rf t 7))) (v := (m3 (xw_rf t 7) 2)) (v' := (xR m3 (xw_rf t 7) 2)) rfl hB (xw_obd g2) rfl g4 (xw_un (fun e => absurd e.2 (by decide)) (xw_un (fun e => absurd e.2 (by decide)) (xw_un (fun e => absurd e.2 (by decide)) rfl))) rfl ?_
    refine xw_imul rfl ?_
    refine xw_bipush (e := 7) rfl (by decide +kernel) ?_
    refine xw_iadd rfl ?_
    refine xw_bipush (e := 8) rfl (by decide +kernel) ?_
    refine xw_cst (st' := [xi 8, xi (w32 ((p0 * (xR m3 (xw_rf t 7) 2)) + 7)), xi (2 + (8 * (xR m3 t 9))), xi 2, xa (xw_rf t 8)]) (xw_sc rfl (xw_sc (xi_c rfl) rfl)) ?_
    refine xw_idiv (z := ((w32 ((p0 * (xR m3 (xw_rf t 7) 2)) + 7)) / 8)) rfl (xw_idivn ⟨(by decide), (w32_cg rfl).2⟩) (xw_idive ⟨g10, (w32_cg (w32_w _)).2⟩ ⟨(by decide), (w32_cg rfl).2⟩) ?_
    refine xw_iadd rfl ?_
    refine xw_iast (n := (xw_le B (xw_rf t 8))) rfl hB (xw_obd g7) rfl g11 ?_
    refine xw_aload_n rfl rfl rfl ?_
    refine xw_gfV (qi := 8) rfl (xw_obd g0) xk11_8 rfl ?_
    refine xw_iconst rfl ?_
    refine xw_iconst rfl ?_
    refine xw_bipush (e := 10) rfl (by decide +kernel) ?_
    refine xw_aload_n rfl rfl rfl ?_
    refine xw_gfIc (v := (m3 t 10)) (v' := (xR m3 t 10)) rfl (xw_obd g0) xk11_10 (qi := 10) rfl (xw_un (fun e => absurd e.2 (by decide)) (xw_un (fun e => absurd e.2 (by decide)) (xw_un (fun e => absurd e.2 (by decide)) (xw_un (fun e => absurd e.2 (by decide)) rfl)))) rfl ?_
    refine xw_imul rfl ?_
    refine xw_iadd rfl ?_
    refine xw_iast (n := (xw_le B (xw_rf t 8))) rfl hB (xw_obd g7) rfl g12 ?_
    refine xw_aload_n rfl rfl rfl ?_
    refine xw_gfV (qi := 8) rfl (xw_obd g0) xk11_8 rfl ?_
    refine xw_iconst rfl ?_
    refine xw_bipush (e := 17) rfl (by decide +kernel) ?_
    refine xw_iload_n rfl rfl ?_
    refine xw_iconst rfl ?_
    refine xw_isub rfl ?_
    refine xw_aload_n rfl rfl rfl ?_
    refine xw_gfV (qi := 7) rfl (xw_obd g0) xk11_7 rfl ?_
    refine xw_iconst rfl ?_
    refine xw_ialdc (n := (xw_le B (xw_rf t 7))) (v := v3) (v' := v3) rfl hB (xw_obd g2) rfl g5 (xw_un (fun e => absurd e.2 (by decide)) (xw_un (fun e => absurd e.2 (by decide)) (xw_un (fun e => absurd e.2 (by decide)) (xw_un (fun e => absurd e.2 (by decide)) xw_us)))) cv3 ?_
    refine xw_imul rfl ?_
    refine xw_bipush (e := 7) rfl (by decide +kernel) ?_
    refine xw_iadd rfl ?_
    refine xw_bipush (e := 8) rfl (by decide +kernel) ?_
    refine xw_cst (st' := [xi 8, xi (w32 (((p0 - 1) * v3) + 7)), xi 17, xi 4, xa (xw_rf t 8)]) (xw_sc rfl (xw_sc (xi_c rfl) rfl)) ?_
    refine xw_idiv (z := ((w32 (((p0 - 1) * v3) + 7)) / 8)) rfl (xw_idivn ⟨(by decide), (w32_cg rfl).2⟩) (xw_idive ⟨g13, (w32_cg (w32_w _)).2⟩ ⟨(by decide), (w32_cg rfl).2⟩) ?_
    refine xw_iadd rfl ?_
    refine xw_iast (n := (xw_le B (xw_rf t 8))) rfl hB (xw_obd g7) rfl g14 ?_
    exact q
  exact xS_ret (v := 0) rfl rfl rfl rfl
theorem ysl188_4 {B : Nat} (hB : B ≤ 512) {xs : Nat → Int32} {SL d : Nat} {r4 : Int → Int → Int → xw_M → xP} (hr4 : ∀ x0 x1 x2 m, w32 x1 = x1 → w32 x2 = x2 → xS B xs SL (d + 0) 188 (3, (some .int), [], 12) 1 4 [(0, xa x0), (1, xi x1), (2, xi x2)] [] m (r4 x0 x1 x2 m)) : ∀ x0 x1 x2 m, w32 x1 = x1 → w32 x2 = x2 → xS B xs SL (d + 0) 188 (3, (some .int), [], 12) 1 4 [(0, xa x0), (1, xi x1), (2, xi x2)] [] m (yl188_4 B r4 x0 x1 x2 m) := by
  intro x0 x1 x2 m c1 c2
  unfold yl188_4
  refine xS_of (pc' := 6) (L' := [(0, xa x0), (1, xi x1), (2, xi x2)]) (st' := [xi 5, xi x2]) (m' := m) (fun ex ns r q => ?_) ?_
  · refine xw_iload_n rfl rfl ?_
    refine xw_iconst rfl ?_
    exact q
  refine xS_if (fun h0 => ?_) (fun h0 => ?_)
  · refine xS_g (fun g1 => ?_)
    refine xS_g (fun g2 => ?_)
    refine xS_g (fun g3 => ?_)
    refine xS_g (fun g4 => ?_)
    refine xS_of (pc' := 21) (L' := [(0, xa x0), (1, xi x1), (2, xi x2)]) (st' := [xi (xR m (xw_rf x0 8) x1), xi (xR m (xw_rf x0 8) x2)]) (m' := m) (fun ex ns r q => ?_) ?_
    · refine xw_ic_geF rfl (w32_cg c2) (w32_cg rfl) (Int.not_le.mpr h0) ?_
      refine xw_aload_n rfl rfl rfl ?_
      refine xw_gfV (qi := 8) rfl (xw_obd g1) xk11_8 rfl ?_
      refine xw_iload_n rfl rfl ?_
      refine xw_ialdc (n := (xw_le B (xw_rf x0 8))) (v := (m (xw_rf x0 8) x2)) (v' := (xR m (xw_rf x0 8) x2)) rfl hB (xw_obd g3) rfl g2 rfl rfl ?_
      refine xw_aload_n rfl rfl rfl ?_
      refine xw_gfV (qi := 8) rfl (xw_obd g1) xk11_8 rfl ?_
      refine xw_iload_n rfl rfl ?_
      refine xw_ialdc (n := (xw_le B (xw_rf x0 8))) (v := (m (xw_rf x0 8) x1)) (v' := (xR m (xw_rf x0 8) x1)) rfl hB (xw_obd g3) rfl g4 rfl rfl ?_
      exact q
    refine xS_if (fun h5 => ?_) (fun h5 => ?_)
    · refine xS_of (pc' := 4) (L' := [(0, xa x0), (1, xi x2), (2, xi (w32 (x2 + 1)))]) (st' := []) (m' := m) (fun ex ns r q => ?_) ?_
      · refine xw_ic_geF rfl (w32_cg (w32_xR _ _ _)) (w32_cg (w32_xR _ _ _)) (Int.not_le.mpr h5) ?_
        refine xw_iload_n rfl rfl ?_
        refine xw_istore_n (L' := [(1, xi x2), (0, xa x0), (2, xi x2)]) rfl (by decide) rfl ?_
        refine xw_iincc (z := (w32 (x2 + 1))) (L' := [(2, xi (w32 (x2 + 1))), (1, xi x2), (0, xa x0)]) rfl rfl (by decide) rfl rfl ?_
        refine xw_goto rfl ?_
        refine xw_lo (L2 := [(0, xa x0), (1, xi x2), (2, xi (w32 (x2 + 1)))]) (List.forall_mem_cons.mpr ⟨rfl, List.forall_mem_cons.mpr ⟨rfl, List.forall_mem_cons.mpr ⟨rfl, fun _ h => absurd h List.not_mem_nil⟩⟩⟩) ?_
        exact q
      exact hr4 _ _ _ _ c2 (w32_w _)
    · refine xS_of (pc' := 4) (L' := [(0, xa x0), (1, xi x1), (2, xi (w32 (x2 + 1)))]) (st' := []) (m' := m) (fun ex ns r q => ?_) ?_
      · refine xw_ic_geT rfl (w32_cg (w32_xR _ _ _)) (w32_cg (w32_xR _ _ _)) (Int.not_lt.mp h5) ?_
        refine xw_iincc (z := (w32 (x2 + 1))) (L' := [(2, xi (w32 (x2 + 1))), (0, xa x0), (1, xi x1)]) rfl rfl (by decide) rfl rfl ?_
        refine xw_goto rfl ?_
        refine xw_lo (L2 := [(0, xa x0), (1, xi x1), (2, xi (w32 (x2 + 1)))]) (List.forall_mem_cons.mpr ⟨rfl, List.forall_mem_cons.mpr ⟨rfl, List.forall_mem_cons.mpr ⟨rfl, fun _ h => absurd h List.not_mem_nil⟩⟩⟩) ?_
        exact q
      exact hr4 _ _ _ _ c1 (w32_w _)
  · refine xS_of (pc' := 33) (L' := [(0, xa x0), (1, xi x1), (2, xi x2)]) (st' := [xi x1]) (m' := m) (fun ex ns r q => ?_) ?_
    · refine xw_ic_geT rfl (w32_cg c2) (w32_cg rfl) (Int.not_lt.mp h0) ?_
      refine xw_iload_n rfl rfl ?_
      exact q
    exact xS_ret (v := x1) rfl rfl xw_rtI c1
theorem ygl188_4 {B : Nat} (hB : B ≤ 512) {xs : Nat → Int32} {SL d : Nat} : ∀ n x0 x1 x2 m, w32 x1 = x1 → w32 x2 = x2 → xS B xs SL (d + 0) 188 (3, (some .int), [], 12) 1 4 [(0, xa x0), (1, xi x1), (2, xi x2)] [] m (xl3 (yl188_4 B) n x0 x1 x2 m) := by
  intro n
  induction n with
  | zero => intro x0 x1 x2 m c1 c2; exact xS_none
  | succ n ih => exact ysl188_4 hB ih
theorem ygf188 {B : Nat} (hB : B ≤ 512) {xs : Nat → Int32} {SL d : Nat} : ∀ t m, xS B xs SL (d + 0) 188 (3, (some .int), [], 12) 1 0 [(0, xa t)] [] m (yf188 B t m) := by
  intro t m
  unfold yf188
  refine xS_of (pc' := 4) (L' := [(0, xa t), (1, xi 0), (2, xi 1)]) (st' := []) (m' := m) (fun ex ns r q => ?_) ?_
  · refine xw_iconst rfl ?_
    refine xw_istore_n (L' := [(1, xi 0), (0, xa t)]) rfl (by decide) rfl ?_
    refine xw_iconst rfl ?_
    refine xw_istore_n (L' := [(2, xi 1), (1, xi 0), (0, xa t)]) rfl (by decide) rfl ?_
    refine xw_lo (L2 := [(0, xa t), (1, xi 0), (2, xi 1)]) (List.forall_mem_cons.mpr ⟨rfl, List.forall_mem_cons.mpr ⟨rfl, List.forall_mem_cons.mpr ⟨rfl, fun _ h => absurd h List.not_mem_nil⟩⟩⟩) ?_
    exact q
  exact ygl188_4 hB 1000000 _ _ _ _ rfl rfl
theorem ysl189_41 {B : Nat} (hB : B ≤ 512) {xs : Nat → Int32} {SL d : Nat} {r41 : Int → Int → Int → xw_M → xP} (hr41 : ∀ x0 x1 x2 m, w32 x1 = x1 → w32 x2 = x2 → xS B xs SL (d + 1) 189 (3, none, [], 12) 0 41 [(0, xa x0), (1, xi x1), (2, xi x2)] [] m (r41 x0 x1 x2 m)) : ∀ x0 x1 x2 m, w32 x1 = x1 → w32 x2 = x2 → xS B xs SL (d + 1) 189 (3, none, [], 12) 0 41 [(0, xa x0), (1, xi x1), (2, xi x2)] [] m (yl189_41 B r41 x0 x1 x2 m) := by
  intro x0 x1 x2 m c1 c2
  unfold yl189_41
  refine xS_of (pc' := 43) (L' := [(0, xa x0), (1, xi x1), (2, xi x2)]) (st' := [xi x1, xi x2]) (m' := m) (fun ex ns r q => ?_) ?_
  · refine xw_iload_n rfl rfl ?_
    refine xw_iload_n rfl rfl ?_
    exact q
  refine xS_if (fun h0 => ?_) (fun h0 => ?_)
  · refine xS_g (fun g1 => ?_)
    refine xS_g (fun g2 => ?_)
    refine xS_g (fun g3 => ?_)
    refine xS_g (fun g4 => ?_)
    refine xS_g (fun g5 => ?_)
    refine xS_of (pc' := 60) (L' := [(0, xa x0), (1, xi x1), (2, xi x2)]) (st' := [xi (xR m (xw_rf x0 7) 2), xj (xR m (xw_rf x0 6) x2), xa x0]) (m' := m) (fun ex ns r q => ?_) ?_
    · refine xw_ic_geF rfl (w32_cg c2) (w32_cg c1) (Int.not_le.mpr h0) ?_
      refine xw_aload_n rfl rfl rfl ?_
      refine xw_aload_n rfl rfl rfl ?_
      refine xw_gfV (qi := 6) rfl (xw_obd g1) xk11_6 rfl ?_
      refine xw_iload_n rfl rfl ?_
      refine xw_ialdc (n := (xw_le B (xw_rf x0 6))) (v := (m (xw_rf x0 6) x2)) (v' := (xR m (xw_rf x0 6) x2)) rfl hB (xw_obd g3) rfl g2 rfl rfl ?_
      refine xw_i2l rfl (w32_cg (w32_xR _ _ _)) ?_
      refine xw_aload_n rfl rfl rfl ?_
      refine xw_gfV (qi := 7) rfl (xw_obd g1) xk11_7 rfl ?_
      refine xw_iconst rfl ?_
      refine xw_ialdc (n := (xw_le B (xw_rf x0 7))) (v := (m (xw_rf x0 7) 2)) (v' := (xR m (xw_rf x0 7) 2)) rfl hB (xw_obd g5) rfl g4 rfl rfl ?_
      refine xw_lo (L2 := [(0, xa x0), (1, xi x1), (2, xi x2)]) (List.forall_mem_cons.mpr ⟨rfl, List.forall_mem_cons.mpr ⟨rfl, List.forall_mem_cons.mpr ⟨rfl, fun _ h => absurd h List.not_mem_nil⟩⟩⟩) ?_
      exact q
    refine xS_call (q := 152) (n := 3) (kq := 0) (as := [xa x0, xj (xR m (xw_rf x0 6) x2), xi (xR m (xw_rf x0 7) 2)]) (st1 := []) rfl rfl rfl rfl rfl rfl rfl rfl rfl rfl (fun _ => xw_rcv1 (t := 11) (xw_obd g1) rfl) rfl (List.forall_mem_cons.mpr ⟨rfl, List.forall_mem_cons.mpr ⟨rfl, List.forall_mem_cons.mpr ⟨rfl, fun _ h => absurd h List.not_mem_nil⟩⟩⟩) (ygf152 hB _ _ _ _ (w64_32 (w32_xR _ _ _)) (w32_xR _ _ _)) (fun v1 m1 cv1 => ?_)
    refine xS_of (pc' := 41) (L' := [(0, xa x0), (1, xi x1), (2, xi (w32 (x2 + 1)))]) (st' := []) (m' := m1) (fun ex ns r q => ?_) ?_
    · refine xw_iincc (z := (w32 (x2 + 1))) (L' := [(2, xi (w32 (x2 + 1))), (0, xa x0), (1, xi x1)]) rfl rfl (by decide) rfl rfl ?_
      refine xw_goto rfl ?_
      refine xw_lo (L2 := [(0, xa x0), (1, xi x1), (2, xi (w32 (x2 + 1)))]) (List.forall_mem_cons.mpr ⟨rfl, List.forall_mem_cons.mpr ⟨rfl, List.forall_mem_cons.mpr ⟨rfl, fun _ h => absurd h List.not_mem_nil⟩⟩⟩) ?_
      exact q
    exact hr41 _ _ _ _ c1 (w32_w _)
  · refine xS_of (pc' := 69) (L' := [(0, xa x0), (1, xi x1), (2, xi x2)]) (st' := []) (m' := m) (fun ex ns r q => ?_) ?_
    · refine xw_ic_geT rfl (w32_cg c2) (w32_cg c1) (Int.not_lt.mp h0) ?_
      exact q
    exact xS_ret (v := 0) rfl rfl rfl rfl
theorem ygl189_41 {B : Nat} (hB : B ≤ 512) {xs : Nat → Int32} {SL d : Nat} : ∀ n x0 x1 x2 m, w32 x1 = x1 → w32 x2 = x2 → xS B xs SL (d + 1) 189 (3, none, [], 12) 0 41 [(0, xa x0), (1, xi x1), (2, xi x2)] [] m (xl3 (yl189_41 B) n x0 x1 x2 m) := by
  intro n
  induction n with
  | zero => intro x0 x1 x2 m c1 c2; exact xS_none
  | succ n ih => exact ysl189_41 hB ih
theorem ysl189_13 {B : Nat} (hB : B ≤ 512) {xs : Nat → Int32} {SL d : Nat} {r13 : Int → Int → Int → xw_M → xP} (hr13 : ∀ x0 x1 x2 m, w32 x1 = x1 → w32 x2 = x2 → xS B xs SL (d + 1) 189 (3, none, [], 12) 0 13 [(0, xa x0), (1, xi x1), (2, xi x2)] [] m (r13 x0 x1 x2 m)) : ∀ x0 x1 x2 m, w32 x1 = x1 → w32 x2 = x2 → xS B xs SL (d + 1) 189 (3, none, [], 12) 0 13 [(0, xa x0), (1, xi x1), (2, xi x2)] [] m (yl189_13 B r13 x0 x1 x2 m) := by
  intro x0 x1 x2 m c1 c2
  unfold yl189_13
  refine xS_g (fun g0 => ?_)
  refine xS_of (pc' := 18) (L' := [(0, xa x0), (1, xi x1), (2, xi x2)]) (st' := [xi (xR m x0 9), xi x2]) (m' := m) (fun ex ns r q => ?_) ?_
  · refine xw_iload_n rfl rfl ?_
    refine xw_aload_n rfl rfl rfl ?_
    refine xw_gfIc (v := (m x0 9)) (v' := (xR m x0 9)) rfl (xw_obd g0) xk11_9 (qi := 9) rfl rfl rfl ?_
    exact q
  refine xS_if (fun h1 => ?_) (fun h1 => ?_)
  · refine xS_g (fun g2 => ?_)
    refine xS_g (fun g3 => ?_)
    refine xS_of (pc' := 30) (L' := [(0, xa x0), (1, xi x1), (2, xi x2)]) (st' := [xi 64, xj (xJ m (xw_rf x0 5) x2), xa x0]) (m' := m) (fun ex ns r q => ?_) ?_
    · refine xw_ic_geF rfl (w32_cg c2) (w32_cg (w32_xR _ _ _)) (Int.not_le.mpr h1) ?_
      refine xw_aload_n rfl rfl rfl ?_
      refine xw_aload_n rfl rfl rfl ?_
      refine xw_gfV (qi := 5) rfl (xw_obd g0) xk11_5 rfl ?_
      refine xw_iload_n rfl rfl ?_
      refine xw_laldc (n := (xw_le B (xw_rf x0 5))) (v := (m (xw_rf x0 5) x2)) (v' := (xJ m (xw_rf x0 5) x2)) rfl hB (xw_obd g3) rfl g2 rfl rfl ?_
      refine xw_bipush (e := 64) rfl (by decide +kernel) ?_
      refine xw_lo (L2 := [(0, xa x0), (1, xi x1), (2, xi x2)]) (List.forall_mem_cons.mpr ⟨rfl, List.forall_mem_cons.mpr ⟨rfl, List.forall_mem_cons.mpr ⟨rfl, fun _ h => absurd h List.not_mem_nil⟩⟩⟩) ?_
      exact q
    refine xS_call (q := 152) (n := 3) (kq := 0) (as := [xa x0, xj (xJ m (xw_rf x0 5) x2), xi 64]) (st1 := []) rfl rfl rfl rfl rfl rfl rfl rfl rfl rfl (fun _ => xw_rcv1 (t := 11) (xw_obd g0) rfl) rfl (List.forall_mem_cons.mpr ⟨rfl, List.forall_mem_cons.mpr ⟨rfl, List.forall_mem_cons.mpr ⟨rfl, fun _ h => absurd h List.not_mem_nil⟩⟩⟩) (ygf152 hB _ _ _ _ (w64_xJ _ _ _) rfl) (fun v1 m1 cv1 => ?_)
    refine xS_of (pc' := 13) (L' := [(0, xa x0), (1, xi x1), (2, xi (w32 (x2 + 1)))]) (st' := []) (m' := m1) (fun ex ns r q => ?_) ?_
    · refine xw_iincc (z := (w32 (x2 + 1))) (L' := [(2, xi (w32 (x2 + 1))), (0, xa x0), (1, xi x1)]) rfl rfl (by decide) rfl rfl ?_
      refine xw_goto rfl ?_
      refine xw_lo (L2 := [(0, xa x0), (1, xi x1), (2, xi (w32 (x2 + 1)))]) (List.forall_mem_cons.mpr ⟨rfl, List.forall_mem_cons.mpr ⟨rfl, List.forall_mem_cons.mpr ⟨rfl, fun _ h => absurd h List.not_mem_nil⟩⟩⟩) ?_
      exact q
    exact hr13 _ _ _ _ c1 (w32_w _)
  · refine xS_of (pc' := 41) (L' := [(0, xa x0), (1, xi x1), (2, xi 0)]) (st' := []) (m' := m) (fun ex ns r q => ?_) ?_
    · refine xw_ic_geT rfl (w32_cg c2) (w32_cg (w32_xR _ _ _)) (Int.not_lt.mp h1) ?_
      refine xw_iconst rfl ?_
      refine xw_istore_n (L' := [(2, xi 0), (0, xa x0), (1, xi x1)]) rfl (by decide) rfl ?_
      refine xw_lo (L2 := [(0, xa x0), (1, xi x1), (2, xi 0)]) (List.forall_mem_cons.mpr ⟨rfl, List.forall_mem_cons.mpr ⟨rfl, List.forall_mem_cons.mpr ⟨rfl, fun _ h => absurd h List.not_mem_nil⟩⟩⟩) ?_
      exact q
    exact ygl189_41 hB 1000000 _ _ _ _ c1 rfl
theorem ygl189_13 {B : Nat} (hB : B ≤ 512) {xs : Nat → Int32} {SL d : Nat} : ∀ n x0 x1 x2 m, w32 x1 = x1 → w32 x2 = x2 → xS B xs SL (d + 1) 189 (3, none, [], 12) 0 13 [(0, xa x0), (1, xi x1), (2, xi x2)] [] m (xl3 (yl189_13 B) n x0 x1 x2 m) := by
  intro n
  induction n with
  | zero => intro x0 x1 x2 m c1 c2; exact xS_none
  | succ n ih => exact ysl189_13 hB ih
theorem ygf189 {B : Nat} (hB : B ≤ 512) {xs : Nat → Int32} {SL d : Nat} : ∀ t p0 m, w32 p0 = p0 → xS B xs SL (d + 1) 189 (3, none, [], 12) 0 0 [(0, xa t), (1, xi p0)] [] m (yf189 B t p0 m) := by
  intro t p0 m cp0
  unfold yf189
  refine xS_g (fun g0 => ?_)
  refine xS_of (pc' := 8) (L' := [(0, xa t), (1, xi p0)]) (st' := [xi 16, xj (xR m t 9), xa t]) (m' := m) (fun ex ns r q => ?_) ?_
  · refine xw_aload_n rfl rfl rfl ?_
    refine xw_aload_n rfl rfl rfl ?_
    refine xw_gfIc (v := (m t 9)) (v' := (xR m t 9)) rfl (xw_obd g0) xk11_9 (qi := 9) rfl rfl rfl ?_
    refine xw_i2l rfl (w32_cg (w32_xR _ _ _)) ?_
    refine xw_bipush (e := 16) rfl (by decide +kernel) ?_
    refine xw_lo (L2 := [(0, xa t), (1, xi p0)]) (List.forall_mem_cons.mpr ⟨rfl, List.forall_mem_cons.mpr ⟨rfl, fun _ h => absurd h List.not_mem_nil⟩⟩) ?_
    exact q
  refine xS_call (q := 152) (n := 3) (kq := 0) (as := [xa t, xj (xR m t 9), xi 16]) (st1 := []) rfl rfl rfl rfl rfl rfl rfl rfl rfl rfl (fun _ => xw_rcv1 (t := 11) (xw_obd g0) rfl) rfl (List.forall_mem_cons.mpr ⟨rfl, List.forall_mem_cons.mpr ⟨rfl, List.forall_mem_cons.mpr ⟨rfl, fun _ h => absurd h List.not_mem_nil⟩⟩⟩) (ygf152 hB _ _ _ _ (w64_32 (w32_xR _ _ _)) rfl) (fun v1 m1 cv1 => ?_)
  refine xS_of (pc' := 13) (L' := [(0, xa t), (1, xi p0), (2, xi 0)]) (st' := []) (m' := m1) (fun ex ns r q => ?_) ?_
  · refine xw_iconst rfl ?_
    refine xw_istore_n (L' := [(2, xi 0), (0, xa t), (1, xi p0)]) rfl (by decide) rfl ?_
    refine xw_lo (L2 := [(0, xa t), (1, xi p0), (2, xi 0)]) (List.forall_mem_cons.mpr ⟨rfl, List.forall_mem_cons.mpr ⟨rfl, List.forall_mem_cons.mpr ⟨rfl, fun _ h => absurd h List.not_mem_nil⟩⟩⟩) ?_
    exact q
  exact ygl189_13 hB 1000000 _ _ _ _ cp0 rfl
theorem ygk190_39 {B : Nat} (hB : B ≤ 512) {xs : Nat → Int32} {SL d : Nat} {r16 : Int → Int → Int → Int → Int → xw_M → xP} (hr16 : ∀ x0 x1 x2 x3 x4 m, w32 x2 = x2 → w32 x3 = x3 → w32 x4 = x4 → xS B xs SL (d + 1) 190 (5, none, [], 12) 0 16 [(0, xa x0), (1, xa x1), (2, xi x2), (3, xi x3), (4, xi x4)] [] m (r16 x0 x1 x2 x3 x4 m)) : ∀ x0 x1 x2 x3 x4 m, w32 x2 = x2 → w32 x3 = x3 → w32 x4 = x4 → xS B xs SL (d + 1) 190 (5, none, [], 12) 0 39 [(0, xa x0), (1, xa x1), (2, xi x2), (3, xi x3), (4, xi x4)] [] m (yk190_39 B r16 x0 x1 x2 x3 x4 m) := by
  intro x0 x1 x2 x3 x4 m c2 c3 c4
  unfold yk190_39
  refine xS_g (fun g0 => ?_)
  refine xS_g (fun g1 => ?_)
  refine xS_g (fun g2 => ?_)
  refine xS_of (pc' := 45) (L' := [(0, xa x0), (1, xa x1), (2, xi x2), (3, xi x3), (4, xi x4)]) (st' := [xi 64, xj (xJ m x1 x3), xa x0]) (m' := m) (fun ex ns r q => ?_) ?_
  · refine xw_aload_n rfl rfl rfl ?_
    refine xw_aload_n rfl rfl rfl ?_
    refine xw_iload_n rfl rfl ?_
    refine xw_laldc (n := (xw_le B x1)) (v := (m x1 x3)) (v' := (xJ m x1 x3)) rfl hB (xw_obd g1) rfl g0 rfl rfl ?_
    refine xw_bipush (e := 64) rfl (by decide +kernel) ?_
    refine xw_lo (L2 := [(0, xa x0), (1, xa x1), (2, xi x2), (3, xi x3), (4, xi x4)]) (List.forall_mem_cons.mpr ⟨rfl, List.forall_mem_cons.mpr ⟨rfl, List.forall_mem_cons.mpr ⟨rfl, List.forall_mem_cons.mpr ⟨rfl, List.forall_mem_cons.mpr ⟨rfl, fun _ h => absurd h List.not_mem_nil⟩⟩⟩⟩⟩) ?_
    exact q
  refine xS_call (q := 152) (n := 3) (kq := 0) (as := [xa x0, xj (xJ m x1 x3), xi 64]) (st1 := []) rfl rfl rfl rfl rfl rfl rfl rfl rfl rfl (fun _ => xw_rcv1 (t := 11) (xw_obd g2) rfl) rfl (List.forall_mem_cons.mpr ⟨rfl, List.forall_mem_cons.mpr ⟨rfl, List.forall_mem_cons.mpr ⟨rfl, fun _ h => absurd h List.not_mem_nil⟩⟩⟩) (ygf152 hB _ _ _ _ (w64_xJ _ _ _) rfl) (fun v1 m1 cv1 => ?_)
  refine xS_of (pc' := 56) (L' := [(0, xa x0), (1, xa x1), (2, xi x2), (4, xi x4)]) (st' := [xi 16, xj (w32 (x4 - x3)), xa x0]) (m' := m1) (fun ex ns r q => ?_) ?_
  · refine xw_aload_n rfl rfl rfl ?_
    refine xw_iload rfl rfl ?_
    refine xw_iload_n rfl rfl ?_
    refine xw_isub rfl ?_
    refine xw_cst (st' := [xi (w32 (x4 - x3)), xa x0]) (xw_sc (xi_c rfl) rfl) ?_
    refine xw_i2l rfl (w32_cg (w32_w _)) ?_
    refine xw_bipush (e := 16) rfl (by decide +kernel) ?_
    refine xw_lo (L2 := [(0, xa x0), (1, xa x1), (2, xi x2), (4, xi x4)]) (List.forall_mem_cons.mpr ⟨rfl, List.forall_mem_cons.mpr ⟨rfl, List.forall_mem_cons.mpr ⟨rfl, List.forall_mem_cons.mpr ⟨rfl, fun _ h => absurd h List.not_mem_nil⟩⟩⟩⟩) ?_
    exact q
  refine xS_call (q := 152) (n := 3) (kq := 0) (as := [xa x0, xj (w32 (x4 - x3)), xi 16]) (st1 := []) rfl rfl rfl rfl rfl rfl rfl rfl rfl rfl (fun _ => xw_rcv1 (t := 11) (xw_obd g2) rfl) rfl (List.forall_mem_cons.mpr ⟨rfl, List.forall_mem_cons.mpr ⟨rfl, List.forall_mem_cons.mpr ⟨rfl, fun _ h => absurd h List.not_mem_nil⟩⟩⟩) (ygf152 hB _ _ _ _ (w64_32 (w32_w _)) rfl) (fun v2 m2 cv2 => ?_)
  refine xS_of (pc' := 16) (L' := [(0, xa x0), (1, xa x1), (2, xi x2), (3, xi x4), (4, xi (w32 (x4 + 1)))]) (st' := []) (m' := m2) (fun ex ns r q => ?_) ?_
  · refine xw_iload rfl rfl ?_
    refine xw_istore_n (L' := [(3, xi x4), (0, xa x0), (1, xa x1), (2, xi x2), (4, xi x4)]) rfl (by decide) rfl ?_
    refine xw_iincc (z := (w32 (x4 + 1))) (L' := [(4, xi (w32 (x4 + 1))), (3, xi x4), (0, xa x0), (1, xa x1), (2, xi x2)]) rfl rfl (by decide) rfl rfl ?_
    refine xw_goto rfl ?_
    refine xw_lo (L2 := [(0, xa x0), (1, xa x1), (2, xi x2), (3, xi x4), (4, xi (w32 (x4 + 1)))]) (List.forall_mem_cons.mpr ⟨rfl, List.forall_mem_cons.mpr ⟨rfl, List.forall_mem_cons.mpr ⟨rfl, List.forall_mem_cons.mpr ⟨rfl, List.forall_mem_cons.mpr ⟨rfl, fun _ h => absurd h List.not_mem_nil⟩⟩⟩⟩⟩) ?_
    exact q
  exact hr16 _ _ _ _ _ _ c2 c4 (w32_w _)
theorem ysl190_16 {B : Nat} (hB : B ≤ 512) {xs : Nat → Int32} {SL d : Nat} {r16 : Int → Int → Int → Int → Int → xw_M → xP} (hr16 : ∀ x0 x1 x2 x3 x4 m, w32 x2 = x2 → w32 x3 = x3 → w32 x4 = x4 → xS B xs SL (d + 1) 190 (5, none, [], 12) 0 16 [(0, xa x0), (1, xa x1), (2, xi x2), (3, xi x3), (4, xi x4)] [] m (r16 x0 x1 x2 x3 x4 m)) : ∀ x0 x1 x2 x3 x4 m, w32 x2 = x2 → w32 x3 = x3 → w32 x4 = x4 → xS B xs SL (d + 1) 190 (5, none, [], 12) 0 16 [(0, xa x0), (1, xa x1), (2, xi x2), (3, xi x3), (4, xi x4)] [] m (yl190_16 B r16 x0 x1 x2 x3 x4 m) := by
  intro x0 x1 x2 x3 x4 m c2 c3 c4
  unfold yl190_16
  refine xS_of (pc' := 19) (L' := [(0, xa x0), (1, xa x1), (2, xi x2), (3, xi x3), (4, xi x4)]) (st' := [xi x2, xi x4]) (m' := m) (fun ex ns r q => ?_) ?_
  · refine xw_iload rfl rfl ?_
    refine xw_iload_n rfl rfl ?_
    exact q
  refine xS_if (fun h0 => ?_) (fun h0 => ?_)
  · refine xS_of (pc' := 68) (L' := [(0, xa x0), (1, xa x1), (2, xi x2), (3, xi x3), (4, xi x4)]) (st' := []) (m' := m) (fun ex ns r q => ?_) ?_
    · refine xw_ic_gtT rfl (w32_cg c4) (w32_cg c2) h0 ?_
      exact q
    exact xS_ret (v := 0) rfl rfl rfl rfl
  · refine xS_of (pc' := 25) (L' := [(0, xa x0), (1, xa x1), (2, xi x2), (3, xi x3), (4, xi x4)]) (st' := [xi x2, xi x4]) (m' := m) (fun ex ns r q => ?_) ?_
    · refine xw_ic_gtF rfl (w32_cg c4) (w32_cg c2) h0 ?_
      refine xw_iload rfl rfl ?_
      refine xw_iload_n rfl rfl ?_
      exact q
    refine xS_if (fun h1 => ?_) (fun h1 => ?_)
    · refine xS_of (pc' := 39) (L' := [(0, xa x0), (1, xa x1), (2, xi x2), (3, xi x3), (4, xi x4)]) (st' := []) (m' := m) (fun ex ns r q => ?_) ?_
      · refine xw_ic_eqT rfl (w32_cg c4) (w32_cg c2) h1 ?_
        refine xw_lo (L2 := [(0, xa x0), (1, xa x1), (2, xi x2), (3, xi x3), (4, xi x4)]) (List.forall_mem_cons.mpr ⟨rfl, List.forall_mem_cons.mpr ⟨rfl, List.forall_mem_cons.mpr ⟨rfl, List.forall_mem_cons.mpr ⟨rfl, List.forall_mem_cons.mpr ⟨rfl, fun _ h => absurd h List.not_mem_nil⟩⟩⟩⟩⟩) ?_
        exact q
      exact ygk190_39 hB hr16 _ _ _ _ _ _ c2 c3 c4
    · refine xS_g (fun g2 => ?_)
      refine xS_g (fun g3 => ?_)
      refine xS_g (fun g4 => ?_)
      refine xS_of (pc' := 35) (L' := [(0, xa x0), (1, xa x1), (2, xi x2), (3, xi x3), (4, xi x4)]) (st' := [xj (xJ m x1 x3), xj (xJ m x1 x4)]) (m' := m) (fun ex ns r q => ?_) ?_
      · refine xw_ic_eqF rfl (w32_cg c4) (w32_cg c2) h1 ?_
        refine xw_aload_n rfl rfl rfl ?_
        refine xw_iload rfl rfl ?_
        refine xw_laldc (n := (xw_le B x1)) (v := (m x1 x4)) (v' := (xJ m x1 x4)) rfl hB (xw_obd g3) rfl g2 rfl rfl ?_
        refine xw_aload_n rfl rfl rfl ?_
        refine xw_iload_n rfl rfl ?_
        refine xw_laldc (n := (xw_le B x1)) (v := (m x1 x3)) (v' := (xJ m x1 x3)) rfl hB (xw_obd g3) rfl g4 rfl rfl ?_
        exact q
      refine xS_if (fun h5 => ?_) (fun h5 => ?_)
      · refine xS_of (pc' := 16) (L' := [(0, xa x0), (1, xa x1), (2, xi x2), (3, xi x3), (4, xi (w32 (x4 + 1)))]) (st' := []) (m' := m) (fun ex ns r q => ?_) ?_
        · refine xw_jc_eqT rfl rfl (w64_cg (w64_xJ _ _ _)) (w64_cg (w64_xJ _ _ _)) h5 ?_
          refine xw_iincc (z := (w32 (x4 + 1))) (L' := [(4, xi (w32 (x4 + 1))), (0, xa x0), (1, xa x1), (2, xi x2), (3, xi x3)]) rfl rfl (by decide) rfl rfl ?_
          refine xw_goto rfl ?_
          refine xw_lo (L2 := [(0, xa x0), (1, xa x1), (2, xi x2), (3, xi x3), (4, xi (w32 (x4 + 1)))]) (List.forall_mem_cons.mpr ⟨rfl, List.forall_mem_cons.mpr ⟨rfl, List.forall_mem_cons.mpr ⟨rfl, List.forall_mem_cons.mpr ⟨rfl, List.forall_mem_cons.mpr ⟨rfl, fun _ h => absurd h List.not_mem_nil⟩⟩⟩⟩⟩) ?_
          exact q
        exact hr16 _ _ _ _ _ _ c2 c3 (w32_w _)
      · refine xS_of (pc' := 39) (L' := [(0, xa x0), (1, xa x1), (2, xi x2), (3, xi x3), (4, xi x4)]) (st' := []) (m' := m) (fun ex ns r q => ?_) ?_
        · refine xw_jc_eqF rfl rfl (w64_cg (w64_xJ _ _ _)) (w64_cg (w64_xJ _ _ _)) h5 ?_
          refine xw_lo (L2 := [(0, xa x0), (1, xa x1), (2, xi x2), (3, xi x3), (4, xi x4)]) (List.forall_mem_cons.mpr ⟨rfl, List.forall_mem_cons.mpr ⟨rfl, List.forall_mem_cons.mpr ⟨rfl, List.forall_mem_cons.mpr ⟨rfl, List.forall_mem_cons.mpr ⟨rfl, fun _ h => absurd h List.not_mem_nil⟩⟩⟩⟩⟩) ?_
          exact q
        exact ygk190_39 hB hr16 _ _ _ _ _ _ c2 c3 c4
theorem ygl190_16 {B : Nat} (hB : B ≤ 512) {xs : Nat → Int32} {SL d : Nat} : ∀ n x0 x1 x2 x3 x4 m, w32 x2 = x2 → w32 x3 = x3 → w32 x4 = x4 → xS B xs SL (d + 1) 190 (5, none, [], 12) 0 16 [(0, xa x0), (1, xa x1), (2, xi x2), (3, xi x3), (4, xi x4)] [] m (xl5 (yl190_16 B) n x0 x1 x2 x3 x4 m) := by
  intro n
  induction n with
  | zero => intro x0 x1 x2 x3 x4 m c2 c3 c4; exact xS_none
  | succ n ih => exact ysl190_16 hB ih
theorem ygf190 {B : Nat} (hB : B ≤ 512) {xs : Nat → Int32} {SL d : Nat} : ∀ t p0 p1 m, w32 p1 = p1 → xS B xs SL (d + 1) 190 (5, none, [], 12) 0 0 [(0, xa t), (1, xa p0), (2, xi p1)] [] m (yf190 B t p0 p1 m) := by
  intro t p0 p1 m cp1
  unfold yf190
  refine xS_g (fun g0 => ?_)
  refine xS_of (pc' := 8) (L' := [(0, xa t), (1, xa p0), (2, xi p1)]) (st' := [xi 16, xj (xR m t 10), xa t]) (m' := m) (fun ex ns r q => ?_) ?_
  · refine xw_aload_n rfl rfl rfl ?_
    refine xw_aload_n rfl rfl rfl ?_
    refine xw_gfIc (v := (m t 10)) (v' := (xR m t 10)) rfl (xw_obd g0) xk11_10 (qi := 10) rfl rfl rfl ?_
    refine xw_i2l rfl (w32_cg (w32_xR _ _ _)) ?_
    refine xw_bipush (e := 16) rfl (by decide +kernel) ?_
    refine xw_lo (L2 := [(0, xa t), (1, xa p0), (2, xi p1)]) (List.forall_mem_cons.mpr ⟨rfl, List.forall_mem_cons.mpr ⟨rfl, List.forall_mem_cons.mpr ⟨rfl, fun _ h => absurd h List.not_mem_nil⟩⟩⟩) ?_
    exact q
  refine xS_call (q := 152) (n := 3) (kq := 0) (as := [xa t, xj (xR m t 10), xi 16]) (st1 := []) rfl rfl rfl rfl rfl rfl rfl rfl rfl rfl (fun _ => xw_rcv1 (t := 11) (xw_obd g0) rfl) rfl (List.forall_mem_cons.mpr ⟨rfl, List.forall_mem_cons.mpr ⟨rfl, List.forall_mem_cons.mpr ⟨rfl, fun _ h => absurd h List.not_mem_nil⟩⟩⟩) (ygf152 hB _ _ _ _ (w64_32 (w32_xR _ _ _)) rfl) (fun v1 m1 cv1 => ?_)
  refine xS_of (pc' := 16) (L' := [(0, xa t), (1, xa p0), (2, xi p1), (3, xi 0), (4, xi 1)]) (st' := []) (m' := m1) (fun ex ns r q => ?_) ?_
  · refine xw_iconst rfl ?_
    refine xw_istore_n (L' := [(3, xi 0), (0, xa t), (1, xa p0), (2, xi p1)]) rfl (by decide) rfl ?_
    refine xw_iconst rfl ?_
    refine xw_istore (L' := [(4, xi 1), (3, xi 0), (0, xa t), (1, xa p0), (2, xi p1)]) rfl (by decide) rfl ?_
    refine xw_lo (L2 := [(0, xa t), (1, xa p0), (2, xi p1), (3, xi 0), (4, xi 1)]) (List.forall_mem_cons.mpr ⟨rfl, List.forall_mem_cons.mpr ⟨rfl, List.forall_mem_cons.mpr ⟨rfl, List.forall_mem_cons.mpr ⟨rfl, List.forall_mem_cons.mpr ⟨rfl, fun _ h => absurd h List.not_mem_nil⟩⟩⟩⟩⟩) ?_
    exact q
  exact ygl190_16 hB 1000000 _ _ _ _ _ _ cp1 rfl rfl
theorem ysl191_44 {B : Nat} (hB : B ≤ 512) {xs : Nat → Int32} {SL d : Nat} {r44 : Int → Int → Int → Int → Int → xw_M → xP} (hr44 : ∀ x0 x2 x3 x4 x5 m, w32 x3 = x3 → w32 x4 = x4 → w32 x5 = x5 → xS B xs SL (d + 1) 191 (8, none, [], 12) 0 44 [(0, xa x0), (2, xa x2), (3, xi x3), (4, xi x4), (5, xi x5)] [] m (r44 x0 x2 x3 x4 x5 m)) : ∀ x0 x2 x3 x4 x5 m, w32 x3 = x3 → w32 x4 = x4 → w32 x5 = x5 → xS B xs SL (d + 1) 191 (8, none, [], 12) 0 44 [(0, xa x0), (2, xa x2), (3, xi x3), (4, xi x4), (5, xi x5)] [] m (yl191_44 B r44 x0 x2 x3 x4 x5 m) := by
  intro x0 x2 x3 x4 x5 m c3 c4 c5
  unfold yl191_44
  refine xS_of (pc' := 47) (L' := [(0, xa x0), (2, xa x2), (3, xi x3), (4, xi x4), (5, xi x5)]) (st' := [xi x3, xi x5]) (m' := m) (fun ex ns r q => ?_) ?_
  · refine xw_iload rfl rfl ?_
    refine xw_iload_n rfl rfl ?_
    exact q
  refine xS_if (fun h0 => ?_) (fun h0 => ?_)
  · refine xS_g (fun g1 => ?_)
    refine xS_g (fun g2 => ?_)
    refine xS_g (fun g3 => ?_)
    refine xS_g (fun g4 => ?_)
    refine xS_of (pc' := 69) (L' := [(0, xa x0), (2, xa x2), (3, xi x3), (4, xi x4), (5, xi x5)]) (st' := [xi x4, xj (w64 (((xJ m x2 x5) - (xJ m x2 (x5 - 1))) - (xJ m x0 13))), xa x0]) (m' := m) (fun ex ns r q => ?_) ?_
    · refine xw_ic_geF rfl (w32_cg c5) (w32_cg c3) (Int.not_le.mpr h0) ?_
      refine xw_aload_n rfl rfl rfl ?_
      refine xw_aload_n rfl rfl rfl ?_
      refine xw_iload rfl rfl ?_
      refine xw_laldc (n := (xw_le B x2)) (v := (m x2 x5)) (v' := (xJ m x2 x5)) rfl hB (xw_obd g2) rfl g1 rfl rfl ?_
      refine xw_aload_n rfl rfl rfl ?_
      refine xw_iload rfl rfl ?_
      refine xw_iconst rfl ?_
      refine xw_isub rfl ?_
      refine xw_laldc (n := (xw_le B x2)) (v := (m x2 (x5 - 1))) (v' := (xJ m x2 (x5 - 1))) rfl hB (xw_obd g2) rfl g3 rfl rfl ?_
      refine xw_lsub rfl ?_
      refine xw_aload_n rfl rfl rfl ?_
      refine xw_gfJc (v := (m x0 13)) (v' := (xJ m x0 13)) rfl (xw_obd g4) xk11_13 (qi := 13) rfl rfl rfl ?_
      refine xw_lsub rfl ?_
      refine xw_iload rfl rfl ?_
      refine xw_cst (st' := [xi x4, xj (w64 (((xJ m x2 x5) - (xJ m x2 (x5 - 1))) - (xJ m x0 13))), xa x0]) (xw_sc rfl (xw_sc (xj_c rfl) (xw_sc rfl rfl))) ?_
      refine xw_lo (L2 := [(0, xa x0), (2, xa x2), (3, xi x3), (4, xi x4), (5, xi x5)]) (List.forall_mem_cons.mpr ⟨rfl, List.forall_mem_cons.mpr ⟨rfl, List.forall_mem_cons.mpr ⟨rfl, List.forall_mem_cons.mpr ⟨rfl, List.forall_mem_cons.mpr ⟨rfl, fun _ h => absurd h List.not_mem_nil⟩⟩⟩⟩⟩) ?_
      exact q
    refine xS_call (q := 152) (n := 3) (kq := 0) (as := [xa x0, xj (w64 (((xJ m x2 x5) - (xJ m x2 (x5 - 1))) - (xJ m x0 13))), xi x4]) (st1 := []) rfl rfl rfl rfl rfl rfl rfl rfl rfl rfl (fun _ => xw_rcv1 (t := 11) (xw_obd g4) rfl) rfl (List.forall_mem_cons.mpr ⟨rfl, List.forall_mem_cons.mpr ⟨rfl, List.forall_mem_cons.mpr ⟨rfl, fun _ h => absurd h List.not_mem_nil⟩⟩⟩) (ygf152 hB _ _ _ _ (w64_w _) c4) (fun v1 m1 cv1 => ?_)
    refine xS_of (pc' := 44) (L' := [(0, xa x0), (2, xa x2), (3, xi x3), (4, xi x4), (5, xi (w32 (x5 + 1)))]) (st' := []) (m' := m1) (fun ex ns r q => ?_) ?_
    · refine xw_iincc (z := (w32 (x5 + 1))) (L' := [(5, xi (w32 (x5 + 1))), (0, xa x0), (2, xa x2), (3, xi x3), (4, xi x4)]) rfl rfl (by decide) rfl rfl ?_
      refine xw_goto rfl ?_
      refine xw_lo (L2 := [(0, xa x0), (2, xa x2), (3, xi x3), (4, xi x4), (5, xi (w32 (x5 + 1)))]) (List.forall_mem_cons.mpr ⟨rfl, List.forall_mem_cons.mpr ⟨rfl, List.forall_mem_cons.mpr ⟨rfl, List.forall_mem_cons.mpr ⟨rfl, List.forall_mem_cons.mpr ⟨rfl, fun _ h => absurd h List.not_mem_nil⟩⟩⟩⟩⟩) ?_
      exact q
    exact hr44 _ _ _ _ _ _ c3 c4 (w32_w _)
  · refine xS_of (pc' := 78) (L' := [(0, xa x0), (2, xa x2), (3, xi x3), (4, xi x4), (5, xi x5)]) (st' := []) (m' := m) (fun ex ns r q => ?_) ?_
    · refine xw_ic_geT rfl (w32_cg c5) (w32_cg c3) (Int.not_lt.mp h0) ?_
      exact q
    exact xS_ret (v := 0) rfl rfl rfl rfl
theorem ygl191_44 {B : Nat} (hB : B ≤ 512) {xs : Nat → Int32} {SL d : Nat} : ∀ n x0 x2 x3 x4 x5 m, w32 x3 = x3 → w32 x4 = x4 → w32 x5 = x5 → xS B xs SL (d + 1) 191 (8, none, [], 12) 0 44 [(0, xa x0), (2, xa x2), (3, xi x3), (4, xi x4), (5, xi x5)] [] m (xl5 (yl191_44 B) n x0 x2 x3 x4 x5 m) := by
  intro n
  induction n with
  | zero => intro x0 x2 x3 x4 x5 m c3 c4 c5; exact xS_none
  | succ n ih => exact ysl191_44 hB ih
theorem ysl191_113 {B : Nat} (hB : B ≤ 512) {xs : Nat → Int32} {SL d : Nat} {r113 : Int → Int → Int → Int → Int → Int → xw_M → xP} (hr113 : ∀ x0 x2 x3 x4 x5 x7 m, w32 x3 = x3 → w32 x4 = x4 → w64 x5 = x5 → w32 x7 = x7 → xS B xs SL (d + 1) 191 (8, none, [], 12) 0 113 [(0, xa x0), (2, xa x2), (3, xi x3), (4, xi x4), (5, xj x5), (7, xi x7)] [] m (r113 x0 x2 x3 x4 x5 x7 m)) : ∀ x0 x2 x3 x4 x5 x7 m, w32 x3 = x3 → w32 x4 = x4 → w64 x5 = x5 → w32 x7 = x7 → xS B xs SL (d + 1) 191 (8, none, [], 12) 0 113 [(0, xa x0), (2, xa x2), (3, xi x3), (4, xi x4), (5, xj x5), (7, xi x7)] [] m (yl191_113 B r113 x0 x2 x3 x4 x5 x7 m) := by
  intro x0 x2 x3 x4 x5 x7 m c3 c4 c5 c7
  unfold yl191_113
  refine xS_of (pc' := 116) (L' := [(0, xa x0), (2, xa x2), (3, xi x3), (4, xi x4), (5, xj x5), (7, xi x7)]) (st' := [xi x3, xi x7]) (m' := m) (fun ex ns r q => ?_) ?_
  · refine xw_iload rfl rfl ?_
    refine xw_iload_n rfl rfl ?_
    exact q
  refine xS_if (fun h0 => ?_) (fun h0 => ?_)
  · refine xS_g (fun g1 => ?_)
    refine xS_g (fun g2 => ?_)
    refine xS_g (fun g3 => ?_)
    refine xS_of (pc' := 129) (L' := [(0, xa x0), (2, xa x2), (3, xi x3), (4, xi x4), (5, xj x5), (7, xi x7)]) (st' := [xi x4, xj (w64 ((xJ m x2 x7) - x5)), xa x0]) (m' := m) (fun ex ns r q => ?_) ?_
    · refine xw_ic_geF rfl (w32_cg c7) (w32_cg c3) (Int.not_le.mpr h0) ?_
      refine xw_aload_n rfl rfl rfl ?_
      refine xw_aload_n rfl rfl rfl ?_
      refine xw_iload rfl rfl ?_
      refine xw_laldc (n := (xw_le B x2)) (v := (m x2 x7)) (v' := (xJ m x2 x7)) rfl hB (xw_obd g2) rfl g1 rfl rfl ?_
      refine xw_lload rfl rfl ?_
      refine xw_lsub rfl ?_
      refine xw_iload rfl rfl ?_
      refine xw_cst (st' := [xi x4, xj (w64 ((xJ m x2 x7) - x5)), xa x0]) (xw_sc rfl (xw_sc (xj_c rfl) (xw_sc rfl rfl))) ?_
      refine xw_lo (L2 := [(0, xa x0), (2, xa x2), (3, xi x3), (4, xi x4), (5, xj x5), (7, xi x7)]) (List.forall_mem_cons.mpr ⟨rfl, List.forall_mem_cons.mpr ⟨rfl, List.forall_mem_cons.mpr ⟨rfl, List.forall_mem_cons.mpr ⟨rfl, List.forall_mem_cons.mpr ⟨rfl, List.forall_mem_cons.mpr ⟨rfl, fun _ h => absurd h List.not_mem_nil⟩⟩⟩⟩⟩⟩) ?_
      exact q
    refine xS_call (q := 152) (n := 3) (kq := 0) (as := [xa x0, xj (w64 ((xJ m x2 x7) - x5)), xi x4]) (st1 := []) rfl rfl rfl rfl rfl rfl rfl rfl rfl rfl (fun _ => xw_rcv1 (t := 11) (xw_obd g3) rfl) rfl (List.forall_mem_cons.mpr ⟨rfl, List.forall_mem_cons.mpr ⟨rfl, List.forall_mem_cons.mpr ⟨rfl, fun _ h => absurd h List.not_mem_nil⟩⟩⟩) (ygf152 hB _ _ _ _ (w64_w _) c4) (fun v1 m1 cv1 => ?_)
    refine xS_of (pc' := 113) (L' := [(0, xa x0), (2, xa x2), (3, xi x3), (4, xi x4), (5, xj x5), (7, xi (w32 (x7 + 1)))]) (st' := []) (m' := m1) (fun ex ns r q => ?_) ?_
    · refine xw_iincc (z := (w32 (x7 + 1))) (L' := [(7, xi (w32 (x7 + 1))), (0, xa x0), (2, xa x2), (3, xi x3), (4, xi x4), (5, xj x5)]) rfl rfl (by decide) rfl rfl ?_
      refine xw_goto rfl ?_
      refine xw_lo (L2 := [(0, xa x0), (2, xa x2), (3, xi x3), (4, xi x4), (5, xj x5), (7, xi (w32 (x7 + 1)))]) (List.forall_mem_cons.mpr ⟨rfl, List.forall_mem_cons.mpr ⟨rfl, List.forall_mem_cons.mpr ⟨rfl, List.forall_mem_cons.mpr ⟨rfl, List.forall_mem_cons.mpr ⟨rfl, List.forall_mem_cons.mpr ⟨rfl, fun _ h => absurd h List.not_mem_nil⟩⟩⟩⟩⟩⟩) ?_
      exact q
    exact hr113 _ _ _ _ _ _ _ c3 c4 c5 (w32_w _)
  · refine xS_of (pc' := 138) (L' := [(0, xa x0), (2, xa x2), (3, xi x3), (4, xi x4), (5, xj x5), (7, xi x7)]) (st' := []) (m' := m) (fun ex ns r q => ?_) ?_
    · refine xw_ic_geT rfl (w32_cg c7) (w32_cg c3) (Int.not_lt.mp h0) ?_
      exact q
    exact xS_ret (v := 0) rfl rfl rfl rfl
theorem ygl191_113 {B : Nat} (hB : B ≤ 512) {xs : Nat → Int32} {SL d : Nat} : ∀ n x0 x2 x3 x4 x5 x7 m, w32 x3 = x3 → w32 x4 = x4 → w64 x5 = x5 → w32 x7 = x7 → xS B xs SL (d + 1) 191 (8, none, [], 12) 0 113 [(0, xa x0), (2, xa x2), (3, xi x3), (4, xi x4), (5, xj x5), (7, xi x7)] [] m (xl6 (yl191_113 B) n x0 x2 x3 x4 x5 x7 m) := by
  intro n
  induction n with
  | zero => intro x0 x2 x3 x4 x5 x7 m c3 c4 c5 c7; exact xS_none
  | succ n ih => exact ysl191_113 hB ih
theorem ygf191 {B : Nat} (hB : B ≤ 512) {xs : Nat → Int32} {SL d : Nat} : ∀ t p0 p1 p2 m, w32 p0 = p0 → w32 p2 = p2 → xS B xs SL (d + 1) 191 (8, none, [], 12) 0 0 [(0, xa t), (1, xi p0), (2, xa p1), (3, xi p2)] [] m (yf191 B t p0 p1 p2 m) := by
  intro t p0 p1 p2 m cp0 cp2
  unfold yf191
  refine xS_g (fun g0 => ?_)
  refine xS_g (fun g1 => ?_)
  refine xS_g (fun g2 => ?_)
  refine xS_of (pc' := 10) (L' := [(4, xi (xR m (xw_rf t 7) p0)), (0, xa t), (1, xi p0), (2, xa p1), (3, xi p2)]) (st' := [xi 4, xi p0]) (m' := m) (fun ex ns r q => ?_) ?_
  · refine xw_aload_n rfl rfl rfl ?_
    refine xw_gfV (qi := 7) rfl (xw_obd g0) xk11_7 rfl ?_
    refine xw_iload_n rfl rfl ?_
    refine xw_ialdc (n := (xw_le B (xw_rf t 7))) (v := (m (xw_rf t 7) p0)) (v' := (xR m (xw_rf t 7) p0)) rfl hB (xw_obd g2) rfl g1 rfl rfl ?_
    refine xw_istore (L' := [(4, xi (xR m (xw_rf t 7) p0)), (0, xa t), (1, xi p0), (2, xa p1), (3, xi p2)]) rfl (by decide) rfl ?_
    refine xw_iload_n rfl rfl ?_
    refine xw_iconst rfl ?_
    exact q
  refine xS_if (fun h3 => ?_) (fun h3 => ?_)
  · refine xS_g (fun g4 => ?_)
    refine xS_g (fun g5 => ?_)
    refine xS_of (pc' := 19) (L' := [(0, xa t), (2, xa p1), (3, xi p2), (4, xi (xR m (xw_rf t 7) p0))]) (st' := [xi 64, xj (xJ m p1 0), xa t]) (m' := m) (fun ex ns r q => ?_) ?_
    · refine xw_ic_neF rfl (w32_cg cp0) (w32_cg rfl) h3 ?_
      refine xw_aload_n rfl rfl rfl ?_
      refine xw_aload_n rfl rfl rfl ?_
      refine xw_iconst rfl ?_
      refine xw_laldc (n := (xw_le B p1)) (v := (m p1 0)) (v' := (xJ m p1 0)) rfl hB (xw_obd g5) rfl g4 rfl rfl ?_
      refine xw_bipush (e := 64) rfl (by decide +kernel) ?_
      refine xw_lo (L2 := [(0, xa t), (2, xa p1), (3, xi p2), (4, xi (xR m (xw_rf t 7) p0))]) (List.forall_mem_cons.mpr ⟨rfl, List.forall_mem_cons.mpr ⟨rfl, List.forall_mem_cons.mpr ⟨rfl, List.forall_mem_cons.mpr ⟨rfl, fun _ h => absurd h List.not_mem_nil⟩⟩⟩⟩) ?_
      exact q
    refine xS_call (q := 152) (n := 3) (kq := 0) (as := [xa t, xj (xJ m p1 0), xi 64]) (st1 := []) rfl rfl rfl rfl rfl rfl rfl rfl rfl rfl (fun _ => xw_rcv1 (t := 11) (xw_obd g0) rfl) rfl (List.forall_mem_cons.mpr ⟨rfl, List.forall_mem_cons.mpr ⟨rfl, List.forall_mem_cons.mpr ⟨rfl, fun _ h => absurd h List.not_mem_nil⟩⟩⟩) (ygf152 hB _ _ _ _ (w64_xJ _ _ _) rfl) (fun v1 m1 cv1 => ?_)
    refine xS_of (pc' := 29) (L' := [(0, xa t), (2, xa p1), (3, xi p2), (4, xi (xR m (xw_rf t 7) p0))]) (st' := [xi 64, xj (xJ m1 t 13), xa t]) (m' := m1) (fun ex ns r q => ?_) ?_
    · refine xw_aload_n rfl rfl rfl ?_
      refine xw_aload_n rfl rfl rfl ?_
      refine xw_gfJc (v := (m1 t 13)) (v' := (xJ m1 t 13)) rfl (xw_obd g0) xk11_13 (qi := 13) rfl rfl rfl ?_
      refine xw_bipush (e := 64) rfl (by decide +kernel) ?_
      refine xw_lo (L2 := [(0, xa t), (2, xa p1), (3, xi p2), (4, xi (xR m (xw_rf t 7) p0))]) (List.forall_mem_cons.mpr ⟨rfl, List.forall_mem_cons.mpr ⟨rfl, List.forall_mem_cons.mpr ⟨rfl, List.forall_mem_cons.mpr ⟨rfl, fun _ h => absurd h List.not_mem_nil⟩⟩⟩⟩) ?_
      exact q
    refine xS_call (q := 152) (n := 3) (kq := 0) (as := [xa t, xj (xJ m1 t 13), xi 64]) (st1 := []) rfl rfl rfl rfl rfl rfl rfl rfl rfl rfl (fun _ => xw_rcv1 (t := 11) (xw_obd g0) rfl) rfl (List.forall_mem_cons.mpr ⟨rfl, List.forall_mem_cons.mpr ⟨rfl, List.forall_mem_cons.mpr ⟨rfl, fun _ h => absurd h List.not_mem_nil⟩⟩⟩) (ygf152 hB _ _ _ _ (w64_xJ _ _ _) rfl) (fun v2 m2 cv2 => ?_)
    refine xS_of (pc' := 38) (L' := [(0, xa t), (2, xa p1), (3, xi p2), (4, xi (xR m (xw_rf t 7) p0))]) (st' := [xi 8, xj (xR m (xw_rf t 7) p0), xa t]) (m' := m2) (fun ex ns r q => ?_) ?_
    · refine xw_aload_n rfl rfl rfl ?_
      refine xw_iload rfl rfl ?_
      refine xw_i2l rfl (w32_cg (w32_xR _ _ _)) ?_
      refine xw_bipush (e := 8) rfl (by decide +kernel) ?_
      refine xw_lo (L2 := [(0, xa t), (2, xa p1), (3, xi p2), (4, xi (xR m (xw_rf t 7) p0))]) (List.forall_mem_cons.mpr ⟨rfl, List.forall_mem_cons.mpr ⟨rfl, List.forall_mem_cons.mpr ⟨rfl, List.forall_mem_cons.mpr ⟨rfl, fun _ h => absurd h List.not_mem_nil⟩⟩⟩⟩) ?_
      exact q
    refine xS_call (q := 152) (n := 3) (kq := 0) (as := [xa t, xj (xR m (xw_rf t 7) p0), xi 8]) (st1 := []) rfl rfl rfl rfl rfl rfl rfl rfl rfl rfl (fun _ => xw_rcv1 (t := 11) (xw_obd g0) rfl) rfl (List.forall_mem_cons.mpr ⟨rfl, List.forall_mem_cons.mpr ⟨rfl, List.forall_mem_cons.mpr ⟨rfl, fun _ h => absurd h List.not_mem_nil⟩⟩⟩) (ygf152 hB _ _ _ _ (w64_32 (w32_xR _ _ _)) rfl) (fun v3 m3 cv3 => ?_)
    refine xS_of (pc' := 44) (L' := [(0, xa t), (2, xa p1), (3, xi p2), (4, xi (xR m (xw_rf t 7) p0)), (5, xi 1)]) (st' := []) (m' := m3) (fun ex ns r q => ?_) ?_
    · refine xw_iconst rfl ?_
      refine xw_istore (L' := [(5, xi 1), (0, xa t), (2, xa p1), (3, xi p2), (4, xi (xR m (xw_rf t 7) p0))]) rfl (by decide) rfl ?_
      refine xw_lo (L2 := [(0, xa t), (2, xa p1), (3, xi p2), (4, xi (xR m (xw_rf t 7) p0)), (5, xi 1)]) (List.forall_mem_cons.mpr ⟨rfl, List.forall_mem_cons.mpr ⟨rfl, List.forall_mem_cons.mpr ⟨rfl, List.forall_mem_cons.mpr ⟨rfl, List.forall_mem_cons.mpr ⟨rfl, fun _ h => absurd h List.not_mem_nil⟩⟩⟩⟩⟩) ?_
      exact q
    exact ygl191_44 hB 1000000 _ _ _ _ _ _ cp2 (w32_xR _ _ _) rfl
  · refine xS_of (pc' := 84) (L' := [(5, xj 0), (4, xi (xR m (xw_rf t 7) p0)), (0, xa t), (1, xi p0), (2, xa p1), (3, xi p2)]) (st' := [xi 1, xi p0]) (m' := m) (fun ex ns r q => ?_) ?_
    · refine xw_ic_neT rfl (w32_cg cp0) (w32_cg rfl) h3 ?_
      refine xw_lconst (e := 0) rfl rfl ?_
      refine xw_lstore (L' := [(5, xj 0), (4, xi (xR m (xw_rf t 7) p0)), (0, xa t), (1, xi p0), (2, xa p1), (3, xi p2)]) rfl (by decide) rfl ?_
      refine xw_iload_n rfl rfl ?_
      refine xw_iconst rfl ?_
      exact q
    refine xS_if (fun h4 => ?_) (fun h4 => ?_)
    · refine xS_of (pc' := 98) (L' := [(0, xa t), (2, xa p1), (3, xi p2), (4, xi (xR m (xw_rf t 7) p0)), (5, xj (xJ m t 11))]) (st' := [xi 64, xj (xJ m t 11), xa t]) (m' := m) (fun ex ns r q => ?_) ?_
      · refine xw_ic_neF rfl (w32_cg cp0) (w32_cg rfl) h4 ?_
        refine xw_aload_n rfl rfl rfl ?_
        refine xw_gfJc (v := (m t 11)) (v' := (xJ m t 11)) rfl (xw_obd g0) xk11_11 (qi := 11) rfl rfl rfl ?_
        refine xw_lstore (L' := [(5, xj (xJ m t 11)), (4, xi (xR m (xw_rf t 7) p0)), (0, xa t), (1, xi p0), (2, xa p1), (3, xi p2)]) rfl (by decide) rfl ?_
        refine xw_aload_n rfl rfl rfl ?_
        refine xw_lload rfl rfl ?_
        refine xw_bipush (e := 64) rfl (by decide +kernel) ?_
        refine xw_lo (L2 := [(0, xa t), (2, xa p1), (3, xi p2), (4, xi (xR m (xw_rf t 7) p0)), (5, xj (xJ m t 11))]) (List.forall_mem_cons.mpr ⟨rfl, List.forall_mem_cons.mpr ⟨rfl, List.forall_mem_cons.mpr ⟨rfl, List.forall_mem_cons.mpr ⟨rfl, List.forall_mem_cons.mpr ⟨rfl, fun _ h => absurd h List.not_mem_nil⟩⟩⟩⟩⟩) ?_
        exact q
      refine xS_call (q := 152) (n := 3) (kq := 0) (as := [xa t, xj (xJ m t 11), xi 64]) (st1 := []) rfl rfl rfl rfl rfl rfl rfl rfl rfl rfl (fun _ => xw_rcv1 (t := 11) (xw_obd g0) rfl) rfl (List.forall_mem_cons.mpr ⟨rfl, List.forall_mem_cons.mpr ⟨rfl, List.forall_mem_cons.mpr ⟨rfl, fun _ h => absurd h List.not_mem_nil⟩⟩⟩) (ygf152 hB _ _ _ _ (w64_xJ _ _ _) rfl) (fun v4 m4 cv4 => ?_)
      refine xS_of (pc' := 107) (L' := [(0, xa t), (2, xa p1), (3, xi p2), (4, xi (xR m (xw_rf t 7) p0)), (5, xj (xJ m t 11))]) (st' := [xi 8, xj (xR m (xw_rf t 7) p0), xa t]) (m' := m4) (fun ex ns r q => ?_) ?_
      · refine xw_aload_n rfl rfl rfl ?_
        refine xw_iload rfl rfl ?_
        refine xw_i2l rfl (w32_cg (w32_xR _ _ _)) ?_
        refine xw_bipush (e := 8) rfl (by decide +kernel) ?_
        refine xw_lo (L2 := [(0, xa t), (2, xa p1), (3, xi p2), (4, xi (xR m (xw_rf t 7) p0)), (5, xj (xJ m t 11))]) (List.forall_mem_cons.mpr ⟨rfl, List.forall_mem_cons.mpr ⟨rfl, List.forall_mem_cons.mpr ⟨rfl, List.forall_mem_cons.mpr ⟨rfl, List.forall_mem_cons.mpr ⟨rfl, fun _ h => absurd h List.not_mem_nil⟩⟩⟩⟩⟩) ?_
        exact q
      refine xS_call (q := 152) (n := 3) (kq := 0) (as := [xa t, xj (xR m (xw_rf t 7) p0), xi 8]) (st1 := []) rfl rfl rfl rfl rfl rfl rfl rfl rfl rfl (fun _ => xw_rcv1 (t := 11) (xw_obd g0) rfl) rfl (List.forall_mem_cons.mpr ⟨rfl, List.forall_mem_cons.mpr ⟨rfl, List.forall_mem_cons.mpr ⟨rfl, fun _ h => absurd h List.not_mem_nil⟩⟩⟩) (ygf152 hB _ _ _ _ (w64_32 (w32_xR _ _ _)) rfl) (fun v5 m5 cv5 => ?_)
      refine xS_of (pc' := 113) (L' := [(0, xa t), (2, xa p1), (3, xi p2), (4, xi (xR m (xw_rf t 7) p0)), (5, xj (xJ m t 11)), (7, xi 0)]) (st' := []) (m' := m5) (fun ex ns r q => ?_) ?_
      · refine xw_iconst rfl ?_
        refine xw_istore (L' := [(7, xi 0), (0, xa t), (2, xa p1), (3, xi p2), (4, xi (xR m (xw_rf t 7) p0)), (5, xj (xJ m t 11))]) rfl (by decide) rfl ?_
        refine xw_lo (L2 := [(0, xa t), (2, xa p1), (3, xi p2), (4, xi (xR m (xw_rf t 7) p0)), (5, xj (xJ m t 11)), (7, xi 0)]) (List.forall_mem_cons.mpr ⟨rfl, List.forall_mem_cons.mpr ⟨rfl, List.forall_mem_cons.mpr ⟨rfl, List.forall_mem_cons.mpr ⟨rfl, List.forall_mem_cons.mpr ⟨rfl, List.forall_mem_cons.mpr ⟨rfl, fun _ h => absurd h List.not_mem_nil⟩⟩⟩⟩⟩⟩) ?_
        exact q
      exact ygl191_113 hB 1000000 _ _ _ _ _ _ _ cp2 (w32_xR _ _ _) (w64_xJ _ _ _) rfl
    · refine xS_of (pc' := 113) (L' := [(0, xa t), (2, xa p1), (3, xi p2), (4, xi (xR m (xw_rf t 7) p0)), (5, xj 0), (7, xi 0)]) (st' := []) (m' := m) (fun ex ns r q => ?_) ?_
      · refine xw_ic_neT rfl (w32_cg cp0) (w32_cg rfl) h4 ?_
        refine xw_iconst rfl ?_
        refine xw_istore (L' := [(7, xi 0), (5, xj 0), (4, xi (xR m (xw_rf t 7) p0)), (0, xa t), (1, xi p0), (2, xa p1), (3, xi p2)]) rfl (by decide) rfl ?_
        refine xw_lo (L2 := [(0, xa t), (2, xa p1), (3, xi p2), (4, xi (xR m (xw_rf t 7) p0)), (5, xj 0), (7, xi 0)]) (List.forall_mem_cons.mpr ⟨rfl, List.forall_mem_cons.mpr ⟨rfl, List.forall_mem_cons.mpr ⟨rfl, List.forall_mem_cons.mpr ⟨rfl, List.forall_mem_cons.mpr ⟨rfl, List.forall_mem_cons.mpr ⟨rfl, fun _ h => absurd h List.not_mem_nil⟩⟩⟩⟩⟩⟩) ?_
        exact q
      exact ygl191_113 hB 1000000 _ _ _ _ _ _ _ cp2 (w32_xR _ _ _) rfl rfl
theorem ygf183 {B : Nat} (hB : B ≤ 512) {xs : Nat → Int32} {SL d : Nat} : ∀ t p0 p1 m, w32 p1 = p1 → xS B xs SL (d + 4) 183 (6, none, [], 12) 0 0 [(0, xa t), (1, xa p0), (2, xi p1)] [] m (yf183 B t p0 p1 m) := by
  intro t p0 p1 m cp1
  unfold yf183
  refine xS_g (fun g0 => ?_)
  refine xS_of (pc' := 4) (L' := [(0, xa t), (1, xa p0), (2, xi p1)]) (st' := [xi (xR m t 3)]) (m' := m) (fun ex ns r q => ?_) ?_
  · refine xw_aload_n rfl rfl rfl ?_
    refine xw_gfIc (v := (m t 3)) (v' := (xR m t 3)) rfl (xw_obd g0) xk11_3 (qi := 3) rfl rfl rfl ?_
    exact q
  refine xS_if (fun h1 => ?_) (fun h1 => ?_)
  · refine xS_of (pc' := 11) (L' := [(0, xa t), (1, xa p0), (2, xi p1)]) (st' := [xi p1, xa p0, xa t]) (m' := m) (fun ex ns r q => ?_) ?_
    · refine xw_if_eqT rfl (w32_cg (w32_xR _ _ _)) h1 ?_
      refine xw_aload_n rfl rfl rfl ?_
      refine xw_aload_n rfl rfl rfl ?_
      refine xw_iload_n rfl rfl ?_
      refine xw_lo (L2 := [(0, xa t), (1, xa p0), (2, xi p1)]) (List.forall_mem_cons.mpr ⟨rfl, List.forall_mem_cons.mpr ⟨rfl, List.forall_mem_cons.mpr ⟨rfl, fun _ h => absurd h List.not_mem_nil⟩⟩⟩) ?_
      exact q
    refine xS_call (q := 184) (n := 3) (kq := 0) (as := [xa t, xa p0, xi p1]) (st1 := []) rfl rfl rfl rfl rfl rfl rfl rfl rfl rfl (fun _ => xw_rcv1 (t := 11) (xw_obd g0) rfl) rfl (List.forall_mem_cons.mpr ⟨rfl, List.forall_mem_cons.mpr ⟨rfl, List.forall_mem_cons.mpr ⟨rfl, fun _ h => absurd h List.not_mem_nil⟩⟩⟩) (ygf184 hB _ _ _ _ cp1) (fun v1 m1 cv1 => ?_)
    refine xS_of (pc' := 17) (L' := [(0, xa t), (1, xa p0), (2, xi p1)]) (st' := [xi p1, xa p0, xa t]) (m' := m1) (fun ex ns r q => ?_) ?_
    · refine xw_aload_n rfl rfl rfl ?_
      refine xw_aload_n rfl rfl rfl ?_
      refine xw_iload_n rfl rfl ?_
      refine xw_lo (L2 := [(0, xa t), (1, xa p0), (2, xi p1)]) (List.forall_mem_cons.mpr ⟨rfl, List.forall_mem_cons.mpr ⟨rfl, List.forall_mem_cons.mpr ⟨rfl, fun _ h => absurd h List.not_mem_nil⟩⟩⟩) ?_
      exact q
    refine xS_call (q := 185) (n := 3) (kq := 0) (as := [xa t, xa p0, xi p1]) (st1 := []) rfl rfl rfl rfl rfl rfl rfl rfl rfl rfl (fun _ => xw_rcv1 (t := 11) (xw_obd g0) rfl) rfl (List.forall_mem_cons.mpr ⟨rfl, List.forall_mem_cons.mpr ⟨rfl, List.forall_mem_cons.mpr ⟨rfl, fun _ h => absurd h List.not_mem_nil⟩⟩⟩) (ygf185 hB _ _ _ _ cp1) (fun v2 m2 cv2 => ?_)
    refine xS_of (pc' := 22) (L' := [(0, xa t), (1, xa p0), (2, xi p1)]) (st' := [xi p1, xa t]) (m' := m2) (fun ex ns r q => ?_) ?_
    · refine xw_aload_n rfl rfl rfl ?_
      refine xw_iload_n rfl rfl ?_
      refine xw_lo (L2 := [(0, xa t), (1, xa p0), (2, xi p1)]) (List.forall_mem_cons.mpr ⟨rfl, List.forall_mem_cons.mpr ⟨rfl, List.forall_mem_cons.mpr ⟨rfl, fun _ h => absurd h List.not_mem_nil⟩⟩⟩) ?_
      exact q
    refine xS_call (q := 187) (n := 2) (kq := 0) (as := [xa t, xi p1]) (st1 := []) rfl rfl rfl rfl rfl rfl rfl rfl rfl rfl (fun _ => xw_rcv1 (t := 11) (xw_obd g0) rfl) rfl (List.forall_mem_cons.mpr ⟨rfl, List.forall_mem_cons.mpr ⟨rfl, fun _ h => absurd h List.not_mem_nil⟩⟩) (ygf187 hB _ _ _ cp1) (fun v3 m3 cv3 => ?_)
    refine xS_of (pc' := 26) (L' := [(0, xa t), (1, xa p0), (2, xi p1)]) (st' := [xa t]) (m' := m3) (fun ex ns r q => ?_) ?_
    · refine xw_aload_n rfl rfl rfl ?_
      refine xw_lo (L2 := [(0, xa t), (1, xa p0), (2, xi p1)]) (List.forall_mem_cons.mpr ⟨rfl, List.forall_mem_cons.mpr ⟨rfl, List.forall_mem_cons.mpr ⟨rfl, fun _ h => absurd h List.not_mem_nil⟩⟩⟩) ?_
      exact q
    refine xS_call (q := 188) (n := 1) (kq := 1) (as := [xa t]) (st1 := []) rfl rfl rfl rfl rfl rfl rfl rfl rfl rfl (fun _ => xw_rcv1 (t := 11) (xw_obd g0) rfl) rfl (List.forall_mem_cons.mpr ⟨rfl, fun _ h => absurd h List.not_mem_nil⟩) (ygf188 hB _ _) (fun v4 m4 cv4 => ?_)
    refine xS_g (fun g2 => ?_)
    refine xS_g (fun g3 => ?_)
    refine xS_g (fun g4 => ?_)
    refine xS_of (pc' := 55) (L' := [(4, xi (xR m4 (xw_rf t 8) v4)), (3, xi v4), (0, xa t), (1, xa p0), (2, xi p1)]) (st' := [xi ((w32 ((xR m4 t 1) - (xR m4 t 2))) / 8), xi (w32 ((xR m4 (xw_rf t 8) v4) + 20))]) (m' := m4) (fun ex ns r q => ?_) ?_
    · refine xw_istore_n (L' := [(3, xi v4), (0, xa t), (1, xa p0), (2, xi p1)]) rfl (by decide) rfl ?_
      refine xw_aload_n rfl rfl rfl ?_
      refine xw_gfV (qi := 8) rfl (xw_obd g0) xk11_8 rfl ?_
      refine xw_iload_n rfl rfl ?_
      refine xw_ialdc (n := (xw_le B (xw_rf t 8))) (v := (m4 (xw_rf t 8) v4)) (v' := (xR m4 (xw_rf t 8) v4)) rfl hB (xw_obd g3) rfl g2 rfl rfl ?_
      refine xw_istore (L' := [(4, xi (xR m4 (xw_rf t 8) v4)), (3, xi v4), (0, xa t), (1, xa p0), (2, xi p1)]) rfl (by decide) rfl ?_
      refine xw_iload rfl rfl ?_
      refine xw_bipush (e := 20) rfl (by decide +kernel) ?_
      refine xw_iadd rfl ?_
      refine xw_aload_n rfl rfl rfl ?_
      refine xw_gfIc (v := (m4 t 1)) (v' := (xR m4 t 1)) rfl (xw_obd g0) xk11_1 (qi := 1) rfl rfl rfl ?_
      refine xw_aload_n rfl rfl rfl ?_
      refine xw_gfIc (v := (m4 t 2)) (v' := (xR m4 t 2)) rfl (xw_obd g0) xk11_2 (qi := 2) rfl rfl rfl ?_
      refine xw_isub rfl ?_
      refine xw_bipush (e := 8) rfl (by decide +kernel) ?_
      refine xw_cst (st' := [xi 8, xi (w32 ((xR m4 t 1) - (xR m4 t 2))), xi ((xR m4 (xw_rf t 8) v4) + 20)]) (xw_sc rfl (xw_sc (xi_c rfl) rfl)) ?_
      refine xw_idiv (z := ((w32 ((xR m4 t 1) - (xR m4 t 2))) / 8)) rfl (xw_idivn ⟨(by decide), (w32_cg rfl).2⟩) (xw_idive ⟨g4, (w32_cg (w32_w _)).2⟩ ⟨(by decide), (w32_cg rfl).2⟩) ?_
      refine xw_cst (st' := [xi ((w32 ((xR m4 t 1) - (xR m4 t 2))) / 8), xi (w32 ((xR m4 (xw_rf t 8) v4) + 20))]) (xw_sc rfl (xw_sc (xi_c rfl) rfl)) ?_
      exact q
    refine xS_if (fun h5 => ?_) (fun h5 => ?_)
    · refine xS_of (pc' := 63) (L' := [(4, xi (xR m4 (xw_rf t 8) v4)), (3, xi v4), (0, xa t), (1, xa p0), (2, xi p1)]) (st' := []) (m' := (xw_u m4 t 3 1)) (fun ex ns r q => ?_) ?_
      · refine xw_ic_leF rfl (w32_cg (w32_w _)) (w32_cg (w32_dv (w32_w _) ⟨g4, (by decide)⟩)) (Int.not_le.mpr h5) ?_
        refine xw_aload_n rfl rfl rfl ?_
        refine xw_iconst rfl ?_
        refine xw_pfI rfl (xw_obd g0) xk11_3 (qi := 3) rfl (xw_okZ rfl (Or.inr rfl)) ?_
        exact q
      exact xS_ret (v := 0) rfl rfl rfl rfl
    · refine xS_of (pc' := 69) (L' := [(0, xa t), (1, xa p0), (2, xi p1), (3, xi v4), (4, xi (xR m4 (xw_rf t 8) v4))]) (st' := [xi 8, xj v4, xa t]) (m' := m4) (fun ex ns r q => ?_) ?_
      · refine xw_ic_leT rfl (w32_cg (w32_w _)) (w32_cg (w32_dv (w32_w _) ⟨g4, (by decide)⟩)) (Int.not_lt.mp h5) ?_
        refine xw_aload_n rfl rfl rfl ?_
        refine xw_iload_n rfl rfl ?_
        refine xw_i2l rfl (w32_cg cv4) ?_
        refine xw_bipush (e := 8) rfl (by decide +kernel) ?_
        refine xw_lo (L2 := [(0, xa t), (1, xa p0), (2, xi p1), (3, xi v4), (4, xi (xR m4 (xw_rf t 8) v4))]) (List.forall_mem_cons.mpr ⟨rfl, List.forall_mem_cons.mpr ⟨rfl, List.forall_mem_cons.mpr ⟨rfl, List.forall_mem_cons.mpr ⟨rfl, List.forall_mem_cons.mpr ⟨rfl, fun _ h => absurd h List.not_mem_nil⟩⟩⟩⟩⟩) ?_
        exact q
      refine xS_call (q := 152) (n := 3) (kq := 0) (as := [xa t, xj v4, xi 8]) (st1 := []) rfl rfl rfl rfl rfl rfl rfl rfl rfl rfl (fun _ => xw_rcv1 (t := 11) (xw_obd g0) rfl) rfl (List.forall_mem_cons.mpr ⟨rfl, List.forall_mem_cons.mpr ⟨rfl, List.forall_mem_cons.mpr ⟨rfl, fun _ h => absurd h List.not_mem_nil⟩⟩⟩) (ygf152 hB _ _ _ _ (w64_32 cv4) rfl) (fun v5 m5 cv5 => ?_)
      refine xS_of (pc' := 78) (L' := [(0, xa t), (1, xa p0), (2, xi p1), (3, xi v4), (4, xi (xR m4 (xw_rf t 8) v4))]) (st' := [xi 24, xj (xR m4 (xw_rf t 8) v4), xa t]) (m' := m5) (fun ex ns r q => ?_) ?_
      · refine xw_aload_n rfl rfl rfl ?_
        refine xw_iload rfl rfl ?_
        refine xw_i2l rfl (w32_cg (w32_xR _ _ _)) ?_
        refine xw_bipush (e := 24) rfl (by decide +kernel) ?_
        refine xw_lo (L2 := [(0, xa t), (1, xa p0), (2, xi p1), (3, xi v4), (4, xi (xR m4 (xw_rf t 8) v4))]) (List.forall_mem_cons.mpr ⟨rfl, List.forall_mem_cons.mpr ⟨rfl, List.forall_mem_cons.mpr ⟨rfl, List.forall_mem_cons.mpr ⟨rfl, List.forall_mem_cons.mpr ⟨rfl, fun _ h => absurd h List.not_mem_nil⟩⟩⟩⟩⟩) ?_
        exact q
      refine xS_call (q := 152) (n := 3) (kq := 0) (as := [xa t, xj (xR m4 (xw_rf t 8) v4), xi 24]) (st1 := []) rfl rfl rfl rfl rfl rfl rfl rfl rfl rfl (fun _ => xw_rcv1 (t := 11) (xw_obd g0) rfl) rfl (List.forall_mem_cons.mpr ⟨rfl, List.forall_mem_cons.mpr ⟨rfl, List.forall_mem_cons.mpr ⟨rfl, fun _ h => absurd h List.not_mem_nil⟩⟩⟩) (ygf152 hB _ _ _ _ (w64_32 (w32_xR _ _ _)) rfl) (fun v6 m6 cv6 => ?_)
      refine xS_of (pc' := 88) (L' := [(0, xa t), (1, xa p0), (2, xi p1), (3, xi v4), (4, xi (xR m4 (xw_rf t 8) v4))]) (st' := [xi 64, xj (xJ m6 t 11), xa t]) (m' := m6) (fun ex ns r q => ?_) ?_
      · refine xw_aload_n rfl rfl rfl ?_
        refine xw_aload_n rfl rfl rfl ?_
        refine xw_gfJc (v := (m6 t 11)) (v' := (xJ m6 t 11)) rfl (xw_obd g0) xk11_11 (qi := 11) rfl rfl rfl ?_
        refine xw_bipush (e := 64) rfl (by decide +kernel) ?_
        refine xw_lo (L2 := [(0, xa t), (1, xa p0), (2, xi p1), (3, xi v4), (4, xi (xR m4 (xw_rf t 8) v4))]) (List.forall_mem_cons.mpr ⟨rfl, List.forall_mem_cons.mpr ⟨rfl, List.forall_mem_cons.mpr ⟨rfl, List.forall_mem_cons.mpr ⟨rfl, List.forall_mem_cons.mpr ⟨rfl, fun _ h => absurd h List.not_mem_nil⟩⟩⟩⟩⟩) ?_
        exact q
      refine xS_call (q := 152) (n := 3) (kq := 0) (as := [xa t, xj (xJ m6 t 11), xi 64]) (st1 := []) rfl rfl rfl rfl rfl rfl rfl rfl rfl rfl (fun _ => xw_rcv1 (t := 11) (xw_obd g0) rfl) rfl (List.forall_mem_cons.mpr ⟨rfl, List.forall_mem_cons.mpr ⟨rfl, List.forall_mem_cons.mpr ⟨rfl, fun _ h => absurd h List.not_mem_nil⟩⟩⟩) (ygf152 hB _ _ _ _ (w64_xJ _ _ _) rfl) (fun v7 m7 cv7 => ?_)
      refine xS_of (pc' := 98) (L' := [(0, xa t), (1, xa p0), (2, xi p1), (3, xi v4), (4, xi (xR m4 (xw_rf t 8) v4))]) (st' := [xi 64, xj (xJ m7 t 12), xa t]) (m' := m7) (fun ex ns r q => ?_) ?_
      · refine xw_aload_n rfl rfl rfl ?_
        refine xw_aload_n rfl rfl rfl ?_
        refine xw_gfJc (v := (m7 t 12)) (v' := (xJ m7 t 12)) rfl (xw_obd g0) xk11_12 (qi := 12) rfl rfl rfl ?_
        refine xw_bipush (e := 64) rfl (by decide +kernel) ?_
        refine xw_lo (L2 := [(0, xa t), (1, xa p0), (2, xi p1), (3, xi v4), (4, xi (xR m4 (xw_rf t 8) v4))]) (List.forall_mem_cons.mpr ⟨rfl, List.forall_mem_cons.mpr ⟨rfl, List.forall_mem_cons.mpr ⟨rfl, List.forall_mem_cons.mpr ⟨rfl, List.forall_mem_cons.mpr ⟨rfl, fun _ h => absurd h List.not_mem_nil⟩⟩⟩⟩⟩) ?_
        exact q
      refine xS_call (q := 152) (n := 3) (kq := 0) (as := [xa t, xj (xJ m7 t 12), xi 64]) (st1 := []) rfl rfl rfl rfl rfl rfl rfl rfl rfl rfl (fun _ => xw_rcv1 (t := 11) (xw_obd g0) rfl) rfl (List.forall_mem_cons.mpr ⟨rfl, List.forall_mem_cons.mpr ⟨rfl, List.forall_mem_cons.mpr ⟨rfl, fun _ h => absurd h List.not_mem_nil⟩⟩⟩) (ygf152 hB _ _ _ _ (w64_xJ _ _ _) rfl) (fun v8 m8 cv8 => ?_)
      refine xS_of (pc' := 115) (L' := [(5, xi (w32 ((xR m8 t 2) + ((xR m4 (xw_rf t 8) v4) * 8)))), (0, xa t), (1, xa p0), (2, xi p1), (3, xi v4), (4, xi (xR m4 (xw_rf t 8) v4))]) (st' := [xi 2, xi v4]) (m' := m8) (fun ex ns r q => ?_) ?_
      · refine xw_aload_n rfl rfl rfl ?_
        refine xw_gfIc (v := (m8 t 2)) (v' := (xR m8 t 2)) rfl (xw_obd g0) xk11_2 (qi := 2) rfl rfl rfl ?_
        refine xw_iload rfl rfl ?_
        refine xw_bipush (e := 8) rfl (by decide +kernel) ?_
        refine xw_imul rfl ?_
        refine xw_iadd rfl ?_
        refine xw_cst (st' := [xi (w32 ((xR m8 t 2) + ((xR m4 (xw_rf t 8) v4) * 8)))]) (xw_sc (xi_c rfl) rfl) ?_
        refine xw_istore (L' := [(5, xi (w32 ((xR m8 t 2) + ((xR m4 (xw_rf t 8) v4) * 8)))), (0, xa t), (1, xa p0), (2, xi p1), (3, xi v4), (4, xi (xR m4 (xw_rf t 8) v4))]) rfl (by decide) rfl ?_
        refine xw_iload_n rfl rfl ?_
        refine xw_iconst rfl ?_
        exact q
      refine xS_if (fun h6 => ?_) (fun h6 => ?_)
      · refine xS_of (pc' := 120) (L' := [(0, xa t), (5, xi (w32 ((xR m8 t 2) + ((xR m4 (xw_rf t 8) v4) * 8))))]) (st' := [xi p1, xa t]) (m' := m8) (fun ex ns r q => ?_) ?_
        · refine xw_ic_neF rfl (w32_cg cv4) (w32_cg rfl) h6 ?_
          refine xw_aload_n rfl rfl rfl ?_
          refine xw_iload_n rfl rfl ?_
          refine xw_lo (L2 := [(0, xa t), (5, xi (w32 ((xR m8 t 2) + ((xR m4 (xw_rf t 8) v4) * 8))))]) (List.forall_mem_cons.mpr ⟨rfl, List.forall_mem_cons.mpr ⟨rfl, fun _ h => absurd h List.not_mem_nil⟩⟩) ?_
          exact q
        refine xS_call (q := 189) (n := 2) (kq := 0) (as := [xa t, xi p1]) (st1 := []) rfl rfl rfl rfl rfl rfl rfl rfl rfl rfl (fun _ => xw_rcv1 (t := 11) (xw_obd g0) rfl) rfl (List.forall_mem_cons.mpr ⟨rfl, List.forall_mem_cons.mpr ⟨rfl, fun _ h => absurd h List.not_mem_nil⟩⟩) (ygf189 hB _ _ _ cp1) (fun v9 m9 cv9 => ?_)
        refine xS_of (pc' := 153) (L' := [(0, xa t), (5, xi (w32 ((xR m8 t 2) + ((xR m4 (xw_rf t 8) v4) * 8))))]) (st' := []) (m' := (xw_u m9 t 2 (w32 ((xR m8 t 2) + ((xR m4 (xw_rf t 8) v4) * 8))))) (fun ex ns r q => ?_) ?_
        · refine xw_goto rfl ?_
          refine xw_aload_n rfl rfl rfl ?_
          refine xw_iload rfl rfl ?_
          refine xw_pfI rfl (xw_obd g0) xk11_2 (qi := 2) rfl (xw_okI rfl) ?_
          exact q
        exact xS_ret (v := 0) rfl rfl rfl rfl
      · refine xS_of (pc' := 128) (L' := [(5, xi (w32 ((xR m8 t 2) + ((xR m4 (xw_rf t 8) v4) * 8)))), (0, xa t), (1, xa p0), (2, xi p1), (3, xi v4), (4, xi (xR m4 (xw_rf t 8) v4))]) (st' := [xi 3, xi v4]) (m' := m8) (fun ex ns r q => ?_) ?_
        · refine xw_ic_neT rfl (w32_cg cv4) (w32_cg rfl) h6 ?_
          refine xw_iload_n rfl rfl ?_
          refine xw_iconst rfl ?_
          exact q
        refine xS_if (fun h7 => ?_) (fun h7 => ?_)
        · refine xS_of (pc' := 134) (L' := [(0, xa t), (5, xi (w32 ((xR m8 t 2) + ((xR m4 (xw_rf t 8) v4) * 8))))]) (st' := [xi p1, xa p0, xa t]) (m' := m8) (fun ex ns r q => ?_) ?_
          · refine xw_ic_neF rfl (w32_cg cv4) (w32_cg rfl) h7 ?_
            refine xw_aload_n rfl rfl rfl ?_
            refine xw_aload_n rfl rfl rfl ?_
            refine xw_iload_n rfl rfl ?_
            refine xw_lo (L2 := [(0, xa t), (5, xi (w32 ((xR m8 t 2) + ((xR m4 (xw_rf t 8) v4) * 8))))]) (List.forall_mem_cons.mpr ⟨rfl, List.forall_mem_cons.mpr ⟨rfl, fun _ h => absurd h List.not_mem_nil⟩⟩) ?_
            exact q
          refine xS_call (q := 190) (n := 3) (kq := 0) (as := [xa t, xa p0, xi p1]) (st1 := []) rfl rfl rfl rfl rfl rfl rfl rfl rfl rfl (fun _ => xw_rcv1 (t := 11) (xw_obd g0) rfl) rfl (List.forall_mem_cons.mpr ⟨rfl, List.forall_mem_cons.mpr ⟨rfl, List.forall_mem_cons.mpr ⟨rfl, fun _ h => absurd h List.not_mem_nil⟩⟩⟩) (ygf190 hB _ _ _ _ cp1) (fun v10 m10 cv10 => ?_)
          refine xS_of (pc' := 153) (L' := [(0, xa t), (5, xi (w32 ((xR m8 t 2) + ((xR m4 (xw_rf t 8) v4) * 8))))]) (st' := []) (m' := (xw_u m10 t 2 (w32 ((xR m8 t 2) + ((xR m4 (xw_rf t 8) v4) * 8))))) (fun ex ns r q => ?_) ?_
          · refine xw_goto rfl ?_
            refine xw_aload_n rfl rfl rfl ?_
            refine xw_iload rfl rfl ?_
            refine xw_pfI rfl (xw_obd g0) xk11_2 (qi := 2) rfl (xw_okI rfl) ?_
            exact q
          exact xS_ret (v := 0) rfl rfl rfl rfl
        · refine xS_of (pc' := 144) (L' := [(0, xa t), (5, xi (w32 ((xR m8 t 2) + ((xR m4 (xw_rf t 8) v4) * 8))))]) (st' := [xi p1, xa p0, xi v4, xa t]) (m' := m8) (fun ex ns r q => ?_) ?_
          · refine xw_ic_neT rfl (w32_cg cv4) (w32_cg rfl) h7 ?_
            refine xw_aload_n rfl rfl rfl ?_
            refine xw_iload_n rfl rfl ?_
            refine xw_aload_n rfl rfl rfl ?_
            refine xw_iload_n rfl rfl ?_
            refine xw_lo (L2 := [(0, xa t), (5, xi (w32 ((xR m8 t 2) + ((xR m4 (xw_rf t 8) v4) * 8))))]) (List.forall_mem_cons.mpr ⟨rfl, List.forall_mem_cons.mpr ⟨rfl, fun _ h => absurd h List.not_mem_nil⟩⟩) ?_
            exact q
          refine xS_call (q := 191) (n := 4) (kq := 0) (as := [xa t, xi v4, xa p0, xi p1]) (st1 := []) rfl rfl rfl rfl rfl rfl rfl rfl rfl rfl (fun _ => xw_rcv1 (t := 11) (xw_obd g0) rfl) rfl (List.forall_mem_cons.mpr ⟨rfl, List.forall_mem_cons.mpr ⟨rfl, List.forall_mem_cons.mpr ⟨rfl, List.forall_mem_cons.mpr ⟨rfl, fun _ h => absurd h List.not_mem_nil⟩⟩⟩⟩) (ygf191 hB _ _ _ _ _ cv4 cp1) (fun v11 m11 cv11 => ?_)
          refine xS_of (pc' := 153) (L' := [(0, xa t), (5, xi (w32 ((xR m8 t 2) + ((xR m4 (xw_rf t 8) v4) * 8))))]) (st' := []) (m' := (xw_u m11 t 2 (w32 ((xR m8 t 2) + ((xR m4 (xw_rf t 8) v4) * 8))))) (fun ex ns r q => ?_) ?_
          · refine xw_aload_n rfl rfl rfl ?_
            refine xw_iload rfl rfl ?_
            refine xw_pfI rfl (xw_obd g0) xk11_2 (qi := 2) rfl (xw_okI rfl) ?_
            exact q
          exact xS_ret (v := 0) rfl rfl rfl rfl
  · refine xS_of (pc' := 7) (L' := [(0, xa t), (1, xa p0), (2, xi p1)]) (st' := []) (m' := m) (fun ex ns r q => ?_) ?_
    · refine xw_if_eqF rfl (w32_cg (w32_xR _ _ _)) h1 ?_
      exact q
    exact xS_ret (v := 0) rfl rfl rfl rfl
theorem ysl182_13 {B : Nat} (hB : B ≤ 512) {xs : Nat → Int32} {SL d : Nat} {r13 : Int → Int → xw_M → xP} (hr13 : ∀ x1 x2 m, w32 x2 = x2 → xS B xs SL (d + 5) 182 (3, none, [], 8) 0 13 [(0, xa 302), (1, xa x1), (2, xi x2)] [] m (r13 x1 x2 m)) : ∀ x1 x2 m, w32 x2 = x2 → xS B xs SL (d + 5) 182 (3, none, [], 8) 0 13 [(0, xa 302), (1, xa x1), (2, xi x2)] [] m (yl182_13 B r13 x1 x2 m) := by
  intro x1 x2 m c2
  unfold yl182_13
  refine xS_of (pc' := 18) (L' := [(0, xa 302), (1, xa x1), (2, xi x2)]) (st' := [xi (xR m 302 6), xi x2]) (m' := m) (fun ex ns r q => ?_) ?_
  · refine xw_iload_n rfl rfl ?_
    refine xw_aload_n rfl rfl rfl ?_
    refine xw_gfIc (v := (m 302 6)) (v' := (xR m 302 6)) rfl (xw_obd (by decide +kernel)) xk7_6 (qi := 6) rfl rfl rfl ?_
    exact q
  refine xS_if (fun h0 => ?_) (fun h0 => ?_)
  · refine xS_g (fun g1 => ?_)
    refine xS_g (fun g2 => ?_)
    refine xS_of (pc' := 32) (L' := [(0, xa 302), (1, xa x1), (2, xi x2)]) (st' := [xi (xR m 302 8), xa (304 + x2), xa x1]) (m' := m) (fun ex ns r q => ?_) ?_
    · refine xw_ic_geF rfl (w32_cg c2) (w32_cg (w32_xR _ _ _)) (Int.not_le.mpr h0) ?_
      refine xw_aload_n rfl rfl rfl ?_
      refine xw_aload_n rfl rfl rfl ?_
      refine xw_gfR (n := 303) (e := 303) rfl (xw_obd (by decide +kernel)) (by decide +kernel) (by decide +kernel) rfl ?_
      refine xw_iload_n rfl rfl ?_
      refine xw_aald (t := 21) (n := 33) (q := 304 + 1 * (x2).toNat) (e := (304 + x2)) rfl hB (xw_obd (by decide +kernel)) (by decide) rfl g1 (show 309 + 1 * (x2 : Int).toNat = 304 + 1 * (x2 : Int).toNat + 5 from by omega) (by have := g1; omega) ?_
      refine xw_aload_n rfl rfl rfl ?_
      refine xw_gfIc (v := (m 302 8)) (v' := (xR m 302 8)) rfl (xw_obd (by decide +kernel)) xk7_8 (qi := 8) rfl rfl rfl ?_
      refine xw_lo (L2 := [(0, xa 302), (1, xa x1), (2, xi x2)]) (List.forall_mem_cons.mpr ⟨rfl, List.forall_mem_cons.mpr ⟨rfl, List.forall_mem_cons.mpr ⟨rfl, fun _ h => absurd h List.not_mem_nil⟩⟩⟩) ?_
      exact q
    refine xS_call (q := 183) (n := 3) (kq := 0) (as := [xa x1, xa (304 + x2), xi (xR m 302 8)]) (st1 := []) rfl rfl rfl rfl rfl rfl rfl rfl rfl rfl (fun _ => xw_rcv1 (t := 11) (xw_obd g2) rfl) rfl (List.forall_mem_cons.mpr ⟨rfl, List.forall_mem_cons.mpr ⟨rfl, List.forall_mem_cons.mpr ⟨rfl, fun _ h => absurd h List.not_mem_nil⟩⟩⟩) (ygf183 hB _ _ _ _ (w32_xR _ _ _)) (fun v1 m1 cv1 => ?_)
    refine xS_of (pc' := 13) (L' := [(0, xa 302), (1, xa x1), (2, xi (w32 (x2 + 1)))]) (st' := []) (m' := m1) (fun ex ns r q => ?_) ?_
    · refine xw_iincc (z := (w32 (x2 + 1))) (L' := [(2, xi (w32 (x2 + 1))), (0, xa 302), (1, xa x1)]) rfl rfl (by decide) rfl rfl ?_
      refine xw_goto rfl ?_
      refine xw_lo (L2 := [(0, xa 302), (1, xa x1), (2, xi (w32 (x2 + 1)))]) (List.forall_mem_cons.mpr ⟨rfl, List.forall_mem_cons.mpr ⟨rfl, List.forall_mem_cons.mpr ⟨rfl, fun _ h => absurd h List.not_mem_nil⟩⟩⟩) ?_
      exact q
    exact hr13 _ _ _ (w32_w _)
  · refine xS_of (pc' := 41) (L' := [(0, xa 302), (1, xa x1), (2, xi x2)]) (st' := []) (m' := m) (fun ex ns r q => ?_) ?_
    · refine xw_ic_geT rfl (w32_cg c2) (w32_cg (w32_xR _ _ _)) (Int.not_lt.mp h0) ?_
      exact q
    exact xS_ret (v := 0) rfl rfl rfl rfl
theorem ygl182_13 {B : Nat} (hB : B ≤ 512) {xs : Nat → Int32} {SL d : Nat} : ∀ n x1 x2 m, w32 x2 = x2 → xS B xs SL (d + 5) 182 (3, none, [], 8) 0 13 [(0, xa 302), (1, xa x1), (2, xi x2)] [] m (xl2 (yl182_13 B) n x1 x2 m) := by
  intro n
  induction n with
  | zero => intro x1 x2 m c2; exact xS_none
  | succ n ih => exact ysl182_13 hB ih
theorem ygf182 {B : Nat} (hB : B ≤ 512) {xs : Nat → Int32} {SL d : Nat} : ∀ p0 m, xS B xs SL (d + 5) 182 (3, none, [], 8) 0 0 [(0, xa 302), (1, xa p0)] [] m (yf182 B p0 m) := by
  intro p0 m
  unfold yf182
  refine xS_g (fun g0 => ?_)
  refine xS_of (pc' := 8) (L' := [(0, xa 302), (1, xa p0)]) (st' := [xi 16, xj (xR m 302 8), xa p0]) (m' := m) (fun ex ns r q => ?_) ?_
  · refine xw_aload_n rfl rfl rfl ?_
    refine xw_aload_n rfl rfl rfl ?_
    refine xw_gfIc (v := (m 302 8)) (v' := (xR m 302 8)) rfl (xw_obd (by decide +kernel)) xk7_8 (qi := 8) rfl rfl rfl ?_
    refine xw_i2l rfl (w32_cg (w32_xR _ _ _)) ?_
    refine xw_bipush (e := 16) rfl (by decide +kernel) ?_
    refine xw_lo (L2 := [(0, xa 302), (1, xa p0)]) (List.forall_mem_cons.mpr ⟨rfl, List.forall_mem_cons.mpr ⟨rfl, fun _ h => absurd h List.not_mem_nil⟩⟩) ?_
    exact q
  refine xS_call (q := 152) (n := 3) (kq := 0) (as := [xa p0, xj (xR m 302 8), xi 16]) (st1 := []) rfl rfl rfl rfl rfl rfl rfl rfl rfl rfl (fun _ => xw_rcv1 (t := 11) (xw_obd g0) rfl) rfl (List.forall_mem_cons.mpr ⟨rfl, List.forall_mem_cons.mpr ⟨rfl, List.forall_mem_cons.mpr ⟨rfl, fun _ h => absurd h List.not_mem_nil⟩⟩⟩) (ygf152 hB _ _ _ _ (w64_32 (w32_xR _ _ _)) rfl) (fun v1 m1 cv1 => ?_)
  refine xS_of (pc' := 13) (L' := [(0, xa 302), (1, xa p0), (2, xi 0)]) (st' := []) (m' := m1) (fun ex ns r q => ?_) ?_
  · refine xw_iconst rfl ?_
    refine xw_istore_n (L' := [(2, xi 0), (0, xa 302), (1, xa p0)]) rfl (by decide) rfl ?_
    refine xw_lo (L2 := [(0, xa 302), (1, xa p0), (2, xi 0)]) (List.forall_mem_cons.mpr ⟨rfl, List.forall_mem_cons.mpr ⟨rfl, List.forall_mem_cons.mpr ⟨rfl, fun _ h => absurd h List.not_mem_nil⟩⟩⟩) ?_
    exact q
  exact ygl182_13 hB 1000000 _ _ _ rfl
theorem ysl181_109 {B : Nat} (hB : B ≤ 512) {xs : Nat → Int32} {SL d : Nat} {r13 : Int → Int → Int → xw_M → xP} (hr13 : ∀ x1 x2 x3 m, w32 x3 = x3 → xS B xs SL (d + 6) 181 (7, none, [], 8) 0 13 [(0, xa 302), (1, xa x1), (2, xa x2), (3, xi x3)] [] m (r13 x1 x2 x3 m)) {r47 : Int → Int → Int → Int → xw_M → xP} (hr47 : ∀ x1 x2 x3 x4 m, w32 x3 = x3 → w32 x4 = x4 → xS B xs SL (d + 6) 181 (7, none, [], 8) 0 47 [(0, xa 302), (1, xa x1), (2, xa x2), (3, xi x3), (4, xi x4)] [] m (r47 x1 x2 x3 x4 m)) {r109 : Int → Int → Int → Int → Int → Int → xw_M → xP} (hr109 : ∀ x1 x2 x3 x4 x5 x6 m, w32 x3 = x3 → w32 x4 = x4 → w32 x5 = x5 → w32 x6 = x6 → xS B xs SL (d + 6) 181 (7, none, [], 8) 0 109 [(0, xa 302), (1, xa x1), (2, xa x2), (3, xi x3), (4, xi x4), (5, xi x5), (6, xi x6)] [] m (r109 x1 x2 x3 x4 x5 x6 m)) : ∀ x1 x2 x3 x4 x5 x6 m, w32 x3 = x3 → w32 x4 = x4 → w32 x5 = x5 → w32 x6 = x6 → xS B xs SL (d + 6) 181 (7, none, [], 8) 0 109 [(0, xa 302), (1, xa x1), (2, xa x2), (3, xi x3), (4, xi x4), (5, xi x5), (6, xi x6)] [] m (yl181_109 B r13 r47 r109 x1 x2 x3 x4 x5 x6 m) := by
  intro x1 x2 x3 x4 x5 x6 m c3 c4 c5 c6
  unfold yl181_109
  refine xS_of (pc' := 118) (L' := [(0, xa 302), (1, xa x1), (2, xa x2), (3, xi x3), (4, xi x4), (5, xi x5), (6, xi x6)]) (st' := [xi (xR m 3 2), xi x6]) (m' := m) (fun ex ns r q => ?_) ?_
  · refine xw_iload rfl rfl ?_
    refine xw_aload_n rfl rfl rfl ?_
    refine xw_gfR (n := 3) (e := 3) rfl (xw_obd (by decide +kernel)) (by decide +kernel) (by decide +kernel) rfl ?_
    refine xw_gfIc (v := (m 3 2)) (v' := (xR m 3 2)) rfl (xw_obd (by decide +kernel)) xk2_2 (qi := 2) rfl rfl rfl ?_
    exact q
  refine xS_if (fun h0 => ?_) (fun h0 => ?_)
  · refine xS_g (fun g1 => ?_)
    refine xS_g (fun g2 => ?_)
    refine xS_g (fun g3 => ?_)
    refine xS_g (fun g4 => ?_)
    refine xS_g (fun g5 => ?_)
    refine xS_g (fun g6 => ?_)
    refine xS_g (fun g7 => ?_)
    refine xS_g (fun g8 => ?_)
    refine xS_g (fun g9 => ?_)
    refine xS_of (pc' := 109) (L' := [(0, xa 302), (1, xa x1), (2, xa x2), (3, xi x3), (4, xi x4), (5, xi x5), (6, xi (w32 (x6 + 1)))]) (st' := []) (m' := (xw_u m (304 + ((xR m 302 5) + x6)) x4 (xJ m (xw_rf (xw_rf x1 1) x6) x5))) (fun ex ns r q => ?_) ?_
    · refine xw_ic_geF rfl (w32_cg c6) (w32_cg (w32_xR _ _ _)) (Int.not_le.mpr h0) ?_
      refine xw_aload_n rfl rfl rfl ?_
      refine xw_gfR (n := 303) (e := 303) rfl (xw_obd (by decide +kernel)) (by decide +kernel) (by decide +kernel) rfl ?_
      refine xw_aload_n rfl rfl rfl ?_
      refine xw_gfIc (v := (m 302 5)) (v' := (xR m 302 5)) rfl (xw_obd (by decide +kernel)) xk7_5 (qi := 5) rfl rfl rfl ?_
      refine xw_iload rfl rfl ?_
      refine xw_iadd rfl ?_
      refine xw_aald (t := 21) (n := 33) (q := 304 + 1 * (((xR m 302 5) + x6)).toNat) (e := (304 + ((xR m 302 5) + x6))) rfl hB (xw_obd (by decide +kernel)) (by decide) rfl g1 (show 309 + 1 * (((xR m 302 5) + x6) : Int).toNat = 304 + 1 * (((xR m 302 5) + x6) : Int).toNat + 5 from by omega) (by have := g1; omega) ?_
      refine xw_iload rfl rfl ?_
      refine xw_aload_n rfl rfl rfl ?_
      refine xw_gfV (qi := 1) rfl (xw_obd g2) xk8_1 rfl ?_
      refine xw_iload rfl rfl ?_
      refine xw_aald (t := 21) (n := (xw_le B (xw_rf x1 1))) (q := xw_kd (xw_rf x1 1) x6 - 5) (e := (xw_rf (xw_rf x1 1) x6)) rfl hB (xw_obd g5) (by decide) rfl g3 (by have := g4; omega) (xw_rfn g4) ?_
      refine xw_iload rfl rfl ?_
      refine xw_laldc (n := (xw_le B (xw_rf (xw_rf x1 1) x6))) (v := (m (xw_rf (xw_rf x1 1) x6) x5)) (v' := (xJ m (xw_rf (xw_rf x1 1) x6) x5)) rfl hB (xw_obd g7) rfl g6 rfl rfl ?_
      refine xw_last (n := (xw_le B (304 + ((xR m 302 5) + x6)))) rfl hB (xw_obd g9) rfl g8 ?_
      refine xw_iincc (z := (w32 (x6 + 1))) (L' := [(6, xi (w32 (x6 + 1))), (0, xa 302), (1, xa x1), (2, xa x2), (3, xi x3), (4, xi x4), (5, xi x5)]) rfl rfl (by decide) rfl rfl ?_
      refine xw_goto rfl ?_
      refine xw_lo (L2 := [(0, xa 302), (1, xa x1), (2, xa x2), (3, xi x3), (4, xi x4), (5, xi x5), (6, xi (w32 (x6 + 1)))]) (List.forall_mem_cons.mpr ⟨rfl, List.forall_mem_cons.mpr ⟨rfl, List.forall_mem_cons.mpr ⟨rfl, List.forall_mem_cons.mpr ⟨rfl, List.forall_mem_cons.mpr ⟨rfl, List.forall_mem_cons.mpr ⟨rfl, List.forall_mem_cons.mpr ⟨rfl, fun _ h => absurd h List.not_mem_nil⟩⟩⟩⟩⟩⟩⟩) ?_
      exact q
    exact hr109 _ _ _ _ _ _ _ c3 c4 c5 (w32_w _)
  · refine xS_of (pc' := 47) (L' := [(0, xa 302), (1, xa x1), (2, xa x2), (3, xi x3), (4, xi (w32 (x4 + 1)))]) (st' := []) (m' := m) (fun ex ns r q => ?_) ?_
    · refine xw_ic_geT rfl (w32_cg c6) (w32_cg (w32_xR _ _ _)) (Int.not_lt.mp h0) ?_
      refine xw_iincc (z := (w32 (x4 + 1))) (L' := [(4, xi (w32 (x4 + 1))), (0, xa 302), (1, xa x1), (2, xa x2), (3, xi x3), (5, xi x5), (6, xi x6)]) rfl rfl (by decide) rfl rfl ?_
      refine xw_goto rfl ?_
      refine xw_lo (L2 := [(0, xa 302), (1, xa x1), (2, xa x2), (3, xi x3), (4, xi (w32 (x4 + 1)))]) (List.forall_mem_cons.mpr ⟨rfl, List.forall_mem_cons.mpr ⟨rfl, List.forall_mem_cons.mpr ⟨rfl, List.forall_mem_cons.mpr ⟨rfl, List.forall_mem_cons.mpr ⟨rfl, fun _ h => absurd h List.not_mem_nil⟩⟩⟩⟩⟩) ?_
      exact q
    exact hr47 _ _ _ _ _ c3 (w32_w _)
theorem ygl181_109 {B : Nat} (hB : B ≤ 512) {xs : Nat → Int32} {SL d : Nat} {r13 : Int → Int → Int → xw_M → xP} (hr13 : ∀ x1 x2 x3 m, w32 x3 = x3 → xS B xs SL (d + 6) 181 (7, none, [], 8) 0 13 [(0, xa 302), (1, xa x1), (2, xa x2), (3, xi x3)] [] m (r13 x1 x2 x3 m)) {r47 : Int → Int → Int → Int → xw_M → xP} (hr47 : ∀ x1 x2 x3 x4 m, w32 x3 = x3 → w32 x4 = x4 → xS B xs SL (d + 6) 181 (7, none, [], 8) 0 47 [(0, xa 302), (1, xa x1), (2, xa x2), (3, xi x3), (4, xi x4)] [] m (r47 x1 x2 x3 x4 m)) : ∀ n x1 x2 x3 x4 x5 x6 m, w32 x3 = x3 → w32 x4 = x4 → w32 x5 = x5 → w32 x6 = x6 → xS B xs SL (d + 6) 181 (7, none, [], 8) 0 109 [(0, xa 302), (1, xa x1), (2, xa x2), (3, xi x3), (4, xi x4), (5, xi x5), (6, xi x6)] [] m (xl6 (yl181_109 B r13 r47) n x1 x2 x3 x4 x5 x6 m) := by
  intro n
  induction n with
  | zero => intro x1 x2 x3 x4 x5 x6 m c3 c4 c5 c6; exact xS_none
  | succ n ih => exact ysl181_109 hB hr13 hr47 ih
theorem ysl181_70 {B : Nat} (hB : B ≤ 512) {xs : Nat → Int32} {SL d : Nat} {r13 : Int → Int → Int → xw_M → xP} (hr13 : ∀ x1 x2 x3 m, w32 x3 = x3 → xS B xs SL (d + 6) 181 (7, none, [], 8) 0 13 [(0, xa 302), (1, xa x1), (2, xa x2), (3, xi x3)] [] m (r13 x1 x2 x3 m)) {r47 : Int → Int → Int → Int → xw_M → xP} (hr47 : ∀ x1 x2 x3 x4 m, w32 x3 = x3 → w32 x4 = x4 → xS B xs SL (d + 6) 181 (7, none, [], 8) 0 47 [(0, xa 302), (1, xa x1), (2, xa x2), (3, xi x3), (4, xi x4)] [] m (r47 x1 x2 x3 x4 m)) {r70 : Int → Int → Int → Int → Int → Int → xw_M → xP} (hr70 : ∀ x1 x2 x3 x4 x5 x6 m, w32 x3 = x3 → w32 x4 = x4 → w32 x5 = x5 → w32 x6 = x6 → xS B xs SL (d + 6) 181 (7, none, [], 8) 0 70 [(0, xa 302), (1, xa x1), (2, xa x2), (3, xi x3), (4, xi x4), (5, xi x5), (6, xi x6)] [] m (r70 x1 x2 x3 x4 x5 x6 m)) : ∀ x1 x2 x3 x4 x5 x6 m, w32 x3 = x3 → w32 x4 = x4 → w32 x5 = x5 → w32 x6 = x6 → xS B xs SL (d + 6) 181 (7, none, [], 8) 0 70 [(0, xa 302), (1, xa x1), (2, xa x2), (3, xi x3), (4, xi x4), (5, xi x5), (6, xi x6)] [] m (yl181_70 B r13 r47 r70 x1 x2 x3 x4 x5 x6 m) := by
  intro x1 x2 x3 x4 x5 x6 m c3 c4 c5 c6
  unfold yl181_70
  refine xS_of (pc' := 76) (L' := [(0, xa 302), (1, xa x1), (2, xa x2), (3, xi x3), (4, xi x4), (5, xi x5), (6, xi x6)]) (st' := [xi (xR m 302 5), xi x6]) (m' := m) (fun ex ns r q => ?_) ?_
  · refine xw_iload rfl rfl ?_
    refine xw_aload_n rfl rfl rfl ?_
    refine xw_gfIc (v := (m 302 5)) (v' := (xR m 302 5)) rfl (xw_obd (by decide +kernel)) xk7_5 (qi := 5) rfl rfl rfl ?_
    exact q
  refine xS_if (fun h0 => ?_) (fun h0 => ?_)
  · refine xS_g (fun g1 => ?_)
    refine xS_g (fun g2 => ?_)
    refine xS_g (fun g3 => ?_)
    refine xS_g (fun g4 => ?_)
    refine xS_g (fun g5 => ?_)
    refine xS_g (fun g6 => ?_)
    refine xS_g (fun g7 => ?_)
    refine xS_g (fun g8 => ?_)
    refine xS_g (fun g9 => ?_)
    refine xS_of (pc' := 70) (L' := [(0, xa 302), (1, xa x1), (2, xa x2), (3, xi x3), (4, xi x4), (5, xi x5), (6, xi (w32 (x6 + 1)))]) (st' := []) (m' := (xw_u m (304 + x6) x4 (xR m (xw_rf (xw_rf x1 0) x6) x5))) (fun ex ns r q => ?_) ?_
    · refine xw_ic_geF rfl (w32_cg c6) (w32_cg (w32_xR _ _ _)) (Int.not_le.mpr h0) ?_
      refine xw_aload_n rfl rfl rfl ?_
      refine xw_gfR (n := 303) (e := 303) rfl (xw_obd (by decide +kernel)) (by decide +kernel) (by decide +kernel) rfl ?_
      refine xw_iload rfl rfl ?_
      refine xw_aald (t := 21) (n := 33) (q := 304 + 1 * (x6).toNat) (e := (304 + x6)) rfl hB (xw_obd (by decide +kernel)) (by decide) rfl g1 (show 309 + 1 * (x6 : Int).toNat = 304 + 1 * (x6 : Int).toNat + 5 from by omega) (by have := g1; omega) ?_
      refine xw_iload rfl rfl ?_
      refine xw_aload_n rfl rfl rfl ?_
      refine xw_gfV (qi := 0) rfl (xw_obd g2) xk8_0 rfl ?_
      refine xw_iload rfl rfl ?_
      refine xw_aald (t := 20) (n := (xw_le B (xw_rf x1 0))) (q := xw_kd (xw_rf x1 0) x6 - 5) (e := (xw_rf (xw_rf x1 0) x6)) rfl hB (xw_obd g5) (by decide) rfl g3 (by have := g4; omega) (xw_rfn g4) ?_
      refine xw_iload rfl rfl ?_
      refine xw_ialdc (n := (xw_le B (xw_rf (xw_rf x1 0) x6))) (v := (m (xw_rf (xw_rf x1 0) x6) x5)) (v' := (xR m (xw_rf (xw_rf x1 0) x6) x5)) rfl hB (xw_obd g7) rfl g6 rfl rfl ?_
      refine xw_i2l rfl (w32_cg (w32_xR _ _ _)) ?_
      refine xw_last (n := (xw_le B (304 + x6))) rfl hB (xw_obd g9) rfl g8 ?_
      refine xw_iincc (z := (w32 (x6 + 1))) (L' := [(6, xi (w32 (x6 + 1))), (0, xa 302), (1, xa x1), (2, xa x2), (3, xi x3), (4, xi x4), (5, xi x5)]) rfl rfl (by decide) rfl rfl ?_
      refine xw_goto rfl ?_
      refine xw_lo (L2 := [(0, xa 302), (1, xa x1), (2, xa x2), (3, xi x3), (4, xi x4), (5, xi x5), (6, xi (w32 (x6 + 1)))]) (List.forall_mem_cons.mpr ⟨rfl, List.forall_mem_cons.mpr ⟨rfl, List.forall_mem_cons.mpr ⟨rfl, List.forall_mem_cons.mpr ⟨rfl, List.forall_mem_cons.mpr ⟨rfl, List.forall_mem_cons.mpr ⟨rfl, List.forall_mem_cons.mpr ⟨rfl, fun _ h => absurd h List.not_mem_nil⟩⟩⟩⟩⟩⟩⟩) ?_
      exact q
    exact hr70 _ _ _ _ _ _ _ c3 c4 c5 (w32_w _)
  · refine xS_of (pc' := 109) (L' := [(0, xa 302), (1, xa x1), (2, xa x2), (3, xi x3), (4, xi x4), (5, xi x5), (6, xi 0)]) (st' := []) (m' := m) (fun ex ns r q => ?_) ?_
    · refine xw_ic_geT rfl (w32_cg c6) (w32_cg (w32_xR _ _ _)) (Int.not_lt.mp h0) ?_
      refine xw_iconst rfl ?_
      refine xw_istore (L' := [(6, xi 0), (0, xa 302), (1, xa x1), (2, xa x2), (3, xi x3), (4, xi x4), (5, xi x5)]) rfl (by decide) rfl ?_
      refine xw_lo (L2 := [(0, xa 302), (1, xa x1), (2, xa x2), (3, xi x3), (4, xi x4), (5, xi x5), (6, xi 0)]) (List.forall_mem_cons.mpr ⟨rfl, List.forall_mem_cons.mpr ⟨rfl, List.forall_mem_cons.mpr ⟨rfl, List.forall_mem_cons.mpr ⟨rfl, List.forall_mem_cons.mpr ⟨rfl, List.forall_mem_cons.mpr ⟨rfl, List.forall_mem_cons.mpr ⟨rfl, fun _ h => absurd h List.not_mem_nil⟩⟩⟩⟩⟩⟩⟩) ?_
      exact q
    exact ygl181_109 hB hr13 hr47 1000000 _ _ _ _ _ _ _ c3 c4 c5 rfl
theorem ygl181_70 {B : Nat} (hB : B ≤ 512) {xs : Nat → Int32} {SL d : Nat} {r13 : Int → Int → Int → xw_M → xP} (hr13 : ∀ x1 x2 x3 m, w32 x3 = x3 → xS B xs SL (d + 6) 181 (7, none, [], 8) 0 13 [(0, xa 302), (1, xa x1), (2, xa x2), (3, xi x3)] [] m (r13 x1 x2 x3 m)) {r47 : Int → Int → Int → Int → xw_M → xP} (hr47 : ∀ x1 x2 x3 x4 m, w32 x3 = x3 → w32 x4 = x4 → xS B xs SL (d + 6) 181 (7, none, [], 8) 0 47 [(0, xa 302), (1, xa x1), (2, xa x2), (3, xi x3), (4, xi x4)] [] m (r47 x1 x2 x3 x4 m)) : ∀ n x1 x2 x3 x4 x5 x6 m, w32 x3 = x3 → w32 x4 = x4 → w32 x5 = x5 → w32 x6 = x6 → xS B xs SL (d + 6) 181 (7, none, [], 8) 0 70 [(0, xa 302), (1, xa x1), (2, xa x2), (3, xi x3), (4, xi x4), (5, xi x5), (6, xi x6)] [] m (xl6 (yl181_70 B r13 r47) n x1 x2 x3 x4 x5 x6 m) := by
  intro n
  induction n with
  | zero => intro x1 x2 x3 x4 x5 x6 m c3 c4 c5 c6; exact xS_none
  | succ n ih => exact ysl181_70 hB hr13 hr47 ih
theorem ysl181_47 {B : Nat} (hB : B ≤ 512) {xs : Nat → Int32} {SL d : Nat} {r13 : Int → Int → Int → xw_M → xP} (hr13 : ∀ x1 x2 x3 m, w32 x3 = x3 → xS B xs SL (d + 6) 181 (7, none, [], 8) 0 13 [(0, xa 302), (1, xa x1), (2, xa x2), (3, xi x3)] [] m (r13 x1 x2 x3 m)) {r47 : Int → Int → Int → Int → xw_M → xP} (hr47 : ∀ x1 x2 x3 x4 m, w32 x3 = x3 → w32 x4 = x4 → xS B xs SL (d + 6) 181 (7, none, [], 8) 0 47 [(0, xa 302), (1, xa x1), (2, xa x2), (3, xi x3), (4, xi x4)] [] m (r47 x1 x2 x3 x4 m)) : ∀ x1 x2 x3 x4 m, w32 x3 = x3 → w32 x4 = x4 → xS B xs SL (d + 6) 181 (7, none, [], 8) 0 47 [(0, xa 302), (1, xa x1), (2, xa x2), (3, xi x3), (4, xi x4)] [] m (yl181_47 B r13 r47 x1 x2 x3 x4 m) := by
  intro x1 x2 x3 x4 m c3 c4
  unfold yl181_47
  refine xS_of (pc' := 53) (L' := [(0, xa 302), (1, xa x1), (2, xa x2), (3, xi x3), (4, xi x4)]) (st' := [xi (xR m 302 8), xi x4]) (m' := m) (fun ex ns r q => ?_) ?_
  · refine xw_iload rfl rfl ?_
    refine xw_aload_n rfl rfl rfl ?_
    refine xw_gfIc (v := (m 302 8)) (v' := (xR m 302 8)) rfl (xw_obd (by decide +kernel)) xk7_8 (qi := 8) rfl rfl rfl ?_
    exact q
  refine xS_if (fun h0 => ?_) (fun h0 => ?_)
  · refine xS_g (fun g1 => ?_)
    refine xS_g (fun g2 => ?_)
    refine xS_g (fun g3 => ?_)
    refine xS_of (pc' := 70) (L' := [(0, xa 302), (1, xa x1), (2, xa x2), (3, xi x3), (4, xi x4), (5, xi (xR m (xw_rf x1 2) (x3 + x4))), (6, xi 0)]) (st' := []) (m' := m) (fun ex ns r q => ?_) ?_
    · refine xw_ic_geF rfl (w32_cg c4) (w32_cg (w32_xR _ _ _)) (Int.not_le.mpr h0) ?_
      refine xw_aload_n rfl rfl rfl ?_
      refine xw_gfV (qi := 2) rfl (xw_obd g1) xk8_2 rfl ?_
      refine xw_iload_n rfl rfl ?_
      refine xw_iload rfl rfl ?_
      refine xw_iadd rfl ?_
      refine xw_ialdc (n := (xw_le B (xw_rf x1 2))) (v := (m (xw_rf x1 2) (x3 + x4))) (v' := (xR m (xw_rf x1 2) (x3 + x4))) rfl hB (xw_obd g3) rfl g2 rfl rfl ?_
      refine xw_istore (L' := [(5, xi (xR m (xw_rf x1 2) (x3 + x4))), (0, xa 302), (1, xa x1), (2, xa x2), (3, xi x3), (4, xi x4)]) rfl (by decide) rfl ?_
      refine xw_iconst rfl ?_
      refine xw_istore (L' := [(6, xi 0), (5, xi (xR m (xw_rf x1 2) (x3 + x4))), (0, xa 302), (1, xa x1), (2, xa x2), (3, xi x3), (4, xi x4)]) rfl (by decide) rfl ?_
      refine xw_lo (L2 := [(0, xa 302), (1, xa x1), (2, xa x2), (3, xi x3), (4, xi x4), (5, xi (xR m (xw_rf x1 2) (x3 + x4))), (6, xi 0)]) (List.forall_mem_cons.mpr ⟨rfl, List.forall_mem_cons.mpr ⟨rfl, List.forall_mem_cons.mpr ⟨rfl, List.forall_mem_cons.mpr ⟨rfl, List.forall_mem_cons.mpr ⟨rfl, List.forall_mem_cons.mpr ⟨rfl, List.forall_mem_cons.mpr ⟨rfl, fun _ h => absurd h List.not_mem_nil⟩⟩⟩⟩⟩⟩⟩) ?_
      exact q
    exact ygl181_70 hB hr13 hr47 1000000 _ _ _ _ _ _ _ c3 c4 (w32_xR _ _ _) rfl
  · refine xS_of (pc' := 160) (L' := [(0, xa 302), (1, xa x1), (2, xa x2), (3, xi x3)]) (st' := [xa x2, xa 302]) (m' := m) (fun ex ns r q => ?_) ?_
    · refine xw_ic_geT rfl (w32_cg c4) (w32_cg (w32_xR _ _ _)) (Int.not_lt.mp h0) ?_
      refine xw_aload_n rfl rfl rfl ?_
      refine xw_aload_n rfl rfl rfl ?_
      refine xw_lo (L2 := [(0, xa 302), (1, xa x1), (2, xa x2), (3, xi x3)]) (List.forall_mem_cons.mpr ⟨rfl, List.forall_mem_cons.mpr ⟨rfl, List.forall_mem_cons.mpr ⟨rfl, List.forall_mem_cons.mpr ⟨rfl, fun _ h => absurd h List.not_mem_nil⟩⟩⟩⟩) ?_
      exact q
    refine xS_call (q := 182) (n := 2) (kq := 0) (as := [xa 302, xa x2]) (st1 := []) rfl rfl rfl rfl rfl rfl rfl rfl rfl rfl (fun _ => xw_rcv1 (t := 7) (xw_obd (by decide +kernel)) rfl) rfl (List.forall_mem_cons.mpr ⟨rfl, List.forall_mem_cons.mpr ⟨rfl, fun _ h => absurd h List.not_mem_nil⟩⟩) (ygf182 hB _ _) (fun v1 m1 cv1 => ?_)
    refine xS_of (pc' := 13) (L' := [(0, xa 302), (1, xa x1), (2, xa x2), (3, xi (w32 (x3 + 1024)))]) (st' := []) (m' := m1) (fun ex ns r q => ?_) ?_
    · refine xw_iincc (z := (w32 (x3 + 1024))) (L' := [(3, xi (w32 (x3 + 1024))), (0, xa 302), (1, xa x1), (2, xa x2)]) rfl rfl (by decide) rfl rfl ?_
      refine xw_goto rfl ?_
      refine xw_lo (L2 := [(0, xa 302), (1, xa x1), (2, xa x2), (3, xi (w32 (x3 + 1024)))]) (List.forall_mem_cons.mpr ⟨rfl, List.forall_mem_cons.mpr ⟨rfl, List.forall_mem_cons.mpr ⟨rfl, List.forall_mem_cons.mpr ⟨rfl, fun _ h => absurd h List.not_mem_nil⟩⟩⟩⟩) ?_
      exact q
    exact hr13 _ _ _ _ (w32_w _)
theorem ygl181_47 {B : Nat} (hB : B ≤ 512) {xs : Nat → Int32} {SL d : Nat} {r13 : Int → Int → Int → xw_M → xP} (hr13 : ∀ x1 x2 x3 m, w32 x3 = x3 → xS B xs SL (d + 6) 181 (7, none, [], 8) 0 13 [(0, xa 302), (1, xa x1), (2, xa x2), (3, xi x3)] [] m (r13 x1 x2 x3 m)) : ∀ n x1 x2 x3 x4 m, w32 x3 = x3 → w32 x4 = x4 → xS B xs SL (d + 6) 181 (7, none, [], 8) 0 47 [(0, xa 302), (1, xa x1), (2, xa x2), (3, xi x3), (4, xi x4)] [] m (xl4 (yl181_47 B r13) n x1 x2 x3 x4 m) := by
  intro n
  induction n with
  | zero => intro x1 x2 x3 x4 m c3 c4; exact xS_none
  | succ n ih => exact ysl181_47 hB hr13 ih
theorem ysl181_13 {B : Nat} (hB : B ≤ 512) {xs : Nat → Int32} {SL d : Nat} {r13 : Int → Int → Int → xw_M → xP} (hr13 : ∀ x1 x2 x3 m, w32 x3 = x3 → xS B xs SL (d + 6) 181 (7, none, [], 8) 0 13 [(0, xa 302), (1, xa x1), (2, xa x2), (3, xi x3)] [] m (r13 x1 x2 x3 m)) : ∀ x1 x2 x3 m, w32 x3 = x3 → xS B xs SL (d + 6) 181 (7, none, [], 8) 0 13 [(0, xa 302), (1, xa x1), (2, xa x2), (3, xi x3)] [] m (yl181_13 B r13 x1 x2 x3 m) := by
  intro x1 x2 x3 m c3
  unfold yl181_13
  refine xS_g (fun g0 => ?_)
  refine xS_of (pc' := 18) (L' := [(0, xa 302), (1, xa x1), (2, xa x2), (3, xi x3)]) (st' := [xi (xR m x1 5), xi x3]) (m' := m) (fun ex ns r q => ?_) ?_
  · refine xw_iload_n rfl rfl ?_
    refine xw_aload_n rfl rfl rfl ?_
    refine xw_gfIc (v := (m x1 5)) (v' := (xR m x1 5)) rfl (xw_obd g0) xk8_5 (qi := 5) rfl rfl rfl ?_
    exact q
  refine xS_if (fun h1 => ?_) (fun h1 => ?_)
  · refine xS_g (fun g2 => ?_)
    refine xS_of (pc' := 25) (L' := [(0, xa 302), (1, xa x1), (2, xa x2), (3, xi x3)]) (st' := [xi (xR m x2 3)]) (m' := m) (fun ex ns r q => ?_) ?_
    · refine xw_ic_geF rfl (w32_cg c3) (w32_cg (w32_xR _ _ _)) (Int.not_le.mpr h1) ?_
      refine xw_aload_n rfl rfl rfl ?_
      refine xw_gfIc (v := (m x2 3)) (v' := (xR m x2 3)) rfl (xw_obd g2) xk11_3 (qi := 3) rfl rfl rfl ?_
      exact q
    refine xS_if (fun h3 => ?_) (fun h3 => ?_)
    · refine xS_of (pc' := 47) (L' := [(0, xa 302), (1, xa x1), (2, xa x2), (3, xi x3), (4, xi 0)]) (st' := []) (m' := (xw_u m 302 8 (min 1024 (w32 ((xR m x1 5) - x3))))) (fun ex ns r q => ?_) ?_
      · refine xw_if_neF rfl (w32_cg (w32_xR _ _ _)) h3 ?_
        refine xw_aload_n rfl rfl rfl ?_
        refine xw_sipush (e := 1024) rfl (by decide +kernel) ?_
        refine xw_aload_n rfl rfl rfl ?_
        refine xw_gfIc (v := (m x1 5)) (v' := (xR m x1 5)) rfl (xw_obd g0) xk8_5 (qi := 5) rfl rfl rfl ?_
        refine xw_iload_n rfl rfl ?_
        refine xw_isub rfl ?_
        refine xw_cst (st' := [xi (w32 ((xR m x1 5) - x3)), xi 1024, xa 302]) (xw_sc (xi_c rfl) (xw_sc rfl rfl)) ?_
        refine xw_minI rfl rfl (w32_cg rfl) (w32_cg (w32_w _)) rfl ?_
        refine xw_pfI rfl (xw_obd (by decide +kernel)) xk7_8 (qi := 8) rfl (xw_okI rfl) ?_
        refine xw_iconst rfl ?_
        refine xw_istore (L' := [(4, xi 0), (0, xa 302), (1, xa x1), (2, xa x2), (3, xi x3)]) rfl (by decide) rfl ?_
        refine xw_lo (L2 := [(0, xa 302), (1, xa x1), (2, xa x2), (3, xi x3), (4, xi 0)]) (List.forall_mem_cons.mpr ⟨rfl, List.forall_mem_cons.mpr ⟨rfl, List.forall_mem_cons.mpr ⟨rfl, List.forall_mem_cons.mpr ⟨rfl, List.forall_mem_cons.mpr ⟨rfl, fun _ h => absurd h List.not_mem_nil⟩⟩⟩⟩⟩) ?_
        exact q
      exact ygl181_47 hB hr13 1000000 _ _ _ _ _ c3 rfl
    · refine xS_of (pc' := 172) (L' := [(0, xa 302), (1, xa x1), (2, xa x2), (3, xi x3)]) (st' := []) (m' := m) (fun ex ns r q => ?_) ?_
      · refine xw_if_neT rfl (w32_cg (w32_xR _ _ _)) h3 ?_
        exact q
      exact xS_ret (v := 0) rfl rfl rfl rfl
  · refine xS_of (pc' := 172) (L' := [(0, xa 302), (1, xa x1), (2, xa x2), (3, xi x3)]) (st' := []) (m' := m) (fun ex ns r q => ?_) ?_
    · refine xw_ic_geT rfl (w32_cg c3) (w32_cg (w32_xR _ _ _)) (Int.not_lt.mp h1) ?_
      exact q
    exact xS_ret (v := 0) rfl rfl rfl rfl
theorem ygl181_13 {B : Nat} (hB : B ≤ 512) {xs : Nat → Int32} {SL d : Nat} : ∀ n x1 x2 x3 m, w32 x3 = x3 → xS B xs SL (d + 6) 181 (7, none, [], 8) 0 13 [(0, xa 302), (1, xa x1), (2, xa x2), (3, xi x3)] [] m (xl3 (yl181_13 B) n x1 x2 x3 m) := by
  intro n
  induction n with
  | zero => intro x1 x2 x3 m c3; exact xS_none
  | succ n ih => exact ysl181_13 hB ih
theorem ygf181 {B : Nat} (hB : B ≤ 512) {xs : Nat → Int32} {SL d : Nat} : ∀ p0 p1 m, xS B xs SL (d + 6) 181 (7, none, [], 8) 0 0 [(0, xa 302), (1, xa p0), (2, xa p1)] [] m (yf181 B p0 p1 m) := by
  intro p0 p1 m
  unfold yf181
  refine xS_g (fun g0 => ?_)
  refine xS_g (fun g1 => ?_)
  refine xS_of (pc' := 8) (L' := [(0, xa 302), (1, xa p0), (2, xa p1)]) (st' := [xi 32, xj (xR m p0 5), xa p1]) (m' := m) (fun ex ns r q => ?_) ?_
  · refine xw_aload_n rfl rfl rfl ?_
    refine xw_aload_n rfl rfl rfl ?_
    refine xw_gfIc (v := (m p0 5)) (v' := (xR m p0 5)) rfl (xw_obd g0) xk8_5 (qi := 5) rfl rfl rfl ?_
    refine xw_i2l rfl (w32_cg (w32_xR _ _ _)) ?_
    refine xw_bipush (e := 32) rfl (by decide +kernel) ?_
    refine xw_lo (L2 := [(0, xa 302), (1, xa p0), (2, xa p1)]) (List.forall_mem_cons.mpr ⟨rfl, List.forall_mem_cons.mpr ⟨rfl, List.forall_mem_cons.mpr ⟨rfl, fun _ h => absurd h List.not_mem_nil⟩⟩⟩) ?_
    exact q
  refine xS_call (q := 152) (n := 3) (kq := 0) (as := [xa p1, xj (xR m p0 5), xi 32]) (st1 := []) rfl rfl rfl rfl rfl rfl rfl rfl rfl rfl (fun _ => xw_rcv1 (t := 11) (xw_obd g1) rfl) rfl (List.forall_mem_cons.mpr ⟨rfl, List.forall_mem_cons.mpr ⟨rfl, List.forall_mem_cons.mpr ⟨rfl, fun _ h => absurd h List.not_mem_nil⟩⟩⟩) (ygf152 hB _ _ _ _ (w64_32 (w32_xR _ _ _)) rfl) (fun v1 m1 cv1 => ?_)
  refine xS_of (pc' := 13) (L' := [(0, xa 302), (1, xa p0), (2, xa p1), (3, xi 0)]) (st' := []) (m' := m1) (fun ex ns r q => ?_) ?_
  · refine xw_iconst rfl ?_
    refine xw_istore_n (L' := [(3, xi 0), (0, xa 302), (1, xa p0), (2, xa p1)]) rfl (by decide) rfl ?_
    refine xw_lo (L2 := [(0, xa 302), (1, xa p0), (2, xa p1), (3, xi 0)]) (List.forall_mem_cons.mpr ⟨rfl, List.forall_mem_cons.mpr ⟨rfl, List.forall_mem_cons.mpr ⟨rfl, List.forall_mem_cons.mpr ⟨rfl, fun _ h => absurd h List.not_mem_nil⟩⟩⟩⟩) ?_
    exact q
  exact ygl181_13 hB 1000000 _ _ _ _ rfl
theorem ygf179 {B : Nat} (hB : B ≤ 512) {xs : Nat → Int32} {SL d : Nat} : ∀ p0 m, xS B xs SL (d + 7) 179 (2, none, [], 1) 0 0 [(0, xa 0), (1, xa p0)] [] m (yf179 B p0 m) := by
  intro p0 m
  unfold yf179
  refine xS_of (pc' := 4) (L' := [(0, xa 0), (1, xa p0)]) (st' := [xa 302]) (m' := m) (fun ex ns r q => ?_) ?_
  · refine xw_aload_n rfl rfl rfl ?_
    refine xw_gfR (n := 302) (e := 302) rfl (xw_obd (by decide +kernel)) (by decide +kernel) (by decide +kernel) rfl ?_
    refine xw_lo (L2 := [(0, xa 0), (1, xa p0)]) (List.forall_mem_cons.mpr ⟨rfl, List.forall_mem_cons.mpr ⟨rfl, fun _ h => absurd h List.not_mem_nil⟩⟩) ?_
    exact q
  refine xS_call (q := 105) (n := 1) (kq := 0) (as := [xa 302]) (st1 := []) rfl rfl rfl rfl rfl rfl rfl rfl rfl rfl (fun _ => xw_rcv1 (t := 7) (xw_obd (by decide +kernel)) rfl) rfl (List.forall_mem_cons.mpr ⟨rfl, fun _ h => absurd h List.not_mem_nil⟩) (ygf105 hB _) (fun v1 m1 cv1 => ?_)
  refine xS_of (pc' := 12) (L' := [(0, xa 0), (1, xa p0)]) (st' := [xa p0, xa 302]) (m' := m1) (fun ex ns r q => ?_) ?_
  · refine xw_aload_n rfl rfl rfl ?_
    refine xw_gfR (n := 302) (e := 302) rfl (xw_obd (by decide +kernel)) (by decide +kernel) (by decide +kernel) rfl ?_
    refine xw_aload_n rfl rfl rfl ?_
    refine xw_lo (L2 := [(0, xa 0), (1, xa p0)]) (List.forall_mem_cons.mpr ⟨rfl, List.forall_mem_cons.mpr ⟨rfl, fun _ h => absurd h List.not_mem_nil⟩⟩) ?_
    exact q
  refine xS_call (q := 180) (n := 2) (kq := 0) (as := [xa 302, xa p0]) (st1 := []) rfl rfl rfl rfl rfl rfl rfl rfl rfl rfl (fun _ => xw_rcv1 (t := 7) (xw_obd (by decide +kernel)) rfl) rfl (List.forall_mem_cons.mpr ⟨rfl, List.forall_mem_cons.mpr ⟨rfl, fun _ h => absurd h List.not_mem_nil⟩⟩) (ygf180 hB _ _) (fun v2 m2 cv2 => ?_)
  refine xS_of (pc' := 27) (L' := []) (st' := [xa 518, xa p0, xa 302]) (m' := m2) (fun ex ns r q => ?_) ?_
  · refine xw_aload_n rfl rfl rfl ?_
    refine xw_gfR (n := 302) (e := 302) rfl (xw_obd (by decide +kernel)) (by decide +kernel) (by decide +kernel) rfl ?_
    refine xw_aload_n rfl rfl rfl ?_
    refine xw_aload_n rfl rfl rfl ?_
    refine xw_gfR (n := 508) (e := 508) rfl (xw_obd (by decide +kernel)) (by decide +kernel) (by decide +kernel) rfl ?_
    refine xw_gfR (n := 518) (e := 518) rfl (xw_obd (by decide +kernel)) (by decide +kernel) (by decide +kernel) rfl ?_
    refine xw_lo (L2 := []) (fun _ h => absurd h List.not_mem_nil) ?_
    exact q
  refine xS_call (q := 181) (n := 3) (kq := 0) (as := [xa 302, xa p0, xa 518]) (st1 := []) rfl rfl rfl rfl rfl rfl rfl rfl rfl rfl (fun _ => xw_rcv1 (t := 7) (xw_obd (by decide +kernel)) rfl) rfl (List.forall_mem_cons.mpr ⟨rfl, List.forall_mem_cons.mpr ⟨rfl, List.forall_mem_cons.mpr ⟨rfl, fun _ h => absurd h List.not_mem_nil⟩⟩⟩) (ygf181 hB _ _ _) (fun v3 m3 cv3 => ?_)
  exact xS_ret (v := 0) rfl rfl rfl rfl
theorem ysl195_3 {B : Nat} (hB : B ≤ 512) {xs : Nat → Int32} {SL d : Nat} {r3 : Int → Int → Int → Int → xw_M → xP} (hr3 : ∀ x1 x2 x3 x4 m, w32 x2 = x2 → w32 x3 = x3 → w32 x4 = x4 → xS B xs SL (d + 0) 195 (6, (some .boolean), [], 8) 4 3 [(0, xa 302), (1, xa x1), (2, xi x2), (3, xi x3), (4, xi x4)] [] m (r3 x1 x2 x3 x4 m)) : ∀ x1 x2 x3 x4 m, w32 x2 = x2 → w32 x3 = x3 → w32 x4 = x4 → xS B xs SL (d + 0) 195 (6, (some .boolean), [], 8) 4 3 [(0, xa 302), (1, xa x1), (2, xi x2), (3, xi x3), (4, xi x4)] [] m (yl195_3 B r3 x1 x2 x3 x4 m) := by
  intro x1 x2 x3 x4 m c2 c3 c4
  unfold yl195_3
  refine xS_of (pc' := 12) (L' := [(0, xa 302), (1, xa x1), (2, xi x2), (3, xi x3), (4, xi x4)]) (st' := [xi (xR m 3 1), xi x4]) (m' := m) (fun ex ns r q => ?_) ?_
  · refine xw_iload rfl rfl ?_
    refine xw_aload_n rfl rfl rfl ?_
    refine xw_gfR (n := 3) (e := 3) rfl (xw_obd (by decide +kernel)) (by decide +kernel) (by decide +kernel) rfl ?_
    refine xw_gfIc (v := (m 3 1)) (v' := (xR m 3 1)) rfl (xw_obd (by decide +kernel)) xk2_1 (qi := 1) rfl rfl rfl ?_
    exact q
  refine xS_if (fun h0 => ?_) (fun h0 => ?_)
  · refine xS_g (fun g1 => ?_)
    refine xS_of (pc' := 23) (L' := [(0, xa 302), (1, xa x1), (2, xi x2), (3, xi x3), (4, xi x4)]) (st' := [xi (-1), xi (xR m 372 x4)]) (m' := m) (fun ex ns r q => ?_) ?_
    · refine xw_ic_geF rfl (w32_cg c4) (w32_cg (w32_xR _ _ _)) (Int.not_le.mpr h0) ?_
      refine xw_aload_n rfl rfl rfl ?_
      refine xw_gfR (n := 372) (e := 372) rfl (xw_obd (by decide +kernel)) (by decide +kernel) (by decide +kernel) rfl ?_
      refine xw_iload rfl rfl ?_
      refine xw_ialdc (n := 8) (v := (m 372 x4)) (v' := (xR m 372 x4)) rfl hB (xw_obd (by decide +kernel)) rfl g1 rfl rfl ?_
      refine xw_iconst rfl ?_
      exact q
    refine xS_if (fun h2 => ?_) (fun h2 => ?_)
    · refine xS_of (pc' := 3) (L' := [(0, xa 302), (1, xa x1), (2, xi x2), (3, xi x3), (4, xi (w32 (x4 + 1)))]) (st' := []) (m' := m) (fun ex ns r q => ?_) ?_
      · refine xw_ic_eqT rfl (w32_cg (w32_xR _ _ _)) (w32_cg rfl) h2 ?_
        refine xw_iincc (z := (w32 (x4 + 1))) (L' := [(4, xi (w32 (x4 + 1))), (0, xa 302), (1, xa x1), (2, xi x2), (3, xi x3)]) rfl rfl (by decide) rfl rfl ?_
        refine xw_goto rfl ?_
        refine xw_lo (L2 := [(0, xa 302), (1, xa x1), (2, xi x2), (3, xi x3), (4, xi (w32 (x4 + 1)))]) (List.forall_mem_cons.mpr ⟨rfl, List.forall_mem_cons.mpr ⟨rfl, List.forall_mem_cons.mpr ⟨rfl, List.forall_mem_cons.mpr ⟨rfl, List.forall_mem_cons.mpr ⟨rfl, fun _ h => absurd h List.not_mem_nil⟩⟩⟩⟩⟩) ?_
        exact q
      exact hr3 _ _ _ _ _ c2 c3 (w32_w _)
    · refine xS_g (fun g3 => ?_)
      refine xS_g (fun g4 => ?_)
      refine xS_g (fun g5 => ?_)
      refine xS_g (fun g6 => ?_)
      refine xS_g (fun g7 => ?_)
      refine xS_g (fun g8 => ?_)
      refine xS_g (fun g9 => ?_)
      refine xS_g (fun g10 => ?_)
      refine xS_g (fun g11 => ?_)
      refine xS_g (fun g12 => ?_)
      refine xS_g (fun g13 => ?_)
      refine xS_g (fun g14 => ?_)
      refine xS_g (fun g15 => ?_)
      refine xS_g (fun g16 => ?_)
      refine xS_of (pc' := 73) (L' := [(5, xa (xw_rf (xw_rf (15 + (26 * x4)) 4) (xR m 371 x4))), (0, xa 302), (1, xa x1), (2, xi x2), (3, xi x3), (4, xi x4)]) (st' := [xi (xR m (xw_rf (xw_rf (15 + (26 * x4)) 4) (xR m 371 x4)) (xR m (xw_rf (xw_rf x1 0) x4) x3)), xi (xR m (xw_rf (xw_rf (15 + (26 * x4)) 4) (xR m 371 x4)) (xR m (xw_rf (xw_rf x1 0) x4) x2))]) (m' := m) (fun ex ns r q => ?_) ?_
      · refine xw_ic_eqF rfl (w32_cg (w32_xR _ _ _)) (w32_cg rfl) h2 ?_
        refine xw_aload_n rfl rfl rfl ?_
        refine xw_gfR (n := 3) (e := 3) rfl (xw_obd (by decide +kernel)) (by decide +kernel) (by decide +kernel) rfl ?_
        refine xw_gfR (n := 4) (e := 4) rfl (xw_obd (by decide +kernel)) (by decide +kernel) (by decide +kernel) rfl ?_
        refine xw_iload rfl rfl ?_
        refine xw_aald (t := 23) (n := 8) (q := 15 + 26 * (x4).toNat) (e := (15 + (26 * x4))) rfl hB (xw_obd (by decide +kernel)) (by decide) rfl g1 (show 20 + 26 * (x4 : Int).toNat = 15 + 26 * (x4 : Int).toNat + 5 from by omega) (by have := g1; omega) ?_
        refine xw_gfV (qi := 4) rfl (xw_obd g3) xk3_4 rfl ?_
        refine xw_aload_n rfl rfl rfl ?_
        refine xw_gfR (n := 371) (e := 371) rfl (xw_obd (by decide +kernel)) (by decide +kernel) (by decide +kernel) rfl ?_
        refine xw_iload rfl rfl ?_
        refine xw_ialdc (n := 8) (v := (m 371 x4)) (v' := (xR m 371 x4)) rfl hB (xw_obd (by decide +kernel)) rfl g1 rfl rfl ?_
        refine xw_aald (t := 20) (n := (xw_le B (xw_rf (15 + (26 * x4)) 4))) (q := xw_kd (xw_rf (15 + (26 * x4)) 4) (xR m 371 x4) - 5) (e := (xw_rf (xw_rf (15 + (26 * x4)) 4) (xR m 371 x4))) rfl hB (xw_obd g6) (by decide) rfl g4 (by have := g5; omega) (xw_rfn g5) ?_
        refine xw_astore (L' := [(5, xa (xw_rf (xw_rf (15 + (26 * x4)) 4) (xR m 371 x4))), (0, xa 302), (1, xa x1), (2, xi x2), (3, xi x3), (4, xi x4)]) rfl rfl (by decide) rfl ?_
        refine xw_aload rfl rfl rfl ?_
        refine xw_aload_n rfl rfl rfl ?_
        refine xw_gfV (qi := 0) rfl (xw_obd g7) xk8_0 rfl ?_
        refine xw_iload rfl rfl ?_
        refine xw_aald (t := 20) (n := (xw_le B (xw_rf x1 0))) (q := xw_kd (xw_rf x1 0) x4 - 5) (e := (xw_rf (xw_rf x1 0) x4)) rfl hB (xw_obd g10) (by decide) rfl g8 (by have := g9; omega) (xw_rfn g9) ?_
        refine xw_iload_n rfl rfl ?_
        refine xw_ialdc (n := (xw_le B (xw_rf (xw_rf x1 0) x4))) (v := (m (xw_rf (xw_rf x1 0) x4) x2)) (v' := (xR m (xw_rf (xw_rf x1 0) x4) x2)) rfl hB (xw_obd g12) rfl g11 rfl rfl ?_
        refine xw_ialdc (n := (xw_le B (xw_rf (xw_rf (15 + (26 * x4)) 4) (xR m 371 x4)))) (v := (m (xw_rf (xw_rf (15 + (26 * x4)) 4) (xR m 371 x4)) (xR m (xw_rf (xw_rf x1 0) x4) x2))) (v' := (xR m (xw_rf (xw_rf (15 + (26 * x4)) 4) (xR m 371 x4)) (xR m (xw_rf (xw_rf x1 0) x4) x2))) rfl hB (xw_obd g14) rfl g13 rfl rfl ?_
        refine xw_aload rfl rfl rfl ?_
        refine xw_aload_n rfl rfl rfl ?_
        refine xw_gfV (qi := 0) rfl (xw_obd g7) xk8_0 rfl ?_
        refine xw_iload rfl rfl ?_
        refine xw_aald (t := 20) (n := (xw_le B (xw_rf x1 0))) (q := xw_kd (xw_rf x1 0) x4 - 5) (e := (xw_rf (xw_rf x1 0) x4)) rfl hB (xw_obd g10) (by decide) rfl g8 (by have := g9; omega) (xw_rfn g9) ?_
        refine xw_iload_n rfl rfl ?_
        refine xw_ialdc (n := (xw_le B (xw_rf (xw_rf x1 0) x4))) (v := (m (xw_rf (xw_rf x1 0) x4) x3)) (v' := (xR m (xw_rf (xw_rf x1 0) x4) x3)) rfl hB (xw_obd g12) rfl g15 rfl rfl ?_
        refine xw_ialdc (n := (xw_le B (xw_rf (xw_rf (15 + (26 * x4)) 4) (xR m 371 x4)))) (v := (m (xw_rf (xw_rf (15 + (26 * x4)) 4) (xR m 371 x4)) (xR m (xw_rf (xw_rf x1 0) x4) x3))) (v' := (xR m (xw_rf (xw_rf (15 + (26 * x4)) 4) (xR m 371 x4)) (xR m (xw_rf (xw_rf x1 0) x4) x3))) rfl hB (xw_obd g14) rfl g16 rfl rfl ?_
        exact q
      refine xS_if (fun h17 => ?_) (fun h17 => ?_)
      · refine xS_of (pc' := 3) (L' := [(0, xa 302), (1, xa x1), (2, xi x2), (3, xi x3), (4, xi (w32 (x4 + 1)))]) (st' := []) (m' := m) (fun ex ns r q => ?_) ?_
        · refine xw_ic_eqT rfl (w32_cg (w32_xR _ _ _)) (w32_cg (w32_xR _ _ _)) h17 ?_
          refine xw_iincc (z := (w32 (x4 + 1))) (L' := [(4, xi (w32 (x4 + 1))), (5, xa (xw_rf (xw_rf (15 + (26 * x4)) 4) (xR m 371 x4))), (0, xa 302), (1, xa x1), (2, xi x2), (3, xi x3)]) rfl rfl (by decide) rfl rfl ?_
          refine xw_goto rfl ?_
          refine xw_lo (L2 := [(0, xa 302), (1, xa x1), (2, xi x2), (3, xi x3), (4, xi (w32 (x4 + 1)))]) (List.forall_mem_cons.mpr ⟨rfl, List.forall_mem_cons.mpr ⟨rfl, List.forall_mem_cons.mpr ⟨rfl, List.forall_mem_cons.mpr ⟨rfl, List.forall_mem_cons.mpr ⟨rfl, fun _ h => absurd h List.not_mem_nil⟩⟩⟩⟩⟩) ?_
          exact q
        exact hr3 _ _ _ _ _ c2 c3 (w32_w _)
      · refine xS_of (pc' := 77) (L' := [(5, xa (xw_rf (xw_rf (15 + (26 * x4)) 4) (xR m 371 x4))), (0, xa 302), (1, xa x1), (2, xi x2), (3, xi x3), (4, xi x4)]) (st' := [xi 0]) (m' := m) (fun ex ns r q => ?_) ?_
        · refine xw_ic_eqF rfl (w32_cg (w32_xR _ _ _)) (w32_cg (w32_xR _ _ _)) h17 ?_
          refine xw_iconst rfl ?_
          exact q
        exact xS_ret (v := 0) rfl rfl (xw_rtZ (Or.inl rfl)) (Or.inl rfl)
  · refine xS_of (pc' := 85) (L' := [(0, xa 302), (1, xa x1), (2, xi x2), (3, xi x3), (4, xi x4)]) (st' := [xi 1]) (m' := m) (fun ex ns r q => ?_) ?_
    · refine xw_ic_geT rfl (w32_cg c4) (w32_cg (w32_xR _ _ _)) (Int.not_lt.mp h0) ?_
      refine xw_iconst rfl ?_
      exact q
    exact xS_ret (v := 1) rfl rfl (xw_rtZ (Or.inr rfl)) (Or.inr rfl)
theorem ygl195_3 {B : Nat} (hB : B ≤ 512) {xs : Nat → Int32} {SL d : Nat} : ∀ n x1 x2 x3 x4 m, w32 x2 = x2 → w32 x3 = x3 → w32 x4 = x4 → xS B xs SL (d + 0) 195 (6, (some .boolean), [], 8) 4 3 [(0, xa 302), (1, xa x1), (2, xi x2), (3, xi x3), (4, xi x4)] [] m (xl4 (yl195_3 B) n x1 x2 x3 x4 m) := by
  intro n
  induction n with
  | zero => intro x1 x2 x3 x4 m c2 c3 c4; exact xS_none
  | succ n ih => exact ysl195_3 hB ih
theorem ygf195 {B : Nat} (hB : B ≤ 512) {xs : Nat → Int32} {SL d : Nat} : ∀ p0 p1 p2 m, w32 p1 = p1 → w32 p2 = p2 → xS B xs SL (d + 0) 195 (6, (some .boolean), [], 8) 4 0 [(0, xa 302), (1, xa p0), (2, xi p1), (3, xi p2)] [] m (yf195 B p0 p1 p2 m) := by
  intro p0 p1 p2 m cp1 cp2
  unfold yf195
  refine xS_of (pc' := 3) (L' := [(0, xa 302), (1, xa p0), (2, xi p1), (3, xi p2), (4, xi 0)]) (st' := []) (m' := m) (fun ex ns r q => ?_) ?_
  · refine xw_iconst rfl ?_
    refine xw_istore (L' := [(4, xi 0), (0, xa 302), (1, xa p0), (2, xi p1), (3, xi p2)]) rfl (by decide) rfl ?_
    refine xw_lo (L2 := [(0, xa 302), (1, xa p0), (2, xi p1), (3, xi p2), (4, xi 0)]) (List.forall_mem_cons.mpr ⟨rfl, List.forall_mem_cons.mpr ⟨rfl, List.forall_mem_cons.mpr ⟨rfl, List.forall_mem_cons.mpr ⟨rfl, List.forall_mem_cons.mpr ⟨rfl, fun _ h => absurd h List.not_mem_nil⟩⟩⟩⟩⟩) ?_
    exact q
  exact ygl195_3 hB 1000000 _ _ _ _ _ cp1 cp2 rfl
theorem ysl196_25 {B : Nat} (hB : B ≤ 512) {xs : Nat → Int32} {SL d : Nat} {r25 : Int → Int → Int → Int → xw_M → xP} (hr25 : ∀ x1 x2 x3 x4 m, w32 x2 = x2 → w32 x3 = x3 → w32 x4 = x4 → xS B xs SL (d + 0) 196 (8, none, [], 8) 0 25 [(0, xa 302), (1, xa x1), (2, xi x2), (3, xi x3), (4, xi x4)] [] m (r25 x1 x2 x3 x4 m)) : ∀ x1 x2 x3 x4 m, w32 x2 = x2 → w32 x3 = x3 → w32 x4 = x4 → xS B xs SL (d + 0) 196 (8, none, [], 8) 0 25 [(0, xa 302), (1, xa x1), (2, xi x2), (3, xi x3), (4, xi x4)] [] m (yl196_25 B r25 x1 x2 x3 x4 m) := by
  intro x1 x2 x3 x4 m c2 c3 c4
  unfold yl196_25
  refine xS_of (pc' := 34) (L' := [(0, xa 302), (1, xa x1), (2, xi x2), (3, xi x3), (4, xi x4)]) (st' := [xi (xR m 3 2), xi x4]) (m' := m) (fun ex ns r q => ?_) ?_
  · refine xw_iload rfl rfl ?_
    refine xw_aload_n rfl rfl rfl ?_
    refine xw_gfR (n := 3) (e := 3) rfl (xw_obd (by decide +kernel)) (by decide +kernel) (by decide +kernel) rfl ?_
    refine xw_gfIc (v := (m 3 2)) (v' := (xR m 3 2)) rfl (xw_obd (by decide +kernel)) xk2_2 (qi := 2) rfl rfl rfl ?_
    exact q
  refine xS_if (fun h0 => ?_) (fun h0 => ?_)
  · refine xS_g (fun g1 => ?_)
    refine xS_g (fun g2 => ?_)
    refine xS_g (fun g3 => ?_)
    refine xS_g (fun g4 => ?_)
    refine xS_g (fun g5 => ?_)
    refine xS_g (fun g6 => ?_)
    refine xS_g (fun g7 => ?_)
    refine xS_g (fun g8 => ?_)
    refine xS_g (fun g9 => ?_)
    refine xS_g (fun g10 => ?_)
    refine xS_g (fun g11 => ?_)
    refine xS_g (fun g12 => ?_)
    refine xS_g (fun g13 => ?_)
    refine xS_g (fun g14 => ?_)
    refine xS_g (fun g15 => ?_)
    refine xS_of (pc' := 25) (L' := [(0, xa 302), (1, xa x1), (2, xi x2), (3, xi x3), (4, xi (w32 (x4 + 1)))]) (st' := []) (m' := (xw_u (xw_u (xw_u m (304 + (w32 (((xR m 302 5) + 1) + (3 * x4)))) x3 ((xJ m (304 + (w32 (((xR m 302 5) + 1) + (3 * x4)))) x3) + (xJ m (xw_rf (xw_rf x1 1) x4) x2))) (304 + ((w32 (((xR m 302 5) + 1) + (3 * x4))) + 1)) x3 (min (xJ (xw_u m (304 + (w32 (((xR m 302 5) + 1) + (3 * x4)))) x3 ((xJ m (304 + (w32 (((xR m 302 5) + 1) + (3 * x4)))) x3) + (xJ m (xw_rf (xw_rf x1 1) x4) x2))) (304 + ((w32 (((xR m 302 5) + 1) + (3 * x4))) + 1)) x3) (xJ m (xw_rf (xw_rf x1 1) x4) x2))) (304 + ((w32 (((xR m 302 5) + 1) + (3 * x4))) + 2)) x3 (max (xJ (xw_u (xw_u m (304 + (w32 (((xR m 302 5) + 1) + (3 * x4)))) x3 ((xJ m (304 + (w32 (((xR m 302 5) + 1) + (3 * x4)))) x3) + (xJ m (xw_rf (xw_rf x1 1) x4) x2))) (304 + ((w32 (((xR m 302 5) + 1) + (3 * x4))) + 1)) x3 (min (xJ (xw_u m (304 + (w32 (((xR m 302 5) + 1) + (3 * x4)))) x3 ((xJ m (304 + (w32 (((xR m 302 5) + 1) + (3 * x4)))) x3) + (xJ m (xw_rf (xw_rf x1 1) x4) x2))) (304 + ((w32 (((xR m 302 5) + 1) + (3 * x4))) + 1)) x3) (xJ m (xw_rf (xw_rf x1 1) x4) x2))) (304 + ((w32 (((xR m 302 5) + 1) + (3 * x4))) + 2)) x3) (xJ m (xw_rf (xw_rf x1 1) x4) x2)))) (fun ex ns r q => ?_) ?_
    · refine xw_ic_geF rfl (w32_cg c4) (w32_cg (w32_xR _ _ _)) (Int.not_le.mpr h0) ?_
      refine xw_aload_n rfl rfl rfl ?_
      refine xw_gfV (qi := 1) rfl (xw_obd g1) xk8_1 rfl ?_
      refine xw_iload rfl rfl ?_
      refine xw_aald (t := 21) (n := (xw_le B (xw_rf x1 1))) (q := xw_kd (xw_rf x1 1) x4 - 5) (e := (xw_rf (xw_rf x1 1) x4)) rfl hB (xw_obd g4) (by decide) rfl g2 (by have := g3; omega) (xw_rfn g3) ?_
      refine xw_iload_n rfl rfl ?_
      refine xw_laldc (n := (xw_le B (xw_rf (xw_rf x1 1) x4))) (v := (m (xw_rf (xw_rf x1 1) x4) x2)) (v' := (xJ m (xw_rf (xw_rf x1 1) x4) x2)) rfl hB (xw_obd g6) rfl g5 rfl rfl ?_
      refine xw_lstore (L' := [(5, xj (xJ m (xw_rf (xw_rf x1 1) x4) x2)), (0, xa 302), (1, xa x1), (2, xi x2), (3, xi x3), (4, xi x4)]) rfl (by decide) rfl ?_
      refine xw_aload_n rfl rfl rfl ?_
      refine xw_gfIc (v := (m 302 5)) (v' := (xR m 302 5)) rfl (xw_obd (by decide +kernel)) xk7_5 (qi := 5) rfl rfl rfl ?_
      refine xw_iconst rfl ?_
      refine xw_iadd rfl ?_
      refine xw_iconst rfl ?_
      refine xw_iload rfl rfl ?_
      refine xw_imul rfl ?_
      refine xw_iadd rfl ?_
      refine xw_cst (st' := [xi (w32 (((xR m 302 5) + 1) + (3 * x4)))]) (xw_sc (xi_c rfl) rfl) ?_
      refine xw_istore (L' := [(7, xi (w32 (((xR m 302 5) + 1) + (3 * x4)))), (5, xj (xJ m (xw_rf (xw_rf x1 1) x4) x2)), (0, xa 302), (1, xa x1), (2, xi x2), (3, xi x3), (4, xi x4)]) rfl (by decide) rfl ?_
      refine xw_aload_n rfl rfl rfl ?_
      refine xw_gfR (n := 303) (e := 303) rfl (xw_obd (by decide +kernel)) (by decide +kernel) (by decide +kernel) rfl ?_
      refine xw_iload rfl rfl ?_
      refine xw_aald (t := 21) (n := 33) (q := 304 + 1 * ((w32 (((xR m 302 5) + 1) + (3 * x4)))).toNat) (e := (304 + (w32 (((xR m 302 5) + 1) + (3 * x4))))) rfl hB (xw_obd (by decide +kernel)) (by decide) rfl g7 (show 309 + 1 * ((w32 (((xR m 302 5) + 1) + (3 * x4))) : Int).toNat = 304 + 1 * ((w32 (((xR m 302 5) + 1) + (3 * x4))) : Int).toNat + 5 from by omega) (by have := g7; omega) ?_
      refine xw_iload_n rfl rfl ?_
      refine xw_dup2 rfl rfl rfl ?_
      refine xw_laldc (n := (xw_le B (304 + (w32 (((xR m 302 5) + 1) + (3 * x4)))))) (v := (m (304 + (w32 (((xR m 302 5) + 1) + (3 * x4)))) x3)) (v' := (xJ m (304 + (w32 (((xR m 302 5) + 1) + (3 * x4)))) x3)) rfl hB (xw_obd g9) rfl g8 rfl rfl ?_
      refine xw_lload rfl rfl ?_
      refine xw_ladd rfl ?_
      refine xw_last (n := (xw_le B (304 + (w32 (((xR m 302 5) + 1) + (3 * x4)))))) rfl hB (xw_obd g9) rfl g8 ?_
      refine xw_aload_n rfl rfl rfl ?_
      refine xw_gfR (n := 303) (e := 303) rfl (xw_obd (by decide +kernel)) (by decide +kernel) (by decide +kernel) rfl ?_
      refine xw_iload rfl rfl ?_
      refine xw_iconst rfl ?_
      refine xw_iadd rfl ?_
      refine xw_aald (t := 21) (n := 33) (q := 304 + 1 * (((w32 (((xR m 302 5) + 1) + (3 * x4))) + 1)).toNat) (e := (304 + ((w32 (((xR m 302 5) + 1) + (3 * x4))) + 1))) rfl hB (xw_obd (by decide +kernel)) (by decide) rfl g10 (show 309 + 1 * (((w32 (((xR m 302 5) + 1) + (3 * x4))) + 1) : Int).toNat = 304 + 1 * (((w32 (((xR m 302 5) + 1) + (3 * x4))) + 1) : Int).toNat + 5 from by omega) (by have := g10; omega) ?_
      refine xw_iload_n rfl rfl ?_
      refine xw_aload_n rfl rfl rfl ?_
      refine xw_gfR (n := 303) (e := 303) rfl (xw_obd (by decide +kernel)) (by decide +kernel) (by decide +kernel) rfl ?_
      refine xw_iload rfl rfl ?_
      refine xw_iconst rfl ?_
      refine xw_iadd rfl ?_
      refine xw_aald (t := 21) (n := 33) (q := 304 + 1 * (((w32 (((xR m 302 5) + 1) + (3 * x4))) + 1)).toNat) (e := (304 + ((w32 (((xR m 302 5) + 1) + (3 * x4))) + 1))) rfl hB (xw_obd (by decide +kernel)) (by decide) rfl g10 (show 309 + 1 * (((w32 (((xR m 302 5) + 1) + (3 * x4))) + 1) : Int).toNat = 304 + 1 * (((w32 (((xR m 302 5) + 1) + (3 * x4))) + 1) : Int).toNat + 5 from by omega) (by have := g10; omega) ?_
      refine xw_iload_n rfl rfl ?_
      refine xw_laldc (n := (xw_le B (304 + ((w32 (((xR m 302 5) + 1) + (3 * x4))) + 1)))) (v := ((xw_u m (304 + (w32 (((xR m 302 5) + 1) + (3 * x4)))) x3 ((xJ m (304 + (w32 (((xR m 302 5) + 1) + (3 * x4)))) x3) + (xJ m (xw_rf (xw_rf x1 1) x4) x2))) (304 + ((w32 (((xR m 302 5) + 1) + (3 * x4))) + 1)) x3)) (v' := (xJ (xw_u m (304 + (w32 (((xR m 302 5) + 1) + (3 * x4)))) x3 ((xJ m (304 + (w32 (((xR m 302 5) + 1) + (3 * x4)))) x3) + (xJ m (xw_rf (xw_rf x1 1) x4) x2))) (304 + ((w32 (((xR m 302 5) + 1) + (3 * x4))) + 1)) x3)) rfl hB (xw_obd g12) rfl g11 rfl rfl ?_
      refine xw_lload rfl rfl ?_
      refine xw_minJ rfl rfl (w64_cg (w64_xJ _ _ _)) (w64_cg (w64_xJ _ _ _)) rfl ?_
      refine xw_last (n := (xw_le B (304 + ((w32 (((xR m 302 5) + 1) + (3 * x4))) + 1)))) rfl hB (xw_obd g12) rfl g11 ?_
      refine xw_aload_n rfl rfl rfl ?_
      refine xw_gfR (n := 303) (e := 303) rfl (xw_obd (by decide +kernel)) (by decide +kernel) (by decide +kernel) rfl ?_
      refine xw_iload rfl rfl ?_
      refine xw_iconst rfl ?_
      refine xw_iadd rfl ?_
      refine xw_aald (t := 21) (n := 33) (q := 304 + 1 * (((w32 (((xR m 302 5) + 1) + (3 * x4))) + 2)).toNat) (e := (304 + ((w32 (((xR m 302 5) + 1) + (3 * x4))) + 2))) rfl hB (xw_obd (by decide +kernel)) (by decide) rfl g13 (show 309 + 1 * (((w32 (((xR m 302 5) + 1) + (3 * x4))) + 2) : Int).toNat = 304 + 1 * (((w32 (((xR m 302 5) + 1) + (3 * x4))) + 2) : Int).toNat + 5 from by omega) (by have := g13; omega) ?_
      refine xw_iload_n rfl rfl ?_
      refine xw_aload_n rfl rfl rfl ?_
      refine xw_gfR (n := 303) (e := 303) rfl (xw_obd (by decide +kernel)) (by decide +kernel) (by decide +kernel) rfl ?_
      refine xw_iload rfl rfl ?_
      refine xw_iconst rfl ?_
      refine xw_iadd rfl ?_
      refine xw_aald (t := 21) (n := 33) (q := 304 + 1 * (((w32 (((xR m 302 5) + 1) + (3 * x4))) + 2)).toNat) (e := (304 + ((w32 (((xR m 302 5) + 1) + (3 * x4))) + 2))) rfl hB (xw_obd (by decide +kernel)) (by decide) rfl g13 (show 309 + 1 * (((w32 (((xR m 302 5) + 1) + (3 * x4))) + 2) : Int).toNat = 304 + 1 * (((w32 (((xR m 302 5) + 1) + (3 * x4))) + 2) : Int).toNat + 5 from by omega) (by have := g13; omega) ?_
      refine xw_iload_n rfl rfl ?_
      refine xw_laldc (n := (xw_le B (304 + ((w32 (((xR m 302 5) + 1) + (3 * x4))) + 2)))) (v := ((xw_u (xw_u m (304 + (w32 (((xR m 302 5) + 1) + (3 * x4)))) x3 ((xJ m (304 + (w32 (((xR m 302 5) + 1) + (3 * x4)))) x3) + (xJ m (xw_rf (xw_rf x1 1) x4) x2))) (304 + ((w32 (((xR m 302 5) + 1) + (3 * x4))) + 1)) x3 (min (xJ (xw_u m (304 + (w32 (((xR m 302 5) + 1) + (3 * x4)))) x3 ((xJ m (304 + (w32 (((xR m 302 5) + 1) + (3 * x4)))) x3) + (xJ m (xw_rf (xw_rf x1 1) x4) x2))) (304 + ((w32 (((xR m 302 5) + 1) + (3 * x4))) + 1)) x3) (xJ m (xw_rf (xw_rf x1 1) x4) x2))) (304 + ((w32 (((xR m 302 5) + 1) + (3 * x4))) + 2)) x3)) (v' := (xJ (xw_u (xw_u m (304 + (w32 (((xR m 302 5) + 1) + (3 * x4)))) x3 ((xJ m (304 + (w32 (((xR m 302 5) + 1) + (3 * x4)))) x3) + (xJ m (xw_rf (xw_rf x1 1) x4) x2))) (304 + ((w32 (((xR m 302 5) + 1) + (3 * x4))) + 1)) x3 (min (xJ (xw_u m (304 + (w32 (((xR m 302 5) + 1) + (3 * x4)))) x3 ((xJ m (304 + (w32 (((xR m 302 5) + 1) + (3 * x4)))) x3) + (xJ m (xw_rf (xw_rf x1 1) x4) x2))) (304 + ((w32 (((xR m 302 5) + 1) + (3 * x4))) + 1)) x3) (xJ m (xw_rf (xw_rf x1 1) x4) x2))) (304 + ((w32 (((xR m 302 5) + 1) + (3 * x4))) + 2)) x3)) rfl hB (xw_obd g15) rfl g14 rfl rfl ?_
      refine xw_lload rfl rfl ?_
      refine xw_maxJ rfl rfl (w64_cg (w64_xJ _ _ _)) (w64_cg (w64_xJ _ _ _)) rfl ?_
      refine xw_last (n := (xw_le B (304 + ((w32 (((xR m 302 5) + 1) + (3 * x4))) + 2)))) rfl hB (xw_obd g15) rfl g14 ?_
      refine xw_iincc (z := (w32 (x4 + 1))) (L' := [(4, xi (w32 (x4 + 1))), (7, xi (w32 (((xR m 302 5) + 1) + (3 * x4)))), (5, xj (xJ m (xw_rf (xw_rf x1 1) x4) x2)), (0, xa 302), (1, xa x1), (2, xi x2), (3, xi x3)]) rfl rfl (by decide) rfl rfl ?_
      refine xw_goto rfl ?_
      refine xw_lo (L2 := [(0, xa 302), (1, xa x1), (2, xi x2), (3, xi x3), (4, xi (w32 (x4 + 1)))]) (List.forall_mem_cons.mpr ⟨rfl, List.forall_mem_cons.mpr ⟨rfl, List.forall_mem_cons.mpr ⟨rfl, List.forall_mem_cons.mpr ⟨rfl, List.forall_mem_cons.mpr ⟨rfl, fun _ h => absurd h List.not_mem_nil⟩⟩⟩⟩⟩) ?_
      exact q
    exact hr25 _ _ _ _ _ c2 c3 (w32_w _)
  · refine xS_of (pc' := 135) (L' := [(0, xa 302), (1, xa x1), (2, xi x2), (3, xi x3), (4, xi x4)]) (st' := []) (m' := m) (fun ex ns r q => ?_) ?_
    · refine xw_ic_geT rfl (w32_cg c4) (w32_cg (w32_xR _ _ _)) (Int.not_lt.mp h0) ?_
      exact q
    exact xS_ret (v := 0) rfl rfl rfl rfl
theorem ygl196_25 {B : Nat} (hB : B ≤ 512) {xs : Nat → Int32} {SL d : Nat} : ∀ n x1 x2 x3 x4 m, w32 x2 = x2 → w32 x3 = x3 → w32 x4 = x4 → xS B xs SL (d + 0) 196 (8, none, [], 8) 0 25 [(0, xa 302), (1, xa x1), (2, xi x2), (3, xi x3), (4, xi x4)] [] m (xl4 (yl196_25 B) n x1 x2 x3 x4 m) := by
  intro n
  induction n with
  | zero => intro x1 x2 x3 x4 m c2 c3 c4; exact xS_none
  | succ n ih => exact ysl196_25 hB ih
theorem ygf196 {B : Nat} (hB : B ≤ 512) {xs : Nat → Int32} {SL d : Nat} : ∀ p0 p1 m, w32 p1 = p1 → xS B xs SL (d + 0) 196 (8, none, [], 8) 0 0 [(0, xa 302), (1, xa p0), (2, xi p1)] [] m (yf196 B p0 p1 m) := by
  intro p0 p1 m cp1
  unfold yf196
  refine xS_g (fun g0 => ?_)
  refine xS_g (fun g1 => ?_)
  refine xS_g (fun g2 => ?_)
  refine xS_of (pc' := 25) (L' := [(0, xa 302), (1, xa p0), (2, xi p1), (3, xi (w32 ((xR m 302 8) - 1))), (4, xi 0)]) (st' := []) (m' := (xw_u m (304 + (xR m 302 5)) (w32 ((xR m 302 8) - 1)) ((xJ m (304 + (xR m 302 5)) (w32 ((xR m 302 8) - 1))) + 1))) (fun ex ns r q => ?_) ?_
  · refine xw_aload_n rfl rfl rfl ?_
    refine xw_gfIc (v := (m 302 8)) (v' := (xR m 302 8)) rfl (xw_obd (by decide +kernel)) xk7_8 (qi := 8) rfl rfl rfl ?_
    refine xw_iconst rfl ?_
    refine xw_isub rfl ?_
    refine xw_cst (st' := [xi (w32 ((xR m 302 8) - 1))]) (xw_sc (xi_c rfl) rfl) ?_
    refine xw_istore_n (L' := [(3, xi (w32 ((xR m 302 8) - 1))), (0, xa 302), (1, xa p0), (2, xi p1)]) rfl (by decide) rfl ?_
    refine xw_aload_n rfl rfl rfl ?_
    refine xw_gfR (n := 303) (e := 303) rfl (xw_obd (by decide +kernel)) (by decide +kernel) (by decide +kernel) rfl ?_
    refine xw_aload_n rfl rfl rfl ?_
    refine xw_gfIc (v := (m 302 5)) (v' := (xR m 302 5)) rfl (xw_obd (by decide +kernel)) xk7_5 (qi := 5) rfl rfl rfl ?_
    refine xw_aald (t := 21) (n := 33) (q := 304 + 1 * ((xR m 302 5)).toNat) (e := (304 + (xR m 302 5))) rfl hB (xw_obd (by decide +kernel)) (by decide) rfl g0 (show 309 + 1 * ((xR m 302 5) : Int).toNat = 304 + 1 * ((xR m 302 5) : Int).toNat + 5 from by omega) (by have := g0; omega) ?_
    refine xw_iload_n rfl rfl ?_
    refine xw_dup2 rfl rfl rfl ?_
    refine xw_laldc (n := (xw_le B (304 + (xR m 302 5)))) (v := (m (304 + (xR m 302 5)) (w32 ((xR m 302 8) - 1)))) (v' := (xJ m (304 + (xR m 302 5)) (w32 ((xR m 302 8) - 1)))) rfl hB (xw_obd g2) rfl g1 rfl rfl ?_
    refine xw_lconst (e := 1) rfl rfl ?_
    refine xw_ladd rfl ?_
    refine xw_last (n := (xw_le B (304 + (xR m 302 5)))) rfl hB (xw_obd g2) rfl g1 ?_
    refine xw_iconst rfl ?_
    refine xw_istore (L' := [(4, xi 0), (3, xi (w32 ((xR m 302 8) - 1))), (0, xa 302), (1, xa p0), (2, xi p1)]) rfl (by decide) rfl ?_
    refine xw_lo (L2 := [(0, xa 302), (1, xa p0), (2, xi p1), (3, xi (w32 ((xR m 302 8) - 1))), (4, xi 0)]) (List.forall_mem_cons.mpr ⟨rfl, List.forall_mem_cons.mpr ⟨rfl, List.forall_mem_cons.mpr ⟨rfl, List.forall_mem_cons.mpr ⟨rfl, List.forall_mem_cons.mpr ⟨rfl, fun _ h => absurd h List.not_mem_nil⟩⟩⟩⟩⟩) ?_
    exact q
  exact ygl196_25 hB 1000000 _ _ _ _ _ cp1 (w32_w _) rfl
theorem ysl197_105 {B : Nat} (hB : B ≤ 512) {xs : Nat → Int32} {SL d : Nat} {r105 : Int → Int → Int → Int → xw_M → xP} (hr105 : ∀ x1 x2 x3 x4 m, w32 x2 = x2 → w32 x3 = x3 → w32 x4 = x4 → xS B xs SL (d + 0) 197 (5, none, [], 8) 0 105 [(0, xa 302), (1, xa x1), (2, xi x2), (3, xi x3), (4, xi x4)] [] m (r105 x1 x2 x3 x4 m)) : ∀ x1 x2 x3 x4 m, w32 x2 = x2 → w32 x3 = x3 → w32 x4 = x4 → xS B xs SL (d + 0) 197 (5, none, [], 8) 0 105 [(0, xa 302), (1, xa x1), (2, xi x2), (3, xi x3), (4, xi x4)] [] m (yl197_105 B r105 x1 x2 x3 x4 m) := by
  intro x1 x2 x3 x4 m c2 c3 c4
  unfold yl197_105
  refine xS_of (pc' := 111) (L' := [(0, xa 302), (1, xa x1), (2, xi x2), (3, xi x3), (4, xi x4)]) (st' := [xi (xR m 302 6), xi x4]) (m' := m) (fun ex ns r q => ?_) ?_
  · refine xw_iload rfl rfl ?_
    refine xw_aload_n rfl rfl rfl ?_
    refine xw_gfIc (v := (m 302 6)) (v' := (xR m 302 6)) rfl (xw_obd (by decide +kernel)) xk7_6 (qi := 6) rfl rfl rfl ?_
    exact q
  refine xS_if (fun h0 => ?_) (fun h0 => ?_)
  · refine xS_g (fun g1 => ?_)
    refine xS_g (fun g2 => ?_)
    refine xS_g (fun g3 => ?_)
    refine xS_g (fun g4 => ?_)
    refine xS_g (fun g5 => ?_)
    refine xS_g (fun g6 => ?_)
    refine xS_g (fun g7 => ?_)
    refine xS_g (fun g8 => ?_)
    refine xS_g (fun g9 => ?_)
    refine xS_g (fun g10 => ?_)
    refine xS_of (pc' := 105) (L' := [(0, xa 302), (1, xa x1), (2, xi x2), (3, xi x3), (4, xi (w32 (x4 + 1)))]) (st' := []) (m' := (xw_u m (304 + x4) x3 (xJ m (xw_rf (xw_rf x1 1) ((w32 ((x4 - (xR m 302 5)) - 1)) / 3)) x2))) (fun ex ns r q => ?_) ?_
    · refine xw_ic_geF rfl (w32_cg c4) (w32_cg (w32_xR _ _ _)) (Int.not_le.mpr h0) ?_
      refine xw_aload_n rfl rfl rfl ?_
      refine xw_gfR (n := 303) (e := 303) rfl (xw_obd (by decide +kernel)) (by decide +kernel) (by decide +kernel) rfl ?_
      refine xw_iload rfl rfl ?_
      refine xw_aald (t := 21) (n := 33) (q := 304 + 1 * (x4).toNat) (e := (304 + x4)) rfl hB (xw_obd (by decide +kernel)) (by decide) rfl g1 (show 309 + 1 * (x4 : Int).toNat = 304 + 1 * (x4 : Int).toNat + 5 from by omega) (by have := g1; omega) ?_
      refine xw_iload_n rfl rfl ?_
      refine xw_aload_n rfl rfl rfl ?_
      refine xw_gfV (qi := 1) rfl (xw_obd g2) xk8_1 rfl ?_
      refine xw_iload rfl rfl ?_
      refine xw_aload_n rfl rfl rfl ?_
      refine xw_gfIc (v := (m 302 5)) (v' := (xR m 302 5)) rfl (xw_obd (by decide +kernel)) xk7_5 (qi := 5) rfl rfl rfl ?_
      refine xw_isub rfl ?_
      refine xw_iconst rfl ?_
      refine xw_isub rfl ?_
      refine xw_iconst rfl ?_
      refine xw_cst (st' := [xi 3, xi (w32 ((x4 - (xR m 302 5)) - 1)), xa (xw_rf x1 1), xi x3, xa (304 + x4)]) (xw_sc rfl (xw_sc (xi_c rfl) rfl)) ?_
      refine xw_idiv (z := ((w32 ((x4 - (xR m 302 5)) - 1)) / 3)) rfl (xw_idivn ⟨(by decide), (w32_cg rfl).2⟩) (xw_idive ⟨g3, (w32_cg (w32_w _)).2⟩ ⟨(by decide), (w32_cg rfl).2⟩) ?_
      refine xw_aald (t := 21) (n := (xw_le B (xw_rf x1 1))) (q := xw_kd (xw_rf x1 1) ((w32 ((x4 - (xR m 302 5)) - 1)) / 3) - 5) (e := (xw_rf (xw_rf x1 1) ((w32 ((x4 - (xR m 302 5)) - 1)) / 3))) rfl hB (xw_obd g6) (by decide) rfl g4 (by have := g5; omega) (xw_rfn g5) ?_
      refine xw_iload_n rfl rfl ?_
      refine xw_laldc (n := (xw_le B (xw_rf (xw_rf x1 1) ((w32 ((x4 - (xR m 302 5)) - 1)) / 3)))) (v := (m (xw_rf (xw_rf x1 1) ((w32 ((x4 - (xR m 302 5)) - 1)) / 3)) x2)) (v' := (xJ m (xw_rf (xw_rf x1 1) ((w32 ((x4 - (xR m 302 5)) - 1)) / 3)) x2)) rfl hB (xw_obd g8) rfl g7 rfl rfl ?_
      refine xw_last (n := (xw_le B (304 + x4))) rfl hB (xw_obd g10) rfl g9 ?_
      refine xw_iincc (z := (w32 (x4 + 1))) (L' := [(4, xi (w32 (x4 + 1))), (0, xa 302), (1, xa x1), (2, xi x2), (3, xi x3)]) rfl rfl (by decide) rfl rfl ?_
      refine xw_goto rfl ?_
      refine xw_lo (L2 := [(0, xa 302), (1, xa x1), (2, xi x2), (3, xi x3), (4, xi (w32 (x4 + 1)))]) (List.forall_mem_cons.mpr ⟨rfl, List.forall_mem_cons.mpr ⟨rfl, List.forall_mem_cons.mpr ⟨rfl, List.forall_mem_cons.mpr ⟨rfl, List.forall_mem_cons.mpr ⟨rfl, fun _ h => absurd h List.not_mem_nil⟩⟩⟩⟩⟩) ?_
      exact q
    exact hr105 _ _ _ _ _ c2 c3 (w32_w _)
  · refine xS_of (pc' := 147) (L' := [(0, xa 302), (1, xa x1), (2, xi x2), (3, xi x3), (4, xi x4)]) (st' := []) (m' := m) (fun ex ns r q => ?_) ?_
    · refine xw_ic_geT rfl (w32_cg c4) (w32_cg (w32_xR _ _ _)) (Int.not_lt.mp h0) ?_
      exact q
    exact xS_ret (v := 0) rfl rfl rfl rfl
theorem ygl197_105 {B : Nat} (hB : B ≤ 512) {xs : Nat → Int32} {SL d : Nat} : ∀ n x1 x2 x3 x4 m, w32 x2 = x2 → w32 x3 = x3 → w32 x4 = x4 → xS B xs SL (d + 0) 197 (5, none, [], 8) 0 105 [(0, xa 302), (1, xa x1), (2, xi x2), (3, xi x3), (4, xi x4)] [] m (xl4 (yl197_105 B) n x1 x2 x3 x4 m) := by
  intro n
  induction n with
  | zero => intro x1 x2 x3 x4 m c2 c3 c4; exact xS_none
  | succ n ih => exact ysl197_105 hB ih
theorem ysl197_10 {B : Nat} (hB : B ≤ 512) {xs : Nat → Int32} {SL d : Nat} {r10 : Int → Int → Int → Int → xw_M → xP} (hr10 : ∀ x1 x2 x3 x4 m, w32 x2 = x2 → w32 x3 = x3 → w32 x4 = x4 → xS B xs SL (d + 0) 197 (5, none, [], 8) 0 10 [(0, xa 302), (1, xa x1), (2, xi x2), (3, xi x3), (4, xi x4)] [] m (r10 x1 x2 x3 x4 m)) : ∀ x1 x2 x3 x4 m, w32 x2 = x2 → w32 x3 = x3 → w32 x4 = x4 → xS B xs SL (d + 0) 197 (5, none, [], 8) 0 10 [(0, xa 302), (1, xa x1), (2, xi x2), (3, xi x3), (4, xi x4)] [] m (yl197_10 B r10 x1 x2 x3 x4 m) := by
  intro x1 x2 x3 x4 m c2 c3 c4
  unfold yl197_10
  refine xS_of (pc' := 19) (L' := [(0, xa 302), (1, xa x1), (2, xi x2), (3, xi x3), (4, xi x4)]) (st' := [xi (xR m 3 1), xi x4]) (m' := m) (fun ex ns r q => ?_) ?_
  · refine xw_iload rfl rfl ?_
    refine xw_aload_n rfl rfl rfl ?_
    refine xw_gfR (n := 3) (e := 3) rfl (xw_obd (by decide +kernel)) (by decide +kernel) (by decide +kernel) rfl ?_
    refine xw_gfIc (v := (m 3 1)) (v' := (xR m 3 1)) rfl (xw_obd (by decide +kernel)) xk2_1 (qi := 1) rfl rfl rfl ?_
    exact q
  refine xS_if (fun h0 => ?_) (fun h0 => ?_)
  · refine xS_g (fun g1 => ?_)
    refine xS_of (pc' := 30) (L' := [(0, xa 302), (1, xa x1), (2, xi x2), (3, xi x3), (4, xi x4)]) (st' := [xi (-1), xi (xR m 372 x4)]) (m' := m) (fun ex ns r q => ?_) ?_
    · refine xw_ic_geF rfl (w32_cg c4) (w32_cg (w32_xR _ _ _)) (Int.not_le.mpr h0) ?_
      refine xw_aload_n rfl rfl rfl ?_
      refine xw_gfR (n := 372) (e := 372) rfl (xw_obd (by decide +kernel)) (by decide +kernel) (by decide +kernel) rfl ?_
      refine xw_iload rfl rfl ?_
      refine xw_ialdc (n := 8) (v := (m 372 x4)) (v' := (xR m 372 x4)) rfl hB (xw_obd (by decide +kernel)) rfl g1 rfl rfl ?_
      refine xw_iconst rfl ?_
      exact q
    refine xS_if (fun h2 => ?_) (fun h2 => ?_)
    · refine xS_of (pc' := 10) (L' := [(0, xa 302), (1, xa x1), (2, xi x2), (3, xi x3), (4, xi (w32 (x4 + 1)))]) (st' := []) (m' := m) (fun ex ns r q => ?_) ?_
      · refine xw_ic_eqT rfl (w32_cg (w32_xR _ _ _)) (w32_cg rfl) h2 ?_
        refine xw_iincc (z := (w32 (x4 + 1))) (L' := [(4, xi (w32 (x4 + 1))), (0, xa 302), (1, xa x1), (2, xi x2), (3, xi x3)]) rfl rfl (by decide) rfl rfl ?_
        refine xw_goto rfl ?_
        refine xw_lo (L2 := [(0, xa 302), (1, xa x1), (2, xi x2), (3, xi x3), (4, xi (w32 (x4 + 1)))]) (List.forall_mem_cons.mpr ⟨rfl, List.forall_mem_cons.mpr ⟨rfl, List.forall_mem_cons.mpr ⟨rfl, List.forall_mem_cons.mpr ⟨rfl, List.forall_mem_cons.mpr ⟨rfl, fun _ h => absurd h List.not_mem_nil⟩⟩⟩⟩⟩) ?_
        exact q
      exact hr10 _ _ _ _ _ c2 c3 (w32_w _)
    · refine xS_g (fun g3 => ?_)
      refine xS_g (fun g4 => ?_)
      refine xS_g (fun g5 => ?_)
      refine xS_g (fun g6 => ?_)
      refine xS_g (fun g7 => ?_)
      refine xS_g (fun g8 => ?_)
      refine xS_g (fun g9 => ?_)
      refine xS_g (fun g10 => ?_)
      refine xS_g (fun g11 => ?_)
      refine xS_g (fun g12 => ?_)
      refine xS_g (fun g13 => ?_)
      refine xS_g (fun g14 => ?_)
      refine xS_g (fun g15 => ?_)
      refine xS_g (fun g16 => ?_)
      refine xS_g (fun g17 => ?_)
      refine xS_of (pc' := 10) (L' := [(0, xa 302), (1, xa x1), (2, xi x2), (3, xi x3), (4, xi (w32 (x4 + 1)))]) (st' := []) (m' := (xw_u m (304 + (xR m 372 x4)) x3 (xR m (xw_rf (xw_rf (15 + (26 * x4)) 4) (xR m 371 x4)) (xR m (xw_rf (xw_rf x1 0) x4) x2)))) (fun ex ns r q => ?_) ?_
      · refine xw_ic_eqF rfl (w32_cg (w32_xR _ _ _)) (w32_cg rfl) h2 ?_
        refine xw_aload_n rfl rfl rfl ?_
        refine xw_gfR (n := 303) (e := 303) rfl (xw_obd (by decide +kernel)) (by decide +kernel) (by decide +kernel) rfl ?_
        refine xw_aload_n rfl rfl rfl ?_
        refine xw_gfR (n := 372) (e := 372) rfl (xw_obd (by decide +kernel)) (by decide +kernel) (by decide +kernel) rfl ?_
        refine xw_iload rfl rfl ?_
        refine xw_ialdc (n := 8) (v := (m 372 x4)) (v' := (xR m 372 x4)) rfl hB (xw_obd (by decide +kernel)) rfl g1 rfl rfl ?_
        refine xw_aald (t := 21) (n := 33) (q := 304 + 1 * ((xR m 372 x4)).toNat) (e := (304 + (xR m 372 x4))) rfl hB (xw_obd (by decide +kernel)) (by decide) rfl g3 (show 309 + 1 * ((xR m 372 x4) : Int).toNat = 304 + 1 * ((xR m 372 x4) : Int).toNat + 5 from by omega) (by have := g3; omega) ?_
        refine xw_iload_n rfl rfl ?_
        refine xw_aload_n rfl rfl rfl ?_
        refine xw_gfR (n := 3) (e := 3) rfl (xw_obd (by decide +kernel)) (by decide +kernel) (by decide +kernel) rfl ?_
        refine xw_gfR (n := 4) (e := 4) rfl (xw_obd (by decide +kernel)) (by decide +kernel) (by decide +kernel) rfl ?_
        refine xw_iload rfl rfl ?_
        refine xw_aald (t := 23) (n := 8) (q := 15 + 26 * (x4).toNat) (e := (15 + (26 * x4))) rfl hB (xw_obd (by decide +kernel)) (by decide) rfl g1 (show 20 + 26 * (x4 : Int).toNat = 15 + 26 * (x4 : Int).toNat + 5 from by omega) (by have := g1; omega) ?_
        refine xw_gfV (qi := 4) rfl (xw_obd g4) xk3_4 rfl ?_
        refine xw_aload_n rfl rfl rfl ?_
        refine xw_gfR (n := 371) (e := 371) rfl (xw_obd (by decide +kernel)) (by decide +kernel) (by decide +kernel) rfl ?_
        refine xw_iload rfl rfl ?_
        refine xw_ialdc (n := 8) (v := (m 371 x4)) (v' := (xR m 371 x4)) rfl hB (xw_obd (by decide +kernel)) rfl g1 rfl rfl ?_
        refine xw_aald (t := 20) (n := (xw_le B (xw_rf (15 + (26 * x4)) 4))) (q := xw_kd (xw_rf (15 + (26 * x4)) 4) (xR m 371 x4) - 5) (e := (xw_rf (xw_rf (15 + (26 * x4)) 4) (xR m 371 x4))) rfl hB (xw_obd g7) (by decide) rfl g5 (by have := g6; omega) (xw_rfn g6) ?_
        refine xw_aload_n rfl rfl rfl ?_
        refine xw_gfV (qi := 0) rfl (xw_obd g8) xk8_0 rfl ?_
        refine xw_iload rfl rfl ?_
        refine xw_aald (t := 20) (n := (xw_le B (xw_rf x1 0))) (q := xw_kd (xw_rf x1 0) x4 - 5) (e := (xw_rf (xw_rf x1 0) x4)) rfl hB (xw_obd g11) (by decide) rfl g9 (by have := g10; omega) (xw_rfn g10) ?_
        refine xw_iload_n rfl rfl ?_
        refine xw_ialdc (n := (xw_le B (xw_rf (xw_rf x1 0) x4))) (v := (m (xw_rf (xw_rf x1 0) x4) x2)) (v' := (xR m (xw_rf (xw_rf x1 0) x4) x2)) rfl hB (xw_obd g13) rfl g12 rfl rfl ?_
        refine xw_ialdc (n := (xw_le B (xw_rf (xw_rf (15 + (26 * x4)) 4) (xR m 371 x4)))) (v := (m (xw_rf (xw_rf (15 + (26 * x4)) 4) (xR m 371 x4)) (xR m (xw_rf (xw_rf x1 0) x4) x2))) (v' := (xR m (xw_rf (xw_rf (15 + (26 * x4)) 4) (xR m 371 x4)) (xR m (xw_rf (xw_rf x1 0) x4) x2))) rfl hB (xw_obd g15) rfl g14 rfl rfl ?_
        refine xw_i2l rfl (w32_cg (w32_xR _ _ _)) ?_
        refine xw_last (n := (xw_le B (304 + (xR m 372 x4)))) rfl hB (xw_obd g17) rfl g16 ?_
        refine xw_iincc (z := (w32 (x4 + 1))) (L' := [(4, xi (w32 (x4 + 1))), (0, xa 302), (1, xa x1), (2, xi x2), (3, xi x3)]) rfl rfl (by decide) rfl rfl ?_
        refine xw_goto rfl ?_
        refine xw_lo (L2 := [(0, xa 302), (1, xa x1), (2, xi x2), (3, xi x3), (4, xi (w32 (x4 + 1)))]) (List.forall_mem_cons.mpr ⟨rfl, List.forall_mem_cons.mpr ⟨rfl, List.forall_mem_cons.mpr ⟨rfl, List.forall_mem_cons.mpr ⟨rfl, List.forall_mem_cons.mpr ⟨rfl, fun _ h => absurd h List.not_mem_nil⟩⟩⟩⟩⟩) ?_
        exact q
      exact hr10 _ _ _ _ _ c2 c3 (w32_w _)
  · refine xS_g (fun g1 => ?_)
    refine xS_g (fun g2 => ?_)
    refine xS_g (fun g3 => ?_)
    refine xS_of (pc' := 105) (L' := [(0, xa 302), (1, xa x1), (2, xi x2), (3, xi x3), (4, xi (w32 ((xR m 302 5) + 1)))]) (st' := []) (m' := (xw_u m (304 + (xR m 302 5)) x3 1)) (fun ex ns r q => ?_) ?_
    · refine xw_ic_geT rfl (w32_cg c4) (w32_cg (w32_xR _ _ _)) (Int.not_lt.mp h0) ?_
      refine xw_aload_n rfl rfl rfl ?_
      refine xw_gfR (n := 303) (e := 303) rfl (xw_obd (by decide +kernel)) (by decide +kernel) (by decide +kernel) rfl ?_
      refine xw_aload_n rfl rfl rfl ?_
      refine xw_gfIc (v := (m 302 5)) (v' := (xR m 302 5)) rfl (xw_obd (by decide +kernel)) xk7_5 (qi := 5) rfl rfl rfl ?_
      refine xw_aald (t := 21) (n := 33) (q := 304 + 1 * ((xR m 302 5)).toNat) (e := (304 + (xR m 302 5))) rfl hB (xw_obd (by decide +kernel)) (by decide) rfl g1 (show 309 + 1 * ((xR m 302 5) : Int).toNat = 304 + 1 * ((xR m 302 5) : Int).toNat + 5 from by omega) (by have := g1; omega) ?_
      refine xw_iload_n rfl rfl ?_
      refine xw_lconst (e := 1) rfl rfl ?_
      refine xw_last (n := (xw_le B (304 + (xR m 302 5)))) rfl hB (xw_obd g3) rfl g2 ?_
      refine xw_aload_n rfl rfl rfl ?_
      refine xw_gfIc (v := (m 302 5)) (v' := (xR m 302 5)) rfl (xw_obd (by decide +kernel)) xk7_5 (qi := 5) rfl (xw_un (xw_obne (t := 17) (t' := 7) (xw_obd g3) (xw_obd (by decide +kernel)) (by decide)) rfl) rfl ?_
      refine xw_iconst rfl ?_
      refine xw_iadd rfl ?_
      refine xw_cst (st' := [xi (w32 ((xR m 302 5) + 1))]) (xw_sc (xi_c rfl) rfl) ?_
      refine xw_istore (L' := [(4, xi (w32 ((xR m 302 5) + 1))), (0, xa 302), (1, xa x1), (2, xi x2), (3, xi x3)]) rfl (by decide) rfl ?_
      refine xw_lo (L2 := [(0, xa 302), (1, xa x1), (2, xi x2), (3, xi x3), (4, xi (w32 ((xR m 302 5) + 1)))]) (List.forall_mem_cons.mpr ⟨rfl, List.forall_mem_cons.mpr ⟨rfl, List.forall_mem_cons.mpr ⟨rfl, List.forall_mem_cons.mpr ⟨rfl, List.forall_mem_cons.mpr ⟨rfl, fun _ h => absurd h List.not_mem_nil⟩⟩⟩⟩⟩) ?_
      exact q
    exact ygl197_105 hB 1000000 _ _ _ _ _ c2 c3 (w32_w _)
theorem ygl197_10 {B : Nat} (hB : B ≤ 512) {xs : Nat → Int32} {SL d : Nat} : ∀ n x1 x2 x3 x4 m, w32 x2 = x2 → w32 x3 = x3 → w32 x4 = x4 → xS B xs SL (d + 0) 197 (5, none, [], 8) 0 10 [(0, xa 302), (1, xa x1), (2, xi x2), (3, xi x3), (4, xi x4)] [] m (xl4 (yl197_10 B) n x1 x2 x3 x4 m) := by
  intro n
  induction n with
  | zero => intro x1 x2 x3 x4 m c2 c3 c4; exact xS_none
  | succ n ih => exact ysl197_10 hB ih
theorem ygf197 {B : Nat} (hB : B ≤ 512) {xs : Nat → Int32} {SL d : Nat} : ∀ p0 p1 m, w32 p1 = p1 → xS B xs SL (d + 0) 197 (5, none, [], 8) 0 0 [(0, xa 302), (1, xa p0), (2, xi p1)] [] m (yf197 B p0 p1 m) := by
  intro p0 p1 m cp1
  unfold yf197
  refine xS_of (pc' := 10) (L' := [(0, xa 302), (1, xa p0), (2, xi p1), (3, xi (w32 ((xR m 302 8) - 1))), (4, xi 0)]) (st' := []) (m' := m) (fun ex ns r q => ?_) ?_
  · refine xw_aload_n rfl rfl rfl ?_
    refine xw_gfIc (v := (m 302 8)) (v' := (xR m 302 8)) rfl (xw_obd (by decide +kernel)) xk7_8 (qi := 8) rfl rfl rfl ?_
    refine xw_iconst rfl ?_
    refine xw_isub rfl ?_
    refine xw_cst (st' := [xi (w32 ((xR m 302 8) - 1))]) (xw_sc (xi_c rfl) rfl) ?_
    refine xw_istore_n (L' := [(3, xi (w32 ((xR m 302 8) - 1))), (0, xa 302), (1, xa p0), (2, xi p1)]) rfl (by decide) rfl ?_
    refine xw_iconst rfl ?_
    refine xw_istore (L' := [(4, xi 0), (3, xi (w32 ((xR m 302 8) - 1))), (0, xa 302), (1, xa p0), (2, xi p1)]) rfl (by decide) rfl ?_
    refine xw_lo (L2 := [(0, xa 302), (1, xa p0), (2, xi p1), (3, xi (w32 ((xR m 302 8) - 1))), (4, xi 0)]) (List.forall_mem_cons.mpr ⟨rfl, List.forall_mem_cons.mpr ⟨rfl, List.forall_mem_cons.mpr ⟨rfl, List.forall_mem_cons.mpr ⟨rfl, List.forall_mem_cons.mpr ⟨rfl, fun _ h => absurd h List.not_mem_nil⟩⟩⟩⟩⟩) ?_
    exact q
  exact ygl197_10 hB 1000000 _ _ _ _ _ cp1 (w32_w _) rfl
theorem ygk194_56 {B : Nat} (hB : B ≤ 512) {xs : Nat → Int32} {SL d : Nat} {r7 : Int → Int → Int → xw_M → xP} (hr7 : ∀ x1 x2 x3 m, w32 x2 = x2 → w32 x3 = x3 → xS B xs SL (d + 1) 194 (5, (some .int), [], 8) 1 7 [(0, xa 302), (1, xa x1), (2, xi x2), (3, xi x3)] [] m (r7 x1 x2 x3 m)) : ∀ x1 x2 x3 x4 m, w32 x2 = x2 → w32 x3 = x3 → w32 x4 = x4 → xS B xs SL (d + 1) 194 (5, (some .int), [], 8) 1 56 [(0, xa 302), (1, xa x1), (2, xi x2), (3, xi x3), (4, xi x4)] [] m (yk194_56 B r7 x1 x2 x3 x4 m) := by
  intro x1 x2 x3 x4 m c2 c3 c4
  unfold yk194_56
  refine xS_of (pc' := 63) (L' := [(0, xa 302), (1, xa x1), (2, xi x2), (3, xi x3), (4, xi x4)]) (st' := [xi 1024, xi (xR m 302 8)]) (m' := m) (fun ex ns r q => ?_) ?_
  · refine xw_aload_n rfl rfl rfl ?_
    refine xw_gfIc (v := (m 302 8)) (v' := (xR m 302 8)) rfl (xw_obd (by decide +kernel)) xk7_8 (qi := 8) rfl rfl rfl ?_
    refine xw_sipush (e := 1024) rfl (by decide +kernel) ?_
    exact q
  refine xS_if (fun h0 => ?_) (fun h0 => ?_)
  · refine xS_of (pc' := 80) (L' := [(0, xa 302), (1, xa x1), (2, xi x2), (3, xi x3)]) (st' := [xi x4, xa x1, xa 302]) (m' := (xw_u m 302 8 ((xR m 302 8) + 1))) (fun ex ns r q => ?_) ?_
    · refine xw_ic_geF rfl (w32_cg (w32_xR _ _ _)) (w32_cg rfl) (Int.not_le.mpr h0) ?_
      refine xw_aload_n rfl rfl rfl ?_
      refine xw_dup rfl rfl ?_
      refine xw_gfIc (v := (m 302 8)) (v' := (xR m 302 8)) rfl (xw_obd (by decide +kernel)) xk7_8 (qi := 8) rfl rfl rfl ?_
      refine xw_iconst rfl ?_
      refine xw_iadd rfl ?_
      refine xw_pfI rfl (xw_obd (by decide +kernel)) xk7_8 (qi := 8) rfl (xw_okI rfl) ?_
      refine xw_aload_n rfl rfl rfl ?_
      refine xw_aload_n rfl rfl rfl ?_
      refine xw_iload rfl rfl ?_
      refine xw_lo (L2 := [(0, xa 302), (1, xa x1), (2, xi x2), (3, xi x3)]) (List.forall_mem_cons.mpr ⟨rfl, List.forall_mem_cons.mpr ⟨rfl, List.forall_mem_cons.mpr ⟨rfl, List.forall_mem_cons.mpr ⟨rfl, fun _ h => absurd h List.not_mem_nil⟩⟩⟩⟩) ?_
      exact q
    refine xS_call (q := 197) (n := 3) (kq := 0) (as := [xa 302, xa x1, xi x4]) (st1 := []) rfl rfl rfl rfl rfl rfl rfl rfl rfl rfl (fun _ => xw_rcv1 (t := 7) (xw_obd (by decide +kernel)) rfl) rfl (List.forall_mem_cons.mpr ⟨rfl, List.forall_mem_cons.mpr ⟨rfl, List.forall_mem_cons.mpr ⟨rfl, fun _ h => absurd h List.not_mem_nil⟩⟩⟩) (ygf197 hB _ _ _ c4) (fun v1 m1 cv1 => ?_)
    refine xS_of (pc' := 7) (L' := [(0, xa 302), (1, xa x1), (2, xi x2), (3, xi (w32 (x3 + 1)))]) (st' := []) (m' := m1) (fun ex ns r q => ?_) ?_
    · refine xw_goto rfl ?_
      refine xw_iincc (z := (w32 (x3 + 1))) (L' := [(3, xi (w32 (x3 + 1))), (0, xa 302), (1, xa x1), (2, xi x2)]) rfl rfl (by decide) rfl rfl ?_
      refine xw_goto rfl ?_
      refine xw_lo (L2 := [(0, xa 302), (1, xa x1), (2, xi x2), (3, xi (w32 (x3 + 1)))]) (List.forall_mem_cons.mpr ⟨rfl, List.forall_mem_cons.mpr ⟨rfl, List.forall_mem_cons.mpr ⟨rfl, List.forall_mem_cons.mpr ⟨rfl, fun _ h => absurd h List.not_mem_nil⟩⟩⟩⟩) ?_
      exact q
    exact hr7 _ _ _ _ c2 (w32_w _)
  · refine xS_of (pc' := 87) (L' := [(0, xa 302), (1, xa x1), (2, xi x2), (3, xi x3), (4, xi x4)]) (st' := [xi x3]) (m' := m) (fun ex ns r q => ?_) ?_
    · refine xw_ic_geT rfl (w32_cg (w32_xR _ _ _)) (w32_cg rfl) (Int.not_lt.mp h0) ?_
      refine xw_iload_n rfl rfl ?_
      exact q
    exact xS_ret (v := x3) rfl rfl xw_rtI c3
theorem ysl194_7 {B : Nat} (hB : B ≤ 512) {xs : Nat → Int32} {SL d : Nat} {r7 : Int → Int → Int → xw_M → xP} (hr7 : ∀ x1 x2 x3 m, w32 x2 = x2 → w32 x3 = x3 → xS B xs SL (d + 1) 194 (5, (some .int), [], 8) 1 7 [(0, xa 302), (1, xa x1), (2, xi x2), (3, xi x3)] [] m (r7 x1 x2 x3 m)) : ∀ x1 x2 x3 m, w32 x2 = x2 → w32 x3 = x3 → xS B xs SL (d + 1) 194 (5, (some .int), [], 8) 1 7 [(0, xa 302), (1, xa x1), (2, xi x2), (3, xi x3)] [] m (yl194_7 B r7 x1 x2 x3 m) := by
  intro x1 x2 x3 m c2 c3
  unfold yl194_7
  refine xS_g (fun g0 => ?_)
  refine xS_of (pc' := 12) (L' := [(0, xa 302), (1, xa x1), (2, xi x2), (3, xi x3)]) (st' := [xi (xR m x1 5), xi x3]) (m' := m) (fun ex ns r q => ?_) ?_
  · refine xw_iload_n rfl rfl ?_
    refine xw_aload_n rfl rfl rfl ?_
    refine xw_gfIc (v := (m x1 5)) (v' := (xR m x1 5)) rfl (xw_obd g0) xk8_5 (qi := 5) rfl rfl rfl ?_
    exact q
  refine xS_if (fun h1 => ?_) (fun h1 => ?_)
  · refine xS_g (fun g2 => ?_)
    refine xS_g (fun g3 => ?_)
    refine xS_of (pc' := 25) (L' := [(4, xi (xR m (xw_rf x1 2) x3)), (0, xa 302), (1, xa x1), (2, xi x2), (3, xi x3)]) (st' := [xi x2, xi x3]) (m' := m) (fun ex ns r q => ?_) ?_
    · refine xw_ic_geF rfl (w32_cg c3) (w32_cg (w32_xR _ _ _)) (Int.not_le.mpr h1) ?_
      refine xw_aload_n rfl rfl rfl ?_
      refine xw_gfV (qi := 2) rfl (xw_obd g0) xk8_2 rfl ?_
      refine xw_iload_n rfl rfl ?_
      refine xw_ialdc (n := (xw_le B (xw_rf x1 2))) (v := (m (xw_rf x1 2) x3)) (v' := (xR m (xw_rf x1 2) x3)) rfl hB (xw_obd g3) rfl g2 rfl rfl ?_
      refine xw_istore (L' := [(4, xi (xR m (xw_rf x1 2) x3)), (0, xa 302), (1, xa x1), (2, xi x2), (3, xi x3)]) rfl (by decide) rfl ?_
      refine xw_iload_n rfl rfl ?_
      refine xw_iload_n rfl rfl ?_
      exact q
    refine xS_if (fun h4 => ?_) (fun h4 => ?_)
    · refine xS_g (fun g5 => ?_)
      refine xS_of (pc' := 40) (L' := [(0, xa 302), (1, xa x1), (2, xi x2), (3, xi x3), (4, xi (xR m (xw_rf x1 2) x3))]) (st' := [xi (xR m (xw_rf x1 2) (x3 - 1)), xi (xR m (xw_rf x1 2) x3), xa x1, xa 302]) (m' := m) (fun ex ns r q => ?_) ?_
      · refine xw_ic_leF rfl (w32_cg c3) (w32_cg c2) (Int.not_le.mpr h4) ?_
        refine xw_aload_n rfl rfl rfl ?_
        refine xw_aload_n rfl rfl rfl ?_
        refine xw_iload rfl rfl ?_
        refine xw_aload_n rfl rfl rfl ?_
        refine xw_gfV (qi := 2) rfl (xw_obd g0) xk8_2 rfl ?_
        refine xw_iload_n rfl rfl ?_
        refine xw_iconst rfl ?_
        refine xw_isub rfl ?_
        refine xw_ialdc (n := (xw_le B (xw_rf x1 2))) (v := (m (xw_rf x1 2) (x3 - 1))) (v' := (xR m (xw_rf x1 2) (x3 - 1))) rfl hB (xw_obd g3) rfl g5 rfl rfl ?_
        refine xw_lo (L2 := [(0, xa 302), (1, xa x1), (2, xi x2), (3, xi x3), (4, xi (xR m (xw_rf x1 2) x3))]) (List.forall_mem_cons.mpr ⟨rfl, List.forall_mem_cons.mpr ⟨rfl, List.forall_mem_cons.mpr ⟨rfl, List.forall_mem_cons.mpr ⟨rfl, List.forall_mem_cons.mpr ⟨rfl, fun _ h => absurd h List.not_mem_nil⟩⟩⟩⟩⟩) ?_
        exact q
      refine xS_call (q := 195) (n := 4) (kq := 4) (as := [xa 302, xa x1, xi (xR m (xw_rf x1 2) x3), xi (xR m (xw_rf x1 2) (x3 - 1))]) (st1 := []) rfl rfl rfl rfl rfl rfl rfl rfl rfl rfl (fun _ => xw_rcv1 (t := 7) (xw_obd (by decide +kernel)) rfl) rfl (List.forall_mem_cons.mpr ⟨rfl, List.forall_mem_cons.mpr ⟨rfl, List.forall_mem_cons.mpr ⟨rfl, List.forall_mem_cons.mpr ⟨rfl, fun _ h => absurd h List.not_mem_nil⟩⟩⟩⟩) (ygf195 hB _ _ _ _ (w32_xR _ _ _) (w32_xR _ _ _)) (fun v1 m1 cv1 => ?_)
      refine xS_if (fun h6 => ?_) (fun h6 => ?_)
      · refine xS_of (pc' := 56) (L' := [(0, xa 302), (1, xa x1), (2, xi x2), (3, xi x3), (4, xi (xR m (xw_rf x1 2) x3))]) (st' := []) (m' := m1) (fun ex ns r q => ?_) ?_
        · refine xw_if_eqT rfl (w32_cg (w32_of (xw_zr cv1))) h6 ?_
          refine xw_lo (L2 := [(0, xa 302), (1, xa x1), (2, xi x2), (3, xi x3), (4, xi (xR m (xw_rf x1 2) x3))]) (List.forall_mem_cons.mpr ⟨rfl, List.forall_mem_cons.mpr ⟨rfl, List.forall_mem_cons.mpr ⟨rfl, List.forall_mem_cons.mpr ⟨rfl, List.forall_mem_cons.mpr ⟨rfl, fun _ h => absurd h List.not_mem_nil⟩⟩⟩⟩⟩) ?_
          exact q
        exact ygk194_56 hB hr7 _ _ _ _ _ c2 c3 (w32_xR _ _ _)
      · refine xS_of (pc' := 50) (L' := [(0, xa 302), (1, xa x1), (2, xi x2), (3, xi x3)]) (st' := [xi (xR m (xw_rf x1 2) x3), xa x1, xa 302]) (m' := m1) (fun ex ns r q => ?_) ?_
        · refine xw_if_eqF rfl (w32_cg (w32_of (xw_zr cv1))) h6 ?_
          refine xw_aload_n rfl rfl rfl ?_
          refine xw_aload_n rfl rfl rfl ?_
          refine xw_iload rfl rfl ?_
          refine xw_lo (L2 := [(0, xa 302), (1, xa x1), (2, xi x2), (3, xi x3)]) (List.forall_mem_cons.mpr ⟨rfl, List.forall_mem_cons.mpr ⟨rfl, List.forall_mem_cons.mpr ⟨rfl, List.forall_mem_cons.mpr ⟨rfl, fun _ h => absurd h List.not_mem_nil⟩⟩⟩⟩) ?_
          exact q
        refine xS_call (q := 196) (n := 3) (kq := 0) (as := [xa 302, xa x1, xi (xR m (xw_rf x1 2) x3)]) (st1 := []) rfl rfl rfl rfl rfl rfl rfl rfl rfl rfl (fun _ => xw_rcv1 (t := 7) (xw_obd (by decide +kernel)) rfl) rfl (List.forall_mem_cons.mpr ⟨rfl, List.forall_mem_cons.mpr ⟨rfl, List.forall_mem_cons.mpr ⟨rfl, fun _ h => absurd h List.not_mem_nil⟩⟩⟩) (ygf196 hB _ _ _ (w32_xR _ _ _)) (fun v2 m2 cv2 => ?_)
        refine xS_of (pc' := 7) (L' := [(0, xa 302), (1, xa x1), (2, xi x2), (3, xi (w32 (x3 + 1)))]) (st' := []) (m' := m2) (fun ex ns r q => ?_) ?_
        · refine xw_goto rfl ?_
          refine xw_iincc (z := (w32 (x3 + 1))) (L' := [(3, xi (w32 (x3 + 1))), (0, xa 302), (1, xa x1), (2, xi x2)]) rfl rfl (by decide) rfl rfl ?_
          refine xw_goto rfl ?_
          refine xw_lo (L2 := [(0, xa 302), (1, xa x1), (2, xi x2), (3, xi (w32 (x3 + 1)))]) (List.forall_mem_cons.mpr ⟨rfl, List.forall_mem_cons.mpr ⟨rfl, List.forall_mem_cons.mpr ⟨rfl, List.forall_mem_cons.mpr ⟨rfl, fun _ h => absurd h List.not_mem_nil⟩⟩⟩⟩) ?_
          exact q
        exact hr7 _ _ _ _ c2 (w32_w _)
    · refine xS_of (pc' := 56) (L' := [(0, xa 302), (1, xa x1), (2, xi x2), (3, xi x3), (4, xi (xR m (xw_rf x1 2) x3))]) (st' := []) (m' := m) (fun ex ns r q => ?_) ?_
      · refine xw_ic_leT rfl (w32_cg c3) (w32_cg c2) (Int.not_lt.mp h4) ?_
        refine xw_lo (L2 := [(0, xa 302), (1, xa x1), (2, xi x2), (3, xi x3), (4, xi (xR m (xw_rf x1 2) x3))]) (List.forall_mem_cons.mpr ⟨rfl, List.forall_mem_cons.mpr ⟨rfl, List.forall_mem_cons.mpr ⟨rfl, List.forall_mem_cons.mpr ⟨rfl, List.forall_mem_cons.mpr ⟨rfl, fun _ h => absurd h List.not_mem_nil⟩⟩⟩⟩⟩) ?_
        exact q
      exact ygk194_56 hB hr7 _ _ _ _ _ c2 c3 (w32_xR _ _ _)
  · refine xS_of (pc' := 98) (L' := [(0, xa 302), (1, xa x1), (2, xi x2), (3, xi x3)]) (st' := [xi (xR m x1 5)]) (m' := m) (fun ex ns r q => ?_) ?_
    · refine xw_ic_geT rfl (w32_cg c3) (w32_cg (w32_xR _ _ _)) (Int.not_lt.mp h1) ?_
      refine xw_aload_n rfl rfl rfl ?_
      refine xw_gfIc (v := (m x1 5)) (v' := (xR m x1 5)) rfl (xw_obd g0) xk8_5 (qi := 5) rfl rfl rfl ?_
      exact q
    exact xS_ret (v := (xR m x1 5)) rfl rfl xw_rtI (w32_xR _ _ _)
theorem ygl194_7 {B : Nat} (hB : B ≤ 512) {xs : Nat → Int32} {SL d : Nat} : ∀ n x1 x2 x3 m, w32 x2 = x2 → w32 x3 = x3 → xS B xs SL (d + 1) 194 (5, (some .int), [], 8) 1 7 [(0, xa 302), (1, xa x1), (2, xi x2), (3, xi x3)] [] m (xl3 (yl194_7 B) n x1 x2 x3 m) := by
  intro n
  induction n with
  | zero => intro x1 x2 x3 m c2 c3; exact xS_none
  | succ n ih => exact ysl194_7 hB ih
theorem ygf194 {B : Nat} (hB : B ≤ 512) {xs : Nat → Int32} {SL d : Nat} : ∀ p0 p1 m, w32 p1 = p1 → xS B xs SL (d + 1) 194 (5, (some .int), [], 8) 1 0 [(0, xa 302), (1, xa p0), (2, xi p1)] [] m (yf194 B p0 p1 m) := by
  intro p0 p1 m cp1
  unfold yf194
  refine xS_of (pc' := 7) (L' := [(0, xa 302), (1, xa p0), (2, xi p1), (3, xi p1)]) (st' := []) (m' := (xw_u m 302 8 0)) (fun ex ns r q => ?_) ?_
  · refine xw_aload_n rfl rfl rfl ?_
    refine xw_iconst rfl ?_
    refine xw_pfI rfl (xw_obd (by decide +kernel)) xk7_8 (qi := 8) rfl (xw_okI rfl) ?_
    refine xw_iload_n rfl rfl ?_
    refine xw_istore_n (L' := [(3, xi p1), (0, xa 302), (1, xa p0), (2, xi p1)]) rfl (by decide) rfl ?_
    refine xw_lo (L2 := [(0, xa 302), (1, xa p0), (2, xi p1), (3, xi p1)]) (List.forall_mem_cons.mpr ⟨rfl, List.forall_mem_cons.mpr ⟨rfl, List.forall_mem_cons.mpr ⟨rfl, List.forall_mem_cons.mpr ⟨rfl, fun _ h => absurd h List.not_mem_nil⟩⟩⟩⟩) ?_
    exact q
  exact ygl194_7 hB 1000000 _ _ _ _ cp1 cp1
theorem ygf198 {B : Nat} (hB : B ≤ 512) {xs : Nat → Int32} {SL d : Nat} : ∀ t p0 p1 p2 m, w32 p0 = p0 → w64 p1 = p1 → w32 p2 = p2 → xS B xs SL (d + 1) 198 (6, none, [], 12) 0 0 [(0, xa t), (1, xi p0), (2, xj p1), (4, xi p2)] [] m (yf198 B t p0 p1 p2 m) := by
  intro t p0 p1 p2 m cp0 cp1 cp2
  unfold yf198
  refine xS_g (fun g0 => ?_)
  refine xS_of (pc' := 15) (L' := [(0, xa t), (5, xi (xR m t 2))]) (st' := [xi p2, xj p1, xa t]) (m' := (xw_u m t 2 p0)) (fun ex ns r q => ?_) ?_
  · refine xw_aload_n rfl rfl rfl ?_
    refine xw_gfIc (v := (m t 2)) (v' := (xR m t 2)) rfl (xw_obd g0) xk11_2 (qi := 2) rfl rfl rfl ?_
    refine xw_istore (L' := [(5, xi (xR m t 2)), (0, xa t), (1, xi p0), (2, xj p1), (4, xi p2)]) rfl (by decide) rfl ?_
    refine xw_aload_n rfl rfl rfl ?_
    refine xw_iload_n rfl rfl ?_
    refine xw_pfI rfl (xw_obd g0) xk11_2 (qi := 2) rfl (xw_okI rfl) ?_
    refine xw_aload_n rfl rfl rfl ?_
    refine xw_lload_n rfl rfl ?_
    refine xw_iload rfl rfl ?_
    refine xw_lo (L2 := [(0, xa t), (5, xi (xR m t 2))]) (List.forall_mem_cons.mpr ⟨rfl, List.forall_mem_cons.mpr ⟨rfl, fun _ h => absurd h List.not_mem_nil⟩⟩) ?_
    exact q
  refine xS_call (q := 152) (n := 3) (kq := 0) (as := [xa t, xj p1, xi p2]) (st1 := []) rfl rfl rfl rfl rfl rfl rfl rfl rfl rfl (fun _ => xw_rcv1 (t := 11) (xw_obd g0) rfl) rfl (List.forall_mem_cons.mpr ⟨rfl, List.forall_mem_cons.mpr ⟨rfl, List.forall_mem_cons.mpr ⟨rfl, fun _ h => absurd h List.not_mem_nil⟩⟩⟩) (ygf152 hB _ _ _ _ cp1 cp2) (fun v1 m1 cv1 => ?_)
  refine xS_of (pc' := 24) (L' := [(0, xa t), (5, xi (xR m t 2))]) (st' := []) (m' := (xw_u m1 t 2 (xR m t 2))) (fun ex ns r q => ?_) ?_
  · refine xw_aload_n rfl rfl rfl ?_
    refine xw_iload rfl rfl ?_
    refine xw_pfI rfl (xw_obd g0) xk11_2 (qi := 2) rfl (xw_okI rfl) ?_
    exact q
  exact xS_ret (v := 0) rfl rfl rfl rfl
theorem ygk193_74 {B : Nat} (hB : B ≤ 512) {xs : Nat → Int32} {SL d : Nat} : ∀ x2 x3 x4 m, w32 x3 = x3 → w32 x4 = x4 → xS B xs SL (d + 6) 193 (7, (some .int), [], 8) 1 74 [(2, xa x2), (3, xi x3), (4, xi x4)] [] m (yk193_74 B x2 x3 x4 m) := by
  intro x2 x3 x4 m c3 c4
  unfold yk193_74
  refine xS_g (fun g0 => ?_)
  refine xS_of (pc' := 81) (L' := [(4, xi x4)]) (st' := [xi 32, xj x4, xi x3, xa x2]) (m' := m) (fun ex ns r q => ?_) ?_
  · refine xw_aload_n rfl rfl rfl ?_
    refine xw_iload_n rfl rfl ?_
    refine xw_iload rfl rfl ?_
    refine xw_i2l rfl (w32_cg c4) ?_
    refine xw_bipush (e := 32) rfl (by decide +kernel) ?_
    refine xw_lo (L2 := [(4, xi x4)]) (List.forall_mem_cons.mpr ⟨rfl, fun _ h => absurd h List.not_mem_nil⟩) ?_
    exact q
  refine xS_call (q := 198) (n := 4) (kq := 0) (as := [xa x2, xi x3, xj x4, xi 32]) (st1 := []) rfl rfl rfl rfl rfl rfl rfl rfl rfl rfl (fun _ => xw_rcv1 (t := 11) (xw_obd g0) rfl) rfl (List.forall_mem_cons.mpr ⟨rfl, List.forall_mem_cons.mpr ⟨rfl, List.forall_mem_cons.mpr ⟨rfl, List.forall_mem_cons.mpr ⟨rfl, fun _ h => absurd h List.not_mem_nil⟩⟩⟩⟩) (ygf198 hB _ _ _ _ _ c3 (w64_32 c4) rfl) (fun v1 m1 cv1 => ?_)
  refine xS_of (pc' := 86) (L' := [(4, xi x4)]) (st' := [xi x4]) (m' := m1) (fun ex ns r q => ?_) ?_
  · refine xw_iload rfl rfl ?_
    exact q
  exact xS_ret (v := x4) rfl rfl xw_rtI c4
theorem ysl193_21 {B : Nat} (hB : B ≤ 512) {xs : Nat → Int32} {SL d : Nat} {r21 : Int → Int → Int → Int → Int → Int → xw_M → xP} (hr21 : ∀ x1 x2 x3 x4 x5 x6 m, w32 x3 = x3 → w32 x4 = x4 → w32 x5 = x5 → w32 x6 = x6 → xS B xs SL (d + 6) 193 (7, (some .int), [], 8) 1 21 [(0, xa 302), (1, xa x1), (2, xa x2), (3, xi x3), (4, xi x4), (5, xi x5), (6, xi x6)] [] m (r21 x1 x2 x3 x4 x5 x6 m)) : ∀ x1 x2 x3 x4 x5 x6 m, w32 x3 = x3 → w32 x4 = x4 → w32 x5 = x5 → w32 x6 = x6 → xS B xs SL (d + 6) 193 (7, (some .int), [], 8) 1 21 [(0, xa 302), (1, xa x1), (2, xa x2), (3, xi x3), (4, xi x4), (5, xi x5), (6, xi x6)] [] m (yl193_21 B r21 x1 x2 x3 x4 x5 x6 m) := by
  intro x1 x2 x3 x4 x5 x6 m c3 c4 c5 c6
  unfold yl193_21
  refine xS_of (pc' := 26) (L' := [(0, xa 302), (1, xa x1), (2, xa x2), (3, xi x3), (4, xi x4), (5, xi x5), (6, xi x6)]) (st' := [xi 20000, xi x6]) (m' := m) (fun ex ns r q => ?_) ?_
  · refine xw_iload rfl rfl ?_
    refine xw_sipush (e := 20000) rfl (by decide +kernel) ?_
    exact q
  refine xS_if (fun h0 => ?_) (fun h0 => ?_)
  · refine xS_g (fun g1 => ?_)
    refine xS_of (pc' := 35) (L' := [(0, xa 302), (1, xa x1), (2, xa x2), (3, xi x3), (4, xi x4), (5, xi x5), (6, xi x6)]) (st' := [xi (xR m x1 5), xi x5]) (m' := m) (fun ex ns r q => ?_) ?_
    · refine xw_ic_geF rfl (w32_cg c6) (w32_cg rfl) (Int.not_le.mpr h0) ?_
      refine xw_iload rfl rfl ?_
      refine xw_aload_n rfl rfl rfl ?_
      refine xw_gfIc (v := (m x1 5)) (v' := (xR m x1 5)) rfl (xw_obd g1) xk8_5 (qi := 5) rfl rfl rfl ?_
      exact q
    refine xS_if (fun h2 => ?_) (fun h2 => ?_)
    · refine xS_g (fun g3 => ?_)
      refine xS_of (pc' := 42) (L' := [(0, xa 302), (1, xa x1), (2, xa x2), (3, xi x3), (4, xi x4), (5, xi x5), (6, xi x6)]) (st' := [xi (xR m x2 3)]) (m' := m) (fun ex ns r q => ?_) ?_
      · refine xw_ic_geF rfl (w32_cg c5) (w32_cg (w32_xR _ _ _)) (Int.not_le.mpr h2) ?_
        refine xw_aload_n rfl rfl rfl ?_
        refine xw_gfIc (v := (m x2 3)) (v' := (xR m x2 3)) rfl (xw_obd g3) xk11_3 (qi := 3) rfl rfl rfl ?_
        exact q
      refine xS_if (fun h4 => ?_) (fun h4 => ?_)
      · refine xS_of (pc' := 49) (L' := [(0, xa 302), (1, xa x1), (2, xa x2), (3, xi x3), (4, xi x4), (6, xi x6)]) (st' := [xi x5, xa x1, xa 302]) (m' := m) (fun ex ns r q => ?_) ?_
        · refine xw_if_neF rfl (w32_cg (w32_xR _ _ _)) h4 ?_
          refine xw_aload_n rfl rfl rfl ?_
          refine xw_aload_n rfl rfl rfl ?_
          refine xw_iload rfl rfl ?_
          refine xw_lo (L2 := [(0, xa 302), (1, xa x1), (2, xa x2), (3, xi x3), (4, xi x4), (6, xi x6)]) (List.forall_mem_cons.mpr ⟨rfl, List.forall_mem_cons.mpr ⟨rfl, List.forall_mem_cons.mpr ⟨rfl, List.forall_mem_cons.mpr ⟨rfl, List.forall_mem_cons.mpr ⟨rfl, List.forall_mem_cons.mpr ⟨rfl, fun _ h => absurd h List.not_mem_nil⟩⟩⟩⟩⟩⟩) ?_
          exact q
        refine xS_call (q := 194) (n := 3) (kq := 1) (as := [xa 302, xa x1, xi x5]) (st1 := []) rfl rfl rfl rfl rfl rfl rfl rfl rfl rfl (fun _ => xw_rcv1 (t := 7) (xw_obd (by decide +kernel)) rfl) rfl (List.forall_mem_cons.mpr ⟨rfl, List.forall_mem_cons.mpr ⟨rfl, List.forall_mem_cons.mpr ⟨rfl, fun _ h => absurd h List.not_mem_nil⟩⟩⟩) (ygf194 hB _ _ _ c5) (fun v1 m1 cv1 => ?_)
        refine xS_of (pc' := 56) (L' := [(0, xa 302), (1, xa x1), (2, xa x2), (3, xi x3), (4, xi x4), (5, xi v1), (6, xi x6)]) (st' := [xa x2, xa 302]) (m' := m1) (fun ex ns r q => ?_) ?_
        · refine xw_istore (L' := [(5, xi v1), (0, xa 302), (1, xa x1), (2, xa x2), (3, xi x3), (4, xi x4), (6, xi x6)]) rfl (by decide) rfl ?_
          refine xw_aload_n rfl rfl rfl ?_
          refine xw_aload_n rfl rfl rfl ?_
          refine xw_lo (L2 := [(0, xa 302), (1, xa x1), (2, xa x2), (3, xi x3), (4, xi x4), (5, xi v1), (6, xi x6)]) (List.forall_mem_cons.mpr ⟨rfl, List.forall_mem_cons.mpr ⟨rfl, List.forall_mem_cons.mpr ⟨rfl, List.forall_mem_cons.mpr ⟨rfl, List.forall_mem_cons.mpr ⟨rfl, List.forall_mem_cons.mpr ⟨rfl, List.forall_mem_cons.mpr ⟨rfl, fun _ h => absurd h List.not_mem_nil⟩⟩⟩⟩⟩⟩⟩) ?_
          exact q
        refine xS_call (q := 182) (n := 2) (kq := 0) (as := [xa 302, xa x2]) (st1 := []) rfl rfl rfl rfl rfl rfl rfl rfl rfl rfl (fun _ => xw_rcv1 (t := 7) (xw_obd (by decide +kernel)) rfl) rfl (List.forall_mem_cons.mpr ⟨rfl, List.forall_mem_cons.mpr ⟨rfl, fun _ h => absurd h List.not_mem_nil⟩⟩) (ygf182 hB _ _) (fun v2 m2 cv2 => ?_)
        refine xS_of (pc' := 21) (L' := [(0, xa 302), (1, xa x1), (2, xa x2), (3, xi x3), (4, xi (w32 (x4 + (xR m2 302 8)))), (5, xi v1), (6, xi (w32 (x6 + 1)))]) (st' := []) (m' := m2) (fun ex ns r q => ?_) ?_
        · refine xw_iload rfl rfl ?_
          refine xw_aload_n rfl rfl rfl ?_
          refine xw_gfIc (v := (m2 302 8)) (v' := (xR m2 302 8)) rfl (xw_obd (by decide +kernel)) xk7_8 (qi := 8) rfl rfl rfl ?_
          refine xw_iadd rfl ?_
          refine xw_cst (st' := [xi (w32 (x4 + (xR m2 302 8)))]) (xw_sc (xi_c rfl) rfl) ?_
          refine xw_istore (L' := [(4, xi (w32 (x4 + (xR m2 302 8)))), (0, xa 302), (1, xa x1), (2, xa x2), (3, xi x3), (5, xi v1), (6, xi x6)]) rfl (by decide) rfl ?_
          refine xw_iincc (z := (w32 (x6 + 1))) (L' := [(6, xi (w32 (x6 + 1))), (4, xi (w32 (x4 + (xR m2 302 8)))), (0, xa 302), (1, xa x1), (2, xa x2), (3, xi x3), (5, xi v1)]) rfl rfl (by decide) rfl rfl ?_
          refine xw_goto rfl ?_
          refine xw_lo (L2 := [(0, xa 302), (1, xa x1), (2, xa x2), (3, xi x3), (4, xi (w32 (x4 + (xR m2 302 8)))), (5, xi v1), (6, xi (w32 (x6 + 1)))]) (List.forall_mem_cons.mpr ⟨rfl, List.forall_mem_cons.mpr ⟨rfl, List.forall_mem_cons.mpr ⟨rfl, List.forall_mem_cons.mpr ⟨rfl, List.forall_mem_cons.mpr ⟨rfl, List.forall_mem_cons.mpr ⟨rfl, List.forall_mem_cons.mpr ⟨rfl, fun _ h => absurd h List.not_mem_nil⟩⟩⟩⟩⟩⟩⟩) ?_
          exact q
        exact hr21 _ _ _ _ _ _ _ c3 (w32_w _) cv1 (w32_w _)
      · refine xS_of (pc' := 74) (L' := [(2, xa x2), (3, xi x3), (4, xi x4)]) (st' := []) (m' := m) (fun ex ns r q => ?_) ?_
        · refine xw_if_neT rfl (w32_cg (w32_xR _ _ _)) h4 ?_
          refine xw_lo (L2 := [(2, xa x2), (3, xi x3), (4, xi x4)]) (List.forall_mem_cons.mpr ⟨rfl, List.forall_mem_cons.mpr ⟨rfl, List.forall_mem_cons.mpr ⟨rfl, fun _ h => absurd h List.not_mem_nil⟩⟩⟩) ?_
          exact q
        exact ygk193_74 hB _ _ _ _ c3 c4
    · refine xS_of (pc' := 74) (L' := [(2, xa x2), (3, xi x3), (4, xi x4)]) (st' := []) (m' := m) (fun ex ns r q => ?_) ?_
      · refine xw_ic_geT rfl (w32_cg c5) (w32_cg (w32_xR _ _ _)) (Int.not_lt.mp h2) ?_
        refine xw_lo (L2 := [(2, xa x2), (3, xi x3), (4, xi x4)]) (List.forall_mem_cons.mpr ⟨rfl, List.forall_mem_cons.mpr ⟨rfl, List.forall_mem_cons.mpr ⟨rfl, fun _ h => absurd h List.not_mem_nil⟩⟩⟩) ?_
        exact q
      exact ygk193_74 hB _ _ _ _ c3 c4
  · refine xS_of (pc' := 74) (L' := [(2, xa x2), (3, xi x3), (4, xi x4)]) (st' := []) (m' := m) (fun ex ns r q => ?_) ?_
    · refine xw_ic_geT rfl (w32_cg c6) (w32_cg rfl) (Int.not_lt.mp h0) ?_
      refine xw_lo (L2 := [(2, xa x2), (3, xi x3), (4, xi x4)]) (List.forall_mem_cons.mpr ⟨rfl, List.forall_mem_cons.mpr ⟨rfl, List.forall_mem_cons.mpr ⟨rfl, fun _ h => absurd h List.not_mem_nil⟩⟩⟩) ?_
      exact q
    exact ygk193_74 hB _ _ _ _ c3 c4
theorem ygl193_21 {B : Nat} (hB : B ≤ 512) {xs : Nat → Int32} {SL d : Nat} : ∀ n x1 x2 x3 x4 x5 x6 m, w32 x3 = x3 → w32 x4 = x4 → w32 x5 = x5 → w32 x6 = x6 → xS B xs SL (d + 6) 193 (7, (some .int), [], 8) 1 21 [(0, xa 302), (1, xa x1), (2, xa x2), (3, xi x3), (4, xi x4), (5, xi x5), (6, xi x6)] [] m (xl6 (yl193_21 B) n x1 x2 x3 x4 x5 x6 m) := by
  intro n
  induction n with
  | zero => intro x1 x2 x3 x4 x5 x6 m c3 c4 c5 c6; exact xS_none
  | succ n ih => exact ysl193_21 hB ih
theorem ygf193 {B : Nat} (hB : B ≤ 512) {xs : Nat → Int32} {SL d : Nat} : ∀ p0 p1 m, xS B xs SL (d + 6) 193 (7, (some .int), [], 8) 1 0 [(0, xa 302), (1, xa p0), (2, xa p1)] [] m (yf193 B p0 p1 m) := by
  intro p0 p1 m
  unfold yf193
  refine xS_g (fun g0 => ?_)
  refine xS_of (pc' := 9) (L' := [(0, xa 302), (1, xa p0), (2, xa p1), (3, xi (xR m p1 2))]) (st' := [xi 32, xj 0, xa p1]) (m' := m) (fun ex ns r q => ?_) ?_
  · refine xw_aload_n rfl rfl rfl ?_
    refine xw_gfIc (v := (m p1 2)) (v' := (xR m p1 2)) rfl (xw_obd g0) xk11_2 (qi := 2) rfl rfl rfl ?_
    refine xw_istore_n (L' := [(3, xi (xR m p1 2)), (0, xa 302), (1, xa p0), (2, xa p1)]) rfl (by decide) rfl ?_
    refine xw_aload_n rfl rfl rfl ?_
    refine xw_lconst (e := 0) rfl rfl ?_
    refine xw_bipush (e := 32) rfl (by decide +kernel) ?_
    refine xw_lo (L2 := [(0, xa 302), (1, xa p0), (2, xa p1), (3, xi (xR m p1 2))]) (List.forall_mem_cons.mpr ⟨rfl, List.forall_mem_cons.mpr ⟨rfl, List.forall_mem_cons.mpr ⟨rfl, List.forall_mem_cons.mpr ⟨rfl, fun _ h => absurd h List.not_mem_nil⟩⟩⟩⟩) ?_
    exact q
  refine xS_call (q := 152) (n := 3) (kq := 0) (as := [xa p1, xj 0, xi 32]) (st1 := []) rfl rfl rfl rfl rfl rfl rfl rfl rfl rfl (fun _ => xw_rcv1 (t := 11) (xw_obd g0) rfl) rfl (List.forall_mem_cons.mpr ⟨rfl, List.forall_mem_cons.mpr ⟨rfl, List.forall_mem_cons.mpr ⟨rfl, fun _ h => absurd h List.not_mem_nil⟩⟩⟩) (ygf152 hB _ _ _ _ rfl rfl) (fun v1 m1 cv1 => ?_)
  refine xS_of (pc' := 21) (L' := [(0, xa 302), (1, xa p0), (2, xa p1), (3, xi (xR m p1 2)), (4, xi 0), (5, xi 0), (6, xi 0)]) (st' := []) (m' := m1) (fun ex ns r q => ?_) ?_
  · refine xw_iconst rfl ?_
    refine xw_istore (L' := [(4, xi 0), (0, xa 302), (1, xa p0), (2, xa p1), (3, xi (xR m p1 2))]) rfl (by decide) rfl ?_
    refine xw_iconst rfl ?_
    refine xw_istore (L' := [(5, xi 0), (4, xi 0), (0, xa 302), (1, xa p0), (2, xa p1), (3, xi (xR m p1 2))]) rfl (by decide) rfl ?_
    refine xw_iconst rfl ?_
    refine xw_istore (L' := [(6, xi 0), (5, xi 0), (4, xi 0), (0, xa 302), (1, xa p0), (2, xa p1), (3, xi (xR m p1 2))]) rfl (by decide) rfl ?_
    refine xw_lo (L2 := [(0, xa 302), (1, xa p0), (2, xa p1), (3, xi (xR m p1 2)), (4, xi 0), (5, xi 0), (6, xi 0)]) (List.forall_mem_cons.mpr ⟨rfl, List.forall_mem_cons.mpr ⟨rfl, List.forall_mem_cons.mpr ⟨rfl, List.forall_mem_cons.mpr ⟨rfl, List.forall_mem_cons.mpr ⟨rfl, List.forall_mem_cons.mpr ⟨rfl, List.forall_mem_cons.mpr ⟨rfl, fun _ h => absurd h List.not_mem_nil⟩⟩⟩⟩⟩⟩⟩) ?_
    exact q
  exact ygl193_21 hB 1000000 _ _ _ _ _ _ _ (w32_xR _ _ _) rfl rfl rfl
theorem ysl192_3 {B : Nat} (hB : B ≤ 512) {xs : Nat → Int32} {SL d : Nat} {r3 : Int → Int → Int → Int → xw_M → xP} (hr3 : ∀ x1 x2 x3 x4 m, w32 x3 = x3 → w32 x4 = x4 → xS B xs SL (d + 7) 192 (5, none, [], 1) 0 3 [(0, xa 0), (1, xa x1), (2, xa x2), (3, xi x3), (4, xi x4)] [] m (r3 x1 x2 x3 x4 m)) : ∀ x1 x2 x3 x4 m, w32 x3 = x3 → w32 x4 = x4 → xS B xs SL (d + 7) 192 (5, none, [], 1) 0 3 [(0, xa 0), (1, xa x1), (2, xa x2), (3, xi x3), (4, xi x4)] [] m (yl192_3 B r3 x1 x2 x3 x4 m) := by
  intro x1 x2 x3 x4 m c3 c4
  unfold yl192_3
  refine xS_of (pc' := 6) (L' := [(0, xa 0), (1, xa x1), (2, xa x2), (3, xi x3), (4, xi x4)]) (st' := [xi x3, xi x4]) (m' := m) (fun ex ns r q => ?_) ?_
  · refine xw_iload rfl rfl ?_
    refine xw_iload_n rfl rfl ?_
    exact q
  refine xS_if (fun h0 => ?_) (fun h0 => ?_)
  · refine xS_of (pc' := 19) (L' := [(0, xa 0), (1, xa x1), (2, xa x2), (3, xi x3), (4, xi x4)]) (st' := [xi (xR m 518 3)]) (m' := m) (fun ex ns r q => ?_) ?_
    · refine xw_ic_geF rfl (w32_cg c4) (w32_cg c3) (Int.not_le.mpr h0) ?_
      refine xw_aload_n rfl rfl rfl ?_
      refine xw_gfR (n := 508) (e := 508) rfl (xw_obd (by decide +kernel)) (by decide +kernel) (by decide +kernel) rfl ?_
      refine xw_gfR (n := 518) (e := 518) rfl (xw_obd (by decide +kernel)) (by decide +kernel) (by decide +kernel) rfl ?_
      refine xw_gfIc (v := (m 518 3)) (v' := (xR m 518 3)) rfl (xw_obd (by decide +kernel)) xk11_3 (qi := 3) rfl rfl rfl ?_
      exact q
    refine xS_if (fun h1 => ?_) (fun h1 => ?_)
    · refine xS_g (fun g2 => ?_)
      refine xS_g (fun g3 => ?_)
      refine xS_of (pc' := 30) (L' := [(0, xa 0), (1, xa x1), (2, xa x2), (3, xi x3), (4, xi x4)]) (st' := [xi (xR m x2 x4), xa 302]) (m' := m) (fun ex ns r q => ?_) ?_
      · refine xw_if_neF rfl (w32_cg (w32_xR _ _ _)) h1 ?_
        refine xw_aload_n rfl rfl rfl ?_
        refine xw_gfR (n := 302) (e := 302) rfl (xw_obd (by decide +kernel)) (by decide +kernel) (by decide +kernel) rfl ?_
        refine xw_aload_n rfl rfl rfl ?_
        refine xw_iload rfl rfl ?_
        refine xw_ialdc (n := (xw_le B x2)) (v := (m x2 x4)) (v' := (xR m x2 x4)) rfl hB (xw_obd g3) rfl g2 rfl rfl ?_
        refine xw_lo (L2 := [(0, xa 0), (1, xa x1), (2, xa x2), (3, xi x3), (4, xi x4)]) (List.forall_mem_cons.mpr ⟨rfl, List.forall_mem_cons.mpr ⟨rfl, List.forall_mem_cons.mpr ⟨rfl, List.forall_mem_cons.mpr ⟨rfl, List.forall_mem_cons.mpr ⟨rfl, fun _ h => absurd h List.not_mem_nil⟩⟩⟩⟩⟩) ?_
        exact q
      refine xS_call (q := 109) (n := 2) (kq := 0) (as := [xa 302, xi (xR m x2 x4)]) (st1 := []) rfl rfl rfl rfl rfl rfl rfl rfl rfl rfl (fun _ => xw_rcv1 (t := 7) (xw_obd (by decide +kernel)) rfl) rfl (List.forall_mem_cons.mpr ⟨rfl, List.forall_mem_cons.mpr ⟨rfl, fun _ h => absurd h List.not_mem_nil⟩⟩) (ygf109 hB _ _ (w32_xR _ _ _)) (fun v1 m1 cv1 => ?_)
      refine xS_of (pc' := 38) (L' := [(0, xa 0), (1, xa x1), (2, xa x2), (3, xi x3), (4, xi x4)]) (st' := [xa x1, xa 302]) (m' := m1) (fun ex ns r q => ?_) ?_
      · refine xw_aload_n rfl rfl rfl ?_
        refine xw_gfR (n := 302) (e := 302) rfl (xw_obd (by decide +kernel)) (by decide +kernel) (by decide +kernel) rfl ?_
        refine xw_aload_n rfl rfl rfl ?_
        refine xw_lo (L2 := [(0, xa 0), (1, xa x1), (2, xa x2), (3, xi x3), (4, xi x4)]) (List.forall_mem_cons.mpr ⟨rfl, List.forall_mem_cons.mpr ⟨rfl, List.forall_mem_cons.mpr ⟨rfl, List.forall_mem_cons.mpr ⟨rfl, List.forall_mem_cons.mpr ⟨rfl, fun _ h => absurd h List.not_mem_nil⟩⟩⟩⟩⟩) ?_
        exact q
      refine xS_call (q := 180) (n := 2) (kq := 0) (as := [xa 302, xa x1]) (st1 := []) rfl rfl rfl rfl rfl rfl rfl rfl rfl rfl (fun _ => xw_rcv1 (t := 7) (xw_obd (by decide +kernel)) rfl) rfl (List.forall_mem_cons.mpr ⟨rfl, List.forall_mem_cons.mpr ⟨rfl, fun _ h => absurd h List.not_mem_nil⟩⟩) (ygf180 hB _ _) (fun v2 m2 cv2 => ?_)
      refine xS_of (pc' := 59) (L' := [(0, xa 0), (1, xa x1), (2, xa x2), (3, xi x3), (4, xi x4)]) (st' := [xa 518, xa x1, xa 302, xi x4, xa 419]) (m' := m2) (fun ex ns r q => ?_) ?_
      · refine xw_aload_n rfl rfl rfl ?_
        refine xw_gfR (n := 419) (e := 419) rfl (xw_obd (by decide +kernel)) (by decide +kernel) (by decide +kernel) rfl ?_
        refine xw_iload rfl rfl ?_
        refine xw_aload_n rfl rfl rfl ?_
        refine xw_gfR (n := 302) (e := 302) rfl (xw_obd (by decide +kernel)) (by decide +kernel) (by decide +kernel) rfl ?_
        refine xw_aload_n rfl rfl rfl ?_
        refine xw_aload_n rfl rfl rfl ?_
        refine xw_gfR (n := 508) (e := 508) rfl (xw_obd (by decide +kernel)) (by decide +kernel) (by decide +kernel) rfl ?_
        refine xw_gfR (n := 518) (e := 518) rfl (xw_obd (by decide +kernel)) (by decide +kernel) (by decide +kernel) rfl ?_
        refine xw_lo (L2 := [(0, xa 0), (1, xa x1), (2, xa x2), (3, xi x3), (4, xi x4)]) (List.forall_mem_cons.mpr ⟨rfl, List.forall_mem_cons.mpr ⟨rfl, List.forall_mem_cons.mpr ⟨rfl, List.forall_mem_cons.mpr ⟨rfl, List.forall_mem_cons.mpr ⟨rfl, fun _ h => absurd h List.not_mem_nil⟩⟩⟩⟩⟩) ?_
        exact q
      refine xS_call (q := 193) (n := 3) (kq := 1) (as := [xa 302, xa x1, xa 518]) (st1 := [xi x4, xa 419]) rfl rfl rfl rfl rfl rfl rfl rfl rfl rfl (fun _ => xw_rcv1 (t := 7) (xw_obd (by decide +kernel)) rfl) rfl (List.forall_mem_cons.mpr ⟨rfl, List.forall_mem_cons.mpr ⟨rfl, List.forall_mem_cons.mpr ⟨rfl, fun _ h => absurd h List.not_mem_nil⟩⟩⟩) (ygf193 hB _ _ _) (fun v3 m3 cv3 => ?_)
      refine xS_g (fun g4 => ?_)
      refine xS_of (pc' := 3) (L' := [(0, xa 0), (1, xa x1), (2, xa x2), (3, xi x3), (4, xi (w32 (x4 + 1)))]) (st' := []) (m' := (xw_u m3 419 x4 v3)) (fun ex ns r q => ?_) ?_
      · refine xw_iast (n := 16) rfl hB (xw_obd (by decide +kernel)) rfl g4 ?_
        refine xw_iincc (z := (w32 (x4 + 1))) (L' := [(4, xi (w32 (x4 + 1))), (0, xa 0), (1, xa x1), (2, xa x2), (3, xi x3)]) rfl rfl (by decide) rfl rfl ?_
        refine xw_goto rfl ?_
        refine xw_lo (L2 := [(0, xa 0), (1, xa x1), (2, xa x2), (3, xi x3), (4, xi (w32 (x4 + 1)))]) (List.forall_mem_cons.mpr ⟨rfl, List.forall_mem_cons.mpr ⟨rfl, List.forall_mem_cons.mpr ⟨rfl, List.forall_mem_cons.mpr ⟨rfl, List.forall_mem_cons.mpr ⟨rfl, fun _ h => absurd h List.not_mem_nil⟩⟩⟩⟩⟩) ?_
        exact q
      exact hr3 _ _ _ _ _ c3 (w32_w _)
    · refine xS_of (pc' := 69) (L' := [(0, xa 0), (1, xa x1), (2, xa x2), (3, xi x3), (4, xi x4)]) (st' := []) (m' := m) (fun ex ns r q => ?_) ?_
      · refine xw_if_neT rfl (w32_cg (w32_xR _ _ _)) h1 ?_
        exact q
      exact xS_ret (v := 0) rfl rfl rfl rfl
  · refine xS_of (pc' := 69) (L' := [(0, xa 0), (1, xa x1), (2, xa x2), (3, xi x3), (4, xi x4)]) (st' := []) (m' := m) (fun ex ns r q => ?_) ?_
    · refine xw_ic_geT rfl (w32_cg c4) (w32_cg c3) (Int.not_lt.mp h0) ?_
      exact q
    exact xS_ret (v := 0) rfl rfl rfl rfl
theorem ygl192_3 {B : Nat} (hB : B ≤ 512) {xs : Nat → Int32} {SL d : Nat} : ∀ n x1 x2 x3 x4 m, w32 x3 = x3 → w32 x4 = x4 → xS B xs SL (d + 7) 192 (5, none, [], 1) 0 3 [(0, xa 0), (1, xa x1), (2, xa x2), (3, xi x3), (4, xi x4)] [] m (xl4 (yl192_3 B) n x1 x2 x3 x4 m) := by
  intro n
  induction n with
  | zero => intro x1 x2 x3 x4 m c3 c4; exact xS_none
  | succ n ih => exact ysl192_3 hB ih
theorem ygf192 {B : Nat} (hB : B ≤ 512) {xs : Nat → Int32} {SL d : Nat} : ∀ p0 p1 p2 m, w32 p2 = p2 → xS B xs SL (d + 7) 192 (5, none, [], 1) 0 0 [(0, xa 0), (1, xa p0), (2, xa p1), (3, xi p2)] [] m (yf192 B p0 p1 p2 m) := by
  intro p0 p1 p2 m cp2
  unfold yf192
  refine xS_of (pc' := 3) (L' := [(0, xa 0), (1, xa p0), (2, xa p1), (3, xi p2), (4, xi 0)]) (st' := []) (m' := m) (fun ex ns r q => ?_) ?_
  · refine xw_iconst rfl ?_
    refine xw_istore (L' := [(4, xi 0), (0, xa 0), (1, xa p0), (2, xa p1), (3, xi p2)]) rfl (by decide) rfl ?_
    refine xw_lo (L2 := [(0, xa 0), (1, xa p0), (2, xa p1), (3, xi p2), (4, xi 0)]) (List.forall_mem_cons.mpr ⟨rfl, List.forall_mem_cons.mpr ⟨rfl, List.forall_mem_cons.mpr ⟨rfl, List.forall_mem_cons.mpr ⟨rfl, List.forall_mem_cons.mpr ⟨rfl, fun _ h => absurd h List.not_mem_nil⟩⟩⟩⟩⟩) ?_
    exact q
  exact ygl192_3 hB 1000000 _ _ _ _ _ cp2 rfl
