/-! the machine does what the functions say, 0 -/
theorem ygf14 {B : Nat} (hB : B ≤ 512) {xs : Nat → Int32} {SL d : Nat} : ∀ m, xS B xs SL (d + 0) 14 (1, none, [], 2) 0 0 [(0, xa 1)] [] m (yf14 B m) := by
  intro m
  unfold yf14
  refine xS_of (pc' := 25) (L' := [(0, xa 1)]) (st' := []) (m' := (xw_u (xw_u (xw_u (xw_u (xw_u m 1 2 0) 1 3 0) 1 4 0) 1 6 0) 1 7 (-1))) (fun ex ns r q => ?_) ?_
  · refine xw_aload_n rfl rfl rfl ?_
    refine xw_iconst rfl ?_
    refine xw_pfI rfl (xw_obd (by decide +kernel)) xk1_2 (qi := 2) rfl (xw_okI rfl) ?_
    refine xw_aload_n rfl rfl rfl ?_
    refine xw_iconst rfl ?_
    refine xw_pfI rfl (xw_obd (by decide +kernel)) xk1_3 (qi := 3) rfl (xw_okI rfl) ?_
    refine xw_aload_n rfl rfl rfl ?_
    refine xw_iconst rfl ?_
    refine xw_pfI rfl (xw_obd (by decide +kernel)) xk1_4 (qi := 4) rfl (xw_okI rfl) ?_
    refine xw_aload_n rfl rfl rfl ?_
    refine xw_iconst rfl ?_
    refine xw_pfI rfl (xw_obd (by decide +kernel)) xk1_6 (qi := 6) rfl (xw_okI rfl) ?_
    refine xw_aload_n rfl rfl rfl ?_
    refine xw_iconst rfl ?_
    refine xw_pfI rfl (xw_obd (by decide +kernel)) xk1_7 (qi := 7) rfl (xw_okI rfl) ?_
    exact q
  exact xS_ret (v := 0) rfl rfl rfl rfl
theorem ygf15 {B : Nat} (hB : B ≤ 512) {xs : Nat → Int32} {SL d : Nat} : ∀ m, xS B xs SL (d + 0) 15 (1, none, [], 3) 0 0 [(0, xa 3)] [] m (yf15 B m) := by
  intro m
  unfold yf15
  refine xS_of (pc' := 10) (L' := [(0, xa 3)]) (st' := []) (m' := (xw_u (xw_u m 3 1 0) 3 2 0)) (fun ex ns r q => ?_) ?_
  · refine xw_aload_n rfl rfl rfl ?_
    refine xw_iconst rfl ?_
    refine xw_pfI rfl (xw_obd (by decide +kernel)) xk2_1 (qi := 1) rfl (xw_okI rfl) ?_
    refine xw_aload_n rfl rfl rfl ?_
    refine xw_iconst rfl ?_
    refine xw_pfI rfl (xw_obd (by decide +kernel)) xk2_2 (qi := 2) rfl (xw_okI rfl) ?_
    exact q
  exact xS_ret (v := 0) rfl rfl rfl rfl
theorem ygf16 {B : Nat} (hB : B ≤ 512) {xs : Nat → Int32} {SL d : Nat} : ∀ t m, xS B xs SL (d + 0) 16 (1, none, [], 10) 0 0 [(0, xa t)] [] m (yf16 B t m) := by
  intro t m
  unfold yf16
  refine xS_g (fun g0 => ?_)
  refine xS_of (pc' := 5) (L' := [(0, xa t)]) (st' := []) (m' := (xw_u m t 7 0)) (fun ex ns r q => ?_) ?_
  · refine xw_aload_n rfl rfl rfl ?_
    refine xw_iconst rfl ?_
    refine xw_pfI rfl (xw_obd g0) xk9_7 (qi := 7) rfl (xw_okZ rfl (Or.inl rfl)) ?_
    exact q
  exact xS_ret (v := 0) rfl rfl rfl rfl
theorem ygf17 {B : Nat} (hB : B ≤ 512) {xs : Nat → Int32} {SL d : Nat} : ∀ m, xS B xs SL (d + 0) 17 (1, none, [], 11) 0 0 [(0, xa 508)] [] m (yf17 B m) := by
  intro m
  unfold yf17
  refine xS_of (pc' := 25) (L' := [(0, xa 508)]) (st' := []) (m' := (xw_u (xw_u (xw_u (xw_u (xw_u m 508 8 0) 508 9 0) 508 10 0) 508 11 0) 508 14 0)) (fun ex ns r q => ?_) ?_
  · refine xw_aload_n rfl rfl rfl ?_
    refine xw_iconst rfl ?_
    refine xw_pfI rfl (xw_obd (by decide +kernel)) xk10_8 (qi := 8) rfl (xw_okI rfl) ?_
    refine xw_aload_n rfl rfl rfl ?_
    refine xw_iconst rfl ?_
    refine xw_pfI rfl (xw_obd (by decide +kernel)) xk10_9 (qi := 9) rfl (xw_okI rfl) ?_
    refine xw_aload_n rfl rfl rfl ?_
    refine xw_iconst rfl ?_
    refine xw_pfI rfl (xw_obd (by decide +kernel)) xk10_10 (qi := 10) rfl (xw_okI rfl) ?_
    refine xw_aload_n rfl rfl rfl ?_
    refine xw_iconst rfl ?_
    refine xw_pfI rfl (xw_obd (by decide +kernel)) xk10_11 (qi := 11) rfl (xw_okI rfl) ?_
    refine xw_aload_n rfl rfl rfl ?_
    refine xw_iconst rfl ?_
    refine xw_pfI rfl (xw_obd (by decide +kernel)) xk10_14 (qi := 14) rfl (xw_okI rfl) ?_
    exact q
  exact xS_ret (v := 0) rfl rfl rfl rfl
theorem ygf13 {B : Nat} (hB : B ≤ 512) {xs : Nat → Int32} {SL d : Nat} : ∀ m, xS B xs SL (d + 1) 13 (1, none, [], 1) 0 0 [(0, xa 0)] [] m (yf13 B m) := by
  intro m
  unfold yf13
  refine xS_of (pc' := 12) (L' := [(0, xa 0)]) (st' := [xa 1]) (m' := (xw_u m 1 1 0)) (fun ex ns r q => ?_) ?_
  · refine xw_aload_n rfl rfl rfl ?_
    refine xw_gfR (n := 1) (e := 1) rfl (xw_obd (by decide +kernel)) (by decide +kernel) (by decide +kernel) rfl ?_
    refine xw_iconst rfl ?_
    refine xw_pfI rfl (xw_obd (by decide +kernel)) xk1_1 (qi := 1) rfl (xw_okI rfl) ?_
    refine xw_aload_n rfl rfl rfl ?_
    refine xw_gfR (n := 1) (e := 1) rfl (xw_obd (by decide +kernel)) (by decide +kernel) (by decide +kernel) rfl ?_
    refine xw_lo (L2 := [(0, xa 0)]) (List.forall_mem_cons.mpr ⟨rfl, fun _ h => absurd h List.not_mem_nil⟩) ?_
    exact q
  refine xS_call (q := 14) (n := 1) (kq := 0) (as := [xa 1]) (st1 := []) rfl rfl rfl rfl rfl rfl rfl rfl rfl rfl (fun _ => xw_rcv1 (t := 1) (xw_obd (by decide +kernel)) rfl) rfl (List.forall_mem_cons.mpr ⟨rfl, fun _ h => absurd h List.not_mem_nil⟩) (ygf14 hB _) (fun v1 m1 cv1 => ?_)
  refine xS_of (pc' := 19) (L' := [(0, xa 0)]) (st' := [xa 3]) (m' := m1) (fun ex ns r q => ?_) ?_
  · refine xw_aload_n rfl rfl rfl ?_
    refine xw_gfR (n := 3) (e := 3) rfl (xw_obd (by decide +kernel)) (by decide +kernel) (by decide +kernel) rfl ?_
    refine xw_lo (L2 := [(0, xa 0)]) (List.forall_mem_cons.mpr ⟨rfl, fun _ h => absurd h List.not_mem_nil⟩) ?_
    exact q
  refine xS_call (q := 15) (n := 1) (kq := 0) (as := [xa 3]) (st1 := []) rfl rfl rfl rfl rfl rfl rfl rfl rfl rfl (fun _ => xw_rcv1 (t := 2) (xw_obd (by decide +kernel)) rfl) rfl (List.forall_mem_cons.mpr ⟨rfl, fun _ h => absurd h List.not_mem_nil⟩) (ygf15 hB _) (fun v2 m2 cv2 => ?_)
  refine xS_g (fun g0 => ?_)
  refine xS_of (pc' := 34) (L' := [(0, xa 0)]) (st' := [xa (m2 0 12)]) (m' := (xw_u m2 373 5 0)) (fun ex ns r q => ?_) ?_
  · refine xw_aload_n rfl rfl rfl ?_
    refine xw_gfR (n := 373) (e := 373) rfl (xw_obd (by decide +kernel)) (by decide +kernel) (by decide +kernel) rfl ?_
    refine xw_iconst rfl ?_
    refine xw_pfI rfl (xw_obd (by decide +kernel)) xk8_5 (qi := 5) rfl (xw_okI rfl) ?_
    refine xw_aload_n rfl rfl rfl ?_
    refine xw_gfM (v := (m2 0 12)) rfl (xw_obd (by decide +kernel)) xk0_12 (qi := 12) rfl (xw_un (fun e => absurd e.1 (by decide)) rfl) ?_
    refine xw_lo (L2 := [(0, xa 0)]) (List.forall_mem_cons.mpr ⟨rfl, fun _ h => absurd h List.not_mem_nil⟩) ?_
    exact q
  refine xS_call (q := 16) (n := 1) (kq := 0) (as := [xa (m2 0 12)]) (st1 := []) rfl rfl rfl rfl rfl rfl rfl rfl rfl rfl (fun _ => xw_rcv1 (t := 9) (xw_obd g0) rfl) rfl (List.forall_mem_cons.mpr ⟨rfl, fun _ h => absurd h List.not_mem_nil⟩) (ygf16 hB _ _) (fun v3 m3 cv3 => ?_)
  refine xS_of (pc' := 41) (L' := []) (st' := [xa 508]) (m' := m3) (fun ex ns r q => ?_) ?_
  · refine xw_aload_n rfl rfl rfl ?_
    refine xw_gfR (n := 508) (e := 508) rfl (xw_obd (by decide +kernel)) (by decide +kernel) (by decide +kernel) rfl ?_
    refine xw_lo (L2 := []) (fun _ h => absurd h List.not_mem_nil) ?_
    exact q
  refine xS_call (q := 17) (n := 1) (kq := 0) (as := [xa 508]) (st1 := []) rfl rfl rfl rfl rfl rfl rfl rfl rfl rfl (fun _ => xw_rcv1 (t := 10) (xw_obd (by decide +kernel)) rfl) rfl (List.forall_mem_cons.mpr ⟨rfl, fun _ h => absurd h List.not_mem_nil⟩) (ygf17 hB _) (fun v4 m4 cv4 => ?_)
  exact xS_ret (v := 0) rfl rfl rfl rfl
theorem ygk19_71 {B : Nat} (hB : B ≤ 512) {xs : Nat → Int32} {SL d : Nat} : ∀ x0 x1 x4 m, w32 x1 = x1 → w64 x4 = x4 → xS B xs SL (d + 0) 19 (6, (some .long), [], 12) 2 71 [(0, xa x0), (1, xi x1), (4, xj x4)] [] m (yk19_71 B x0 x1 x4 m) := by
  intro x0 x1 x4 m c1 c4
  unfold yk19_71
  refine xS_g (fun g0 => ?_)
  refine xS_of (pc' := 92) (L' := [(0, xa x0), (1, xi x1), (4, xj x4)]) (st' := [xj (xw_landf x4 (xw_lushrf (-1) (64 - x1)))]) (m' := (xw_u m x0 2 ((xR m x0 2) + x1))) (fun ex ns r q => ?_) ?_
  · refine xw_aload_n rfl rfl rfl ?_
    refine xw_dup rfl rfl ?_
    refine xw_gfIc (v := (m x0 2)) (v' := (xR m x0 2)) rfl (xw_obd g0) xk11_2 (qi := 2) rfl rfl rfl ?_
    refine xw_iload_n rfl rfl ?_
    refine xw_iadd rfl ?_
    refine xw_pfI rfl (xw_obd g0) xk11_2 (qi := 2) rfl (xw_okI rfl) ?_
    refine xw_lload rfl rfl ?_
    refine xw_ldc2 (e := (-1)) rfl (by decide +kernel) ?_
    refine xw_bipush (e := 64) rfl (by decide +kernel) ?_
    refine xw_iload_n rfl rfl ?_
    refine xw_isub rfl ?_
    refine xw_lushr (z := (xw_lushrf (-1) (64 - x1))) rfl (xw_lushre _ _) ?_
    refine xw_land (z := (xw_landf x4 (xw_lushrf (-1) (64 - x1)))) rfl (xw_lande _ _) ?_
    exact q
  exact xS_ret (v := (xw_landf x4 (xw_lushrf (-1) (64 - x1)))) rfl rfl rfl (w64_ti _)
theorem ygf19 {B : Nat} (hB : B ≤ 512) {xs : Nat → Int32} {SL d : Nat} : ∀ t p0 m, w32 p0 = p0 → xS B xs SL (d + 0) 19 (6, (some .long), [], 12) 2 0 [(0, xa t), (1, xi p0)] [] m (yf19 B t p0 m) := by
  intro t p0 m cp0
  unfold yf19
  refine xS_of (pc' := 1) (L' := [(0, xa t), (1, xi p0)]) (st' := [xi p0]) (m' := m) (fun ex ns r q => ?_) ?_
  · refine xw_iload_n rfl rfl ?_
    exact q
  refine xS_if (fun h0 => ?_) (fun h0 => ?_)
  · refine xS_of (pc' := 18) (L' := [(0, xa t), (1, xi p0)]) (st' := [xj 0]) (m' := m) (fun ex ns r q => ?_) ?_
    · refine xw_if_eqT rfl (w32_cg cp0) h0 ?_
      refine xw_lconst (e := 0) rfl rfl ?_
      exact q
    exact xS_ret (v := 0) rfl rfl rfl rfl
  · refine xS_g (fun g1 => ?_)
    refine xS_of (pc' := 14) (L' := [(0, xa t), (1, xi p0)]) (st' := [xi (w32 ((xR m t 1) - (xR m t 2))), xi p0]) (m' := m) (fun ex ns r q => ?_) ?_
    · refine xw_if_eqF rfl (w32_cg cp0) h0 ?_
      refine xw_iload_n rfl rfl ?_
      refine xw_aload_n rfl rfl rfl ?_
      refine xw_gfIc (v := (m t 1)) (v' := (xR m t 1)) rfl (xw_obd g1) xk11_1 (qi := 1) rfl rfl rfl ?_
      refine xw_aload_n rfl rfl rfl ?_
      refine xw_gfIc (v := (m t 2)) (v' := (xR m t 2)) rfl (xw_obd g1) xk11_2 (qi := 2) rfl rfl rfl ?_
      refine xw_isub rfl ?_
      refine xw_cst (st' := [xi (w32 ((xR m t 1) - (xR m t 2))), xi p0]) (xw_sc (xi_c rfl) (xw_sc rfl rfl)) ?_
      exact q
    refine xS_if (fun h2 => ?_) (fun h2 => ?_)
    · refine xS_of (pc' := 18) (L' := [(0, xa t), (1, xi p0)]) (st' := [xj 0]) (m' := m) (fun ex ns r q => ?_) ?_
      · refine xw_ic_leF rfl (w32_cg cp0) (w32_cg (w32_w _)) (Int.not_le.mpr h2) ?_
        refine xw_lconst (e := 0) rfl rfl ?_
        exact q
      exact xS_ret (v := 0) rfl rfl rfl rfl
    · refine xS_g (fun g3 => ?_)
      refine xS_g (fun g4 => ?_)
      refine xS_of (pc' := 50) (L' := [(4, xj (xw_lushrf (xJ m (xw_rf t 0) (xw_ishrf (xR m t 2) 6)) (xw_iandf (xR m t 2) 63))), (3, xi (xw_iandf (xR m t 2) 63)), (2, xi (xw_ishrf (xR m t 2) 6)), (0, xa t), (1, xi p0)]) (st' := [xi 64, xi (w32 ((xw_iandf (xR m t 2) 63) + p0))]) (m' := m) (fun ex ns r q => ?_) ?_
      · refine xw_ic_leT rfl (w32_cg cp0) (w32_cg (w32_w _)) (Int.not_lt.mp h2) ?_
        refine xw_aload_n rfl rfl rfl ?_
        refine xw_gfIc (v := (m t 2)) (v' := (xR m t 2)) rfl (xw_obd g1) xk11_2 (qi := 2) rfl rfl rfl ?_
        refine xw_bipush (e := 6) rfl (by decide +kernel) ?_
        refine xw_ishr (z := (xw_ishrf (xR m t 2) 6)) rfl (xw_ishre _ _) ?_
        refine xw_istore_n (L' := [(2, xi (xw_ishrf (xR m t 2) 6)), (0, xa t), (1, xi p0)]) rfl (by decide) rfl ?_
        refine xw_aload_n rfl rfl rfl ?_
        refine xw_gfIc (v := (m t 2)) (v' := (xR m t 2)) rfl (xw_obd g1) xk11_2 (qi := 2) rfl rfl rfl ?_
        refine xw_bipush (e := 63) rfl (by decide +kernel) ?_
        refine xw_iand (z := (xw_iandf (xR m t 2) 63)) rfl (xw_iande _ _) ?_
        refine xw_istore_n (L' := [(3, xi (xw_iandf (xR m t 2) 63)), (2, xi (xw_ishrf (xR m t 2) 6)), (0, xa t), (1, xi p0)]) rfl (by decide) rfl ?_
        refine xw_aload_n rfl rfl rfl ?_
        refine xw_gfV (qi := 0) rfl (xw_obd g1) xk11_0 rfl ?_
        refine xw_iload_n rfl rfl ?_
        refine xw_laldc (n := (xw_le B (xw_rf t 0))) (v := (m (xw_rf t 0) (xw_ishrf (xR m t 2) 6))) (v' := (xJ m (xw_rf t 0) (xw_ishrf (xR m t 2) 6))) rfl hB (xw_obd g4) rfl g3 rfl rfl ?_
        refine xw_iload_n rfl rfl ?_
        refine xw_lushr (z := (xw_lushrf (xJ m (xw_rf t 0) (xw_ishrf (xR m t 2) 6)) (xw_iandf (xR m t 2) 63))) rfl (xw_lushre _ _) ?_
        refine xw_lstore (L' := [(4, xj (xw_lushrf (xJ m (xw_rf t 0) (xw_ishrf (xR m t 2) 6)) (xw_iandf (xR m t 2) 63))), (3, xi (xw_iandf (xR m t 2) 63)), (2, xi (xw_ishrf (xR m t 2) 6)), (0, xa t), (1, xi p0)]) rfl (by decide) rfl ?_
        refine xw_iload_n rfl rfl ?_
        refine xw_iload_n rfl rfl ?_
        refine xw_iadd rfl ?_
        refine xw_bipush (e := 64) rfl (by decide +kernel) ?_
        refine xw_cst (st' := [xi 64, xi (w32 ((xw_iandf (xR m t 2) 63) + p0))]) (xw_sc rfl (xw_sc (xi_c rfl) rfl)) ?_
        exact q
      refine xS_if (fun h5 => ?_) (fun h5 => ?_)
      · refine xS_g (fun g6 => ?_)
        refine xS_of (pc' := 71) (L' := [(0, xa t), (1, xi p0), (4, xj (xw_lorf (xw_lushrf (xJ m (xw_rf t 0) (xw_ishrf (xR m t 2) 6)) (xw_iandf (xR m t 2) 63)) (xw_lshlf (xJ m (xw_rf t 0) ((xw_ishrf (xR m t 2) 6) + 1)) (64 - (xw_iandf (xR m t 2) 63)))))]) (st' := []) (m' := m) (fun ex ns r q => ?_) ?_
        · refine xw_ic_leF rfl (w32_cg (w32_w _)) (w32_cg rfl) (Int.not_le.mpr h5) ?_
          refine xw_lload rfl rfl ?_
          refine xw_aload_n rfl rfl rfl ?_
          refine xw_gfV (qi := 0) rfl (xw_obd g1) xk11_0 rfl ?_
          refine xw_iload_n rfl rfl ?_
          refine xw_iconst rfl ?_
          refine xw_iadd rfl ?_
          refine xw_laldc (n := (xw_le B (xw_rf t 0))) (v := (m (xw_rf t 0) ((xw_ishrf (xR m t 2) 6) + 1))) (v' := (xJ m (xw_rf t 0) ((xw_ishrf (xR m t 2) 6) + 1))) rfl hB (xw_obd g4) rfl g6 rfl rfl ?_
          refine xw_bipush (e := 64) rfl (by decide +kernel) ?_
          refine xw_iload_n rfl rfl ?_
          refine xw_isub rfl ?_
          refine xw_lshl (z := (xw_lshlf (xJ m (xw_rf t 0) ((xw_ishrf (xR m t 2) 6) + 1)) (64 - (xw_iandf (xR m t 2) 63)))) rfl (xw_lshle _ _) ?_
          refine xw_lor (z := (xw_lorf (xw_lushrf (xJ m (xw_rf t 0) (xw_ishrf (xR m t 2) 6)) (xw_iandf (xR m t 2) 63)) (xw_lshlf (xJ m (xw_rf t 0) ((xw_ishrf (xR m t 2) 6) + 1)) (64 - (xw_iandf (xR m t 2) 63))))) rfl (xw_lore _ _) ?_
          refine xw_lstore (L' := [(4, xj (xw_lorf (xw_lushrf (xJ m (xw_rf t 0) (xw_ishrf (xR m t 2) 6)) (xw_iandf (xR m t 2) 63)) (xw_lshlf (xJ m (xw_rf t 0) ((xw_ishrf (xR m t 2) 6) + 1)) (64 - (xw_iandf (xR m t 2) 63))))), (3, xi (xw_iandf (xR m t 2) 63)), (2, xi (xw_ishrf (xR m t 2) 6)), (0, xa t), (1, xi p0)]) rfl (by decide) rfl ?_
          refine xw_lo (L2 := [(0, xa t), (1, xi p0), (4, xj (xw_lorf (xw_lushrf (xJ m (xw_rf t 0) (xw_ishrf (xR m t 2) 6)) (xw_iandf (xR m t 2) 63)) (xw_lshlf (xJ m (xw_rf t 0) ((xw_ishrf (xR m t 2) 6) + 1)) (64 - (xw_iandf (xR m t 2) 63)))))]) (List.forall_mem_cons.mpr ⟨rfl, List.forall_mem_cons.mpr ⟨rfl, List.forall_mem_cons.mpr ⟨rfl, fun _ h => absurd h List.not_mem_nil⟩⟩⟩) ?_
          exact q
        exact ygk19_71 hB _ _ _ _ cp0 (w64_ti _)
      · refine xS_of (pc' := 71) (L' := [(0, xa t), (1, xi p0), (4, xj (xw_lushrf (xJ m (xw_rf t 0) (xw_ishrf (xR m t 2) 6)) (xw_iandf (xR m t 2) 63)))]) (st' := []) (m' := m) (fun ex ns r q => ?_) ?_
        · refine xw_ic_leT rfl (w32_cg (w32_w _)) (w32_cg rfl) (Int.not_lt.mp h5) ?_
          refine xw_lo (L2 := [(0, xa t), (1, xi p0), (4, xj (xw_lushrf (xJ m (xw_rf t 0) (xw_ishrf (xR m t 2) 6)) (xw_iandf (xR m t 2) 63)))]) (List.forall_mem_cons.mpr ⟨rfl, List.forall_mem_cons.mpr ⟨rfl, List.forall_mem_cons.mpr ⟨rfl, fun _ h => absurd h List.not_mem_nil⟩⟩⟩) ?_
          exact q
        exact ygk19_71 hB _ _ _ _ cp0 (w64_ti _)
theorem ygf20 {B : Nat} (hB : B ≤ 512) {xs : Nat → Int32} {SL d : Nat} : ∀ t p0 p1 m, w32 p0 = p0 → w32 p1 = p1 → xS B xs SL (d + 1) 20 (3, (some .int), [], 12) 1 0 [(0, xa t), (1, xi p0), (2, xi p1)] [] m (yf20 B t p0 p1 m) := by
  intro t p0 p1 m cp0 cp1
  unfold yf20
  refine xS_g (fun g0 => ?_)
  refine xS_of (pc' := 2) (L' := [(2, xi p1)]) (st' := [xi p0, xa t]) (m' := m) (fun ex ns r q => ?_) ?_
  · refine xw_aload_n rfl rfl rfl ?_
    refine xw_iload_n rfl rfl ?_
    refine xw_lo (L2 := [(2, xi p1)]) (List.forall_mem_cons.mpr ⟨rfl, fun _ h => absurd h List.not_mem_nil⟩) ?_
    exact q
  refine xS_call (q := 19) (n := 2) (kq := 2) (as := [xa t, xi p0]) (st1 := []) rfl rfl rfl rfl rfl rfl rfl rfl rfl rfl (fun _ => xw_rcv1 (t := 11) (xw_obd g0) rfl) rfl (List.forall_mem_cons.mpr ⟨rfl, List.forall_mem_cons.mpr ⟨rfl, fun _ h => absurd h List.not_mem_nil⟩⟩) (ygf19 hB _ _ _ cp0) (fun v1 m1 cv1 => ?_)
  refine xS_of (pc' := 11) (L' := [(2, xi p1)]) (st' := [xi (w32 (min v1 p1))]) (m' := m1) (fun ex ns r q => ?_) ?_
  · refine xw_iload_n rfl rfl ?_
    refine xw_i2l rfl (w32_cg cp1) ?_
    refine xw_minJ rfl rfl (w64_cg cv1) (w64_cg (w64_32 cp1)) rfl ?_
    refine xw_l2i rfl ?_
    refine xw_cst (st' := [xi (w32 (min v1 p1))]) (xw_sc (xi_c rfl) rfl) ?_
    exact q
  exact xS_ret (v := (w32 (min v1 p1))) rfl rfl xw_rtI (w32_w _)
theorem ysl18_187 {B : Nat} (hB : B ≤ 512) {xs : Nat → Int32} {SL d : Nat} {r187 : Int → xw_M → xP} (hr187 : ∀ x5 m, w32 x5 = x5 → xS B xs SL (d + 2) 18 (6, (some .boolean), [], 11) 4 187 [(0, xa 508), (5, xi x5)] [] m (r187 x5 m)) : ∀ x5 m, w32 x5 = x5 → xS B xs SL (d + 2) 18 (6, (some .boolean), [], 11) 4 187 [(0, xa 508), (5, xi x5)] [] m (yl18_187 B r187 x5 m) := by
  intro x5 m c5
  unfold yl18_187
  refine xS_of (pc' := 193) (L' := [(0, xa 508), (5, xi x5)]) (st' := [xi (xR m 508 14), xi x5]) (m' := m) (fun ex ns r q => ?_) ?_
  · refine xw_iload rfl rfl ?_
    refine xw_aload_n rfl rfl rfl ?_
    refine xw_gfIc (v := (m 508 14)) (v' := (xR m 508 14)) rfl (xw_obd (by decide +kernel)) xk10_14 (qi := 14) rfl rfl rfl ?_
    exact q
  refine xS_if (fun h0 => ?_) (fun h0 => ?_)
  · refine xS_of (pc' := 208) (L' := [(0, xa 508), (5, xi x5)]) (st' := [xi 8, xa 530, xi x5, xa 513]) (m' := m) (fun ex ns r q => ?_) ?_
    · refine xw_ic_geF rfl (w32_cg c5) (w32_cg (w32_xR _ _ _)) (Int.not_le.mpr h0) ?_
      refine xw_aload_n rfl rfl rfl ?_
      refine xw_gfR (n := 513) (e := 513) rfl (xw_obd (by decide +kernel)) (by decide +kernel) (by decide +kernel) rfl ?_
      refine xw_iload rfl rfl ?_
      refine xw_aload_n rfl rfl rfl ?_
      refine xw_gfR (n := 530) (e := 530) rfl (xw_obd (by decide +kernel)) (by decide +kernel) (by decide +kernel) rfl ?_
      refine xw_bipush (e := 8) rfl (by decide +kernel) ?_
      refine xw_lo (L2 := [(0, xa 508), (5, xi x5)]) (List.forall_mem_cons.mpr ⟨rfl, List.forall_mem_cons.mpr ⟨rfl, fun _ h => absurd h List.not_mem_nil⟩⟩) ?_
      exact q
    refine xS_call (q := 19) (n := 2) (kq := 2) (as := [xa 530, xi 8]) (st1 := [xi x5, xa 513]) rfl rfl rfl rfl rfl rfl rfl rfl rfl rfl (fun _ => xw_rcv1 (t := 11) (xw_obd (by decide +kernel)) rfl) rfl (List.forall_mem_cons.mpr ⟨rfl, List.forall_mem_cons.mpr ⟨rfl, fun _ h => absurd h List.not_mem_nil⟩⟩) (ygf19 hB _ _ _ rfl) (fun v1 m1 cv1 => ?_)
    refine xS_g (fun g1 => ?_)
    refine xS_of (pc' := 231) (L' := [(0, xa 508), (5, xi x5)]) (st' := [xi (w32 ((xR m1 508 0) - 1)), xi 16, xa 530, xi x5, xa 514]) (m' := (xw_u m1 513 x5 v1)) (fun ex ns r q => ?_) ?_
    · refine xw_l2i rfl ?_
      refine xw_iast (n := 200) rfl hB (xw_obd (by decide +kernel)) rfl g1 ?_
      refine xw_aload_n rfl rfl rfl ?_
      refine xw_gfR (n := 514) (e := 514) rfl (xw_obd (by decide +kernel)) (by decide +kernel) (by decide +kernel) rfl ?_
      refine xw_iload rfl rfl ?_
      refine xw_aload_n rfl rfl rfl ?_
      refine xw_gfR (n := 530) (e := 530) rfl (xw_obd (by decide +kernel)) (by decide +kernel) (by decide +kernel) rfl ?_
      refine xw_bipush (e := 16) rfl (by decide +kernel) ?_
      refine xw_aload_n rfl rfl rfl ?_
      refine xw_gfIc (v := (m1 508 0)) (v' := (xR m1 508 0)) rfl (xw_obd (by decide +kernel)) xk10_0 (qi := 0) rfl (xw_un (fun e => absurd e.1 (by decide)) rfl) rfl ?_
      refine xw_iconst rfl ?_
      refine xw_isub rfl ?_
      refine xw_cst (st' := [xi (w32 ((xR m1 508 0) - 1)), xi 16, xa 530, xi x5, xa 514]) (xw_sc (xi_c rfl) (xw_sc rfl (xw_sc rfl rfl))) ?_
      refine xw_lo (L2 := [(0, xa 508), (5, xi x5)]) (List.forall_mem_cons.mpr ⟨rfl, List.forall_mem_cons.mpr ⟨rfl, fun _ h => absurd h List.not_mem_nil⟩⟩) ?_
      exact q
    refine xS_call (q := 20) (n := 3) (kq := 1) (as := [xa 530, xi 16, xi (w32 ((xR m1 508 0) - 1))]) (st1 := [xi x5, xa 514]) rfl rfl rfl rfl rfl rfl rfl rfl rfl rfl (fun _ => xw_rcv1 (t := 11) (xw_obd (by decide +kernel)) rfl) rfl (List.forall_mem_cons.mpr ⟨rfl, List.forall_mem_cons.mpr ⟨rfl, List.forall_mem_cons.mpr ⟨rfl, fun _ h => absurd h List.not_mem_nil⟩⟩⟩) (ygf20 hB _ _ _ _ rfl (w32_w _)) (fun v2 m2 cv2 => ?_)
    refine xS_of (pc' := 259) (L' := [(0, xa 508), (5, xi x5)]) (st' := [xi (w32 ((xR m2 508 0) - v2)), xi 16, xa 530, xi x5, xa 515]) (m' := (xw_u m2 514 x5 v2)) (fun ex ns r q => ?_) ?_
    · refine xw_iast (n := 200) rfl hB (xw_obd (by decide +kernel)) rfl g1 ?_
      refine xw_aload_n rfl rfl rfl ?_
      refine xw_gfR (n := 515) (e := 515) rfl (xw_obd (by decide +kernel)) (by decide +kernel) (by decide +kernel) rfl ?_
      refine xw_iload rfl rfl ?_
      refine xw_aload_n rfl rfl rfl ?_
      refine xw_gfR (n := 530) (e := 530) rfl (xw_obd (by decide +kernel)) (by decide +kernel) (by decide +kernel) rfl ?_
      refine xw_bipush (e := 16) rfl (by decide +kernel) ?_
      refine xw_aload_n rfl rfl rfl ?_
      refine xw_gfIc (v := (m2 508 0)) (v' := (xR m2 508 0)) rfl (xw_obd (by decide +kernel)) xk10_0 (qi := 0) rfl (xw_un (fun e => absurd e.1 (by decide)) rfl) rfl ?_
      refine xw_aload_n rfl rfl rfl ?_
      refine xw_gfR (n := 514) (e := 514) rfl (xw_obd (by decide +kernel)) (by decide +kernel) (by decide +kernel) rfl ?_
      refine xw_iload rfl rfl ?_
      refine xw_ialdc (n := 200) (v := v2) (v' := v2) rfl hB (xw_obd (by decide +kernel)) rfl g1 xw_us cv2 ?_
      refine xw_isub rfl ?_
      refine xw_cst (st' := [xi (w32 ((xR m2 508 0) - v2)), xi 16, xa 530, xi x5, xa 515]) (xw_sc (xi_c rfl) (xw_sc rfl (xw_sc rfl rfl))) ?_
      refine xw_lo (L2 := [(0, xa 508), (5, xi x5)]) (List.forall_mem_cons.mpr ⟨rfl, List.forall_mem_cons.mpr ⟨rfl, fun _ h => absurd h List.not_mem_nil⟩⟩) ?_
      exact q
    refine xS_call (q := 20) (n := 3) (kq := 1) (as := [xa 530, xi 16, xi (w32 ((xR m2 508 0) - v2))]) (st1 := [xi x5, xa 515]) rfl rfl rfl rfl rfl rfl rfl rfl rfl rfl (fun _ => xw_rcv1 (t := 11) (xw_obd (by decide +kernel)) rfl) rfl (List.forall_mem_cons.mpr ⟨rfl, List.forall_mem_cons.mpr ⟨rfl, List.forall_mem_cons.mpr ⟨rfl, fun _ h => absurd h List.not_mem_nil⟩⟩⟩) (ygf20 hB _ _ _ _ rfl (w32_w _)) (fun v3 m3 cv3 => ?_)
    refine xS_of (pc' := 187) (L' := [(0, xa 508), (5, xi (w32 (x5 + 1)))]) (st' := []) (m' := (xw_u m3 515 x5 v3)) (fun ex ns r q => ?_) ?_
    · refine xw_iast (n := 200) rfl hB (xw_obd (by decide +kernel)) rfl g1 ?_
      refine xw_iincc (z := (w32 (x5 + 1))) (L' := [(5, xi (w32 (x5 + 1))), (0, xa 508)]) rfl rfl (by decide) rfl rfl ?_
      refine xw_goto rfl ?_
      refine xw_lo (L2 := [(0, xa 508), (5, xi (w32 (x5 + 1)))]) (List.forall_mem_cons.mpr ⟨rfl, List.forall_mem_cons.mpr ⟨rfl, fun _ h => absurd h List.not_mem_nil⟩⟩) ?_
      exact q
    exact hr187 _ _ (w32_w _)
  · refine xS_of (pc' := 270) (L' := [(0, xa 508), (5, xi x5)]) (st' := [xi 1]) (m' := m) (fun ex ns r q => ?_) ?_
    · refine xw_ic_geT rfl (w32_cg c5) (w32_cg (w32_xR _ _ _)) (Int.not_lt.mp h0) ?_
      refine xw_iconst rfl ?_
      exact q
    exact xS_ret (v := 1) rfl rfl (xw_rtZ (Or.inr rfl)) (Or.inr rfl)
theorem ygl18_187 {B : Nat} (hB : B ≤ 512) {xs : Nat → Int32} {SL d : Nat} : ∀ n x5 m, w32 x5 = x5 → xS B xs SL (d + 2) 18 (6, (some .boolean), [], 11) 4 187 [(0, xa 508), (5, xi x5)] [] m (xl1 (yl18_187 B) n x5 m) := by
  intro n
  induction n with
  | zero => intro x5 m c5; exact xS_none
  | succ n ih => exact ysl18_187 hB ih
theorem ysl18_135 {B : Nat} (hB : B ≤ 512) {xs : Nat → Int32} {SL d : Nat} {r135 : Int → xw_M → xP} (hr135 : ∀ x5 m, w32 x5 = x5 → xS B xs SL (d + 2) 18 (6, (some .boolean), [], 11) 4 135 [(0, xa 508), (5, xi x5)] [] m (r135 x5 m)) : ∀ x5 m, w32 x5 = x5 → xS B xs SL (d + 2) 18 (6, (some .boolean), [], 11) 4 135 [(0, xa 508), (5, xi x5)] [] m (yl18_135 B r135 x5 m) := by
  intro x5 m c5
  unfold yl18_135
  refine xS_of (pc' := 141) (L' := [(0, xa 508), (5, xi x5)]) (st' := [xi (xR m 508 11), xi x5]) (m' := m) (fun ex ns r q => ?_) ?_
  · refine xw_iload rfl rfl ?_
    refine xw_aload_n rfl rfl rfl ?_
    refine xw_gfIc (v := (m 508 11)) (v' := (xR m 508 11)) rfl (xw_obd (by decide +kernel)) xk10_11 (qi := 11) rfl rfl rfl ?_
    exact q
  refine xS_if (fun h0 => ?_) (fun h0 => ?_)
  · refine xS_of (pc' := 156) (L' := [(0, xa 508), (5, xi x5)]) (st' := [xi 32, xa 530, xi x5, xa 511]) (m' := m) (fun ex ns r q => ?_) ?_
    · refine xw_ic_geF rfl (w32_cg c5) (w32_cg (w32_xR _ _ _)) (Int.not_le.mpr h0) ?_
      refine xw_aload_n rfl rfl rfl ?_
      refine xw_gfR (n := 511) (e := 511) rfl (xw_obd (by decide +kernel)) (by decide +kernel) (by decide +kernel) rfl ?_
      refine xw_iload rfl rfl ?_
      refine xw_aload_n rfl rfl rfl ?_
      refine xw_gfR (n := 530) (e := 530) rfl (xw_obd (by decide +kernel)) (by decide +kernel) (by decide +kernel) rfl ?_
      refine xw_bipush (e := 32) rfl (by decide +kernel) ?_
      refine xw_lo (L2 := [(0, xa 508), (5, xi x5)]) (List.forall_mem_cons.mpr ⟨rfl, List.forall_mem_cons.mpr ⟨rfl, fun _ h => absurd h List.not_mem_nil⟩⟩) ?_
      exact q
    refine xS_call (q := 19) (n := 2) (kq := 2) (as := [xa 530, xi 32]) (st1 := [xi x5, xa 511]) rfl rfl rfl rfl rfl rfl rfl rfl rfl rfl (fun _ => xw_rcv1 (t := 11) (xw_obd (by decide +kernel)) rfl) rfl (List.forall_mem_cons.mpr ⟨rfl, List.forall_mem_cons.mpr ⟨rfl, fun _ h => absurd h List.not_mem_nil⟩⟩) (ygf19 hB _ _ _ rfl) (fun v1 m1 cv1 => ?_)
    refine xS_g (fun g1 => ?_)
    refine xS_of (pc' := 173) (L' := [(0, xa 508), (5, xi x5)]) (st' := [xi 32, xa 530, xi x5, xa 512]) (m' := (xw_u m1 511 x5 v1)) (fun ex ns r q => ?_) ?_
    · refine xw_l2i rfl ?_
      refine xw_iast (n := 16) rfl hB (xw_obd (by decide +kernel)) rfl g1 ?_
      refine xw_aload_n rfl rfl rfl ?_
      refine xw_gfR (n := 512) (e := 512) rfl (xw_obd (by decide +kernel)) (by decide +kernel) (by decide +kernel) rfl ?_
      refine xw_iload rfl rfl ?_
      refine xw_aload_n rfl rfl rfl ?_
      refine xw_gfR (n := 530) (e := 530) rfl (xw_obd (by decide +kernel)) (by decide +kernel) (by decide +kernel) rfl ?_
      refine xw_bipush (e := 32) rfl (by decide +kernel) ?_
      refine xw_lo (L2 := [(0, xa 508), (5, xi x5)]) (List.forall_mem_cons.mpr ⟨rfl, List.forall_mem_cons.mpr ⟨rfl, fun _ h => absurd h List.not_mem_nil⟩⟩) ?_
      exact q
    refine xS_call (q := 19) (n := 2) (kq := 2) (as := [xa 530, xi 32]) (st1 := [xi x5, xa 512]) rfl rfl rfl rfl rfl rfl rfl rfl rfl rfl (fun _ => xw_rcv1 (t := 11) (xw_obd (by decide +kernel)) rfl) rfl (List.forall_mem_cons.mpr ⟨rfl, List.forall_mem_cons.mpr ⟨rfl, fun _ h => absurd h List.not_mem_nil⟩⟩) (ygf19 hB _ _ _ rfl) (fun v2 m2 cv2 => ?_)
    refine xS_of (pc' := 135) (L' := [(0, xa 508), (5, xi (w32 (x5 + 1)))]) (st' := []) (m' := (xw_u m2 512 x5 v2)) (fun ex ns r q => ?_) ?_
    · refine xw_l2i rfl ?_
      refine xw_iast (n := 16) rfl hB (xw_obd (by decide +kernel)) rfl g1 ?_
      refine xw_iincc (z := (w32 (x5 + 1))) (L' := [(5, xi (w32 (x5 + 1))), (0, xa 508)]) rfl rfl (by decide) rfl rfl ?_
      refine xw_goto rfl ?_
      refine xw_lo (L2 := [(0, xa 508), (5, xi (w32 (x5 + 1)))]) (List.forall_mem_cons.mpr ⟨rfl, List.forall_mem_cons.mpr ⟨rfl, fun _ h => absurd h List.not_mem_nil⟩⟩) ?_
      exact q
    exact hr135 _ _ (w32_w _)
  · refine xS_of (pc' := 187) (L' := [(0, xa 508), (5, xi 0)]) (st' := []) (m' := m) (fun ex ns r q => ?_) ?_
    · refine xw_ic_geT rfl (w32_cg c5) (w32_cg (w32_xR _ _ _)) (Int.not_lt.mp h0) ?_
      refine xw_iconst rfl ?_
      refine xw_istore (L' := [(5, xi 0), (0, xa 508)]) rfl (by decide) rfl ?_
      refine xw_lo (L2 := [(0, xa 508), (5, xi 0)]) (List.forall_mem_cons.mpr ⟨rfl, List.forall_mem_cons.mpr ⟨rfl, fun _ h => absurd h List.not_mem_nil⟩⟩) ?_
      exact q
    exact ygl18_187 hB 1000000 _ _ rfl
theorem ygl18_135 {B : Nat} (hB : B ≤ 512) {xs : Nat → Int32} {SL d : Nat} : ∀ n x5 m, w32 x5 = x5 → xS B xs SL (d + 2) 18 (6, (some .boolean), [], 11) 4 135 [(0, xa 508), (5, xi x5)] [] m (xl1 (yl18_135 B) n x5 m) := by
  intro n
  induction n with
  | zero => intro x5 m c5; exact xS_none
  | succ n ih => exact ysl18_135 hB ih
theorem ygk18_38 {B : Nat} (hB : B ≤ 512) {xs : Nat → Int32} {SL d : Nat} : ∀ x1 x3 m, w64 x1 = x1 → w64 x3 = x3 → xS B xs SL (d + 2) 18 (6, (some .boolean), [], 11) 4 38 [(0, xa 508), (1, xj x1), (3, xj x3)] [] m (yk18_38 B x1 x3 m) := by
  intro x1 x3 m c1 c3
  unfold yk18_38
  refine xS_of (pc' := 44) (L' := [(0, xa 508), (1, xj x1), (3, xj x3)]) (st' := [xj x3, xj x1, xa 530]) (m' := m) (fun ex ns r q => ?_) ?_
  · refine xw_aload_n rfl rfl rfl ?_
    refine xw_gfR (n := 530) (e := 530) rfl (xw_obd (by decide +kernel)) (by decide +kernel) (by decide +kernel) rfl ?_
    refine xw_lload_n rfl rfl ?_
    refine xw_lload_n rfl rfl ?_
    exact q
  refine xS_if (fun h0 => ?_) (fun h0 => ?_)
  · refine xS_of (pc' := 64) (L' := [(0, xa 508)]) (st' := [xi 32, xa 530, xa 508]) (m' := (xw_u m 530 2 0)) (fun ex ns r q => ?_) ?_
    · refine xw_jc_leF rfl rfl (w64_cg c1) (w64_cg c3) (Int.not_le.mpr h0) ?_
      refine xw_iconst rfl ?_
      refine xw_goto rfl ?_
      refine xw_pfI rfl (xw_obd (by decide +kernel)) xk11_2 (qi := 2) rfl (xw_okI rfl) ?_
      refine xw_aload_n rfl rfl rfl ?_
      refine xw_aload_n rfl rfl rfl ?_
      refine xw_gfR (n := 530) (e := 530) rfl (xw_obd (by decide +kernel)) (by decide +kernel) (by decide +kernel) rfl ?_
      refine xw_bipush (e := 32) rfl (by decide +kernel) ?_
      refine xw_lo (L2 := [(0, xa 508)]) (List.forall_mem_cons.mpr ⟨rfl, fun _ h => absurd h List.not_mem_nil⟩) ?_
      exact q
    refine xS_call (q := 19) (n := 2) (kq := 2) (as := [xa 530, xi 32]) (st1 := [xa 508]) rfl rfl rfl rfl rfl rfl rfl rfl rfl rfl (fun _ => xw_rcv1 (t := 11) (xw_obd (by decide +kernel)) rfl) rfl (List.forall_mem_cons.mpr ⟨rfl, List.forall_mem_cons.mpr ⟨rfl, fun _ h => absurd h List.not_mem_nil⟩⟩) (ygf19 hB _ _ _ rfl) (fun v1 m1 cv1 => ?_)
    refine xS_of (pc' := 78) (L' := [(0, xa 508)]) (st' := [xi 32, xa 530, xa 508]) (m' := (xw_u m1 508 8 v1)) (fun ex ns r q => ?_) ?_
    · refine xw_l2i rfl ?_
      refine xw_pfI rfl (xw_obd (by decide +kernel)) xk10_8 (qi := 8) rfl (xw_okI rfl) ?_
      refine xw_aload_n rfl rfl rfl ?_
      refine xw_aload_n rfl rfl rfl ?_
      refine xw_gfR (n := 530) (e := 530) rfl (xw_obd (by decide +kernel)) (by decide +kernel) (by decide +kernel) rfl ?_
      refine xw_bipush (e := 32) rfl (by decide +kernel) ?_
      refine xw_lo (L2 := [(0, xa 508)]) (List.forall_mem_cons.mpr ⟨rfl, fun _ h => absurd h List.not_mem_nil⟩) ?_
      exact q
    refine xS_call (q := 19) (n := 2) (kq := 2) (as := [xa 530, xi 32]) (st1 := [xa 508]) rfl rfl rfl rfl rfl rfl rfl rfl rfl rfl (fun _ => xw_rcv1 (t := 11) (xw_obd (by decide +kernel)) rfl) rfl (List.forall_mem_cons.mpr ⟨rfl, List.forall_mem_cons.mpr ⟨rfl, fun _ h => absurd h List.not_mem_nil⟩⟩) (ygf19 hB _ _ _ rfl) (fun v2 m2 cv2 => ?_)
    refine xS_of (pc' := 95) (L' := [(0, xa 508)]) (st' := [xi 20000, xi 32, xa 530, xa 508]) (m' := (xw_u m2 508 9 v2)) (fun ex ns r q => ?_) ?_
    · refine xw_l2i rfl ?_
      refine xw_pfI rfl (xw_obd (by decide +kernel)) xk10_9 (qi := 9) rfl (xw_okI rfl) ?_
      refine xw_aload_n rfl rfl rfl ?_
      refine xw_aload_n rfl rfl rfl ?_
      refine xw_gfR (n := 530) (e := 530) rfl (xw_obd (by decide +kernel)) (by decide +kernel) (by decide +kernel) rfl ?_
      refine xw_bipush (e := 32) rfl (by decide +kernel) ?_
      refine xw_sipush (e := 20000) rfl (by decide +kernel) ?_
      refine xw_lo (L2 := [(0, xa 508)]) (List.forall_mem_cons.mpr ⟨rfl, fun _ h => absurd h List.not_mem_nil⟩) ?_
      exact q
    refine xS_call (q := 20) (n := 3) (kq := 1) (as := [xa 530, xi 32, xi 20000]) (st1 := [xa 508]) rfl rfl rfl rfl rfl rfl rfl rfl rfl rfl (fun _ => xw_rcv1 (t := 11) (xw_obd (by decide +kernel)) rfl) rfl (List.forall_mem_cons.mpr ⟨rfl, List.forall_mem_cons.mpr ⟨rfl, List.forall_mem_cons.mpr ⟨rfl, fun _ h => absurd h List.not_mem_nil⟩⟩⟩) (ygf20 hB _ _ _ _ rfl rfl) (fun v3 m3 cv3 => ?_)
    refine xS_of (pc' := 110) (L' := [(0, xa 508)]) (st' := [xi 16, xi 16, xa 530, xa 508]) (m' := (xw_u m3 508 10 v3)) (fun ex ns r q => ?_) ?_
    · refine xw_pfI rfl (xw_obd (by decide +kernel)) xk10_10 (qi := 10) rfl (xw_okI rfl) ?_
      refine xw_aload_n rfl rfl rfl ?_
      refine xw_aload_n rfl rfl rfl ?_
      refine xw_gfR (n := 530) (e := 530) rfl (xw_obd (by decide +kernel)) (by decide +kernel) (by decide +kernel) rfl ?_
      refine xw_bipush (e := 16) rfl (by decide +kernel) ?_
      refine xw_bipush (e := 16) rfl (by decide +kernel) ?_
      refine xw_lo (L2 := [(0, xa 508)]) (List.forall_mem_cons.mpr ⟨rfl, fun _ h => absurd h List.not_mem_nil⟩) ?_
      exact q
    refine xS_call (q := 20) (n := 3) (kq := 1) (as := [xa 530, xi 16, xi 16]) (st1 := [xa 508]) rfl rfl rfl rfl rfl rfl rfl rfl rfl rfl (fun _ => xw_rcv1 (t := 11) (xw_obd (by decide +kernel)) rfl) rfl (List.forall_mem_cons.mpr ⟨rfl, List.forall_mem_cons.mpr ⟨rfl, List.forall_mem_cons.mpr ⟨rfl, fun _ h => absurd h List.not_mem_nil⟩⟩⟩) (ygf20 hB _ _ _ _ rfl rfl) (fun v4 m4 cv4 => ?_)
    refine xS_of (pc' := 126) (L' := [(0, xa 508)]) (st' := [xi 200, xi 16, xa 530, xa 508]) (m' := (xw_u m4 508 11 v4)) (fun ex ns r q => ?_) ?_
    · refine xw_pfI rfl (xw_obd (by decide +kernel)) xk10_11 (qi := 11) rfl (xw_okI rfl) ?_
      refine xw_aload_n rfl rfl rfl ?_
      refine xw_aload_n rfl rfl rfl ?_
      refine xw_gfR (n := 530) (e := 530) rfl (xw_obd (by decide +kernel)) (by decide +kernel) (by decide +kernel) rfl ?_
      refine xw_bipush (e := 16) rfl (by decide +kernel) ?_
      refine xw_sipush (e := 200) rfl (by decide +kernel) ?_
      refine xw_lo (L2 := [(0, xa 508)]) (List.forall_mem_cons.mpr ⟨rfl, fun _ h => absurd h List.not_mem_nil⟩) ?_
      exact q
    refine xS_call (q := 20) (n := 3) (kq := 1) (as := [xa 530, xi 16, xi 200]) (st1 := [xa 508]) rfl rfl rfl rfl rfl rfl rfl rfl rfl rfl (fun _ => xw_rcv1 (t := 11) (xw_obd (by decide +kernel)) rfl) rfl (List.forall_mem_cons.mpr ⟨rfl, List.forall_mem_cons.mpr ⟨rfl, List.forall_mem_cons.mpr ⟨rfl, fun _ h => absurd h List.not_mem_nil⟩⟩⟩) (ygf20 hB _ _ _ _ rfl rfl) (fun v5 m5 cv5 => ?_)
    refine xS_of (pc' := 135) (L' := [(0, xa 508), (5, xi 0)]) (st' := []) (m' := (xw_u m5 508 14 v5)) (fun ex ns r q => ?_) ?_
    · refine xw_pfI rfl (xw_obd (by decide +kernel)) xk10_14 (qi := 14) rfl (xw_okI rfl) ?_
      refine xw_iconst rfl ?_
      refine xw_istore (L' := [(5, xi 0), (0, xa 508)]) rfl (by decide) rfl ?_
      refine xw_lo (L2 := [(0, xa 508), (5, xi 0)]) (List.forall_mem_cons.mpr ⟨rfl, List.forall_mem_cons.mpr ⟨rfl, fun _ h => absurd h List.not_mem_nil⟩⟩) ?_
      exact q
    exact ygl18_135 hB 1000000 _ _ rfl
  · refine xS_of (pc' := 64) (L' := [(0, xa 508)]) (st' := [xi 32, xa 530, xa 508]) (m' := (xw_u m 530 2 32768)) (fun ex ns r q => ?_) ?_
    · refine xw_jc_leT rfl rfl (w64_cg c1) (w64_cg c3) (Int.not_lt.mp h0) ?_
      refine xw_ldc (e := 32768) rfl (by decide +kernel) ?_
      refine xw_pfI rfl (xw_obd (by decide +kernel)) xk11_2 (qi := 2) rfl (xw_okI rfl) ?_
      refine xw_aload_n rfl rfl rfl ?_
      refine xw_aload_n rfl rfl rfl ?_
      refine xw_gfR (n := 530) (e := 530) rfl (xw_obd (by decide +kernel)) (by decide +kernel) (by decide +kernel) rfl ?_
      refine xw_bipush (e := 32) rfl (by decide +kernel) ?_
      refine xw_lo (L2 := [(0, xa 508)]) (List.forall_mem_cons.mpr ⟨rfl, fun _ h => absurd h List.not_mem_nil⟩) ?_
      exact q
    refine xS_call (q := 19) (n := 2) (kq := 2) (as := [xa 530, xi 32]) (st1 := [xa 508]) rfl rfl rfl rfl rfl rfl rfl rfl rfl rfl (fun _ => xw_rcv1 (t := 11) (xw_obd (by decide +kernel)) rfl) rfl (List.forall_mem_cons.mpr ⟨rfl, List.forall_mem_cons.mpr ⟨rfl, fun _ h => absurd h List.not_mem_nil⟩⟩) (ygf19 hB _ _ _ rfl) (fun v6 m6 cv6 => ?_)
    refine xS_of (pc' := 78) (L' := [(0, xa 508)]) (st' := [xi 32, xa 530, xa 508]) (m' := (xw_u m6 508 8 v6)) (fun ex ns r q => ?_) ?_
    · refine xw_l2i rfl ?_
      refine xw_pfI rfl (xw_obd (by decide +kernel)) xk10_8 (qi := 8) rfl (xw_okI rfl) ?_
      refine xw_aload_n rfl rfl rfl ?_
      refine xw_aload_n rfl rfl rfl ?_
      refine xw_gfR (n := 530) (e := 530) rfl (xw_obd (by decide +kernel)) (by decide +kernel) (by decide +kernel) rfl ?_
      refine xw_bipush (e := 32) rfl (by decide +kernel) ?_
      refine xw_lo (L2 := [(0, xa 508)]) (List.forall_mem_cons.mpr ⟨rfl, fun _ h => absurd h List.not_mem_nil⟩) ?_
      exact q
    refine xS_call (q := 19) (n := 2) (kq := 2) (as := [xa 530, xi 32]) (st1 := [xa 508]) rfl rfl rfl rfl rfl rfl rfl rfl rfl rfl (fun _ => xw_rcv1 (t := 11) (xw_obd (by decide +kernel)) rfl) rfl (List.forall_mem_cons.mpr ⟨rfl, List.forall_mem_cons.mpr ⟨rfl, fun _ h => absurd h List.not_mem_nil⟩⟩) (ygf19 hB _ _ _ rfl) (fun v7 m7 cv7 => ?_)
    refine xS_of (pc' := 95) (L' := [(0, xa 508)]) (st' := [xi 20000, xi 32, xa 530, xa 508]) (m' := (xw_u m7 508 9 v7)) (fun ex ns r q => ?_) ?_
    · refine xw_l2i rfl ?_
      refine xw_pfI rfl (xw_obd (by decide +kernel)) xk10_9 (qi := 9) rfl (xw_okI rfl) ?_
      refine xw_aload_n rfl rfl rfl ?_
      refine xw_aload_n rfl rfl rfl ?_
      refine xw_gfR (n := 530) (e := 530) rfl (xw_obd (by decide +kernel)) (by decide +kernel) (by decide +kernel) rfl ?_
      refine xw_bipush (e := 32) rfl (by decide +kernel) ?_
      refine xw_sipush (e := 20000) rfl (by decide +kernel) ?_
      refine xw_lo (L2 := [(0, xa 508)]) (List.forall_mem_cons.mpr ⟨rfl, fun _ h => absurd h List.not_mem_nil⟩) ?_
      exact q
    refine xS_call (q := 20) (n := 3) (kq := 1) (as := [xa 530, xi 32, xi 20000]) (st1 := [xa 508]) rfl rfl rfl rfl rfl rfl rfl rfl rfl rfl (fun _ => xw_rcv1 (t := 11) (xw_obd (by decide +kernel)) rfl) rfl (List.forall_mem_cons.mpr ⟨rfl, List.forall_mem_cons.mpr ⟨rfl, List.forall_mem_cons.mpr ⟨rfl, fun _ h => absurd h List.not_mem_nil⟩⟩⟩) (ygf20 hB _ _ _ _ rfl rfl) (fun v8 m8 cv8 => ?_)
    refine xS_of (pc' := 110) (L' := [(0, xa 508)]) (st' := [xi 16, xi 16, xa 530, xa 508]) (m' := (xw_u m8 508 10 v8)) (fun ex ns r q => ?_) ?_
    · refine xw_pfI rfl (xw_obd (by decide +kernel)) xk10_10 (qi := 10) rfl (xw_okI rfl) ?_
      refine xw_aload_n rfl rfl rfl ?_
      refine xw_aload_n rfl rfl rfl ?_
      refine xw_gfR (n := 530) (e := 530) rfl (xw_obd (by decide +kernel)) (by decide +kernel) (by decide +kernel) rfl ?_
      refine xw_bipush (e := 16) rfl (by decide +kernel) ?_
      refine xw_bipush (e := 16) rfl (by decide +kernel) ?_
      refine xw_lo (L2 := [(0, xa 508)]) (List.forall_mem_cons.mpr ⟨rfl, fun _ h => absurd h List.not_mem_nil⟩) ?_
      exact q
    refine xS_call (q := 20) (n := 3) (kq := 1) (as := [xa 530, xi 16, xi 16]) (st1 := [xa 508]) rfl rfl rfl rfl rfl rfl rfl rfl rfl rfl (fun _ => xw_rcv1 (t := 11) (xw_obd (by decide +kernel)) rfl) rfl (List.forall_mem_cons.mpr ⟨rfl, List.forall_mem_cons.mpr ⟨rfl, List.forall_mem_cons.mpr ⟨rfl, fun _ h => absurd h List.not_mem_nil⟩⟩⟩) (ygf20 hB _ _ _ _ rfl rfl) (fun v9 m9 cv9 => ?_)
    refine xS_of (pc' := 126) (L' := [(0, xa 508)]) (st' := [xi 200, xi 16, xa 530, xa 508]) (m' := (xw_u m9 508 11 v9)) (fun ex ns r q => ?_) ?_
    · refine xw_pfI rfl (xw_obd (by decide +kernel)) xk10_11 (qi := 11) rfl (xw_okI rfl) ?_
      refine xw_aload_n rfl rfl rfl ?_
      refine xw_aload_n rfl rfl rfl ?_
      refine xw_gfR (n := 530) (e := 530) rfl (xw_obd (by decide +kernel)) (by decide +kernel) (by decide +kernel) rfl ?_
      refine xw_bipush (e := 16) rfl (by decide +kernel) ?_
      refine xw_sipush (e := 200) rfl (by decide +kernel) ?_
      refine xw_lo (L2 := [(0, xa 508)]) (List.forall_mem_cons.mpr ⟨rfl, fun _ h => absurd h List.not_mem_nil⟩) ?_
      exact q
    refine xS_call (q := 20) (n := 3) (kq := 1) (as := [xa 530, xi 16, xi 200]) (st1 := [xa 508]) rfl rfl rfl rfl rfl rfl rfl rfl rfl rfl (fun _ => xw_rcv1 (t := 11) (xw_obd (by decide +kernel)) rfl) rfl (List.forall_mem_cons.mpr ⟨rfl, List.forall_mem_cons.mpr ⟨rfl, List.forall_mem_cons.mpr ⟨rfl, fun _ h => absurd h List.not_mem_nil⟩⟩⟩) (ygf20 hB _ _ _ _ rfl rfl) (fun v10 m10 cv10 => ?_)
    refine xS_of (pc' := 135) (L' := [(0, xa 508), (5, xi 0)]) (st' := []) (m' := (xw_u m10 508 14 v10)) (fun ex ns r q => ?_) ?_
    · refine xw_pfI rfl (xw_obd (by decide +kernel)) xk10_14 (qi := 14) rfl (xw_okI rfl) ?_
      refine xw_iconst rfl ?_
      refine xw_istore (L' := [(5, xi 0), (0, xa 508)]) rfl (by decide) rfl ?_
      refine xw_lo (L2 := [(0, xa 508), (5, xi 0)]) (List.forall_mem_cons.mpr ⟨rfl, List.forall_mem_cons.mpr ⟨rfl, fun _ h => absurd h List.not_mem_nil⟩⟩) ?_
      exact q
    exact ygl18_135 hB 1000000 _ _ rfl
theorem ygf18 {B : Nat} (hB : B ≤ 512) {xs : Nat → Int32} {SL d : Nat} : ∀ m, xS B xs SL (d + 2) 18 (6, (some .boolean), [], 11) 4 0 [(0, xa 508)] [] m (yf18 B m) := by
  intro m
  unfold yf18
  refine xS_g (fun g0 => ?_)
  refine xS_g (fun g1 => ?_)
  refine xS_of (pc' := 26) (L' := [(3, xj (xw_landf (xJ m 516 512) 4294967295)), (1, xj (xw_landf (xJ m 516 0) 4294967295)), (0, xa 508)]) (st' := [xj 0, xj (xw_landf (xJ m 516 0) 4294967295)]) (m' := m) (fun ex ns r q => ?_) ?_
  · refine xw_aload_n rfl rfl rfl ?_
    refine xw_gfR (n := 516) (e := 516) rfl (xw_obd (by decide +kernel)) (by decide +kernel) (by decide +kernel) rfl ?_
    refine xw_iconst rfl ?_
    refine xw_laldc (n := (xw_le B 516)) (v := (m 516 0)) (v' := (xJ m 516 0)) rfl hB (xw_obd (by decide +kernel)) rfl g0 rfl rfl ?_
    refine xw_ldc2 (e := 4294967295) rfl (by decide +kernel) ?_
    refine xw_land (z := (xw_landf (xJ m 516 0) 4294967295)) rfl (xw_lande _ _) ?_
    refine xw_lstore_n (L' := [(1, xj (xw_landf (xJ m 516 0) 4294967295)), (0, xa 508)]) rfl (by decide) rfl ?_
    refine xw_aload_n rfl rfl rfl ?_
    refine xw_gfR (n := 516) (e := 516) rfl (xw_obd (by decide +kernel)) (by decide +kernel) (by decide +kernel) rfl ?_
    refine xw_sipush (e := 512) rfl (by decide +kernel) ?_
    refine xw_laldc (n := (xw_le B 516)) (v := (m 516 512)) (v' := (xJ m 516 512)) rfl hB (xw_obd (by decide +kernel)) rfl g1 rfl rfl ?_
    refine xw_ldc2 (e := 4294967295) rfl (by decide +kernel) ?_
    refine xw_land (z := (xw_landf (xJ m 516 512) 4294967295)) rfl (xw_lande _ _) ?_
    refine xw_lstore_n (L' := [(3, xj (xw_landf (xJ m 516 512) 4294967295)), (1, xj (xw_landf (xJ m 516 0) 4294967295)), (0, xa 508)]) rfl (by decide) rfl ?_
    refine xw_lload_n rfl rfl ?_
    refine xw_lconst (e := 0) rfl rfl ?_
    exact q
  refine xS_if (fun h2 => ?_) (fun h2 => ?_)
  · refine xS_of (pc' := 32) (L' := [(3, xj (xw_landf (xJ m 516 512) 4294967295)), (1, xj (xw_landf (xJ m 516 0) 4294967295)), (0, xa 508)]) (st' := [xj 0, xj (xw_landf (xJ m 516 512) 4294967295)]) (m' := m) (fun ex ns r q => ?_) ?_
    · refine xw_jc_neF rfl rfl (w64_cg (w64_ti _)) (w64_cg rfl) h2 ?_
      refine xw_lload_n rfl rfl ?_
      refine xw_lconst (e := 0) rfl rfl ?_
      exact q
    refine xS_if (fun h3 => ?_) (fun h3 => ?_)
    · refine xS_of (pc' := 37) (L' := [(3, xj (xw_landf (xJ m 516 512) 4294967295)), (1, xj (xw_landf (xJ m 516 0) 4294967295)), (0, xa 508)]) (st' := [xi 0]) (m' := m) (fun ex ns r q => ?_) ?_
      · refine xw_jc_neF rfl rfl (w64_cg (w64_ti _)) (w64_cg rfl) h3 ?_
        refine xw_iconst rfl ?_
        exact q
      exact xS_ret (v := 0) rfl rfl (xw_rtZ (Or.inl rfl)) (Or.inl rfl)
    · refine xS_of (pc' := 38) (L' := [(0, xa 508), (1, xj (xw_landf (xJ m 516 0) 4294967295)), (3, xj (xw_landf (xJ m 516 512) 4294967295))]) (st' := []) (m' := m) (fun ex ns r q => ?_) ?_
      · refine xw_jc_neT rfl rfl (w64_cg (w64_ti _)) (w64_cg rfl) h3 ?_
        refine xw_lo (L2 := [(0, xa 508), (1, xj (xw_landf (xJ m 516 0) 4294967295)), (3, xj (xw_landf (xJ m 516 512) 4294967295))]) (List.forall_mem_cons.mpr ⟨rfl, List.forall_mem_cons.mpr ⟨rfl, List.forall_mem_cons.mpr ⟨rfl, fun _ h => absurd h List.not_mem_nil⟩⟩⟩) ?_
        exact q
      exact ygk18_38 hB _ _ _ (w64_ti _) (w64_ti _)
  · refine xS_of (pc' := 38) (L' := [(0, xa 508), (1, xj (xw_landf (xJ m 516 0) 4294967295)), (3, xj (xw_landf (xJ m 516 512) 4294967295))]) (st' := []) (m' := m) (fun ex ns r q => ?_) ?_
    · refine xw_jc_neT rfl rfl (w64_cg (w64_ti _)) (w64_cg rfl) h2 ?_
      refine xw_lo (L2 := [(0, xa 508), (1, xj (xw_landf (xJ m 516 0) 4294967295)), (3, xj (xw_landf (xJ m 516 512) 4294967295))]) (List.forall_mem_cons.mpr ⟨rfl, List.forall_mem_cons.mpr ⟨rfl, List.forall_mem_cons.mpr ⟨rfl, fun _ h => absurd h List.not_mem_nil⟩⟩⟩) ?_
      exact q
    exact ygk18_38 hB _ _ _ (w64_ti _) (w64_ti _)
theorem ygf21 {B : Nat} (hB : B ≤ 512) {xs : Nat → Int32} {SL d : Nat} : ∀ p0 m, w32 p0 = p0 → xS B xs SL (d + 1) 21 (2, (some .int), [], 11) 1 0 [(0, xa 508), (1, xi p0)] [] m (yf21 B p0 m) := by
  intro p0 m cp0
  unfold yf21
  refine xS_g (fun g0 => ?_)
  refine xS_of (pc' := 25) (L' := []) (st' := [xi 32, xa 530]) (m' := (xw_u m 530 2 (((xR m 514 p0) * 32768) + 32))) (fun ex ns r q => ?_) ?_
  · refine xw_aload_n rfl rfl rfl ?_
    refine xw_gfR (n := 530) (e := 530) rfl (xw_obd (by decide +kernel)) (by decide +kernel) (by decide +kernel) rfl ?_
    refine xw_aload_n rfl rfl rfl ?_
    refine xw_gfR (n := 514) (e := 514) rfl (xw_obd (by decide +kernel)) (by decide +kernel) (by decide +kernel) rfl ?_
    refine xw_iload_n rfl rfl ?_
    refine xw_ialdc (n := 200) (v := (m 514 p0)) (v' := (xR m 514 p0)) rfl hB (xw_obd (by decide +kernel)) rfl g0 rfl rfl ?_
    refine xw_ldc (e := 32768) rfl (by decide +kernel) ?_
    refine xw_imul rfl ?_
    refine xw_bipush (e := 32) rfl (by decide +kernel) ?_
    refine xw_iadd rfl ?_
    refine xw_pfI rfl (xw_obd (by decide +kernel)) xk11_2 (qi := 2) rfl (xw_okI rfl) ?_
    refine xw_aload_n rfl rfl rfl ?_
    refine xw_gfR (n := 530) (e := 530) rfl (xw_obd (by decide +kernel)) (by decide +kernel) (by decide +kernel) rfl ?_
    refine xw_bipush (e := 32) rfl (by decide +kernel) ?_
    refine xw_lo (L2 := []) (fun _ h => absurd h List.not_mem_nil) ?_
    exact q
  refine xS_call (q := 19) (n := 2) (kq := 2) (as := [xa 530, xi 32]) (st1 := []) rfl rfl rfl rfl rfl rfl rfl rfl rfl rfl (fun _ => xw_rcv1 (t := 11) (xw_obd (by decide +kernel)) rfl) rfl (List.forall_mem_cons.mpr ⟨rfl, List.forall_mem_cons.mpr ⟨rfl, fun _ h => absurd h List.not_mem_nil⟩⟩) (ygf19 hB _ _ _ rfl) (fun v1 m1 cv1 => ?_)
  refine xS_of (pc' := 29) (L' := []) (st' := [xi (w32 v1)]) (m' := m1) (fun ex ns r q => ?_) ?_
  · refine xw_l2i rfl ?_
    refine xw_cst (st' := [xi (w32 v1)]) (xw_sc (xi_c rfl) rfl) ?_
    exact q
  exact xS_ret (v := (w32 v1)) rfl rfl xw_rtI (w32_w _)
theorem ygf22 {B : Nat} (hB : B ≤ 512) {xs : Nat → Int32} {SL d : Nat} : ∀ p0 m, w32 p0 = p0 → xS B xs SL (d + 0) 22 (2, (some (.object "CubeStore$Tape")), [], 11) 3 0 [(0, xa 508), (1, xi p0)] [] m (yf22 B p0 m) := by
  intro p0 m cp0
  unfold yf22
  refine xS_g (fun g0 => ?_)
  refine xS_of (pc' := 23) (L' := [(0, xa 508), (1, xi p0)]) (st' := [xa 530]) (m' := (xw_u m 530 2 (((xR m 514 p0) * 32768) + 64))) (fun ex ns r q => ?_) ?_
  · refine xw_aload_n rfl rfl rfl ?_
    refine xw_gfR (n := 530) (e := 530) rfl (xw_obd (by decide +kernel)) (by decide +kernel) (by decide +kernel) rfl ?_
    refine xw_aload_n rfl rfl rfl ?_
    refine xw_gfR (n := 514) (e := 514) rfl (xw_obd (by decide +kernel)) (by decide +kernel) (by decide +kernel) rfl ?_
    refine xw_iload_n rfl rfl ?_
    refine xw_ialdc (n := 200) (v := (m 514 p0)) (v' := (xR m 514 p0)) rfl hB (xw_obd (by decide +kernel)) rfl g0 rfl rfl ?_
    refine xw_ldc (e := 32768) rfl (by decide +kernel) ?_
    refine xw_imul rfl ?_
    refine xw_bipush (e := 64) rfl (by decide +kernel) ?_
    refine xw_iadd rfl ?_
    refine xw_pfI rfl (xw_obd (by decide +kernel)) xk11_2 (qi := 2) rfl (xw_okI rfl) ?_
    refine xw_aload_n rfl rfl rfl ?_
    refine xw_gfR (n := 530) (e := 530) rfl (xw_obd (by decide +kernel)) (by decide +kernel) (by decide +kernel) rfl ?_
    exact q
  exact xS_ret (v := 530) rfl rfl rfl trivial
theorem ysl25_2 {B : Nat} (hB : B ≤ 512) {xs : Nat → Int32} {SL d : Nat} {r2 : Int → Int → Int → Int → xw_M → xP} (hr2 : ∀ x0 x1 x2 x3 m, w32 x2 = x2 → w32 x3 = x3 → xS B xs SL (d + 1) 25 (4, none, [], 12) 0 2 [(0, xa x0), (1, xa x1), (2, xi x2), (3, xi x3)] [] m (r2 x0 x1 x2 x3 m)) : ∀ x0 x1 x2 x3 m, w32 x2 = x2 → w32 x3 = x3 → xS B xs SL (d + 1) 25 (4, none, [], 12) 0 2 [(0, xa x0), (1, xa x1), (2, xi x2), (3, xi x3)] [] m (yl25_2 B r2 x0 x1 x2 x3 m) := by
  intro x0 x1 x2 x3 m c2 c3
  unfold yl25_2
  refine xS_of (pc' := 4) (L' := [(0, xa x0), (1, xa x1), (2, xi x2), (3, xi x3)]) (st' := [xi x2, xi x3]) (m' := m) (fun ex ns r q => ?_) ?_
  · refine xw_iload_n rfl rfl ?_
    refine xw_iload_n rfl rfl ?_
    exact q
  refine xS_if (fun h0 => ?_) (fun h0 => ?_)
  · refine xS_g (fun g1 => ?_)
    refine xS_of (pc' := 12) (L' := [(0, xa x0), (1, xa x1), (2, xi x2), (3, xi x3)]) (st' := [xi 8, xa x0, xi x3, xa x1]) (m' := m) (fun ex ns r q => ?_) ?_
    · refine xw_ic_geF rfl (w32_cg c3) (w32_cg c2) (Int.not_le.mpr h0) ?_
      refine xw_aload_n rfl rfl rfl ?_
      refine xw_iload_n rfl rfl ?_
      refine xw_aload_n rfl rfl rfl ?_
      refine xw_bipush (e := 8) rfl (by decide +kernel) ?_
      refine xw_lo (L2 := [(0, xa x0), (1, xa x1), (2, xi x2), (3, xi x3)]) (List.forall_mem_cons.mpr ⟨rfl, List.forall_mem_cons.mpr ⟨rfl, List.forall_mem_cons.mpr ⟨rfl, List.forall_mem_cons.mpr ⟨rfl, fun _ h => absurd h List.not_mem_nil⟩⟩⟩⟩) ?_
      exact q
    refine xS_call (q := 19) (n := 2) (kq := 2) (as := [xa x0, xi 8]) (st1 := [xi x3, xa x1]) rfl rfl rfl rfl rfl rfl rfl rfl rfl rfl (fun _ => xw_rcv1 (t := 11) (xw_obd g1) rfl) rfl (List.forall_mem_cons.mpr ⟨rfl, List.forall_mem_cons.mpr ⟨rfl, fun _ h => absurd h List.not_mem_nil⟩⟩) (ygf19 hB _ _ _ rfl) (fun v1 m1 cv1 => ?_)
    refine xS_g (fun g2 => ?_)
    refine xS_g (fun g3 => ?_)
    refine xS_of (pc' := 2) (L' := [(0, xa x0), (1, xa x1), (2, xi x2), (3, xi (w32 (x3 + 1)))]) (st' := []) (m' := (xw_u m1 x1 x3 (w8 (w8 v1)))) (fun ex ns r q => ?_) ?_
    · refine xw_l2i rfl ?_
      refine xw_i2bc rfl ?_
      refine xw_bastc (n := (xw_le B x1)) rfl hB (xw_obd g3) rfl g2 ?_
      refine xw_iincc (z := (w32 (x3 + 1))) (L' := [(3, xi (w32 (x3 + 1))), (0, xa x0), (1, xa x1), (2, xi x2)]) rfl rfl (by decide) rfl rfl ?_
      refine xw_goto rfl ?_
      refine xw_lo (L2 := [(0, xa x0), (1, xa x1), (2, xi x2), (3, xi (w32 (x3 + 1)))]) (List.forall_mem_cons.mpr ⟨rfl, List.forall_mem_cons.mpr ⟨rfl, List.forall_mem_cons.mpr ⟨rfl, List.forall_mem_cons.mpr ⟨rfl, fun _ h => absurd h List.not_mem_nil⟩⟩⟩⟩) ?_
      exact q
    exact hr2 _ _ _ _ _ c2 (w32_w _)
  · refine xS_of (pc' := 24) (L' := [(0, xa x0), (1, xa x1), (2, xi x2), (3, xi x3)]) (st' := []) (m' := m) (fun ex ns r q => ?_) ?_
    · refine xw_ic_geT rfl (w32_cg c3) (w32_cg c2) (Int.not_lt.mp h0) ?_
      exact q
    exact xS_ret (v := 0) rfl rfl rfl rfl
theorem ygl25_2 {B : Nat} (hB : B ≤ 512) {xs : Nat → Int32} {SL d : Nat} : ∀ n x0 x1 x2 x3 m, w32 x2 = x2 → w32 x3 = x3 → xS B xs SL (d + 1) 25 (4, none, [], 12) 0 2 [(0, xa x0), (1, xa x1), (2, xi x2), (3, xi x3)] [] m (xl4 (yl25_2 B) n x0 x1 x2 x3 m) := by
  intro n
  induction n with
  | zero => intro x0 x1 x2 x3 m c2 c3; exact xS_none
  | succ n ih => exact ysl25_2 hB ih
theorem ygf25 {B : Nat} (hB : B ≤ 512) {xs : Nat → Int32} {SL d : Nat} : ∀ t p0 p1 m, w32 p1 = p1 → xS B xs SL (d + 1) 25 (4, none, [], 12) 0 0 [(0, xa t), (1, xa p0), (2, xi p1)] [] m (yf25 B t p0 p1 m) := by
  intro t p0 p1 m cp1
  unfold yf25
  refine xS_of (pc' := 2) (L' := [(0, xa t), (1, xa p0), (2, xi p1), (3, xi 0)]) (st' := []) (m' := m) (fun ex ns r q => ?_) ?_
  · refine xw_iconst rfl ?_
    refine xw_istore_n (L' := [(3, xi 0), (0, xa t), (1, xa p0), (2, xi p1)]) rfl (by decide) rfl ?_
    refine xw_lo (L2 := [(0, xa t), (1, xa p0), (2, xi p1), (3, xi 0)]) (List.forall_mem_cons.mpr ⟨rfl, List.forall_mem_cons.mpr ⟨rfl, List.forall_mem_cons.mpr ⟨rfl, List.forall_mem_cons.mpr ⟨rfl, fun _ h => absurd h List.not_mem_nil⟩⟩⟩⟩) ?_
    exact q
  exact ygl25_2 hB 1000000 _ _ _ _ _ cp1 rfl
theorem ysl24_90 {B : Nat} (hB : B ≤ 512) {xs : Nat → Int32} {SL d : Nat} {r50 : Int → Int → Int → xw_M → xP} (hr50 : ∀ x0 x1 x2 m, w32 x2 = x2 → xS B xs SL (d + 2) 24 (4, none, [], 4) 0 50 [(0, xa x0), (1, xa x1), (2, xi x2)] [] m (r50 x0 x1 x2 m)) {r90 : Int → Int → Int → Int → xw_M → xP} (hr90 : ∀ x0 x1 x2 x3 m, w32 x2 = x2 → w32 x3 = x3 → xS B xs SL (d + 2) 24 (4, none, [], 4) 0 90 [(0, xa x0), (1, xa x1), (2, xi x2), (3, xi x3)] [] m (r90 x0 x1 x2 x3 m)) : ∀ x0 x1 x2 x3 m, w32 x2 = x2 → w32 x3 = x3 → xS B xs SL (d + 2) 24 (4, none, [], 4) 0 90 [(0, xa x0), (1, xa x1), (2, xi x2), (3, xi x3)] [] m (yl24_90 B r50 r90 x0 x1 x2 x3 m) := by
  intro x0 x1 x2 x3 m c2 c3
  unfold yl24_90
  refine xS_g (fun g0 => ?_)
  refine xS_of (pc' := 95) (L' := [(0, xa x0), (1, xa x1), (2, xi x2), (3, xi x3)]) (st' := [xi (xR m x0 11), xi x3]) (m' := m) (fun ex ns r q => ?_) ?_
  · refine xw_iload_n rfl rfl ?_
    refine xw_aload_n rfl rfl rfl ?_
    refine xw_gfIc (v := (m x0 11)) (v' := (xR m x0 11)) rfl (xw_obd g0) xk3_11 (qi := 11) rfl rfl rfl ?_
    exact q
  refine xS_if (fun h1 => ?_) (fun h1 => ?_)
  · refine xS_g (fun g2 => ?_)
    refine xS_g (fun g3 => ?_)
    refine xS_g (fun g4 => ?_)
    refine xS_g (fun g5 => ?_)
    refine xS_of (pc' := 108) (L' := [(0, xa x0), (1, xa x1), (2, xi x2), (3, xi x3)]) (st' := [xi 32, xa x1, xi x3, xa (xw_rf (xw_rf x0 3) x2)]) (m' := m) (fun ex ns r q => ?_) ?_
    · refine xw_ic_geF rfl (w32_cg c3) (w32_cg (w32_xR _ _ _)) (Int.not_le.mpr h1) ?_
      refine xw_aload_n rfl rfl rfl ?_
      refine xw_gfV (qi := 3) rfl (xw_obd g0) xk3_3 rfl ?_
      refine xw_iload_n rfl rfl ?_
      refine xw_aald (t := 20) (n := (xw_le B (xw_rf x0 3))) (q := xw_kd (xw_rf x0 3) x2 - 5) (e := (xw_rf (xw_rf x0 3) x2)) rfl hB (xw_obd g4) (by decide) rfl g2 (by have := g3; omega) (xw_rfn g3) ?_
      refine xw_iload_n rfl rfl ?_
      refine xw_aload_n rfl rfl rfl ?_
      refine xw_bipush (e := 32) rfl (by decide +kernel) ?_
      refine xw_lo (L2 := [(0, xa x0), (1, xa x1), (2, xi x2), (3, xi x3)]) (List.forall_mem_cons.mpr ⟨rfl, List.forall_mem_cons.mpr ⟨rfl, List.forall_mem_cons.mpr ⟨rfl, List.forall_mem_cons.mpr ⟨rfl, fun _ h => absurd h List.not_mem_nil⟩⟩⟩⟩) ?_
      exact q
    refine xS_call (q := 19) (n := 2) (kq := 2) (as := [xa x1, xi 32]) (st1 := [xi x3, xa (xw_rf (xw_rf x0 3) x2)]) rfl rfl rfl rfl rfl rfl rfl rfl rfl rfl (fun _ => xw_rcv1 (t := 11) (xw_obd g5) rfl) rfl (List.forall_mem_cons.mpr ⟨rfl, List.forall_mem_cons.mpr ⟨rfl, fun _ h => absurd h List.not_mem_nil⟩⟩) (ygf19 hB _ _ _ rfl) (fun v1 m1 cv1 => ?_)
    refine xS_g (fun g6 => ?_)
    refine xS_g (fun g7 => ?_)
    refine xS_of (pc' := 90) (L' := [(0, xa x0), (1, xa x1), (2, xi x2), (3, xi (w32 (x3 + 1)))]) (st' := []) (m' := (xw_u m1 (xw_rf (xw_rf x0 3) x2) x3 v1)) (fun ex ns r q => ?_) ?_
    · refine xw_l2i rfl ?_
      refine xw_iast (n := (xw_le B (xw_rf (xw_rf x0 3) x2))) rfl hB (xw_obd g7) rfl g6 ?_
      refine xw_iincc (z := (w32 (x3 + 1))) (L' := [(3, xi (w32 (x3 + 1))), (0, xa x0), (1, xa x1), (2, xi x2)]) rfl rfl (by decide) rfl rfl ?_
      refine xw_goto rfl ?_
      refine xw_lo (L2 := [(0, xa x0), (1, xa x1), (2, xi x2), (3, xi (w32 (x3 + 1)))]) (List.forall_mem_cons.mpr ⟨rfl, List.forall_mem_cons.mpr ⟨rfl, List.forall_mem_cons.mpr ⟨rfl, List.forall_mem_cons.mpr ⟨rfl, fun _ h => absurd h List.not_mem_nil⟩⟩⟩⟩) ?_
      exact q
    exact hr90 _ _ _ _ _ c2 (w32_w _)
  · refine xS_of (pc' := 50) (L' := [(0, xa x0), (1, xa x1), (2, xi (w32 (x2 + 1)))]) (st' := []) (m' := m) (fun ex ns r q => ?_) ?_
    · refine xw_ic_geT rfl (w32_cg c3) (w32_cg (w32_xR _ _ _)) (Int.not_lt.mp h1) ?_
      refine xw_iincc (z := (w32 (x2 + 1))) (L' := [(2, xi (w32 (x2 + 1))), (0, xa x0), (1, xa x1), (3, xi x3)]) rfl rfl (by decide) rfl rfl ?_
      refine xw_goto rfl ?_
      refine xw_lo (L2 := [(0, xa x0), (1, xa x1), (2, xi (w32 (x2 + 1)))]) (List.forall_mem_cons.mpr ⟨rfl, List.forall_mem_cons.mpr ⟨rfl, List.forall_mem_cons.mpr ⟨rfl, fun _ h => absurd h List.not_mem_nil⟩⟩⟩) ?_
      exact q
    exact hr50 _ _ _ _ (w32_w _)
theorem ygl24_90 {B : Nat} (hB : B ≤ 512) {xs : Nat → Int32} {SL d : Nat} {r50 : Int → Int → Int → xw_M → xP} (hr50 : ∀ x0 x1 x2 m, w32 x2 = x2 → xS B xs SL (d + 2) 24 (4, none, [], 4) 0 50 [(0, xa x0), (1, xa x1), (2, xi x2)] [] m (r50 x0 x1 x2 m)) : ∀ n x0 x1 x2 x3 m, w32 x2 = x2 → w32 x3 = x3 → xS B xs SL (d + 2) 24 (4, none, [], 4) 0 90 [(0, xa x0), (1, xa x1), (2, xi x2), (3, xi x3)] [] m (xl4 (yl24_90 B r50) n x0 x1 x2 x3 m) := by
  intro n
  induction n with
  | zero => intro x0 x1 x2 x3 m c2 c3; exact xS_none
  | succ n ih => exact ysl24_90 hB hr50 ih
theorem ysl24_50 {B : Nat} (hB : B ≤ 512) {xs : Nat → Int32} {SL d : Nat} {r50 : Int → Int → Int → xw_M → xP} (hr50 : ∀ x0 x1 x2 m, w32 x2 = x2 → xS B xs SL (d + 2) 24 (4, none, [], 4) 0 50 [(0, xa x0), (1, xa x1), (2, xi x2)] [] m (r50 x0 x1 x2 m)) : ∀ x0 x1 x2 m, w32 x2 = x2 → xS B xs SL (d + 2) 24 (4, none, [], 4) 0 50 [(0, xa x0), (1, xa x1), (2, xi x2)] [] m (yl24_50 B r50 x0 x1 x2 m) := by
  intro x0 x1 x2 m c2
  unfold yl24_50
  refine xS_g (fun g0 => ?_)
  refine xS_of (pc' := 55) (L' := [(0, xa x0), (1, xa x1), (2, xi x2)]) (st' := [xi (xR m x0 10), xi x2]) (m' := m) (fun ex ns r q => ?_) ?_
  · refine xw_iload_n rfl rfl ?_
    refine xw_aload_n rfl rfl rfl ?_
    refine xw_gfIc (v := (m x0 10)) (v' := (xR m x0 10)) rfl (xw_obd g0) xk3_10 (qi := 10) rfl rfl rfl ?_
    exact q
  refine xS_if (fun h1 => ?_) (fun h1 => ?_)
  · refine xS_g (fun g2 => ?_)
    refine xS_of (pc' := 68) (L' := [(0, xa x0), (1, xa x1), (2, xi x2)]) (st' := [xi 40, xi 8, xa x1, xi x2, xa (xw_rf x0 2)]) (m' := m) (fun ex ns r q => ?_) ?_
    · refine xw_ic_geF rfl (w32_cg c2) (w32_cg (w32_xR _ _ _)) (Int.not_le.mpr h1) ?_
      refine xw_aload_n rfl rfl rfl ?_
      refine xw_gfV (qi := 2) rfl (xw_obd g0) xk3_2 rfl ?_
      refine xw_iload_n rfl rfl ?_
      refine xw_aload_n rfl rfl rfl ?_
      refine xw_bipush (e := 8) rfl (by decide +kernel) ?_
      refine xw_bipush (e := 40) rfl (by decide +kernel) ?_
      refine xw_lo (L2 := [(0, xa x0), (1, xa x1), (2, xi x2)]) (List.forall_mem_cons.mpr ⟨rfl, List.forall_mem_cons.mpr ⟨rfl, List.forall_mem_cons.mpr ⟨rfl, fun _ h => absurd h List.not_mem_nil⟩⟩⟩) ?_
      exact q
    refine xS_call (q := 20) (n := 3) (kq := 1) (as := [xa x1, xi 8, xi 40]) (st1 := [xi x2, xa (xw_rf x0 2)]) rfl rfl rfl rfl rfl rfl rfl rfl rfl rfl (fun _ => xw_rcv1 (t := 11) (xw_obd g2) rfl) rfl (List.forall_mem_cons.mpr ⟨rfl, List.forall_mem_cons.mpr ⟨rfl, List.forall_mem_cons.mpr ⟨rfl, fun _ h => absurd h List.not_mem_nil⟩⟩⟩) (ygf20 hB _ _ _ _ rfl rfl) (fun v1 m1 cv1 => ?_)
    refine xS_g (fun g3 => ?_)
    refine xS_g (fun g4 => ?_)
    refine xS_g (fun g5 => ?_)
    refine xS_g (fun g6 => ?_)
    refine xS_g (fun g7 => ?_)
    refine xS_of (pc' := 85) (L' := [(0, xa x0), (1, xa x1), (2, xi x2)]) (st' := [xi v1, xa (xw_rf (xw_rf x0 1) x2), xa x1]) (m' := (xw_u m1 (xw_rf x0 2) x2 v1)) (fun ex ns r q => ?_) ?_
    · refine xw_iast (n := (xw_le B (xw_rf x0 2))) rfl hB (xw_obd g4) rfl g3 ?_
      refine xw_aload_n rfl rfl rfl ?_
      refine xw_aload_n rfl rfl rfl ?_
      refine xw_gfV (qi := 1) rfl (xw_obd g0) xk3_1 rfl ?_
      refine xw_iload_n rfl rfl ?_
      refine xw_aald (t := 22) (n := (xw_le B (xw_rf x0 1))) (q := xw_kd (xw_rf x0 1) x2 - 5) (e := (xw_rf (xw_rf x0 1) x2)) rfl hB (xw_obd g7) (by decide) rfl g5 (by have := g6; omega) (xw_rfn g6) ?_
      refine xw_aload_n rfl rfl rfl ?_
      refine xw_gfV (qi := 2) rfl (xw_obd g0) xk3_2 rfl ?_
      refine xw_iload_n rfl rfl ?_
      refine xw_ialdc (n := (xw_le B (xw_rf x0 2))) (v := v1) (v' := v1) rfl hB (xw_obd g4) rfl g3 xw_us cv1 ?_
      refine xw_lo (L2 := [(0, xa x0), (1, xa x1), (2, xi x2)]) (List.forall_mem_cons.mpr ⟨rfl, List.forall_mem_cons.mpr ⟨rfl, List.forall_mem_cons.mpr ⟨rfl, fun _ h => absurd h List.not_mem_nil⟩⟩⟩) ?_
      exact q
    refine xS_call (q := 25) (n := 3) (kq := 0) (as := [xa x1, xa (xw_rf (xw_rf x0 1) x2), xi v1]) (st1 := []) rfl rfl rfl rfl rfl rfl rfl rfl rfl rfl (fun _ => xw_rcv1 (t := 11) (xw_obd g2) rfl) rfl (List.forall_mem_cons.mpr ⟨rfl, List.forall_mem_cons.mpr ⟨rfl, List.forall_mem_cons.mpr ⟨rfl, fun _ h => absurd h List.not_mem_nil⟩⟩⟩) (ygf25 hB _ _ _ _ cv1) (fun v2 m2 cv2 => ?_)
    refine xS_of (pc' := 90) (L' := [(0, xa x0), (1, xa x1), (2, xi x2), (3, xi 0)]) (st' := []) (m' := m2) (fun ex ns r q => ?_) ?_
    · refine xw_iconst rfl ?_
      refine xw_istore_n (L' := [(3, xi 0), (0, xa x0), (1, xa x1), (2, xi x2)]) rfl (by decide) rfl ?_
      refine xw_lo (L2 := [(0, xa x0), (1, xa x1), (2, xi x2), (3, xi 0)]) (List.forall_mem_cons.mpr ⟨rfl, List.forall_mem_cons.mpr ⟨rfl, List.forall_mem_cons.mpr ⟨rfl, List.forall_mem_cons.mpr ⟨rfl, fun _ h => absurd h List.not_mem_nil⟩⟩⟩⟩) ?_
      exact q
    exact ygl24_90 hB hr50 1000000 _ _ _ _ _ c2 rfl
  · refine xS_of (pc' := 125) (L' := [(0, xa x0), (1, xa x1), (2, xi x2)]) (st' := []) (m' := m) (fun ex ns r q => ?_) ?_
    · refine xw_ic_geT rfl (w32_cg c2) (w32_cg (w32_xR _ _ _)) (Int.not_lt.mp h1) ?_
      exact q
    exact xS_ret (v := 0) rfl rfl rfl rfl
theorem ygl24_50 {B : Nat} (hB : B ≤ 512) {xs : Nat → Int32} {SL d : Nat} : ∀ n x0 x1 x2 m, w32 x2 = x2 → xS B xs SL (d + 2) 24 (4, none, [], 4) 0 50 [(0, xa x0), (1, xa x1), (2, xi x2)] [] m (xl3 (yl24_50 B) n x0 x1 x2 m) := by
  intro n
  induction n with
  | zero => intro x0 x1 x2 m c2; exact xS_none
  | succ n ih => exact ysl24_50 hB ih
theorem ygf24 {B : Nat} (hB : B ≤ 512) {xs : Nat → Int32} {SL d : Nat} : ∀ t p0 m, xS B xs SL (d + 2) 24 (4, none, [], 4) 0 0 [(0, xa t), (1, xa p0)] [] m (yf24 B t p0 m) := by
  intro t p0 m
  unfold yf24
  refine xS_g (fun g0 => ?_)
  refine xS_of (pc' := 6) (L' := [(0, xa t), (1, xa p0)]) (st' := [xi 40, xi 8, xa p0, xa t]) (m' := m) (fun ex ns r q => ?_) ?_
  · refine xw_aload_n rfl rfl rfl ?_
    refine xw_aload_n rfl rfl rfl ?_
    refine xw_bipush (e := 8) rfl (by decide +kernel) ?_
    refine xw_bipush (e := 40) rfl (by decide +kernel) ?_
    refine xw_lo (L2 := [(0, xa t), (1, xa p0)]) (List.forall_mem_cons.mpr ⟨rfl, List.forall_mem_cons.mpr ⟨rfl, fun _ h => absurd h List.not_mem_nil⟩⟩) ?_
    exact q
  refine xS_call (q := 20) (n := 3) (kq := 1) (as := [xa p0, xi 8, xi 40]) (st1 := [xa t]) rfl rfl rfl rfl rfl rfl rfl rfl rfl rfl (fun _ => xw_rcv1 (t := 11) (xw_obd g0) rfl) rfl (List.forall_mem_cons.mpr ⟨rfl, List.forall_mem_cons.mpr ⟨rfl, List.forall_mem_cons.mpr ⟨rfl, fun _ h => absurd h List.not_mem_nil⟩⟩⟩) (ygf20 hB _ _ _ _ rfl rfl) (fun v1 m1 cv1 => ?_)
  refine xS_g (fun g1 => ?_)
  refine xS_of (pc' := 17) (L' := [(0, xa t), (1, xa p0)]) (st' := [xi 4, xi 8, xa p0, xa t]) (m' := (xw_u m1 t 9 v1)) (fun ex ns r q => ?_) ?_
  · refine xw_pfI rfl (xw_obd g1) xk3_9 (qi := 9) rfl (xw_okI rfl) ?_
    refine xw_aload_n rfl rfl rfl ?_
    refine xw_aload_n rfl rfl rfl ?_
    refine xw_bipush (e := 8) rfl (by decide +kernel) ?_
    refine xw_iconst rfl ?_
    refine xw_lo (L2 := [(0, xa t), (1, xa p0)]) (List.forall_mem_cons.mpr ⟨rfl, List.forall_mem_cons.mpr ⟨rfl, fun _ h => absurd h List.not_mem_nil⟩⟩) ?_
    exact q
  refine xS_call (q := 20) (n := 3) (kq := 1) (as := [xa p0, xi 8, xi 4]) (st1 := [xa t]) rfl rfl rfl rfl rfl rfl rfl rfl rfl rfl (fun _ => xw_rcv1 (t := 11) (xw_obd g0) rfl) rfl (List.forall_mem_cons.mpr ⟨rfl, List.forall_mem_cons.mpr ⟨rfl, List.forall_mem_cons.mpr ⟨rfl, fun _ h => absurd h List.not_mem_nil⟩⟩⟩) (ygf20 hB _ _ _ _ rfl rfl) (fun v2 m2 cv2 => ?_)
  refine xS_of (pc' := 30) (L' := [(0, xa t), (1, xa p0)]) (st' := [xi 1000, xi 16, xa p0, xa t]) (m' := (xw_u m2 t 10 v2)) (fun ex ns r q => ?_) ?_
  · refine xw_pfI rfl (xw_obd g1) xk3_10 (qi := 10) rfl (xw_okI rfl) ?_
    refine xw_aload_n rfl rfl rfl ?_
    refine xw_aload_n rfl rfl rfl ?_
    refine xw_bipush (e := 16) rfl (by decide +kernel) ?_
    refine xw_sipush (e := 1000) rfl (by decide +kernel) ?_
    refine xw_lo (L2 := [(0, xa t), (1, xa p0)]) (List.forall_mem_cons.mpr ⟨rfl, List.forall_mem_cons.mpr ⟨rfl, fun _ h => absurd h List.not_mem_nil⟩⟩) ?_
    exact q
  refine xS_call (q := 20) (n := 3) (kq := 1) (as := [xa p0, xi 16, xi 1000]) (st1 := [xa t]) rfl rfl rfl rfl rfl rfl rfl rfl rfl rfl (fun _ => xw_rcv1 (t := 11) (xw_obd g0) rfl) rfl (List.forall_mem_cons.mpr ⟨rfl, List.forall_mem_cons.mpr ⟨rfl, List.forall_mem_cons.mpr ⟨rfl, fun _ h => absurd h List.not_mem_nil⟩⟩⟩) (ygf20 hB _ _ _ _ rfl rfl) (fun v3 m3 cv3 => ?_)
  refine xS_of (pc' := 45) (L' := [(0, xa t), (1, xa p0)]) (st' := [xi (xR m3 t 9), xa (xw_rf t 0), xa p0]) (m' := (xw_u m3 t 11 v3)) (fun ex ns r q => ?_) ?_
  · refine xw_pfI rfl (xw_obd g1) xk3_11 (qi := 11) rfl (xw_okI rfl) ?_
    refine xw_aload_n rfl rfl rfl ?_
    refine xw_aload_n rfl rfl rfl ?_
    refine xw_gfV (qi := 0) rfl (xw_obd g1) xk3_0 rfl ?_
    refine xw_aload_n rfl rfl rfl ?_
    refine xw_gfIc (v := (m3 t 9)) (v' := (xR m3 t 9)) rfl (xw_obd g1) xk3_9 (qi := 9) rfl (xw_un (fun e => absurd e.2 (by decide)) rfl) rfl ?_
    refine xw_lo (L2 := [(0, xa t), (1, xa p0)]) (List.forall_mem_cons.mpr ⟨rfl, List.forall_mem_cons.mpr ⟨rfl, fun _ h => absurd h List.not_mem_nil⟩⟩) ?_
    exact q
  refine xS_call (q := 25) (n := 3) (kq := 0) (as := [xa p0, xa (xw_rf t 0), xi (xR m3 t 9)]) (st1 := []) rfl rfl rfl rfl rfl rfl rfl rfl rfl rfl (fun _ => xw_rcv1 (t := 11) (xw_obd g0) rfl) rfl (List.forall_mem_cons.mpr ⟨rfl, List.forall_mem_cons.mpr ⟨rfl, List.forall_mem_cons.mpr ⟨rfl, fun _ h => absurd h List.not_mem_nil⟩⟩⟩) (ygf25 hB _ _ _ _ (w32_xR _ _ _)) (fun v4 m4 cv4 => ?_)
  refine xS_of (pc' := 50) (L' := [(0, xa t), (1, xa p0), (2, xi 0)]) (st' := []) (m' := m4) (fun ex ns r q => ?_) ?_
  · refine xw_iconst rfl ?_
    refine xw_istore_n (L' := [(2, xi 0), (0, xa t), (1, xa p0)]) rfl (by decide) rfl ?_
    refine xw_lo (L2 := [(0, xa t), (1, xa p0), (2, xi 0)]) (List.forall_mem_cons.mpr ⟨rfl, List.forall_mem_cons.mpr ⟨rfl, List.forall_mem_cons.mpr ⟨rfl, fun _ h => absurd h List.not_mem_nil⟩⟩⟩) ?_
    exact q
  exact ygl24_50 hB 1000000 _ _ _ _ rfl
theorem ysl23_55 {B : Nat} (hB : B ≤ 512) {xs : Nat → Int32} {SL d : Nat} {r55 : Int → Int → xw_M → xP} (hr55 : ∀ x1 x3 m, w32 x3 = x3 → xS B xs SL (d + 3) 23 (4, none, [], 3) 0 55 [(0, xa 3), (1, xa x1), (3, xi x3)] [] m (r55 x1 x3 m)) : ∀ x1 x3 m, w32 x3 = x3 → xS B xs SL (d + 3) 23 (4, none, [], 3) 0 55 [(0, xa 3), (1, xa x1), (3, xi x3)] [] m (yl23_55 B r55 x1 x3 m) := by
  intro x1 x3 m c3
  unfold yl23_55
  refine xS_of (pc' := 60) (L' := [(0, xa 3), (1, xa x1), (3, xi x3)]) (st' := [xi (xR m 3 2), xi x3]) (m' := m) (fun ex ns r q => ?_) ?_
  · refine xw_iload_n rfl rfl ?_
    refine xw_aload_n rfl rfl rfl ?_
    refine xw_gfIc (v := (m 3 2)) (v' := (xR m 3 2)) rfl (xw_obd (by decide +kernel)) xk2_2 (qi := 2) rfl rfl rfl ?_
    exact q
  refine xS_if (fun h0 => ?_) (fun h0 => ?_)
  · refine xS_g (fun g1 => ?_)
    refine xS_of (pc' := 73) (L' := [(0, xa 3), (1, xa x1), (3, xi x3)]) (st' := [xi 40, xi 8, xa x1, xi x3, xa 14]) (m' := m) (fun ex ns r q => ?_) ?_
    · refine xw_ic_geF rfl (w32_cg c3) (w32_cg (w32_xR _ _ _)) (Int.not_le.mpr h0) ?_
      refine xw_aload_n rfl rfl rfl ?_
      refine xw_gfR (n := 14) (e := 14) rfl (xw_obd (by decide +kernel)) (by decide +kernel) (by decide +kernel) rfl ?_
      refine xw_iload_n rfl rfl ?_
      refine xw_aload_n rfl rfl rfl ?_
      refine xw_bipush (e := 8) rfl (by decide +kernel) ?_
      refine xw_bipush (e := 40) rfl (by decide +kernel) ?_
      refine xw_lo (L2 := [(0, xa 3), (1, xa x1), (3, xi x3)]) (List.forall_mem_cons.mpr ⟨rfl, List.forall_mem_cons.mpr ⟨rfl, List.forall_mem_cons.mpr ⟨rfl, fun _ h => absurd h List.not_mem_nil⟩⟩⟩) ?_
      exact q
    refine xS_call (q := 20) (n := 3) (kq := 1) (as := [xa x1, xi 8, xi 40]) (st1 := [xi x3, xa 14]) rfl rfl rfl rfl rfl rfl rfl rfl rfl rfl (fun _ => xw_rcv1 (t := 11) (xw_obd g1) rfl) rfl (List.forall_mem_cons.mpr ⟨rfl, List.forall_mem_cons.mpr ⟨rfl, List.forall_mem_cons.mpr ⟨rfl, fun _ h => absurd h List.not_mem_nil⟩⟩⟩) (ygf20 hB _ _ _ _ rfl rfl) (fun v1 m1 cv1 => ?_)
    refine xS_g (fun g2 => ?_)
    refine xS_of (pc' := 90) (L' := [(0, xa 3), (1, xa x1), (3, xi x3)]) (st' := [xi v1, xa (6 + x3), xa x1]) (m' := (xw_u m1 14 x3 v1)) (fun ex ns r q => ?_) ?_
    · refine xw_iast (n := 8) rfl hB (xw_obd (by decide +kernel)) rfl g2 ?_
      refine xw_aload_n rfl rfl rfl ?_
      refine xw_aload_n rfl rfl rfl ?_
      refine xw_gfR (n := 5) (e := 5) rfl (xw_obd (by decide +kernel)) (by decide +kernel) (by decide +kernel) rfl ?_
      refine xw_iload_n rfl rfl ?_
      refine xw_aald (t := 22) (n := 8) (q := 6 + 1 * (x3).toNat) (e := (6 + x3)) rfl hB (xw_obd (by decide +kernel)) (by decide) rfl g2 (show 11 + 1 * (x3 : Int).toNat = 6 + 1 * (x3 : Int).toNat + 5 from by omega) (by have := g2; omega) ?_
      refine xw_aload_n rfl rfl rfl ?_
      refine xw_gfR (n := 14) (e := 14) rfl (xw_obd (by decide +kernel)) (by decide +kernel) (by decide +kernel) rfl ?_
      refine xw_iload_n rfl rfl ?_
      refine xw_ialdc (n := 8) (v := v1) (v' := v1) rfl hB (xw_obd (by decide +kernel)) rfl g2 xw_us cv1 ?_
      refine xw_lo (L2 := [(0, xa 3), (1, xa x1), (3, xi x3)]) (List.forall_mem_cons.mpr ⟨rfl, List.forall_mem_cons.mpr ⟨rfl, List.forall_mem_cons.mpr ⟨rfl, fun _ h => absurd h List.not_mem_nil⟩⟩⟩) ?_
      exact q
    refine xS_call (q := 25) (n := 3) (kq := 0) (as := [xa x1, xa (6 + x3), xi v1]) (st1 := []) rfl rfl rfl rfl rfl rfl rfl rfl rfl rfl (fun _ => xw_rcv1 (t := 11) (xw_obd g1) rfl) rfl (List.forall_mem_cons.mpr ⟨rfl, List.forall_mem_cons.mpr ⟨rfl, List.forall_mem_cons.mpr ⟨rfl, fun _ h => absurd h List.not_mem_nil⟩⟩⟩) (ygf25 hB _ _ _ _ cv1) (fun v2 m2 cv2 => ?_)
    refine xS_of (pc' := 55) (L' := [(0, xa 3), (1, xa x1), (3, xi (w32 (x3 + 1)))]) (st' := []) (m' := m2) (fun ex ns r q => ?_) ?_
    · refine xw_iincc (z := (w32 (x3 + 1))) (L' := [(3, xi (w32 (x3 + 1))), (0, xa 3), (1, xa x1)]) rfl rfl (by decide) rfl rfl ?_
      refine xw_goto rfl ?_
      refine xw_lo (L2 := [(0, xa 3), (1, xa x1), (3, xi (w32 (x3 + 1)))]) (List.forall_mem_cons.mpr ⟨rfl, List.forall_mem_cons.mpr ⟨rfl, List.forall_mem_cons.mpr ⟨rfl, fun _ h => absurd h List.not_mem_nil⟩⟩⟩) ?_
      exact q
    exact hr55 _ _ _ (w32_w _)
  · refine xS_of (pc' := 99) (L' := [(0, xa 3), (1, xa x1), (3, xi x3)]) (st' := []) (m' := m) (fun ex ns r q => ?_) ?_
    · refine xw_ic_geT rfl (w32_cg c3) (w32_cg (w32_xR _ _ _)) (Int.not_lt.mp h0) ?_
      exact q
    exact xS_ret (v := 0) rfl rfl rfl rfl
theorem ygl23_55 {B : Nat} (hB : B ≤ 512) {xs : Nat → Int32} {SL d : Nat} : ∀ n x1 x3 m, w32 x3 = x3 → xS B xs SL (d + 3) 23 (4, none, [], 3) 0 55 [(0, xa 3), (1, xa x1), (3, xi x3)] [] m (xl2 (yl23_55 B) n x1 x3 m) := by
  intro n
  induction n with
  | zero => intro x1 x3 m c3; exact xS_none
  | succ n ih => exact ysl23_55 hB ih
theorem ysl23_29 {B : Nat} (hB : B ≤ 512) {xs : Nat → Int32} {SL d : Nat} {r29 : Int → Int → xw_M → xP} (hr29 : ∀ x1 x3 m, w32 x3 = x3 → xS B xs SL (d + 3) 23 (4, none, [], 3) 0 29 [(0, xa 3), (1, xa x1), (3, xi x3)] [] m (r29 x1 x3 m)) : ∀ x1 x3 m, w32 x3 = x3 → xS B xs SL (d + 3) 23 (4, none, [], 3) 0 29 [(0, xa 3), (1, xa x1), (3, xi x3)] [] m (yl23_29 B r29 x1 x3 m) := by
  intro x1 x3 m c3
  unfold yl23_29
  refine xS_of (pc' := 34) (L' := [(0, xa 3), (1, xa x1), (3, xi x3)]) (st' := [xi (xR m 3 1), xi x3]) (m' := m) (fun ex ns r q => ?_) ?_
  · refine xw_iload_n rfl rfl ?_
    refine xw_aload_n rfl rfl rfl ?_
    refine xw_gfIc (v := (m 3 1)) (v' := (xR m 3 1)) rfl (xw_obd (by decide +kernel)) xk2_1 (qi := 1) rfl rfl rfl ?_
    exact q
  refine xS_if (fun h0 => ?_) (fun h0 => ?_)
  · refine xS_g (fun g1 => ?_)
    refine xS_g (fun g2 => ?_)
    refine xS_of (pc' := 44) (L' := [(0, xa 3), (1, xa x1), (3, xi x3)]) (st' := [xa x1, xa (15 + (26 * x3))]) (m' := m) (fun ex ns r q => ?_) ?_
    · refine xw_ic_geF rfl (w32_cg c3) (w32_cg (w32_xR _ _ _)) (Int.not_le.mpr h0) ?_
      refine xw_aload_n rfl rfl rfl ?_
      refine xw_gfR (n := 4) (e := 4) rfl (xw_obd (by decide +kernel)) (by decide +kernel) (by decide +kernel) rfl ?_
      refine xw_iload_n rfl rfl ?_
      refine xw_aald (t := 23) (n := 8) (q := 15 + 26 * (x3).toNat) (e := (15 + (26 * x3))) rfl hB (xw_obd (by decide +kernel)) (by decide) rfl g1 (show 20 + 26 * (x3 : Int).toNat = 15 + 26 * (x3 : Int).toNat + 5 from by omega) (by have := g1; omega) ?_
      refine xw_aload_n rfl rfl rfl ?_
      refine xw_lo (L2 := [(0, xa 3), (1, xa x1), (3, xi x3)]) (List.forall_mem_cons.mpr ⟨rfl, List.forall_mem_cons.mpr ⟨rfl, List.forall_mem_cons.mpr ⟨rfl, fun _ h => absurd h List.not_mem_nil⟩⟩⟩) ?_
      exact q
    refine xS_call (q := 24) (n := 2) (kq := 0) (as := [xa (15 + (26 * x3)), xa x1]) (st1 := []) rfl rfl rfl rfl rfl rfl rfl rfl rfl rfl (fun _ => xw_rcv1 (t := 3) (xw_obd g2) rfl) rfl (List.forall_mem_cons.mpr ⟨rfl, List.forall_mem_cons.mpr ⟨rfl, fun _ h => absurd h List.not_mem_nil⟩⟩) (ygf24 hB _ _ _) (fun v1 m1 cv1 => ?_)
    refine xS_of (pc' := 29) (L' := [(0, xa 3), (1, xa x1), (3, xi (w32 (x3 + 1)))]) (st' := []) (m' := m1) (fun ex ns r q => ?_) ?_
    · refine xw_iincc (z := (w32 (x3 + 1))) (L' := [(3, xi (w32 (x3 + 1))), (0, xa 3), (1, xa x1)]) rfl rfl (by decide) rfl rfl ?_
      refine xw_goto rfl ?_
      refine xw_lo (L2 := [(0, xa 3), (1, xa x1), (3, xi (w32 (x3 + 1)))]) (List.forall_mem_cons.mpr ⟨rfl, List.forall_mem_cons.mpr ⟨rfl, List.forall_mem_cons.mpr ⟨rfl, fun _ h => absurd h List.not_mem_nil⟩⟩⟩) ?_
      exact q
    exact hr29 _ _ _ (w32_w _)
  · refine xS_of (pc' := 55) (L' := [(0, xa 3), (1, xa x1), (3, xi 0)]) (st' := []) (m' := m) (fun ex ns r q => ?_) ?_
    · refine xw_ic_geT rfl (w32_cg c3) (w32_cg (w32_xR _ _ _)) (Int.not_lt.mp h0) ?_
      refine xw_iconst rfl ?_
      refine xw_istore_n (L' := [(3, xi 0), (0, xa 3), (1, xa x1)]) rfl (by decide) rfl ?_
      refine xw_lo (L2 := [(0, xa 3), (1, xa x1), (3, xi 0)]) (List.forall_mem_cons.mpr ⟨rfl, List.forall_mem_cons.mpr ⟨rfl, List.forall_mem_cons.mpr ⟨rfl, fun _ h => absurd h List.not_mem_nil⟩⟩⟩) ?_
      exact q
    exact ygl23_55 hB 1000000 _ _ _ rfl
theorem ygl23_29 {B : Nat} (hB : B ≤ 512) {xs : Nat → Int32} {SL d : Nat} : ∀ n x1 x3 m, w32 x3 = x3 → xS B xs SL (d + 3) 23 (4, none, [], 3) 0 29 [(0, xa 3), (1, xa x1), (3, xi x3)] [] m (xl2 (yl23_29 B) n x1 x3 m) := by
  intro n
  induction n with
  | zero => intro x1 x3 m c3; exact xS_none
  | succ n ih => exact ysl23_29 hB ih
theorem ygf23 {B : Nat} (hB : B ≤ 512) {xs : Nat → Int32} {SL d : Nat} : ∀ p0 p1 m, w32 p1 = p1 → xS B xs SL (d + 3) 23 (4, none, [], 3) 0 0 [(0, xa 3), (1, xa p0), (2, xi p1)] [] m (yf23 B p0 p1 m) := by
  intro p0 p1 m cp1
  unfold yf23
  refine xS_of (pc' := 29) (L' := [(0, xa 3), (1, xa p0), (3, xi 0)]) (st' := []) (m' := (xw_u (xw_u m 3 1 (min (xw_iandf p1 255) 8)) 3 2 (min (xw_ishrf p1 8) 8))) (fun ex ns r q => ?_) ?_
  · refine xw_aload_n rfl rfl rfl ?_
    refine xw_iload_n rfl rfl ?_
    refine xw_sipush (e := 255) rfl (by decide +kernel) ?_
    refine xw_iand (z := (xw_iandf p1 255)) rfl (xw_iande _ _) ?_
    refine xw_bipush (e := 8) rfl (by decide +kernel) ?_
    refine xw_minI rfl rfl (w32_cg (w32_ti _)) (w32_cg rfl) rfl ?_
    refine xw_pfI rfl (xw_obd (by decide +kernel)) xk2_1 (qi := 1) rfl (xw_okI rfl) ?_
    refine xw_aload_n rfl rfl rfl ?_
    refine xw_iload_n rfl rfl ?_
    refine xw_bipush (e := 8) rfl (by decide +kernel) ?_
    refine xw_ishr (z := (xw_ishrf p1 8)) rfl (xw_ishre _ _) ?_
    refine xw_bipush (e := 8) rfl (by decide +kernel) ?_
    refine xw_minI rfl rfl (w32_cg (w32_ti _)) (w32_cg rfl) rfl ?_
    refine xw_pfI rfl (xw_obd (by decide +kernel)) xk2_2 (qi := 2) rfl (xw_okI rfl) ?_
    refine xw_iconst rfl ?_
    refine xw_istore_n (L' := [(3, xi 0), (0, xa 3), (1, xa p0), (2, xi p1)]) rfl (by decide) rfl ?_
    refine xw_lo (L2 := [(0, xa 3), (1, xa p0), (3, xi 0)]) (List.forall_mem_cons.mpr ⟨rfl, List.forall_mem_cons.mpr ⟨rfl, List.forall_mem_cons.mpr ⟨rfl, fun _ h => absurd h List.not_mem_nil⟩⟩⟩) ?_
    exact q
  exact ygl23_29 hB 1000000 _ _ _ rfl
theorem ygk28_52 {B : Nat} (hB : B ≤ 512) {xs : Nat → Int32} {SL d : Nat} {r2 : Int → Int → Int → xw_M → xP} (hr2 : ∀ x0 x1 x2 m, w32 x2 = x2 → xS B xs SL (d + 0) 28 (4, none, [], 4) 0 2 [(0, xa x0), (1, xa x1), (2, xi x2)] [] m (r2 x0 x1 x2 m)) : ∀ x0 x1 x2 x3 m, w32 x2 = x2 → w32 x3 = x3 → xS B xs SL (d + 0) 28 (4, none, [], 4) 0 52 [(0, xa x0), (1, xa x1), (2, xi x2), (3, xi x3)] [] m (yk28_52 B r2 x0 x1 x2 x3 m) := by
  intro x0 x1 x2 x3 m c2 c3
  unfold yk28_52
  refine xS_g (fun g0 => ?_)
  refine xS_g (fun g1 => ?_)
  refine xS_g (fun g2 => ?_)
  refine xS_of (pc' := 2) (L' := [(0, xa x0), (1, xa x1), (2, xi (w32 (x2 + 1)))]) (st' := []) (m' := (xw_u m (xw_rf x0 7) x3 x2)) (fun ex ns r q => ?_) ?_
  · refine xw_aload_n rfl rfl rfl ?_
    refine xw_gfV (qi := 7) rfl (xw_obd g0) xk3_7 rfl ?_
    refine xw_iload_n rfl rfl ?_
    refine xw_iload_n rfl rfl ?_
    refine xw_iast (n := (xw_le B (xw_rf x0 7))) rfl hB (xw_obd g2) rfl g1 ?_
    refine xw_iincc (z := (w32 (x2 + 1))) (L' := [(2, xi (w32 (x2 + 1))), (0, xa x0), (1, xa x1), (3, xi x3)]) rfl rfl (by decide) rfl rfl ?_
    refine xw_goto rfl ?_
    refine xw_lo (L2 := [(0, xa x0), (1, xa x1), (2, xi (w32 (x2 + 1)))]) (List.forall_mem_cons.mpr ⟨rfl, List.forall_mem_cons.mpr ⟨rfl, List.forall_mem_cons.mpr ⟨rfl, fun _ h => absurd h List.not_mem_nil⟩⟩⟩) ?_
    exact q
  exact hr2 _ _ _ _ (w32_w _)
theorem ysl28_12 {B : Nat} (hB : B ≤ 512) {xs : Nat → Int32} {SL d : Nat} {r2 : Int → Int → Int → xw_M → xP} (hr2 : ∀ x0 x1 x2 m, w32 x2 = x2 → xS B xs SL (d + 0) 28 (4, none, [], 4) 0 2 [(0, xa x0), (1, xa x1), (2, xi x2)] [] m (r2 x0 x1 x2 m)) {r12 : Int → Int → Int → Int → xw_M → xP} (hr12 : ∀ x0 x1 x2 x3 m, w32 x2 = x2 → w32 x3 = x3 → xS B xs SL (d + 0) 28 (4, none, [], 4) 0 12 [(0, xa x0), (1, xa x1), (2, xi x2), (3, xi x3)] [] m (r12 x0 x1 x2 x3 m)) : ∀ x0 x1 x2 x3 m, w32 x2 = x2 → w32 x3 = x3 → xS B xs SL (d + 0) 28 (4, none, [], 4) 0 12 [(0, xa x0), (1, xa x1), (2, xi x2), (3, xi x3)] [] m (yl28_12 B r2 r12 x0 x1 x2 x3 m) := by
  intro x0 x1 x2 x3 m c2 c3
  unfold yl28_12
  refine xS_of (pc' := 13) (L' := [(0, xa x0), (1, xa x1), (2, xi x2), (3, xi x3)]) (st' := [xi x3]) (m' := m) (fun ex ns r q => ?_) ?_
  · refine xw_iload_n rfl rfl ?_
    exact q
  refine xS_if (fun h0 => ?_) (fun h0 => ?_)
  · refine xS_g (fun g1 => ?_)
    refine xS_g (fun g2 => ?_)
    refine xS_g (fun g3 => ?_)
    refine xS_g (fun g4 => ?_)
    refine xS_g (fun g5 => ?_)
    refine xS_g (fun g6 => ?_)
    refine xS_of (pc' := 29) (L' := [(0, xa x0), (1, xa x1), (2, xi x2), (3, xi x3)]) (st' := [xi (xR m x1 x2), xi (xR m x1 (xR m (xw_rf x0 7) (x3 - 1)))]) (m' := m) (fun ex ns r q => ?_) ?_
    · refine xw_if_leF rfl (w32_cg c3) (Int.not_le.mpr h0) ?_
      refine xw_aload_n rfl rfl rfl ?_
      refine xw_aload_n rfl rfl rfl ?_
      refine xw_gfV (qi := 7) rfl (xw_obd g1) xk3_7 rfl ?_
      refine xw_iload_n rfl rfl ?_
      refine xw_iconst rfl ?_
      refine xw_isub rfl ?_
      refine xw_ialdc (n := (xw_le B (xw_rf x0 7))) (v := (m (xw_rf x0 7) (x3 - 1))) (v' := (xR m (xw_rf x0 7) (x3 - 1))) rfl hB (xw_obd g3) rfl g2 rfl rfl ?_
      refine xw_ialdc (n := (xw_le B x1)) (v := (m x1 (xR m (xw_rf x0 7) (x3 - 1)))) (v' := (xR m x1 (xR m (xw_rf x0 7) (x3 - 1)))) rfl hB (xw_obd g5) rfl g4 rfl rfl ?_
      refine xw_aload_n rfl rfl rfl ?_
      refine xw_iload_n rfl rfl ?_
      refine xw_ialdc (n := (xw_le B x1)) (v := (m x1 x2)) (v' := (xR m x1 x2)) rfl hB (xw_obd g5) rfl g6 rfl rfl ?_
      exact q
    refine xS_if (fun h7 => ?_) (fun h7 => ?_)
    · refine xS_g (fun g8 => ?_)
      refine xS_of (pc' := 12) (L' := [(0, xa x0), (1, xa x1), (2, xi x2), (3, xi (w32 (x3 + (-1))))]) (st' := []) (m' := (xw_u m (xw_rf x0 7) x3 (xR m (xw_rf x0 7) (x3 - 1)))) (fun ex ns r q => ?_) ?_
      · refine xw_ic_leF rfl (w32_cg (w32_xR _ _ _)) (w32_cg (w32_xR _ _ _)) (Int.not_le.mpr h7) ?_
        refine xw_aload_n rfl rfl rfl ?_
        refine xw_gfV (qi := 7) rfl (xw_obd g1) xk3_7 rfl ?_
        refine xw_iload_n rfl rfl ?_
        refine xw_aload_n rfl rfl rfl ?_
        refine xw_gfV (qi := 7) rfl (xw_obd g1) xk3_7 rfl ?_
        refine xw_iload_n rfl rfl ?_
        refine xw_iconst rfl ?_
        refine xw_isub rfl ?_
        refine xw_ialdc (n := (xw_le B (xw_rf x0 7))) (v := (m (xw_rf x0 7) (x3 - 1))) (v' := (xR m (xw_rf x0 7) (x3 - 1))) rfl hB (xw_obd g3) rfl g2 rfl rfl ?_
        refine xw_iast (n := (xw_le B (xw_rf x0 7))) rfl hB (xw_obd g3) rfl g8 ?_
        refine xw_iincc (z := (w32 (x3 + (-1)))) (L' := [(3, xi (w32 (x3 + (-1)))), (0, xa x0), (1, xa x1), (2, xi x2)]) rfl rfl (by decide) rfl rfl ?_
        refine xw_goto rfl ?_
        refine xw_lo (L2 := [(0, xa x0), (1, xa x1), (2, xi x2), (3, xi (w32 (x3 + (-1))))]) (List.forall_mem_cons.mpr ⟨rfl, List.forall_mem_cons.mpr ⟨rfl, List.forall_mem_cons.mpr ⟨rfl, List.forall_mem_cons.mpr ⟨rfl, fun _ h => absurd h List.not_mem_nil⟩⟩⟩⟩) ?_
        exact q
      exact hr12 _ _ _ _ _ c2 (w32_w _)
    · refine xS_of (pc' := 52) (L' := [(0, xa x0), (1, xa x1), (2, xi x2), (3, xi x3)]) (st' := []) (m' := m) (fun ex ns r q => ?_) ?_
      · refine xw_ic_leT rfl (w32_cg (w32_xR _ _ _)) (w32_cg (w32_xR _ _ _)) (Int.not_lt.mp h7) ?_
        refine xw_lo (L2 := [(0, xa x0), (1, xa x1), (2, xi x2), (3, xi x3)]) (List.forall_mem_cons.mpr ⟨rfl, List.forall_mem_cons.mpr ⟨rfl, List.forall_mem_cons.mpr ⟨rfl, List.forall_mem_cons.mpr ⟨rfl, fun _ h => absurd h List.not_mem_nil⟩⟩⟩⟩) ?_
        exact q
      exact ygk28_52 hB hr2 _ _ _ _ _ c2 c3
  · refine xS_of (pc' := 52) (L' := [(0, xa x0), (1, xa x1), (2, xi x2), (3, xi x3)]) (st' := []) (m' := m) (fun ex ns r q => ?_) ?_
    · refine xw_if_leT rfl (w32_cg c3) (Int.not_lt.mp h0) ?_
      refine xw_lo (L2 := [(0, xa x0), (1, xa x1), (2, xi x2), (3, xi x3)]) (List.forall_mem_cons.mpr ⟨rfl, List.forall_mem_cons.mpr ⟨rfl, List.forall_mem_cons.mpr ⟨rfl, List.forall_mem_cons.mpr ⟨rfl, fun _ h => absurd h List.not_mem_nil⟩⟩⟩⟩) ?_
      exact q
    exact ygk28_52 hB hr2 _ _ _ _ _ c2 c3
theorem ygl28_12 {B : Nat} (hB : B ≤ 512) {xs : Nat → Int32} {SL d : Nat} {r2 : Int → Int → Int → xw_M → xP} (hr2 : ∀ x0 x1 x2 m, w32 x2 = x2 → xS B xs SL (d + 0) 28 (4, none, [], 4) 0 2 [(0, xa x0), (1, xa x1), (2, xi x2)] [] m (r2 x0 x1 x2 m)) : ∀ n x0 x1 x2 x3 m, w32 x2 = x2 → w32 x3 = x3 → xS B xs SL (d + 0) 28 (4, none, [], 4) 0 12 [(0, xa x0), (1, xa x1), (2, xi x2), (3, xi x3)] [] m (xl4 (yl28_12 B r2) n x0 x1 x2 x3 m) := by
  intro n
  induction n with
  | zero => intro x0 x1 x2 x3 m c2 c3; exact xS_none
  | succ n ih => exact ysl28_12 hB hr2 ih
theorem ysl28_2 {B : Nat} (hB : B ≤ 512) {xs : Nat → Int32} {SL d : Nat} {r2 : Int → Int → Int → xw_M → xP} (hr2 : ∀ x0 x1 x2 m, w32 x2 = x2 → xS B xs SL (d + 0) 28 (4, none, [], 4) 0 2 [(0, xa x0), (1, xa x1), (2, xi x2)] [] m (r2 x0 x1 x2 m)) : ∀ x0 x1 x2 m, w32 x2 = x2 → xS B xs SL (d + 0) 28 (4, none, [], 4) 0 2 [(0, xa x0), (1, xa x1), (2, xi x2)] [] m (yl28_2 B r2 x0 x1 x2 m) := by
  intro x0 x1 x2 m c2
  unfold yl28_2
  refine xS_g (fun g0 => ?_)
  refine xS_of (pc' := 7) (L' := [(0, xa x0), (1, xa x1), (2, xi x2)]) (st' := [xi (xR m x0 11), xi x2]) (m' := m) (fun ex ns r q => ?_) ?_
  · refine xw_iload_n rfl rfl ?_
    refine xw_aload_n rfl rfl rfl ?_
    refine xw_gfIc (v := (m x0 11)) (v' := (xR m x0 11)) rfl (xw_obd g0) xk3_11 (qi := 11) rfl rfl rfl ?_
    exact q
  refine xS_if (fun h1 => ?_) (fun h1 => ?_)
  · refine xS_of (pc' := 12) (L' := [(0, xa x0), (1, xa x1), (2, xi x2), (3, xi x2)]) (st' := []) (m' := m) (fun ex ns r q => ?_) ?_
    · refine xw_ic_geF rfl (w32_cg c2) (w32_cg (w32_xR _ _ _)) (Int.not_le.mpr h1) ?_
      refine xw_iload_n rfl rfl ?_
      refine xw_istore_n (L' := [(3, xi x2), (0, xa x0), (1, xa x1), (2, xi x2)]) rfl (by decide) rfl ?_
      refine xw_lo (L2 := [(0, xa x0), (1, xa x1), (2, xi x2), (3, xi x2)]) (List.forall_mem_cons.mpr ⟨rfl, List.forall_mem_cons.mpr ⟨rfl, List.forall_mem_cons.mpr ⟨rfl, List.forall_mem_cons.mpr ⟨rfl, fun _ h => absurd h List.not_mem_nil⟩⟩⟩⟩) ?_
      exact q
    exact ygl28_12 hB hr2 1000000 _ _ _ _ _ c2 c2
  · refine xS_of (pc' := 65) (L' := [(0, xa x0), (1, xa x1), (2, xi x2)]) (st' := []) (m' := m) (fun ex ns r q => ?_) ?_
    · refine xw_ic_geT rfl (w32_cg c2) (w32_cg (w32_xR _ _ _)) (Int.not_lt.mp h1) ?_
      exact q
    exact xS_ret (v := 0) rfl rfl rfl rfl
theorem ygl28_2 {B : Nat} (hB : B ≤ 512) {xs : Nat → Int32} {SL d : Nat} : ∀ n x0 x1 x2 m, w32 x2 = x2 → xS B xs SL (d + 0) 28 (4, none, [], 4) 0 2 [(0, xa x0), (1, xa x1), (2, xi x2)] [] m (xl3 (yl28_2 B) n x0 x1 x2 m) := by
  intro n
  induction n with
  | zero => intro x0 x1 x2 m c2; exact xS_none
  | succ n ih => exact ysl28_2 hB ih
theorem ygf28 {B : Nat} (hB : B ≤ 512) {xs : Nat → Int32} {SL d : Nat} : ∀ t p0 m, xS B xs SL (d + 0) 28 (4, none, [], 4) 0 0 [(0, xa t), (1, xa p0)] [] m (yf28 B t p0 m) := by
  intro t p0 m
  unfold yf28
  refine xS_of (pc' := 2) (L' := [(0, xa t), (1, xa p0), (2, xi 0)]) (st' := []) (m' := m) (fun ex ns r q => ?_) ?_
  · refine xw_iconst rfl ?_
    refine xw_istore_n (L' := [(2, xi 0), (0, xa t), (1, xa p0)]) rfl (by decide) rfl ?_
    refine xw_lo (L2 := [(0, xa t), (1, xa p0), (2, xi 0)]) (List.forall_mem_cons.mpr ⟨rfl, List.forall_mem_cons.mpr ⟨rfl, List.forall_mem_cons.mpr ⟨rfl, fun _ h => absurd h List.not_mem_nil⟩⟩⟩) ?_
    exact q
  exact ygl28_2 hB 1000000 _ _ _ _ rfl
theorem ygk29_66 {B : Nat} (hB : B ≤ 512) {xs : Nat → Int32} {SL d : Nat} {r12 : Int → Int → Int → Int → Int → xw_M → xP} (hr12 : ∀ x0 x1 x2 x3 x4 m, w32 x1 = x1 → w32 x3 = x3 → w32 x4 = x4 → xS B xs SL (d + 0) 29 (6, none, [], 4) 0 12 [(0, xa x0), (1, xi x1), (2, xa x2), (3, xi x3), (4, xi x4)] [] m (r12 x0 x1 x2 x3 x4 m)) : ∀ x0 x1 x2 x3 x4 x5 m, w32 x1 = x1 → w32 x3 = x3 → w32 x4 = x4 → w32 x5 = x5 → xS B xs SL (d + 0) 29 (6, none, [], 4) 0 66 [(0, xa x0), (1, xi x1), (2, xa x2), (3, xi x3), (4, xi x4), (5, xi x5)] [] m (yk29_66 B r12 x0 x1 x2 x3 x4 x5 m) := by
  intro x0 x1 x2 x3 x4 x5 m c1 c3 c4 c5
  unfold yk29_66
  refine xS_g (fun g0 => ?_)
  refine xS_g (fun g1 => ?_)
  refine xS_g (fun g2 => ?_)
  refine xS_g (fun g3 => ?_)
  refine xS_g (fun g4 => ?_)
  refine xS_g (fun g5 => ?_)
  refine xS_of (pc' := 12) (L' := [(0, xa x0), (1, xi x1), (2, xa x2), (3, xi x3), (4, xi (w32 (x4 + 1)))]) (st' := []) (m' := (xw_u m (xw_rf (xw_rf x0 4) x1) x5 x3)) (fun ex ns r q => ?_) ?_
  · refine xw_aload_n rfl rfl rfl ?_
    refine xw_gfV (qi := 4) rfl (xw_obd g0) xk3_4 rfl ?_
    refine xw_iload_n rfl rfl ?_
    refine xw_aald (t := 20) (n := (xw_le B (xw_rf x0 4))) (q := xw_kd (xw_rf x0 4) x1 - 5) (e := (xw_rf (xw_rf x0 4) x1)) rfl hB (xw_obd g3) (by decide) rfl g1 (by have := g2; omega) (xw_rfn g2) ?_
    refine xw_iload rfl rfl ?_
    refine xw_iload_n rfl rfl ?_
    refine xw_iast (n := (xw_le B (xw_rf (xw_rf x0 4) x1))) rfl hB (xw_obd g5) rfl g4 ?_
    refine xw_iincc (z := (w32 (x4 + 1))) (L' := [(4, xi (w32 (x4 + 1))), (0, xa x0), (1, xi x1), (2, xa x2), (3, xi x3), (5, xi x5)]) rfl rfl (by decide) rfl rfl ?_
    refine xw_goto rfl ?_
    refine xw_lo (L2 := [(0, xa x0), (1, xi x1), (2, xa x2), (3, xi x3), (4, xi (w32 (x4 + 1)))]) (List.forall_mem_cons.mpr ⟨rfl, List.forall_mem_cons.mpr ⟨rfl, List.forall_mem_cons.mpr ⟨rfl, List.forall_mem_cons.mpr ⟨rfl, List.forall_mem_cons.mpr ⟨rfl, fun _ h => absurd h List.not_mem_nil⟩⟩⟩⟩⟩) ?_
    exact q
  exact hr12 _ _ _ _ _ _ c1 c3 (w32_w _)
theorem ygk29_53 {B : Nat} (hB : B ≤ 512) {xs : Nat → Int32} {SL d : Nat} {r12 : Int → Int → Int → Int → Int → xw_M → xP} (hr12 : ∀ x0 x1 x2 x3 x4 m, w32 x1 = x1 → w32 x3 = x3 → w32 x4 = x4 → xS B xs SL (d + 0) 29 (6, none, [], 4) 0 12 [(0, xa x0), (1, xi x1), (2, xa x2), (3, xi x3), (4, xi x4)] [] m (r12 x0 x1 x2 x3 x4 m)) : ∀ x0 x1 x2 x3 x4 x5 m, w32 x1 = x1 → w32 x3 = x3 → w32 x4 = x4 → w32 x5 = x5 → xS B xs SL (d + 0) 29 (6, none, [], 4) 0 53 [(0, xa x0), (1, xi x1), (2, xa x2), (3, xi x3), (4, xi x4), (5, xi x5)] [] m (yk29_53 B r12 x0 x1 x2 x3 x4 x5 m) := by
  intro x0 x1 x2 x3 x4 x5 m c1 c3 c4 c5
  unfold yk29_53
  refine xS_g (fun g0 => ?_)
  refine xS_g (fun g1 => ?_)
  refine xS_g (fun g2 => ?_)
  refine xS_g (fun g3 => ?_)
  refine xS_g (fun g4 => ?_)
  refine xS_g (fun g5 => ?_)
  refine xS_of (pc' := 66) (L' := [(0, xa x0), (1, xi x1), (2, xa x2), (3, xi (w32 (x3 + 1))), (4, xi x4), (5, xi x5)]) (st' := []) (m' := (xw_u m (xw_rf (xw_rf x0 5) x1) (w32 (x3 + 1)) x5)) (fun ex ns r q => ?_) ?_
  · refine xw_iincc (z := (w32 (x3 + 1))) (L' := [(3, xi (w32 (x3 + 1))), (0, xa x0), (1, xi x1), (2, xa x2), (4, xi x4), (5, xi x5)]) rfl rfl (by decide) rfl rfl ?_
    refine xw_aload_n rfl rfl rfl ?_
    refine xw_gfV (qi := 5) rfl (xw_obd g0) xk3_5 rfl ?_
    refine xw_iload_n rfl rfl ?_
    refine xw_aald (t := 20) (n := (xw_le B (xw_rf x0 5))) (q := xw_kd (xw_rf x0 5) x1 - 5) (e := (xw_rf (xw_rf x0 5) x1)) rfl hB (xw_obd g3) (by decide) rfl g1 (by have := g2; omega) (xw_rfn g2) ?_
    refine xw_iload_n rfl rfl ?_
    refine xw_iload rfl rfl ?_
    refine xw_iast (n := (xw_le B (xw_rf (xw_rf x0 5) x1))) rfl hB (xw_obd g5) rfl g4 ?_
    refine xw_lo (L2 := [(0, xa x0), (1, xi x1), (2, xa x2), (3, xi (w32 (x3 + 1))), (4, xi x4), (5, xi x5)]) (List.forall_mem_cons.mpr ⟨rfl, List.forall_mem_cons.mpr ⟨rfl, List.forall_mem_cons.mpr ⟨rfl, List.forall_mem_cons.mpr ⟨rfl, List.forall_mem_cons.mpr ⟨rfl, List.forall_mem_cons.mpr ⟨rfl, fun _ h => absurd h List.not_mem_nil⟩⟩⟩⟩⟩⟩) ?_
    exact q
  exact ygk29_66 hB hr12 _ _ _ _ _ _ _ c1 (w32_w _) c4 c5
theorem ysl29_12 {B : Nat} (hB : B ≤ 512) {xs : Nat → Int32} {SL d : Nat} {r12 : Int → Int → Int → Int → Int → xw_M → xP} (hr12 : ∀ x0 x1 x2 x3 x4 m, w32 x1 = x1 → w32 x3 = x3 → w32 x4 = x4 → xS B xs SL (d + 0) 29 (6, none, [], 4) 0 12 [(0, xa x0), (1, xi x1), (2, xa x2), (3, xi x3), (4, xi x4)] [] m (r12 x0 x1 x2 x3 x4 m)) : ∀ x0 x1 x2 x3 x4 m, w32 x1 = x1 → w32 x3 = x3 → w32 x4 = x4 → xS B xs SL (d + 0) 29 (6, none, [], 4) 0 12 [(0, xa x0), (1, xi x1), (2, xa x2), (3, xi x3), (4, xi x4)] [] m (yl29_12 B r12 x0 x1 x2 x3 x4 m) := by
  intro x0 x1 x2 x3 x4 m c1 c3 c4
  unfold yl29_12
  refine xS_g (fun g0 => ?_)
  refine xS_of (pc' := 18) (L' := [(0, xa x0), (1, xi x1), (2, xa x2), (3, xi x3), (4, xi x4)]) (st' := [xi (xR m x0 11), xi x4]) (m' := m) (fun ex ns r q => ?_) ?_
  · refine xw_iload rfl rfl ?_
    refine xw_aload_n rfl rfl rfl ?_
    refine xw_gfIc (v := (m x0 11)) (v' := (xR m x0 11)) rfl (xw_obd g0) xk3_11 (qi := 11) rfl rfl rfl ?_
    exact q
  refine xS_if (fun h1 => ?_) (fun h1 => ?_)
  · refine xS_g (fun g2 => ?_)
    refine xS_g (fun g3 => ?_)
    refine xS_of (pc' := 32) (L' := [(5, xi (xR m (xw_rf x0 7) x4)), (0, xa x0), (1, xi x1), (2, xa x2), (3, xi x3), (4, xi x4)]) (st' := [xi x4]) (m' := m) (fun ex ns r q => ?_) ?_
    · refine xw_ic_geF rfl (w32_cg c4) (w32_cg (w32_xR _ _ _)) (Int.not_le.mpr h1) ?_
      refine xw_aload_n rfl rfl rfl ?_
      refine xw_gfV (qi := 7) rfl (xw_obd g0) xk3_7 rfl ?_
      refine xw_iload rfl rfl ?_
      refine xw_ialdc (n := (xw_le B (xw_rf x0 7))) (v := (m (xw_rf x0 7) x4)) (v' := (xR m (xw_rf x0 7) x4)) rfl hB (xw_obd g3) rfl g2 rfl rfl ?_
      refine xw_istore (L' := [(5, xi (xR m (xw_rf x0 7) x4)), (0, xa x0), (1, xi x1), (2, xa x2), (3, xi x3), (4, xi x4)]) rfl (by decide) rfl ?_
      refine xw_iload rfl rfl ?_
      exact q
    refine xS_if (fun h4 => ?_) (fun h4 => ?_)
    · refine xS_of (pc' := 53) (L' := [(0, xa x0), (1, xi x1), (2, xa x2), (3, xi x3), (4, xi x4), (5, xi (xR m (xw_rf x0 7) x4))]) (st' := []) (m' := m) (fun ex ns r q => ?_) ?_
      · refine xw_if_eqT rfl (w32_cg c4) h4 ?_
        refine xw_lo (L2 := [(0, xa x0), (1, xi x1), (2, xa x2), (3, xi x3), (4, xi x4), (5, xi (xR m (xw_rf x0 7) x4))]) (List.forall_mem_cons.mpr ⟨rfl, List.forall_mem_cons.mpr ⟨rfl, List.forall_mem_cons.mpr ⟨rfl, List.forall_mem_cons.mpr ⟨rfl, List.forall_mem_cons.mpr ⟨rfl, List.forall_mem_cons.mpr ⟨rfl, fun _ h => absurd h List.not_mem_nil⟩⟩⟩⟩⟩⟩) ?_
        exact q
      exact ygk29_53 hB hr12 _ _ _ _ _ _ _ c1 c3 c4 (w32_xR _ _ _)
    · refine xS_g (fun g5 => ?_)
      refine xS_g (fun g6 => ?_)
      refine xS_g (fun g7 => ?_)
      refine xS_g (fun g8 => ?_)
      refine xS_of (pc' := 50) (L' := [(5, xi (xR m (xw_rf x0 7) x4)), (0, xa x0), (1, xi x1), (2, xa x2), (3, xi x3), (4, xi x4)]) (st' := [xi (xR m x2 (xR m (xw_rf x0 7) (x4 - 1))), xi (xR m x2 (xR m (xw_rf x0 7) x4))]) (m' := m) (fun ex ns r q => ?_) ?_
      · refine xw_if_eqF rfl (w32_cg c4) h4 ?_
        refine xw_aload_n rfl rfl rfl ?_
        refine xw_iload rfl rfl ?_
        refine xw_ialdc (n := (xw_le B x2)) (v := (m x2 (xR m (xw_rf x0 7) x4))) (v' := (xR m x2 (xR m (xw_rf x0 7) x4))) rfl hB (xw_obd g6) rfl g5 rfl rfl ?_
        refine xw_aload_n rfl rfl rfl ?_
        refine xw_aload_n rfl rfl rfl ?_
        refine xw_gfV (qi := 7) rfl (xw_obd g0) xk3_7 rfl ?_
        refine xw_iload rfl rfl ?_
        refine xw_iconst rfl ?_
        refine xw_isub rfl ?_
        refine xw_ialdc (n := (xw_le B (xw_rf x0 7))) (v := (m (xw_rf x0 7) (x4 - 1))) (v' := (xR m (xw_rf x0 7) (x4 - 1))) rfl hB (xw_obd g3) rfl g7 rfl rfl ?_
        refine xw_ialdc (n := (xw_le B x2)) (v := (m x2 (xR m (xw_rf x0 7) (x4 - 1)))) (v' := (xR m x2 (xR m (xw_rf x0 7) (x4 - 1)))) rfl hB (xw_obd g6) rfl g8 rfl rfl ?_
        exact q
      refine xS_if (fun h9 => ?_) (fun h9 => ?_)
      · refine xS_of (pc' := 66) (L' := [(0, xa x0), (1, xi x1), (2, xa x2), (3, xi x3), (4, xi x4), (5, xi (xR m (xw_rf x0 7) x4))]) (st' := []) (m' := m) (fun ex ns r q => ?_) ?_
        · refine xw_ic_eqT rfl (w32_cg (w32_xR _ _ _)) (w32_cg (w32_xR _ _ _)) h9 ?_
          refine xw_lo (L2 := [(0, xa x0), (1, xi x1), (2, xa x2), (3, xi x3), (4, xi x4), (5, xi (xR m (xw_rf x0 7) x4))]) (List.forall_mem_cons.mpr ⟨rfl, List.forall_mem_cons.mpr ⟨rfl, List.forall_mem_cons.mpr ⟨rfl, List.forall_mem_cons.mpr ⟨rfl, List.forall_mem_cons.mpr ⟨rfl, List.forall_mem_cons.mpr ⟨rfl, fun _ h => absurd h List.not_mem_nil⟩⟩⟩⟩⟩⟩) ?_
          exact q
        exact ygk29_66 hB hr12 _ _ _ _ _ _ _ c1 c3 c4 (w32_xR _ _ _)
      · refine xS_of (pc' := 53) (L' := [(0, xa x0), (1, xi x1), (2, xa x2), (3, xi x3), (4, xi x4), (5, xi (xR m (xw_rf x0 7) x4))]) (st' := []) (m' := m) (fun ex ns r q => ?_) ?_
        · refine xw_ic_eqF rfl (w32_cg (w32_xR _ _ _)) (w32_cg (w32_xR _ _ _)) h9 ?_
          refine xw_lo (L2 := [(0, xa x0), (1, xi x1), (2, xa x2), (3, xi x3), (4, xi x4), (5, xi (xR m (xw_rf x0 7) x4))]) (List.forall_mem_cons.mpr ⟨rfl, List.forall_mem_cons.mpr ⟨rfl, List.forall_mem_cons.mpr ⟨rfl, List.forall_mem_cons.mpr ⟨rfl, List.forall_mem_cons.mpr ⟨rfl, List.forall_mem_cons.mpr ⟨rfl, fun _ h => absurd h List.not_mem_nil⟩⟩⟩⟩⟩⟩) ?_
          exact q
        exact ygk29_53 hB hr12 _ _ _ _ _ _ _ c1 c3 c4 (w32_xR _ _ _)
  · refine xS_g (fun g2 => ?_)
    refine xS_g (fun g3 => ?_)
    refine xS_of (pc' := 91) (L' := [(0, xa x0), (1, xi x1), (2, xa x2), (3, xi x3), (4, xi x4)]) (st' := []) (m' := (xw_u m (xw_rf x0 6) x1 (x3 + 1))) (fun ex ns r q => ?_) ?_
    · refine xw_ic_geT rfl (w32_cg c4) (w32_cg (w32_xR _ _ _)) (Int.not_lt.mp h1) ?_
      refine xw_aload_n rfl rfl rfl ?_
      refine xw_gfV (qi := 6) rfl (xw_obd g0) xk3_6 rfl ?_
      refine xw_iload_n rfl rfl ?_
      refine xw_iload_n rfl rfl ?_
      refine xw_iconst rfl ?_
      refine xw_iadd rfl ?_
      refine xw_iast (n := (xw_le B (xw_rf x0 6))) rfl hB (xw_obd g3) rfl g2 ?_
      exact q
    exact xS_ret (v := 0) rfl rfl rfl rfl
theorem ygl29_12 {B : Nat} (hB : B ≤ 512) {xs : Nat → Int32} {SL d : Nat} : ∀ n x0 x1 x2 x3 x4 m, w32 x1 = x1 → w32 x3 = x3 → w32 x4 = x4 → xS B xs SL (d + 0) 29 (6, none, [], 4) 0 12 [(0, xa x0), (1, xi x1), (2, xa x2), (3, xi x3), (4, xi x4)] [] m (xl5 (yl29_12 B) n x0 x1 x2 x3 x4 m) := by
  intro n
  induction n with
  | zero => intro x0 x1 x2 x3 x4 m c1 c3 c4; exact xS_none
  | succ n ih => exact ysl29_12 hB ih
theorem ygf29 {B : Nat} (hB : B ≤ 512) {xs : Nat → Int32} {SL d : Nat} : ∀ t p0 m, w32 p0 = p0 → xS B xs SL (d + 0) 29 (6, none, [], 4) 0 0 [(0, xa t), (1, xi p0)] [] m (yf29 B t p0 m) := by
  intro t p0 m cp0
  unfold yf29
  refine xS_g (fun g0 => ?_)
  refine xS_g (fun g1 => ?_)
  refine xS_g (fun g2 => ?_)
  refine xS_g (fun g3 => ?_)
  refine xS_of (pc' := 12) (L' := [(0, xa t), (1, xi p0), (2, xa (xw_rf (xw_rf t 3) p0)), (3, xi (-1)), (4, xi 0)]) (st' := []) (m' := m) (fun ex ns r q => ?_) ?_
  · refine xw_aload_n rfl rfl rfl ?_
    refine xw_gfV (qi := 3) rfl (xw_obd g0) xk3_3 rfl ?_
    refine xw_iload_n rfl rfl ?_
    refine xw_aald (t := 20) (n := (xw_le B (xw_rf t 3))) (q := xw_kd (xw_rf t 3) p0 - 5) (e := (xw_rf (xw_rf t 3) p0)) rfl hB (xw_obd g3) (by decide) rfl g1 (by have := g2; omega) (xw_rfn g2) ?_
    refine xw_astore_n (L' := [(2, xa (xw_rf (xw_rf t 3) p0)), (0, xa t), (1, xi p0)]) rfl rfl (by decide) rfl ?_
    refine xw_iconst rfl ?_
    refine xw_istore_n (L' := [(3, xi (-1)), (2, xa (xw_rf (xw_rf t 3) p0)), (0, xa t), (1, xi p0)]) rfl (by decide) rfl ?_
    refine xw_iconst rfl ?_
    refine xw_istore (L' := [(4, xi 0), (3, xi (-1)), (2, xa (xw_rf (xw_rf t 3) p0)), (0, xa t), (1, xi p0)]) rfl (by decide) rfl ?_
    refine xw_lo (L2 := [(0, xa t), (1, xi p0), (2, xa (xw_rf (xw_rf t 3) p0)), (3, xi (-1)), (4, xi 0)]) (List.forall_mem_cons.mpr ⟨rfl, List.forall_mem_cons.mpr ⟨rfl, List.forall_mem_cons.mpr ⟨rfl, List.forall_mem_cons.mpr ⟨rfl, List.forall_mem_cons.mpr ⟨rfl, fun _ h => absurd h List.not_mem_nil⟩⟩⟩⟩⟩) ?_
    exact q
  exact ygl29_12 hB 1000000 _ _ _ _ _ _ cp0 rfl rfl
theorem ysl27_22 {B : Nat} (hB : B ≤ 512) {xs : Nat → Int32} {SL d : Nat} {r12 : Int → Int → xw_M → xP} (hr12 : ∀ x0 x1 m, w32 x1 = x1 → xS B xs SL (d + 1) 27 (3, none, [], 4) 0 12 [(0, xa x0), (1, xi x1)] [] m (r12 x0 x1 m)) {r22 : Int → Int → Int → xw_M → xP} (hr22 : ∀ x0 x1 x2 m, w32 x1 = x1 → w32 x2 = x2 → xS B xs SL (d + 1) 27 (3, none, [], 4) 0 22 [(0, xa x0), (1, xi x1), (2, xi x2)] [] m (r22 x0 x1 x2 m)) : ∀ x0 x1 x2 m, w32 x1 = x1 → w32 x2 = x2 → xS B xs SL (d + 1) 27 (3, none, [], 4) 0 22 [(0, xa x0), (1, xi x1), (2, xi x2)] [] m (yl27_22 B r12 r22 x0 x1 x2 m) := by
  intro x0 x1 x2 m c1 c2
  unfold yl27_22
  refine xS_g (fun g0 => ?_)
  refine xS_of (pc' := 27) (L' := [(0, xa x0), (1, xi x1), (2, xi x2)]) (st' := [xi (xR m x0 11), xi x2]) (m' := m) (fun ex ns r q => ?_) ?_
  · refine xw_iload_n rfl rfl ?_
    refine xw_aload_n rfl rfl rfl ?_
    refine xw_gfIc (v := (m x0 11)) (v' := (xR m x0 11)) rfl (xw_obd g0) xk3_11 (qi := 11) rfl rfl rfl ?_
    exact q
  refine xS_if (fun h1 => ?_) (fun h1 => ?_)
  · refine xS_g (fun g2 => ?_)
    refine xS_g (fun g3 => ?_)
    refine xS_g (fun g4 => ?_)
    refine xS_g (fun g5 => ?_)
    refine xS_g (fun g6 => ?_)
    refine xS_g (fun g7 => ?_)
    refine xS_g (fun g8 => ?_)
    refine xS_g (fun g9 => ?_)
    refine xS_g (fun g10 => ?_)
    refine xS_of (pc' := 22) (L' := [(0, xa x0), (1, xi x1), (2, xi (w32 (x2 + 1)))]) (st' := []) (m' := (xw_u m (xw_rf x0 8) x2 (xR m (xw_rf (xw_rf x0 3) x1) (xR m (xw_rf x0 7) x2)))) (fun ex ns r q => ?_) ?_
    · refine xw_ic_geF rfl (w32_cg c2) (w32_cg (w32_xR _ _ _)) (Int.not_le.mpr h1) ?_
      refine xw_aload_n rfl rfl rfl ?_
      refine xw_gfV (qi := 8) rfl (xw_obd g0) xk3_8 rfl ?_
      refine xw_iload_n rfl rfl ?_
      refine xw_aload_n rfl rfl rfl ?_
      refine xw_gfV (qi := 3) rfl (xw_obd g0) xk3_3 rfl ?_
      refine xw_iload_n rfl rfl ?_
      refine xw_aald (t := 20) (n := (xw_le B (xw_rf x0 3))) (q := xw_kd (xw_rf x0 3) x1 - 5) (e := (xw_rf (xw_rf x0 3) x1)) rfl hB (xw_obd g4) (by decide) rfl g2 (by have := g3; omega) (xw_rfn g3) ?_
      refine xw_aload_n rfl rfl rfl ?_
      refine xw_gfV (qi := 7) rfl (xw_obd g0) xk3_7 rfl ?_
      refine xw_iload_n rfl rfl ?_
      refine xw_ialdc (n := (xw_le B (xw_rf x0 7))) (v := (m (xw_rf x0 7) x2)) (v' := (xR m (xw_rf x0 7) x2)) rfl hB (xw_obd g6) rfl g5 rfl rfl ?_
      refine xw_ialdc (n := (xw_le B (xw_rf (xw_rf x0 3) x1))) (v := (m (xw_rf (xw_rf x0 3) x1) (xR m (xw_rf x0 7) x2))) (v' := (xR m (xw_rf (xw_rf x0 3) x1) (xR m (xw_rf x0 7) x2))) rfl hB (xw_obd g8) rfl g7 rfl rfl ?_
      refine xw_iast (n := (xw_le B (xw_rf x0 8))) rfl hB (xw_obd g10) rfl g9 ?_
      refine xw_iincc (z := (w32 (x2 + 1))) (L' := [(2, xi (w32 (x2 + 1))), (0, xa x0), (1, xi x1)]) rfl rfl (by decide) rfl rfl ?_
      refine xw_goto rfl ?_
      refine xw_lo (L2 := [(0, xa x0), (1, xi x1), (2, xi (w32 (x2 + 1)))]) (List.forall_mem_cons.mpr ⟨rfl, List.forall_mem_cons.mpr ⟨rfl, List.forall_mem_cons.mpr ⟨rfl, fun _ h => absurd h List.not_mem_nil⟩⟩⟩) ?_
      exact q
    exact hr22 _ _ _ _ c1 (w32_w _)
  · refine xS_g (fun g2 => ?_)
    refine xS_g (fun g3 => ?_)
    refine xS_g (fun g4 => ?_)
    refine xS_g (fun g5 => ?_)
    refine xS_g (fun g6 => ?_)
    refine xS_g (fun g7 => ?_)
    refine xS_of (pc' := 12) (L' := [(0, xa x0), (1, xi (w32 (x1 + 1)))]) (st' := []) (m' := (xw_cp m (xw_rf x0 8) 0 (xw_rf (xw_rf x0 3) x1) 0 (xR m x0 11))) (fun ex ns r q => ?_) ?_
    · refine xw_ic_geT rfl (w32_cg c2) (w32_cg (w32_xR _ _ _)) (Int.not_lt.mp h1) ?_
      refine xw_aload_n rfl rfl rfl ?_
      refine xw_gfV (qi := 8) rfl (xw_obd g0) xk3_8 rfl ?_
      refine xw_iconst rfl ?_
      refine xw_aload_n rfl rfl rfl ?_
      refine xw_gfV (qi := 3) rfl (xw_obd g0) xk3_3 rfl ?_
      refine xw_iload_n rfl rfl ?_
      refine xw_aald (t := 20) (n := (xw_le B (xw_rf x0 3))) (q := xw_kd (xw_rf x0 3) x1 - 5) (e := (xw_rf (xw_rf x0 3) x1)) rfl hB (xw_obd g4) (by decide) rfl g2 (by have := g3; omega) (xw_rfn g3) ?_
      refine xw_iconst rfl ?_
      refine xw_aload_n rfl rfl rfl ?_
      refine xw_gfIc (v := (m x0 11)) (v' := (xR m x0 11)) rfl (xw_obd g0) xk3_11 (qi := 11) rfl rfl rfl ?_
      refine xw_acopy (t := 16) (ls := (xw_le B (xw_rf x0 8))) (ld := (xw_le B (xw_rf (xw_rf x0 3) x1))) rfl rfl hB (xw_obd g6) (xw_obd g7) rfl rfl g5 rfl ?_
      refine xw_iincc (z := (w32 (x1 + 1))) (L' := [(1, xi (w32 (x1 + 1))), (0, xa x0), (2, xi x2)]) rfl rfl (by decide) rfl rfl ?_
      refine xw_goto rfl ?_
      refine xw_lo (L2 := [(0, xa x0), (1, xi (w32 (x1 + 1)))]) (List.forall_mem_cons.mpr ⟨rfl, List.forall_mem_cons.mpr ⟨rfl, fun _ h => absurd h List.not_mem_nil⟩⟩) ?_
      exact q
    exact hr12 _ _ _ (w32_w _)
theorem ygl27_22 {B : Nat} (hB : B ≤ 512) {xs : Nat → Int32} {SL d : Nat} {r12 : Int → Int → xw_M → xP} (hr12 : ∀ x0 x1 m, w32 x1 = x1 → xS B xs SL (d + 1) 27 (3, none, [], 4) 0 12 [(0, xa x0), (1, xi x1)] [] m (r12 x0 x1 m)) : ∀ n x0 x1 x2 m, w32 x1 = x1 → w32 x2 = x2 → xS B xs SL (d + 1) 27 (3, none, [], 4) 0 22 [(0, xa x0), (1, xi x1), (2, xi x2)] [] m (xl3 (yl27_22 B r12) n x0 x1 x2 m) := by
  intro n
  induction n with
  | zero => intro x0 x1 x2 m c1 c2; exact xS_none
  | succ n ih => exact ysl27_22 hB hr12 ih
theorem ysl27_82 {B : Nat} (hB : B ≤ 512) {xs : Nat → Int32} {SL d : Nat} {r82 : Int → Int → xw_M → xP} (hr82 : ∀ x0 x1 m, w32 x1 = x1 → xS B xs SL (d + 1) 27 (3, none, [], 4) 0 82 [(0, xa x0), (1, xi x1)] [] m (r82 x0 x1 m)) : ∀ x0 x1 m, w32 x1 = x1 → xS B xs SL (d + 1) 27 (3, none, [], 4) 0 82 [(0, xa x0), (1, xi x1)] [] m (yl27_82 B r82 x0 x1 m) := by
  intro x0 x1 m c1
  unfold yl27_82
  refine xS_g (fun g0 => ?_)
  refine xS_of (pc' := 87) (L' := [(0, xa x0), (1, xi x1)]) (st' := [xi (xR m x0 10), xi x1]) (m' := m) (fun ex ns r q => ?_) ?_
  · refine xw_iload_n rfl rfl ?_
    refine xw_aload_n rfl rfl rfl ?_
    refine xw_gfIc (v := (m x0 10)) (v' := (xR m x0 10)) rfl (xw_obd g0) xk3_10 (qi := 10) rfl rfl rfl ?_
    exact q
  refine xS_if (fun h1 => ?_) (fun h1 => ?_)
  · refine xS_g (fun g2 => ?_)
    refine xS_g (fun g3 => ?_)
    refine xS_g (fun g4 => ?_)
    refine xS_of (pc' := 97) (L' := [(0, xa x0), (1, xi x1)]) (st' := [xa (xw_rf (xw_rf x0 3) x1), xa x0]) (m' := m) (fun ex ns r q => ?_) ?_
    · refine xw_ic_geF rfl (w32_cg c1) (w32_cg (w32_xR _ _ _)) (Int.not_le.mpr h1) ?_
      refine xw_aload_n rfl rfl rfl ?_
      refine xw_aload_n rfl rfl rfl ?_
      refine xw_gfV (qi := 3) rfl (xw_obd g0) xk3_3 rfl ?_
      refine xw_iload_n rfl rfl ?_
      refine xw_aald (t := 20) (n := (xw_le B (xw_rf x0 3))) (q := xw_kd (xw_rf x0 3) x1 - 5) (e := (xw_rf (xw_rf x0 3) x1)) rfl hB (xw_obd g4) (by decide) rfl g2 (by have := g3; omega) (xw_rfn g3) ?_
      refine xw_lo (L2 := [(0, xa x0), (1, xi x1)]) (List.forall_mem_cons.mpr ⟨rfl, List.forall_mem_cons.mpr ⟨rfl, fun _ h => absurd h List.not_mem_nil⟩⟩) ?_
      exact q
    refine xS_call (q := 28) (n := 2) (kq := 0) (as := [xa x0, xa (xw_rf (xw_rf x0 3) x1)]) (st1 := []) rfl rfl rfl rfl rfl rfl rfl rfl rfl rfl (fun _ => xw_rcv1 (t := 3) (xw_obd g0) rfl) rfl (List.forall_mem_cons.mpr ⟨rfl, List.forall_mem_cons.mpr ⟨rfl, fun _ h => absurd h List.not_mem_nil⟩⟩) (ygf28 hB _ _ _) (fun v1 m1 cv1 => ?_)
    refine xS_of (pc' := 102) (L' := [(0, xa x0), (1, xi x1)]) (st' := [xi x1, xa x0]) (m' := m1) (fun ex ns r q => ?_) ?_
    · refine xw_aload_n rfl rfl rfl ?_
      refine xw_iload_n rfl rfl ?_
      refine xw_lo (L2 := [(0, xa x0), (1, xi x1)]) (List.forall_mem_cons.mpr ⟨rfl, List.forall_mem_cons.mpr ⟨rfl, fun _ h => absurd h List.not_mem_nil⟩⟩) ?_
      exact q
    refine xS_call (q := 29) (n := 2) (kq := 0) (as := [xa x0, xi x1]) (st1 := []) rfl rfl rfl rfl rfl rfl rfl rfl rfl rfl (fun _ => xw_rcv1 (t := 3) (xw_obd g0) rfl) rfl (List.forall_mem_cons.mpr ⟨rfl, List.forall_mem_cons.mpr ⟨rfl, fun _ h => absurd h List.not_mem_nil⟩⟩) (ygf29 hB _ _ _ c1) (fun v2 m2 cv2 => ?_)
    refine xS_of (pc' := 82) (L' := [(0, xa x0), (1, xi (w32 (x1 + 1)))]) (st' := []) (m' := m2) (fun ex ns r q => ?_) ?_
    · refine xw_iincc (z := (w32 (x1 + 1))) (L' := [(1, xi (w32 (x1 + 1))), (0, xa x0)]) rfl rfl (by decide) rfl rfl ?_
      refine xw_goto rfl ?_
      refine xw_lo (L2 := [(0, xa x0), (1, xi (w32 (x1 + 1)))]) (List.forall_mem_cons.mpr ⟨rfl, List.forall_mem_cons.mpr ⟨rfl, fun _ h => absurd h List.not_mem_nil⟩⟩) ?_
      exact q
    exact hr82 _ _ _ (w32_w _)
  · refine xS_of (pc' := 111) (L' := [(0, xa x0), (1, xi x1)]) (st' := []) (m' := m) (fun ex ns r q => ?_) ?_
    · refine xw_ic_geT rfl (w32_cg c1) (w32_cg (w32_xR _ _ _)) (Int.not_lt.mp h1) ?_
      exact q
    exact xS_ret (v := 0) rfl rfl rfl rfl
theorem ygl27_82 {B : Nat} (hB : B ≤ 512) {xs : Nat → Int32} {SL d : Nat} : ∀ n x0 x1 m, w32 x1 = x1 → xS B xs SL (d + 1) 27 (3, none, [], 4) 0 82 [(0, xa x0), (1, xi x1)] [] m (xl2 (yl27_82 B) n x0 x1 m) := by
  intro n
  induction n with
  | zero => intro x0 x1 m c1; exact xS_none
  | succ n ih => exact ysl27_82 hB ih
theorem ysl27_12 {B : Nat} (hB : B ≤ 512) {xs : Nat → Int32} {SL d : Nat} {r12 : Int → Int → xw_M → xP} (hr12 : ∀ x0 x1 m, w32 x1 = x1 → xS B xs SL (d + 1) 27 (3, none, [], 4) 0 12 [(0, xa x0), (1, xi x1)] [] m (r12 x0 x1 m)) : ∀ x0 x1 m, w32 x1 = x1 → xS B xs SL (d + 1) 27 (3, none, [], 4) 0 12 [(0, xa x0), (1, xi x1)] [] m (yl27_12 B r12 x0 x1 m) := by
  intro x0 x1 m c1
  unfold yl27_12
  refine xS_g (fun g0 => ?_)
  refine xS_of (pc' := 17) (L' := [(0, xa x0), (1, xi x1)]) (st' := [xi (xR m x0 10), xi x1]) (m' := m) (fun ex ns r q => ?_) ?_
  · refine xw_iload_n rfl rfl ?_
    refine xw_aload_n rfl rfl rfl ?_
    refine xw_gfIc (v := (m x0 10)) (v' := (xR m x0 10)) rfl (xw_obd g0) xk3_10 (qi := 10) rfl rfl rfl ?_
    exact q
  refine xS_if (fun h1 => ?_) (fun h1 => ?_)
  · refine xS_of (pc' := 22) (L' := [(0, xa x0), (1, xi x1), (2, xi 0)]) (st' := []) (m' := m) (fun ex ns r q => ?_) ?_
    · refine xw_ic_geF rfl (w32_cg c1) (w32_cg (w32_xR _ _ _)) (Int.not_le.mpr h1) ?_
      refine xw_iconst rfl ?_
      refine xw_istore_n (L' := [(2, xi 0), (0, xa x0), (1, xi x1)]) rfl (by decide) rfl ?_
      refine xw_lo (L2 := [(0, xa x0), (1, xi x1), (2, xi 0)]) (List.forall_mem_cons.mpr ⟨rfl, List.forall_mem_cons.mpr ⟨rfl, List.forall_mem_cons.mpr ⟨rfl, fun _ h => absurd h List.not_mem_nil⟩⟩⟩) ?_
      exact q
    exact ygl27_22 hB hr12 1000000 _ _ _ _ c1 rfl
  · refine xS_of (pc' := 82) (L' := [(0, xa x0), (1, xi 0)]) (st' := []) (m' := m) (fun ex ns r q => ?_) ?_
    · refine xw_ic_geT rfl (w32_cg c1) (w32_cg (w32_xR _ _ _)) (Int.not_lt.mp h1) ?_
      refine xw_iconst rfl ?_
      refine xw_istore_n (L' := [(1, xi 0), (0, xa x0)]) rfl (by decide) rfl ?_
      refine xw_lo (L2 := [(0, xa x0), (1, xi 0)]) (List.forall_mem_cons.mpr ⟨rfl, List.forall_mem_cons.mpr ⟨rfl, fun _ h => absurd h List.not_mem_nil⟩⟩) ?_
      exact q
    exact ygl27_82 hB 1000000 _ _ _ rfl
theorem ygl27_12 {B : Nat} (hB : B ≤ 512) {xs : Nat → Int32} {SL d : Nat} : ∀ n x0 x1 m, w32 x1 = x1 → xS B xs SL (d + 1) 27 (3, none, [], 4) 0 12 [(0, xa x0), (1, xi x1)] [] m (xl2 (yl27_12 B) n x0 x1 m) := by
  intro n
  induction n with
  | zero => intro x0 x1 m c1; exact xS_none
  | succ n ih => exact ysl27_12 hB ih
theorem ygf27 {B : Nat} (hB : B ≤ 512) {xs : Nat → Int32} {SL d : Nat} : ∀ t m, xS B xs SL (d + 1) 27 (3, none, [], 4) 0 0 [(0, xa t)] [] m (yf27 B t m) := by
  intro t m
  unfold yf27
  refine xS_g (fun g0 => ?_)
  refine xS_g (fun g1 => ?_)
  refine xS_g (fun g2 => ?_)
  refine xS_g (fun g3 => ?_)
  refine xS_of (pc' := 7) (L' := [(0, xa t)]) (st' := [xa (xw_rf (xw_rf t 3) 0), xa t]) (m' := m) (fun ex ns r q => ?_) ?_
  · refine xw_aload_n rfl rfl rfl ?_
    refine xw_aload_n rfl rfl rfl ?_
    refine xw_gfV (qi := 3) rfl (xw_obd g0) xk3_3 rfl ?_
    refine xw_iconst rfl ?_
    refine xw_aald (t := 20) (n := (xw_le B (xw_rf t 3))) (q := xw_kd (xw_rf t 3) 0 - 5) (e := (xw_rf (xw_rf t 3) 0)) rfl hB (xw_obd g3) (by decide) rfl g1 (by have := g2; omega) (xw_rfn g2) ?_
    refine xw_lo (L2 := [(0, xa t)]) (List.forall_mem_cons.mpr ⟨rfl, fun _ h => absurd h List.not_mem_nil⟩) ?_
    exact q
  refine xS_call (q := 28) (n := 2) (kq := 0) (as := [xa t, xa (xw_rf (xw_rf t 3) 0)]) (st1 := []) rfl rfl rfl rfl rfl rfl rfl rfl rfl rfl (fun _ => xw_rcv1 (t := 3) (xw_obd g0) rfl) rfl (List.forall_mem_cons.mpr ⟨rfl, List.forall_mem_cons.mpr ⟨rfl, fun _ h => absurd h List.not_mem_nil⟩⟩) (ygf28 hB _ _ _) (fun v1 m1 cv1 => ?_)
  refine xS_of (pc' := 12) (L' := [(0, xa t), (1, xi 0)]) (st' := []) (m' := m1) (fun ex ns r q => ?_) ?_
  · refine xw_iconst rfl ?_
    refine xw_istore_n (L' := [(1, xi 0), (0, xa t)]) rfl (by decide) rfl ?_
    refine xw_lo (L2 := [(0, xa t), (1, xi 0)]) (List.forall_mem_cons.mpr ⟨rfl, List.forall_mem_cons.mpr ⟨rfl, fun _ h => absurd h List.not_mem_nil⟩⟩) ?_
    exact q
  exact ygl27_12 hB 1000000 _ _ _ rfl
theorem ysl26_2 {B : Nat} (hB : B ≤ 512) {xs : Nat → Int32} {SL d : Nat} {r2 : Int → xw_M → xP} (hr2 : ∀ x1 m, w32 x1 = x1 → xS B xs SL (d + 2) 26 (2, none, [], 3) 0 2 [(0, xa 3), (1, xi x1)] [] m (r2 x1 m)) : ∀ x1 m, w32 x1 = x1 → xS B xs SL (d + 2) 26 (2, none, [], 3) 0 2 [(0, xa 3), (1, xi x1)] [] m (yl26_2 B r2 x1 m) := by
  intro x1 m c1
  unfold yl26_2
  refine xS_of (pc' := 7) (L' := [(0, xa 3), (1, xi x1)]) (st' := [xi (xR m 3 1), xi x1]) (m' := m) (fun ex ns r q => ?_) ?_
  · refine xw_iload_n rfl rfl ?_
    refine xw_aload_n rfl rfl rfl ?_
    refine xw_gfIc (v := (m 3 1)) (v' := (xR m 3 1)) rfl (xw_obd (by decide +kernel)) xk2_1 (qi := 1) rfl rfl rfl ?_
    exact q
  refine xS_if (fun h0 => ?_) (fun h0 => ?_)
  · refine xS_g (fun g1 => ?_)
    refine xS_g (fun g2 => ?_)
    refine xS_of (pc' := 16) (L' := [(0, xa 3), (1, xi x1)]) (st' := [xa (15 + (26 * x1))]) (m' := m) (fun ex ns r q => ?_) ?_
    · refine xw_ic_geF rfl (w32_cg c1) (w32_cg (w32_xR _ _ _)) (Int.not_le.mpr h0) ?_
      refine xw_aload_n rfl rfl rfl ?_
      refine xw_gfR (n := 4) (e := 4) rfl (xw_obd (by decide +kernel)) (by decide +kernel) (by decide +kernel) rfl ?_
      refine xw_iload_n rfl rfl ?_
      refine xw_aald (t := 23) (n := 8) (q := 15 + 26 * (x1).toNat) (e := (15 + (26 * x1))) rfl hB (xw_obd (by decide +kernel)) (by decide) rfl g1 (show 20 + 26 * (x1 : Int).toNat = 15 + 26 * (x1 : Int).toNat + 5 from by omega) (by have := g1; omega) ?_
      refine xw_lo (L2 := [(0, xa 3), (1, xi x1)]) (List.forall_mem_cons.mpr ⟨rfl, List.forall_mem_cons.mpr ⟨rfl, fun _ h => absurd h List.not_mem_nil⟩⟩) ?_
      exact q
    refine xS_call (q := 27) (n := 1) (kq := 0) (as := [xa (15 + (26 * x1))]) (st1 := []) rfl rfl rfl rfl rfl rfl rfl rfl rfl rfl (fun _ => xw_rcv1 (t := 3) (xw_obd g2) rfl) rfl (List.forall_mem_cons.mpr ⟨rfl, fun _ h => absurd h List.not_mem_nil⟩) (ygf27 hB _ _) (fun v1 m1 cv1 => ?_)
    refine xS_of (pc' := 2) (L' := [(0, xa 3), (1, xi (w32 (x1 + 1)))]) (st' := []) (m' := m1) (fun ex ns r q => ?_) ?_
    · refine xw_iincc (z := (w32 (x1 + 1))) (L' := [(1, xi (w32 (x1 + 1))), (0, xa 3)]) rfl rfl (by decide) rfl rfl ?_
      refine xw_goto rfl ?_
      refine xw_lo (L2 := [(0, xa 3), (1, xi (w32 (x1 + 1)))]) (List.forall_mem_cons.mpr ⟨rfl, List.forall_mem_cons.mpr ⟨rfl, fun _ h => absurd h List.not_mem_nil⟩⟩) ?_
      exact q
    exact hr2 _ _ (w32_w _)
  · refine xS_of (pc' := 25) (L' := [(0, xa 3), (1, xi x1)]) (st' := []) (m' := m) (fun ex ns r q => ?_) ?_
    · refine xw_ic_geT rfl (w32_cg c1) (w32_cg (w32_xR _ _ _)) (Int.not_lt.mp h0) ?_
      exact q
    exact xS_ret (v := 0) rfl rfl rfl rfl
theorem ygl26_2 {B : Nat} (hB : B ≤ 512) {xs : Nat → Int32} {SL d : Nat} : ∀ n x1 m, w32 x1 = x1 → xS B xs SL (d + 2) 26 (2, none, [], 3) 0 2 [(0, xa 3), (1, xi x1)] [] m (xl1 (yl26_2 B) n x1 m) := by
  intro n
  induction n with
  | zero => intro x1 m c1; exact xS_none
  | succ n ih => exact ysl26_2 hB ih
theorem ygf26 {B : Nat} (hB : B ≤ 512) {xs : Nat → Int32} {SL d : Nat} : ∀ m, xS B xs SL (d + 2) 26 (2, none, [], 3) 0 0 [(0, xa 3)] [] m (yf26 B m) := by
  intro m
  unfold yf26
  refine xS_of (pc' := 2) (L' := [(0, xa 3), (1, xi 0)]) (st' := []) (m' := m) (fun ex ns r q => ?_) ?_
  · refine xw_iconst rfl ?_
    refine xw_istore_n (L' := [(1, xi 0), (0, xa 3)]) rfl (by decide) rfl ?_
    refine xw_lo (L2 := [(0, xa 3), (1, xi 0)]) (List.forall_mem_cons.mpr ⟨rfl, List.forall_mem_cons.mpr ⟨rfl, fun _ h => absurd h List.not_mem_nil⟩⟩) ?_
    exact q
  exact ygl26_2 hB 1000000 _ _ rfl
theorem ysl31_5 {B : Nat} (hB : B ≤ 512) {xs : Nat → Int32} {SL d : Nat} {r5 : Int → Int → Int → Int → xw_M → xP} (hr5 : ∀ x0 x1 x2 x3 m, w32 x1 = x1 → w32 x2 = x2 → w32 x3 = x3 → xS B xs SL (d + 0) 31 (4, none, [], 0) 0 5 [(0, xa x0), (1, xi x1), (2, xi x2), (3, xi x3)] [] m (r5 x0 x1 x2 x3 m)) : ∀ x0 x1 x2 x3 m, w32 x1 = x1 → w32 x2 = x2 → w32 x3 = x3 → xS B xs SL (d + 0) 31 (4, none, [], 0) 0 5 [(0, xa x0), (1, xi x1), (2, xi x2), (3, xi x3)] [] m (yl31_5 B r5 x0 x1 x2 x3 m) := by
  intro x0 x1 x2 x3 m c1 c2 c3
  unfold yl31_5
  refine xS_of (pc' := 7) (L' := [(0, xa x0), (1, xi x1), (2, xi x2), (3, xi x3)]) (st' := [xi x3, xi x2]) (m' := m) (fun ex ns r q => ?_) ?_
  · refine xw_iload_n rfl rfl ?_
    refine xw_iload_n rfl rfl ?_
    exact q
  refine xS_if (fun h0 => ?_) (fun h0 => ?_)
  · refine xS_g (fun g1 => ?_)
    refine xS_g (fun g2 => ?_)
    refine xS_of (pc' := 5) (L' := [(0, xa x0), (1, xi x1), (2, xi (w32 (x2 + 1))), (3, xi x3)]) (st' := []) (m' := (xw_u m x0 x2 x1)) (fun ex ns r q => ?_) ?_
    · refine xw_ic_geF rfl (w32_cg c2) (w32_cg c3) (Int.not_le.mpr h0) ?_
      refine xw_aload_n rfl rfl rfl ?_
      refine xw_iload_n rfl rfl ?_
      refine xw_iload_n rfl rfl ?_
      refine xw_iast (n := (xw_le B x0)) rfl hB (xw_obd g2) rfl g1 ?_
      refine xw_iincc (z := (w32 (x2 + 1))) (L' := [(2, xi (w32 (x2 + 1))), (0, xa x0), (1, xi x1), (3, xi x3)]) rfl rfl (by decide) rfl rfl ?_
      refine xw_goto rfl ?_
      refine xw_lo (L2 := [(0, xa x0), (1, xi x1), (2, xi (w32 (x2 + 1))), (3, xi x3)]) (List.forall_mem_cons.mpr ⟨rfl, List.forall_mem_cons.mpr ⟨rfl, List.forall_mem_cons.mpr ⟨rfl, List.forall_mem_cons.mpr ⟨rfl, fun _ h => absurd h List.not_mem_nil⟩⟩⟩⟩) ?_
      exact q
    exact hr5 _ _ _ _ _ c1 (w32_w _) c3
  · refine xS_of (pc' := 20) (L' := [(0, xa x0), (1, xi x1), (2, xi x2), (3, xi x3)]) (st' := []) (m' := m) (fun ex ns r q => ?_) ?_
    · refine xw_ic_geT rfl (w32_cg c2) (w32_cg c3) (Int.not_lt.mp h0) ?_
      exact q
    exact xS_ret (v := 0) rfl rfl rfl rfl
theorem ygl31_5 {B : Nat} (hB : B ≤ 512) {xs : Nat → Int32} {SL d : Nat} : ∀ n x0 x1 x2 x3 m, w32 x1 = x1 → w32 x2 = x2 → w32 x3 = x3 → xS B xs SL (d + 0) 31 (4, none, [], 0) 0 5 [(0, xa x0), (1, xi x1), (2, xi x2), (3, xi x3)] [] m (xl4 (yl31_5 B) n x0 x1 x2 x3 m) := by
  intro n
  induction n with
  | zero => intro x0 x1 x2 x3 m c1 c2 c3; exact xS_none
  | succ n ih => exact ysl31_5 hB ih
theorem ygf31 {B : Nat} (hB : B ≤ 512) {xs : Nat → Int32} {SL d : Nat} : ∀ p0 p1 m, w32 p1 = p1 → xS B xs SL (d + 0) 31 (4, none, [], 0) 0 0 [(0, xa p0), (1, xi p1)] [] m (yf31 B p0 p1 m) := by
  intro p0 p1 m cp1
  unfold yf31
  refine xS_g (fun g0 => ?_)
  refine xS_of (pc' := 5) (L' := [(0, xa p0), (1, xi p1), (2, xi 0), (3, xi (w32 (xw_le B p0)))]) (st' := []) (m' := m) (fun ex ns r q => ?_) ?_
  · refine xw_iconst rfl ?_
    refine xw_istore_n (L' := [(2, xi 0), (0, xa p0), (1, xi p1)]) rfl (by decide) rfl ?_
    refine xw_aload_n rfl rfl rfl ?_
    refine xw_lenr (t := 16) rfl (xw_obd g0) (by decide) rfl ?_
    refine xw_cst (st' := [xi (w32 (xw_le B p0))]) (xw_sc (xi_c rfl) rfl) ?_
    refine xw_istore_n (L' := [(3, xi (w32 (xw_le B p0))), (2, xi 0), (0, xa p0), (1, xi p1)]) rfl (by decide) rfl ?_
    refine xw_lo (L2 := [(0, xa p0), (1, xi p1), (2, xi 0), (3, xi (w32 (xw_le B p0)))]) (List.forall_mem_cons.mpr ⟨rfl, List.forall_mem_cons.mpr ⟨rfl, List.forall_mem_cons.mpr ⟨rfl, List.forall_mem_cons.mpr ⟨rfl, fun _ h => absurd h List.not_mem_nil⟩⟩⟩⟩) ?_
    exact q
  exact ygl31_5 hB 1000000 _ _ _ _ _ cp1 rfl (w32_w _)
theorem ysl32_6 {B : Nat} (hB : B ≤ 512) {xs : Nat → Int32} {SL d : Nat} {r6 : Int → Int → Int → Int → xw_M → xP} (hr6 : ∀ x0 x1 x3 x4 m, w64 x1 = x1 → w32 x3 = x3 → w32 x4 = x4 → xS B xs SL (d + 0) 32 (5, none, [], 0) 0 6 [(0, xa x0), (1, xj x1), (3, xi x3), (4, xi x4)] [] m (r6 x0 x1 x3 x4 m)) : ∀ x0 x1 x3 x4 m, w64 x1 = x1 → w32 x3 = x3 → w32 x4 = x4 → xS B xs SL (d + 0) 32 (5, none, [], 0) 0 6 [(0, xa x0), (1, xj x1), (3, xi x3), (4, xi x4)] [] m (yl32_6 B r6 x0 x1 x3 x4 m) := by
  intro x0 x1 x3 x4 m c1 c3 c4
  unfold yl32_6
  refine xS_of (pc' := 9) (L' := [(0, xa x0), (1, xj x1), (3, xi x3), (4, xi x4)]) (st' := [xi x4, xi x3]) (m' := m) (fun ex ns r q => ?_) ?_
  · refine xw_iload_n rfl rfl ?_
    refine xw_iload rfl rfl ?_
    exact q
  refine xS_if (fun h0 => ?_) (fun h0 => ?_)
  · refine xS_g (fun g1 => ?_)
    refine xS_g (fun g2 => ?_)
    refine xS_of (pc' := 6) (L' := [(0, xa x0), (1, xj x1), (3, xi (w32 (x3 + 1))), (4, xi x4)]) (st' := []) (m' := (xw_u m x0 x3 x1)) (fun ex ns r q => ?_) ?_
    · refine xw_ic_geF rfl (w32_cg c3) (w32_cg c4) (Int.not_le.mpr h0) ?_
      refine xw_aload_n rfl rfl rfl ?_
      refine xw_iload_n rfl rfl ?_
      refine xw_lload_n rfl rfl ?_
      refine xw_last (n := (xw_le B x0)) rfl hB (xw_obd g2) rfl g1 ?_
      refine xw_iincc (z := (w32 (x3 + 1))) (L' := [(3, xi (w32 (x3 + 1))), (0, xa x0), (1, xj x1), (4, xi x4)]) rfl rfl (by decide) rfl rfl ?_
      refine xw_goto rfl ?_
      refine xw_lo (L2 := [(0, xa x0), (1, xj x1), (3, xi (w32 (x3 + 1))), (4, xi x4)]) (List.forall_mem_cons.mpr ⟨rfl, List.forall_mem_cons.mpr ⟨rfl, List.forall_mem_cons.mpr ⟨rfl, List.forall_mem_cons.mpr ⟨rfl, fun _ h => absurd h List.not_mem_nil⟩⟩⟩⟩) ?_
      exact q
    exact hr6 _ _ _ _ _ c1 (w32_w _) c4
  · refine xS_of (pc' := 22) (L' := [(0, xa x0), (1, xj x1), (3, xi x3), (4, xi x4)]) (st' := []) (m' := m) (fun ex ns r q => ?_) ?_
    · refine xw_ic_geT rfl (w32_cg c3) (w32_cg c4) (Int.not_lt.mp h0) ?_
      exact q
    exact xS_ret (v := 0) rfl rfl rfl rfl
theorem ygl32_6 {B : Nat} (hB : B ≤ 512) {xs : Nat → Int32} {SL d : Nat} : ∀ n x0 x1 x3 x4 m, w64 x1 = x1 → w32 x3 = x3 → w32 x4 = x4 → xS B xs SL (d + 0) 32 (5, none, [], 0) 0 6 [(0, xa x0), (1, xj x1), (3, xi x3), (4, xi x4)] [] m (xl4 (yl32_6 B) n x0 x1 x3 x4 m) := by
  intro n
  induction n with
  | zero => intro x0 x1 x3 x4 m c1 c3 c4; exact xS_none
  | succ n ih => exact ysl32_6 hB ih
theorem ygf32 {B : Nat} (hB : B ≤ 512) {xs : Nat → Int32} {SL d : Nat} : ∀ p0 p1 m, w64 p1 = p1 → xS B xs SL (d + 0) 32 (5, none, [], 0) 0 0 [(0, xa p0), (1, xj p1)] [] m (yf32 B p0 p1 m) := by
  intro p0 p1 m cp1
  unfold yf32
  refine xS_g (fun g0 => ?_)
  refine xS_of (pc' := 6) (L' := [(0, xa p0), (1, xj p1), (3, xi 0), (4, xi (w32 (xw_le B p0)))]) (st' := []) (m' := m) (fun ex ns r q => ?_) ?_
  · refine xw_iconst rfl ?_
    refine xw_istore_n (L' := [(3, xi 0), (0, xa p0), (1, xj p1)]) rfl (by decide) rfl ?_
    refine xw_aload_n rfl rfl rfl ?_
    refine xw_lenr (t := 17) rfl (xw_obd g0) (by decide) rfl ?_
    refine xw_cst (st' := [xi (w32 (xw_le B p0))]) (xw_sc (xi_c rfl) rfl) ?_
    refine xw_istore (L' := [(4, xi (w32 (xw_le B p0))), (3, xi 0), (0, xa p0), (1, xj p1)]) rfl (by decide) rfl ?_
    refine xw_lo (L2 := [(0, xa p0), (1, xj p1), (3, xi 0), (4, xi (w32 (xw_le B p0)))]) (List.forall_mem_cons.mpr ⟨rfl, List.forall_mem_cons.mpr ⟨rfl, List.forall_mem_cons.mpr ⟨rfl, List.forall_mem_cons.mpr ⟨rfl, fun _ h => absurd h List.not_mem_nil⟩⟩⟩⟩) ?_
    exact q
  exact ygl32_6 hB 1000000 _ _ _ _ _ cp1 rfl (w32_w _)
theorem ygf30 {B : Nat} (hB : B ≤ 512) {xs : Nat → Int32} {SL d : Nat} : ∀ m, xS B xs SL (d + 1) 30 (1, none, [], 1) 0 0 [(0, xa 0)] [] m (yf30 B m) := by
  intro m
  unfold yf30
  refine xS_of (pc' := 5) (L' := [(0, xa 0)]) (st' := [xi 0, xa 417]) (m' := m) (fun ex ns r q => ?_) ?_
  · refine xw_aload_n rfl rfl rfl ?_
    refine xw_gfR (n := 417) (e := 417) rfl (xw_obd (by decide +kernel)) (by decide +kernel) (by decide +kernel) rfl ?_
    refine xw_iconst rfl ?_
    refine xw_lo (L2 := [(0, xa 0)]) (List.forall_mem_cons.mpr ⟨rfl, fun _ h => absurd h List.not_mem_nil⟩) ?_
    exact q
  refine xS_call (q := 31) (n := 2) (kq := 0) (as := [xa 417, xi 0]) (st1 := []) rfl rfl rfl rfl rfl rfl rfl rfl rfl rfl (fun _ => xw_rcv0 rfl) rfl (List.forall_mem_cons.mpr ⟨rfl, List.forall_mem_cons.mpr ⟨rfl, fun _ h => absurd h List.not_mem_nil⟩⟩) (ygf31 hB _ _ _ rfl) (fun v1 m1 cv1 => ?_)
  refine xS_of (pc' := 13) (L' := []) (st' := [xj 0, xa 418]) (m' := m1) (fun ex ns r q => ?_) ?_
  · refine xw_aload_n rfl rfl rfl ?_
    refine xw_gfR (n := 418) (e := 418) rfl (xw_obd (by decide +kernel)) (by decide +kernel) (by decide +kernel) rfl ?_
    refine xw_lconst (e := 0) rfl rfl ?_
    refine xw_lo (L2 := []) (fun _ h => absurd h List.not_mem_nil) ?_
    exact q
  refine xS_call (q := 32) (n := 2) (kq := 0) (as := [xa 418, xj 0]) (st1 := []) rfl rfl rfl rfl rfl rfl rfl rfl rfl rfl (fun _ => xw_rcv0 rfl) rfl (List.forall_mem_cons.mpr ⟨rfl, List.forall_mem_cons.mpr ⟨rfl, fun _ h => absurd h List.not_mem_nil⟩⟩) (ygf32 hB _ _ _ rfl) (fun v2 m2 cv2 => ?_)
  exact xS_ret (v := 0) rfl rfl rfl rfl
theorem ygf12 {B : Nat} (hB : B ≤ 512) {xs : Nat → Int32} {SL d : Nat} : ∀ m, xS B xs SL (d + 4) 12 (2, (some .int), [], 1) 1 0 [(0, xa 0)] [] m (yf12 B m) := by
  intro m
  unfold yf12
  refine xS_of (pc' := 1) (L' := [(0, xa 0)]) (st' := [xa 0]) (m' := m) (fun ex ns r q => ?_) ?_
  · refine xw_aload_n rfl rfl rfl ?_
    refine xw_lo (L2 := [(0, xa 0)]) (List.forall_mem_cons.mpr ⟨rfl, fun _ h => absurd h List.not_mem_nil⟩) ?_
    exact q
  refine xS_call (q := 13) (n := 1) (kq := 0) (as := [xa 0]) (st1 := []) rfl rfl rfl rfl rfl rfl rfl rfl rfl rfl (fun _ => xw_rcv1 (t := 0) (xw_obd (by decide +kernel)) rfl) rfl (List.forall_mem_cons.mpr ⟨rfl, fun _ h => absurd h List.not_mem_nil⟩) (ygf13 hB _) (fun v1 m1 cv1 => ?_)
  refine xS_of (pc' := 16) (L' := [(0, xa 0)]) (st' := [xa 508]) (m' := (xw_u m1 508 18 (-1))) (fun ex ns r q => ?_) ?_
  · refine xw_aload_n rfl rfl rfl ?_
    refine xw_gfR (n := 508) (e := 508) rfl (xw_obd (by decide +kernel)) (by decide +kernel) (by decide +kernel) rfl ?_
    refine xw_iconst rfl ?_
    refine xw_pfI rfl (xw_obd (by decide +kernel)) xk10_18 (qi := 18) rfl (xw_okI rfl) ?_
    refine xw_aload_n rfl rfl rfl ?_
    refine xw_gfR (n := 508) (e := 508) rfl (xw_obd (by decide +kernel)) (by decide +kernel) (by decide +kernel) rfl ?_
    refine xw_lo (L2 := [(0, xa 0)]) (List.forall_mem_cons.mpr ⟨rfl, fun _ h => absurd h List.not_mem_nil⟩) ?_
    exact q
  refine xS_call (q := 18) (n := 1) (kq := 4) (as := [xa 508]) (st1 := []) rfl rfl rfl rfl rfl rfl rfl rfl rfl rfl (fun _ => xw_rcv1 (t := 10) (xw_obd (by decide +kernel)) rfl) rfl (List.forall_mem_cons.mpr ⟨rfl, fun _ h => absurd h List.not_mem_nil⟩) (ygf18 hB _) (fun v2 m2 cv2 => ?_)
  refine xS_if (fun h0 => ?_) (fun h0 => ?_)
  · refine xS_of (pc' := 28) (L' := [(0, xa 0)]) (st' := [xi (-1)]) (m' := (xw_u m2 0 14 0)) (fun ex ns r q => ?_) ?_
    · refine xw_if_neF rfl (w32_cg (w32_of (xw_zr cv2))) h0 ?_
      refine xw_aload_n rfl rfl rfl ?_
      refine xw_iconst rfl ?_
      refine xw_pfI rfl (xw_obd (by decide +kernel)) xk0_14 (qi := 14) rfl (xw_okI rfl) ?_
      refine xw_iconst rfl ?_
      exact q
    exact xS_ret (v := (-1)) rfl rfl xw_rtI rfl
  · refine xS_of (pc' := 34) (L' := [(0, xa 0)]) (st' := [xi 0, xa 508]) (m' := m2) (fun ex ns r q => ?_) ?_
    · refine xw_if_neT rfl (w32_cg (w32_of (xw_zr cv2))) h0 ?_
      refine xw_aload_n rfl rfl rfl ?_
      refine xw_gfR (n := 508) (e := 508) rfl (xw_obd (by decide +kernel)) (by decide +kernel) (by decide +kernel) rfl ?_
      refine xw_iconst rfl ?_
      refine xw_lo (L2 := [(0, xa 0)]) (List.forall_mem_cons.mpr ⟨rfl, fun _ h => absurd h List.not_mem_nil⟩) ?_
      exact q
    refine xS_call (q := 21) (n := 2) (kq := 1) (as := [xa 508, xi 0]) (st1 := []) rfl rfl rfl rfl rfl rfl rfl rfl rfl rfl (fun _ => xw_rcv1 (t := 10) (xw_obd (by decide +kernel)) rfl) rfl (List.forall_mem_cons.mpr ⟨rfl, List.forall_mem_cons.mpr ⟨rfl, fun _ h => absurd h List.not_mem_nil⟩⟩) (ygf21 hB _ _ rfl) (fun v3 m3 cv3 => ?_)
    refine xS_of (pc' := 47) (L' := [(0, xa 0), (1, xi v3)]) (st' := [xi 0, xa 508, xa 3]) (m' := m3) (fun ex ns r q => ?_) ?_
    · refine xw_istore_n (L' := [(1, xi v3), (0, xa 0)]) rfl (by decide) rfl ?_
      refine xw_aload_n rfl rfl rfl ?_
      refine xw_gfR (n := 3) (e := 3) rfl (xw_obd (by decide +kernel)) (by decide +kernel) (by decide +kernel) rfl ?_
      refine xw_aload_n rfl rfl rfl ?_
      refine xw_gfR (n := 508) (e := 508) rfl (xw_obd (by decide +kernel)) (by decide +kernel) (by decide +kernel) rfl ?_
      refine xw_iconst rfl ?_
      refine xw_lo (L2 := [(0, xa 0), (1, xi v3)]) (List.forall_mem_cons.mpr ⟨rfl, List.forall_mem_cons.mpr ⟨rfl, fun _ h => absurd h List.not_mem_nil⟩⟩) ?_
      exact q
    refine xS_call (q := 22) (n := 2) (kq := 3) (as := [xa 508, xi 0]) (st1 := [xa 3]) rfl rfl rfl rfl rfl rfl rfl rfl rfl rfl (fun _ => xw_rcv1 (t := 10) (xw_obd (by decide +kernel)) rfl) rfl (List.forall_mem_cons.mpr ⟨rfl, List.forall_mem_cons.mpr ⟨rfl, fun _ h => absurd h List.not_mem_nil⟩⟩) (ygf22 hB _ _ rfl) (fun v4 m4 cv4 => ?_)
    refine xS_of (pc' := 51) (L' := [(0, xa 0)]) (st' := [xi v3, xa v4, xa 3]) (m' := m4) (fun ex ns r q => ?_) ?_
    · refine xw_iload_n rfl rfl ?_
      refine xw_lo (L2 := [(0, xa 0)]) (List.forall_mem_cons.mpr ⟨rfl, fun _ h => absurd h List.not_mem_nil⟩) ?_
      exact q
    refine xS_call (q := 23) (n := 3) (kq := 0) (as := [xa 3, xa v4, xi v3]) (st1 := []) rfl rfl rfl rfl rfl rfl rfl rfl rfl rfl (fun _ => xw_rcv1 (t := 2) (xw_obd (by decide +kernel)) rfl) rfl (List.forall_mem_cons.mpr ⟨rfl, List.forall_mem_cons.mpr ⟨rfl, List.forall_mem_cons.mpr ⟨rfl, fun _ h => absurd h List.not_mem_nil⟩⟩⟩) (ygf23 hB _ _ _ cv3) (fun v5 m5 cv5 => ?_)
    refine xS_of (pc' := 58) (L' := [(0, xa 0)]) (st' := [xa 3]) (m' := m5) (fun ex ns r q => ?_) ?_
    · refine xw_aload_n rfl rfl rfl ?_
      refine xw_gfR (n := 3) (e := 3) rfl (xw_obd (by decide +kernel)) (by decide +kernel) (by decide +kernel) rfl ?_
      refine xw_lo (L2 := [(0, xa 0)]) (List.forall_mem_cons.mpr ⟨rfl, fun _ h => absurd h List.not_mem_nil⟩) ?_
      exact q
    refine xS_call (q := 26) (n := 1) (kq := 0) (as := [xa 3]) (st1 := []) rfl rfl rfl rfl rfl rfl rfl rfl rfl rfl (fun _ => xw_rcv1 (t := 2) (xw_obd (by decide +kernel)) rfl) rfl (List.forall_mem_cons.mpr ⟨rfl, fun _ h => absurd h List.not_mem_nil⟩) (ygf26 hB _) (fun v6 m6 cv6 => ?_)
    refine xS_of (pc' := 67) (L' := [(0, xa 0)]) (st' := [xa 0]) (m' := (xw_u m6 0 14 1)) (fun ex ns r q => ?_) ?_
    · refine xw_aload_n rfl rfl rfl ?_
      refine xw_iconst rfl ?_
      refine xw_pfI rfl (xw_obd (by decide +kernel)) xk0_14 (qi := 14) rfl (xw_okI rfl) ?_
      refine xw_aload_n rfl rfl rfl ?_
      refine xw_lo (L2 := [(0, xa 0)]) (List.forall_mem_cons.mpr ⟨rfl, fun _ h => absurd h List.not_mem_nil⟩) ?_
      exact q
    refine xS_call (q := 30) (n := 1) (kq := 0) (as := [xa 0]) (st1 := []) rfl rfl rfl rfl rfl rfl rfl rfl rfl rfl (fun _ => xw_rcv1 (t := 0) (xw_obd (by decide +kernel)) rfl) rfl (List.forall_mem_cons.mpr ⟨rfl, fun _ h => absurd h List.not_mem_nil⟩) (ygf30 hB _) (fun v7 m7 cv7 => ?_)
    refine xS_of (pc' := 77) (L' := [(0, xa 0)]) (st' := [xi (xR m7 508 9)]) (m' := m7) (fun ex ns r q => ?_) ?_
    · refine xw_aload_n rfl rfl rfl ?_
      refine xw_gfR (n := 508) (e := 508) rfl (xw_obd (by decide +kernel)) (by decide +kernel) (by decide +kernel) rfl ?_
      refine xw_gfIc (v := (m7 508 9)) (v' := (xR m7 508 9)) rfl (xw_obd (by decide +kernel)) xk10_9 (qi := 9) rfl rfl rfl ?_
      exact q
    exact xS_ret (v := (xR m7 508 9)) rfl rfl xw_rtI (w32_xR _ _ _)
theorem ygf33 {B : Nat} (hB : B ≤ 512) {xs : Nat → Int32} {SL d : Nat} : ∀ m, xS B xs SL (d + 0) 33 (1, (some .int), [], 1) 1 0 [(0, xa 0)] [] m (yf33 B m) := by
  intro m
  unfold yf33
  refine xS_of (pc' := 4) (L' := [(0, xa 0)]) (st' := [xi (xR m 0 14)]) (m' := m) (fun ex ns r q => ?_) ?_
  · refine xw_aload_n rfl rfl rfl ?_
    refine xw_gfIc (v := (m 0 14)) (v' := (xR m 0 14)) rfl (xw_obd (by decide +kernel)) xk0_14 (qi := 14) rfl rfl rfl ?_
    exact q
  exact xS_ret (v := (xR m 0 14)) rfl rfl xw_rtI (w32_xR _ _ _)
theorem ygf34 {B : Nat} (hB : B ≤ 512) {xs : Nat → Int32} {SL d : Nat} : ∀ m, xS B xs SL (d + 0) 34 (1, (some .int), [], 1) 1 0 [(0, xa 0)] [] m (yf34 B m) := by
  intro m
  unfold yf34
  refine xS_of (pc' := 7) (L' := [(0, xa 0)]) (st' := [xi (xR m 508 19)]) (m' := m) (fun ex ns r q => ?_) ?_
  · refine xw_aload_n rfl rfl rfl ?_
    refine xw_gfR (n := 508) (e := 508) rfl (xw_obd (by decide +kernel)) (by decide +kernel) (by decide +kernel) rfl ?_
    refine xw_gfIc (v := (m 508 19)) (v' := (xR m 508 19)) rfl (xw_obd (by decide +kernel)) xk10_19 (qi := 19) rfl rfl rfl ?_
    exact q
  exact xS_ret (v := (xR m 508 19)) rfl rfl xw_rtI (w32_xR _ _ _)
theorem ygf39 {B : Nat} (hB : B ≤ 512) {xs : Nat → Int32} {SL d : Nat} : ∀ p0 m, w32 p0 = p0 → xS B xs SL (d + 0) 39 (1, none, [], 0) 0 0 [(0, xi p0)] [] m (yf39 B p0 m) := by
  intro p0 m cp0
  unfold yf39
  refine xS_of (pc' := 1) (L' := [(0, xi p0)]) (st' := [xi p0]) (m' := m) (fun ex ns r q => ?_) ?_
  · refine xw_iload_n rfl rfl ?_
    exact q
  refine xS_if (fun h0 => ?_) (fun h0 => ?_)
  · refine xS_of (pc' := 12) (L' := [(0, xi p0)]) (st' := []) (m' := m) (fun ex ns r q => ?_) ?_
    · refine xw_if_eqT rfl (w32_cg cp0) h0 ?_
      exact q
    exact xS_ret (v := 0) rfl rfl rfl rfl
  · refine xS_of (pc' := 4) (L' := [(0, xi p0)]) (st' := []) (m' := m) (fun ex ns r q => ?_) ?_
    · refine xw_if_eqF rfl (w32_cg cp0) h0 ?_
      exact q
    exact xS_thr (E := (.new 156, 3, 14, 0)) rfl rfl rfl rfl
theorem ygf38 {B : Nat} (hB : B ≤ 512) {xs : Nat → Int32} {SL d : Nat} : ∀ m, xS B xs SL (d + 1) 38 (1, none, [], 1) 0 0 [(0, xa 0)] [] m (yf38 B m) := by
  intro m
  unfold yf38
  refine xS_of (pc' := 5) (L' := [(0, xa 0)]) (st' := [xi 2, xi (xR m 0 14)]) (m' := m) (fun ex ns r q => ?_) ?_
  · refine xw_aload_n rfl rfl rfl ?_
    refine xw_gfIc (v := (m 0 14)) (v' := (xR m 0 14)) rfl (xw_obd (by decide +kernel)) xk0_14 (qi := 14) rfl rfl rfl ?_
    refine xw_iconst rfl ?_
    exact q
  refine xS_if (fun h0 => ?_) (fun h0 => ?_)
  · refine xS_of (pc' := 13) (L' := []) (st' := [xi 1]) (m' := m) (fun ex ns r q => ?_) ?_
    · refine xw_ic_neF rfl (w32_cg (w32_xR _ _ _)) (w32_cg rfl) h0 ?_
      refine xw_iconst rfl ?_
      refine xw_goto rfl ?_
      refine xw_lo (L2 := []) (fun _ h => absurd h List.not_mem_nil) ?_
      exact q
    refine xS_call (q := 39) (n := 1) (kq := 0) (as := [xi 1]) (st1 := []) rfl rfl rfl rfl rfl rfl rfl rfl rfl rfl (fun _ => xw_rcv0 rfl) rfl (List.forall_mem_cons.mpr ⟨rfl, fun _ h => absurd h List.not_mem_nil⟩) (ygf39 hB _ _ rfl) (fun v1 m1 cv1 => ?_)
    exact xS_ret (v := 0) rfl rfl rfl rfl
  · refine xS_of (pc' := 13) (L' := []) (st' := [xi 0]) (m' := m) (fun ex ns r q => ?_) ?_
    · refine xw_ic_neT rfl (w32_cg (w32_xR _ _ _)) (w32_cg rfl) h0 ?_
      refine xw_iconst rfl ?_
      refine xw_lo (L2 := []) (fun _ h => absurd h List.not_mem_nil) ?_
      exact q
    refine xS_call (q := 39) (n := 1) (kq := 0) (as := [xi 0]) (st1 := []) rfl rfl rfl rfl rfl rfl rfl rfl rfl rfl (fun _ => xw_rcv0 rfl) rfl (List.forall_mem_cons.mpr ⟨rfl, fun _ h => absurd h List.not_mem_nil⟩) (ygf39 hB _ _ rfl) (fun v2 m2 cv2 => ?_)
    exact xS_ret (v := 0) rfl rfl rfl rfl
theorem ysl40_3 {B : Nat} (hB : B ≤ 512) {xs : Nat → Int32} {SL d : Nat} {r3 : Int → Int → xw_M → xP} (hr3 : ∀ x1 x2 m, w32 x1 = x1 → w32 x2 = x2 → xS B xs SL (d + 0) 40 (3, none, [], 2) 0 3 [(0, xa 1), (1, xi x1), (2, xi x2)] [] m (r3 x1 x2 m)) : ∀ x1 x2 m, w32 x1 = x1 → w32 x2 = x2 → xS B xs SL (d + 0) 40 (3, none, [], 2) 0 3 [(0, xa 1), (1, xi x1), (2, xi x2)] [] m (yl40_3 B r3 x1 x2 m) := by
  intro x1 x2 m c1 c2
  unfold yl40_3
  refine xS_of (pc' := 4) (L' := [(0, xa 1), (1, xi x1), (2, xi x2)]) (st' := [xi x2]) (m' := m) (fun ex ns r q => ?_) ?_
  · refine xw_iload_n rfl rfl ?_
    exact q
  refine xS_if (fun h0 => ?_) (fun h0 => ?_)
  · refine xS_of (pc' := 33) (L' := [(0, xa 1), (1, xi x1), (2, xi x2)]) (st' := []) (m' := m) (fun ex ns r q => ?_) ?_
    · refine xw_if_ltT rfl (w32_cg c2) h0 ?_
      exact q
    exact xS_ret (v := 0) rfl rfl rfl rfl
  · refine xS_g (fun g1 => ?_)
    refine xS_of (pc' := 3) (L' := [(0, xa 1), (1, xi x1), (2, xi (w32 (x2 + (-8))))]) (st' := []) (m' := (xw_u (xw_u m 1 1 ((xR m 1 1) + 1)) 2 (xR m 1 1) (w8 (w8 (xw_ishrf x1 x2))))) (fun ex ns r q => ?_) ?_
    · refine xw_if_ltF rfl (w32_cg c2) h0 ?_
      refine xw_aload_n rfl rfl rfl ?_
      refine xw_gfR (n := 2) (e := 2) rfl (xw_obd (by decide +kernel)) (by decide +kernel) (by decide +kernel) rfl ?_
      refine xw_aload_n rfl rfl rfl ?_
      refine xw_dup rfl rfl ?_
      refine xw_gfIc (v := (m 1 1)) (v' := (xR m 1 1)) rfl (xw_obd (by decide +kernel)) xk1_1 (qi := 1) rfl rfl rfl ?_
      refine xw_dup_x1 rfl rfl ?_
      refine xw_iconst rfl ?_
      refine xw_iadd rfl ?_
      refine xw_pfI rfl (xw_obd (by decide +kernel)) xk1_1 (qi := 1) rfl (xw_okI rfl) ?_
      refine xw_iload_n rfl rfl ?_
      refine xw_iload_n rfl rfl ?_
      refine xw_ishr (z := (xw_ishrf x1 x2)) rfl (xw_ishre _ _) ?_
      refine xw_i2bc rfl ?_
      refine xw_bastc (n := 65536) rfl hB (xw_obd (by decide +kernel)) rfl g1 ?_
      refine xw_iincc (z := (w32 (x2 + (-8)))) (L' := [(2, xi (w32 (x2 + (-8)))), (0, xa 1), (1, xi x1)]) rfl rfl (by decide) rfl rfl ?_
      refine xw_goto rfl ?_
      refine xw_lo (L2 := [(0, xa 1), (1, xi x1), (2, xi (w32 (x2 + (-8))))]) (List.forall_mem_cons.mpr ⟨rfl, List.forall_mem_cons.mpr ⟨rfl, List.forall_mem_cons.mpr ⟨rfl, fun _ h => absurd h List.not_mem_nil⟩⟩⟩) ?_
      exact q
    exact hr3 _ _ _ c1 (w32_w _)
theorem ygl40_3 {B : Nat} (hB : B ≤ 512) {xs : Nat → Int32} {SL d : Nat} : ∀ n x1 x2 m, w32 x1 = x1 → w32 x2 = x2 → xS B xs SL (d + 0) 40 (3, none, [], 2) 0 3 [(0, xa 1), (1, xi x1), (2, xi x2)] [] m (xl2 (yl40_3 B) n x1 x2 m) := by
  intro n
  induction n with
  | zero => intro x1 x2 m c1 c2; exact xS_none
  | succ n ih => exact ysl40_3 hB ih
theorem ygf40 {B : Nat} (hB : B ≤ 512) {xs : Nat → Int32} {SL d : Nat} : ∀ p0 m, w32 p0 = p0 → xS B xs SL (d + 0) 40 (3, none, [], 2) 0 0 [(0, xa 1), (1, xi p0)] [] m (yf40 B p0 m) := by
  intro p0 m cp0
  unfold yf40
  refine xS_of (pc' := 3) (L' := [(0, xa 1), (1, xi p0), (2, xi 24)]) (st' := []) (m' := m) (fun ex ns r q => ?_) ?_
  · refine xw_bipush (e := 24) rfl (by decide +kernel) ?_
    refine xw_istore_n (L' := [(2, xi 24), (0, xa 1), (1, xi p0)]) rfl (by decide) rfl ?_
    refine xw_lo (L2 := [(0, xa 1), (1, xi p0), (2, xi 24)]) (List.forall_mem_cons.mpr ⟨rfl, List.forall_mem_cons.mpr ⟨rfl, List.forall_mem_cons.mpr ⟨rfl, fun _ h => absurd h List.not_mem_nil⟩⟩⟩) ?_
    exact q
  exact ygl40_3 hB 1000000 _ _ _ cp0 rfl
theorem ygf37 {B : Nat} (hB : B ≤ 512) {xs : Nat → Int32} {SL d : Nat} : ∀ p0 p1 p2 p3 p4 m, w32 p0 = p0 → w32 p1 = p1 → w32 p2 = p2 → w32 p3 = p3 → w32 p4 = p4 → xS B xs SL (d + 2) 37 (6, (some .int), [], 1) 1 0 [(0, xa 0), (1, xi p0), (2, xi p1), (3, xi p2), (4, xi p3), (5, xi p4)] [] m (yf37 B p0 p1 p2 p3 p4 m) := by
  intro p0 p1 p2 p3 p4 m cp0 cp1 cp2 cp3 cp4
  unfold yf37
  refine xS_of (pc' := 1) (L' := [(0, xa 0), (1, xi p0), (2, xi p1), (3, xi p2), (4, xi p3), (5, xi p4)]) (st' := [xa 0]) (m' := m) (fun ex ns r q => ?_) ?_
  · refine xw_aload_n rfl rfl rfl ?_
    refine xw_lo (L2 := [(0, xa 0), (1, xi p0), (2, xi p1), (3, xi p2), (4, xi p3), (5, xi p4)]) (List.forall_mem_cons.mpr ⟨rfl, List.forall_mem_cons.mpr ⟨rfl, List.forall_mem_cons.mpr ⟨rfl, List.forall_mem_cons.mpr ⟨rfl, List.forall_mem_cons.mpr ⟨rfl, List.forall_mem_cons.mpr ⟨rfl, fun _ h => absurd h List.not_mem_nil⟩⟩⟩⟩⟩⟩) ?_
    exact q
  refine xS_call (q := 38) (n := 1) (kq := 0) (as := [xa 0]) (st1 := []) rfl rfl rfl rfl rfl rfl rfl rfl rfl rfl (fun _ => xw_rcv1 (t := 0) (xw_obd (by decide +kernel)) rfl) rfl (List.forall_mem_cons.mpr ⟨rfl, fun _ h => absurd h List.not_mem_nil⟩) (ygf38 hB _) (fun v1 m1 cv1 => ?_)
  refine xS_of (pc' := 13) (L' := [(0, xa 0), (1, xi p0), (2, xi p1), (3, xi p2), (4, xi p3), (5, xi p4)]) (st' := [xi 65516, xi (xR m1 1 1)]) (m' := m1) (fun ex ns r q => ?_) ?_
  · refine xw_aload_n rfl rfl rfl ?_
    refine xw_gfR (n := 1) (e := 1) rfl (xw_obd (by decide +kernel)) (by decide +kernel) (by decide +kernel) rfl ?_
    refine xw_gfIc (v := (m1 1 1)) (v' := (xR m1 1 1)) rfl (xw_obd (by decide +kernel)) xk1_1 (qi := 1) rfl rfl rfl ?_
    refine xw_ldc (e := 65516) rfl (by decide +kernel) ?_
    exact q
  refine xS_if (fun h0 => ?_) (fun h0 => ?_)
  · refine xS_of (pc' := 21) (L' := [(0, xa 0), (1, xi p0), (2, xi p1), (3, xi p2), (4, xi p3), (5, xi p4)]) (st' := [xi 1]) (m' := m1) (fun ex ns r q => ?_) ?_
    · refine xw_ic_leF rfl (w32_cg (w32_xR _ _ _)) (w32_cg rfl) (Int.not_le.mpr h0) ?_
      refine xw_iconst rfl ?_
      refine xw_goto rfl ?_
      refine xw_lo (L2 := [(0, xa 0), (1, xi p0), (2, xi p1), (3, xi p2), (4, xi p3), (5, xi p4)]) (List.forall_mem_cons.mpr ⟨rfl, List.forall_mem_cons.mpr ⟨rfl, List.forall_mem_cons.mpr ⟨rfl, List.forall_mem_cons.mpr ⟨rfl, List.forall_mem_cons.mpr ⟨rfl, List.forall_mem_cons.mpr ⟨rfl, fun _ h => absurd h List.not_mem_nil⟩⟩⟩⟩⟩⟩) ?_
      exact q
    refine xS_call (q := 39) (n := 1) (kq := 0) (as := [xi 1]) (st1 := []) rfl rfl rfl rfl rfl rfl rfl rfl rfl rfl (fun _ => xw_rcv0 rfl) rfl (List.forall_mem_cons.mpr ⟨rfl, fun _ h => absurd h List.not_mem_nil⟩) (ygf39 hB _ _ rfl) (fun v2 m2 cv2 => ?_)
    refine xS_of (pc' := 29) (L' := [(0, xa 0), (2, xi p1), (3, xi p2), (4, xi p3), (5, xi p4)]) (st' := [xi p0, xa 1]) (m' := m2) (fun ex ns r q => ?_) ?_
    · refine xw_aload_n rfl rfl rfl ?_
      refine xw_gfR (n := 1) (e := 1) rfl (xw_obd (by decide +kernel)) (by decide +kernel) (by decide +kernel) rfl ?_
      refine xw_iload_n rfl rfl ?_
      refine xw_lo (L2 := [(0, xa 0), (2, xi p1), (3, xi p2), (4, xi p3), (5, xi p4)]) (List.forall_mem_cons.mpr ⟨rfl, List.forall_mem_cons.mpr ⟨rfl, List.forall_mem_cons.mpr ⟨rfl, List.forall_mem_cons.mpr ⟨rfl, List.forall_mem_cons.mpr ⟨rfl, fun _ h => absurd h List.not_mem_nil⟩⟩⟩⟩⟩) ?_
      exact q
    refine xS_call (q := 40) (n := 2) (kq := 0) (as := [xa 1, xi p0]) (st1 := []) rfl rfl rfl rfl rfl rfl rfl rfl rfl rfl (fun _ => xw_rcv1 (t := 1) (xw_obd (by decide +kernel)) rfl) rfl (List.forall_mem_cons.mpr ⟨rfl, List.forall_mem_cons.mpr ⟨rfl, fun _ h => absurd h List.not_mem_nil⟩⟩) (ygf40 hB _ _ cp0) (fun v3 m3 cv3 => ?_)
    refine xS_of (pc' := 37) (L' := [(0, xa 0), (3, xi p2), (4, xi p3), (5, xi p4)]) (st' := [xi p1, xa 1]) (m' := m3) (fun ex ns r q => ?_) ?_
    · refine xw_aload_n rfl rfl rfl ?_
      refine xw_gfR (n := 1) (e := 1) rfl (xw_obd (by decide +kernel)) (by decide +kernel) (by decide +kernel) rfl ?_
      refine xw_iload_n rfl rfl ?_
      refine xw_lo (L2 := [(0, xa 0), (3, xi p2), (4, xi p3), (5, xi p4)]) (List.forall_mem_cons.mpr ⟨rfl, List.forall_mem_cons.mpr ⟨rfl, List.forall_mem_cons.mpr ⟨rfl, List.forall_mem_cons.mpr ⟨rfl, fun _ h => absurd h List.not_mem_nil⟩⟩⟩⟩) ?_
      exact q
    refine xS_call (q := 40) (n := 2) (kq := 0) (as := [xa 1, xi p1]) (st1 := []) rfl rfl rfl rfl rfl rfl rfl rfl rfl rfl (fun _ => xw_rcv1 (t := 1) (xw_obd (by decide +kernel)) rfl) rfl (List.forall_mem_cons.mpr ⟨rfl, List.forall_mem_cons.mpr ⟨rfl, fun _ h => absurd h List.not_mem_nil⟩⟩) (ygf40 hB _ _ cp1) (fun v4 m4 cv4 => ?_)
    refine xS_of (pc' := 45) (L' := [(0, xa 0), (4, xi p3), (5, xi p4)]) (st' := [xi p2, xa 1]) (m' := m4) (fun ex ns r q => ?_) ?_
    · refine xw_aload_n rfl rfl rfl ?_
      refine xw_gfR (n := 1) (e := 1) rfl (xw_obd (by decide +kernel)) (by decide +kernel) (by decide +kernel) rfl ?_
      refine xw_iload_n rfl rfl ?_
      refine xw_lo (L2 := [(0, xa 0), (4, xi p3), (5, xi p4)]) (List.forall_mem_cons.mpr ⟨rfl, List.forall_mem_cons.mpr ⟨rfl, List.forall_mem_cons.mpr ⟨rfl, fun _ h => absurd h List.not_mem_nil⟩⟩⟩) ?_
      exact q
    refine xS_call (q := 40) (n := 2) (kq := 0) (as := [xa 1, xi p2]) (st1 := []) rfl rfl rfl rfl rfl rfl rfl rfl rfl rfl (fun _ => xw_rcv1 (t := 1) (xw_obd (by decide +kernel)) rfl) rfl (List.forall_mem_cons.mpr ⟨rfl, List.forall_mem_cons.mpr ⟨rfl, fun _ h => absurd h List.not_mem_nil⟩⟩) (ygf40 hB _ _ cp2) (fun v5 m5 cv5 => ?_)
    refine xS_of (pc' := 54) (L' := [(0, xa 0), (5, xi p4)]) (st' := [xi p3, xa 1]) (m' := m5) (fun ex ns r q => ?_) ?_
    · refine xw_aload_n rfl rfl rfl ?_
      refine xw_gfR (n := 1) (e := 1) rfl (xw_obd (by decide +kernel)) (by decide +kernel) (by decide +kernel) rfl ?_
      refine xw_iload rfl rfl ?_
      refine xw_lo (L2 := [(0, xa 0), (5, xi p4)]) (List.forall_mem_cons.mpr ⟨rfl, List.forall_mem_cons.mpr ⟨rfl, fun _ h => absurd h List.not_mem_nil⟩⟩) ?_
      exact q
    refine xS_call (q := 40) (n := 2) (kq := 0) (as := [xa 1, xi p3]) (st1 := []) rfl rfl rfl rfl rfl rfl rfl rfl rfl rfl (fun _ => xw_rcv1 (t := 1) (xw_obd (by decide +kernel)) rfl) rfl (List.forall_mem_cons.mpr ⟨rfl, List.forall_mem_cons.mpr ⟨rfl, fun _ h => absurd h List.not_mem_nil⟩⟩) (ygf40 hB _ _ cp3) (fun v6 m6 cv6 => ?_)
    refine xS_of (pc' := 63) (L' := [(0, xa 0)]) (st' := [xi p4, xa 1]) (m' := m6) (fun ex ns r q => ?_) ?_
    · refine xw_aload_n rfl rfl rfl ?_
      refine xw_gfR (n := 1) (e := 1) rfl (xw_obd (by decide +kernel)) (by decide +kernel) (by decide +kernel) rfl ?_
      refine xw_iload rfl rfl ?_
      refine xw_lo (L2 := [(0, xa 0)]) (List.forall_mem_cons.mpr ⟨rfl, fun _ h => absurd h List.not_mem_nil⟩) ?_
      exact q
    refine xS_call (q := 40) (n := 2) (kq := 0) (as := [xa 1, xi p4]) (st1 := []) rfl rfl rfl rfl rfl rfl rfl rfl rfl rfl (fun _ => xw_rcv1 (t := 1) (xw_obd (by decide +kernel)) rfl) rfl (List.forall_mem_cons.mpr ⟨rfl, List.forall_mem_cons.mpr ⟨rfl, fun _ h => absurd h List.not_mem_nil⟩⟩) (ygf40 hB _ _ cp4) (fun v7 m7 cv7 => ?_)
    refine xS_of (pc' := 73) (L' := [(0, xa 0)]) (st' := [xi (xR m7 1 1)]) (m' := m7) (fun ex ns r q => ?_) ?_
    · refine xw_aload_n rfl rfl rfl ?_
      refine xw_gfR (n := 1) (e := 1) rfl (xw_obd (by decide +kernel)) (by decide +kernel) (by decide +kernel) rfl ?_
      refine xw_gfIc (v := (m7 1 1)) (v' := (xR m7 1 1)) rfl (xw_obd (by decide +kernel)) xk1_1 (qi := 1) rfl rfl rfl ?_
      exact q
    exact xS_ret (v := (xR m7 1 1)) rfl rfl xw_rtI (w32_xR _ _ _)
  · refine xS_of (pc' := 21) (L' := [(0, xa 0), (1, xi p0), (2, xi p1), (3, xi p2), (4, xi p3), (5, xi p4)]) (st' := [xi 0]) (m' := m1) (fun ex ns r q => ?_) ?_
    · refine xw_ic_leT rfl (w32_cg (w32_xR _ _ _)) (w32_cg rfl) (Int.not_lt.mp h0) ?_
      refine xw_iconst rfl ?_
      refine xw_lo (L2 := [(0, xa 0), (1, xi p0), (2, xi p1), (3, xi p2), (4, xi p3), (5, xi p4)]) (List.forall_mem_cons.mpr ⟨rfl, List.forall_mem_cons.mpr ⟨rfl, List.forall_mem_cons.mpr ⟨rfl, List.forall_mem_cons.mpr ⟨rfl, List.forall_mem_cons.mpr ⟨rfl, List.forall_mem_cons.mpr ⟨rfl, fun _ h => absurd h List.not_mem_nil⟩⟩⟩⟩⟩⟩) ?_
      exact q
    refine xS_call (q := 39) (n := 1) (kq := 0) (as := [xi 0]) (st1 := []) rfl rfl rfl rfl rfl rfl rfl rfl rfl rfl (fun _ => xw_rcv0 rfl) rfl (List.forall_mem_cons.mpr ⟨rfl, fun _ h => absurd h List.not_mem_nil⟩) (ygf39 hB _ _ rfl) (fun v8 m8 cv8 => ?_)
    refine xS_of (pc' := 29) (L' := [(0, xa 0), (2, xi p1), (3, xi p2), (4, xi p3), (5, xi p4)]) (st' := [xi p0, xa 1]) (m' := m8) (fun ex ns r q => ?_) ?_
    · refine xw_aload_n rfl rfl rfl ?_
      refine xw_gfR (n := 1) (e := 1) rfl (xw_obd (by decide +kernel)) (by decide +kernel) (by decide +kernel) rfl ?_
      refine xw_iload_n rfl rfl ?_
      refine xw_lo (L2 := [(0, xa 0), (2, xi p1), (3, xi p2), (4, xi p3), (5, xi p4)]) (List.forall_mem_cons.mpr ⟨rfl, List.forall_mem_cons.mpr ⟨rfl, List.forall_mem_cons.mpr ⟨rfl, List.forall_mem_cons.mpr ⟨rfl, List.forall_mem_cons.mpr ⟨rfl, fun _ h => absurd h List.not_mem_nil⟩⟩⟩⟩⟩) ?_
      exact q
    refine xS_call (q := 40) (n := 2) (kq := 0) (as := [xa 1, xi p0]) (st1 := []) rfl rfl rfl rfl rfl rfl rfl rfl rfl rfl (fun _ => xw_rcv1 (t := 1) (xw_obd (by decide +kernel)) rfl) rfl (List.forall_mem_cons.mpr ⟨rfl, List.forall_mem_cons.mpr ⟨rfl, fun _ h => absurd h List.not_mem_nil⟩⟩) (ygf40 hB _ _ cp0) (fun v9 m9 cv9 => ?_)
    refine xS_of (pc' := 37) (L' := [(0, xa 0), (3, xi p2), (4, xi p3), (5, xi p4)]) (st' := [xi p1, xa 1]) (m' := m9) (fun ex ns r q => ?_) ?_
    · refine xw_aload_n rfl rfl rfl ?_
      refine xw_gfR (n := 1) (e := 1) rfl (xw_obd (by decide +kernel)) (by decide +kernel) (by decide +kernel) rfl ?_
      refine xw_iload_n rfl rfl ?_
      refine xw_lo (L2 := [(0, xa 0), (3, xi p2), (4, xi p3), (5, xi p4)]) (List.forall_mem_cons.mpr ⟨rfl, List.forall_mem_cons.mpr ⟨rfl, List.forall_mem_cons.mpr ⟨rfl, List.forall_mem_cons.mpr ⟨rfl, fun _ h => absurd h List.not_mem_nil⟩⟩⟩⟩) ?_
      exact q
    refine xS_call (q := 40) (n := 2) (kq := 0) (as := [xa 1, xi p1]) (st1 := []) rfl rfl rfl rfl rfl rfl rfl rfl rfl rfl (fun _ => xw_rcv1 (t := 1) (xw_obd (by decide +kernel)) rfl) rfl (List.forall_mem_cons.mpr ⟨rfl, List.forall_mem_cons.mpr ⟨rfl, fun _ h => absurd h List.not_mem_nil⟩⟩) (ygf40 hB _ _ cp1) (fun v10 m10 cv10 => ?_)
    refine xS_of (pc' := 45) (L' := [(0, xa 0), (4, xi p3), (5, xi p4)]) (st' := [xi p2, xa 1]) (m' := m10) (fun ex ns r q => ?_) ?_
    · refine xw_aload_n rfl rfl rfl ?_
      refine xw_gfR (n := 1) (e := 1) rfl (xw_obd (by decide +kernel)) (by decide +kernel) (by decide +kernel) rfl ?_
      refine xw_iload_n rfl rfl ?_
      refine xw_lo (L2 := [(0, xa 0), (4, xi p3), (5, xi p4)]) (List.forall_mem_cons.mpr ⟨rfl, List.forall_mem_cons.mpr ⟨rfl, List.forall_mem_cons.mpr ⟨rfl, fun _ h => absurd h List.not_mem_nil⟩⟩⟩) ?_
      exact q
    refine xS_call (q := 40) (n := 2) (kq := 0) (as := [xa 1, xi p2]) (st1 := []) rfl rfl rfl rfl rfl rfl rfl rfl rfl rfl (fun _ => xw_rcv1 (t := 1) (xw_obd (by decide +kernel)) rfl) rfl (List.forall_mem_cons.mpr ⟨rfl, List.forall_mem_cons.mpr ⟨rfl, fun _ h => absurd h List.not_mem_nil⟩⟩) (ygf40 hB _ _ cp2) (fun v11 m11 cv11 => ?_)
    refine xS_of (pc' := 54) (L' := [(0, xa 0), (5, xi p4)]) (st' := [xi p3, xa 1]) (m' := m11) (fun ex ns r q => ?_) ?_
    · refine xw_aload_n rfl rfl rfl ?_
      refine xw_gfR (n := 1) (e := 1) rfl (xw_obd (by decide +kernel)) (by decide +kernel) (by decide +kernel) rfl ?_
      refine xw_iload rfl rfl ?_
      refine xw_lo (L2 := [(0, xa 0), (5, xi p4)]) (List.forall_mem_cons.mpr ⟨rfl, List.forall_mem_cons.mpr ⟨rfl, fun _ h => absurd h List.not_mem_nil⟩⟩) ?_
      exact q
    refine xS_call (q := 40) (n := 2) (kq := 0) (as := [xa 1, xi p3]) (st1 := []) rfl rfl rfl rfl rfl rfl rfl rfl rfl rfl (fun _ => xw_rcv1 (t := 1) (xw_obd (by decide +kernel)) rfl) rfl (List.forall_mem_cons.mpr ⟨rfl, List.forall_mem_cons.mpr ⟨rfl, fun _ h => absurd h List.not_mem_nil⟩⟩) (ygf40 hB _ _ cp3) (fun v12 m12 cv12 => ?_)
    refine xS_of (pc' := 63) (L' := [(0, xa 0)]) (st' := [xi p4, xa 1]) (m' := m12) (fun ex ns r q => ?_) ?_
    · refine xw_aload_n rfl rfl rfl ?_
      refine xw_gfR (n := 1) (e := 1) rfl (xw_obd (by decide +kernel)) (by decide +kernel) (by decide +kernel) rfl ?_
      refine xw_iload rfl rfl ?_
      refine xw_lo (L2 := [(0, xa 0)]) (List.forall_mem_cons.mpr ⟨rfl, fun _ h => absurd h List.not_mem_nil⟩) ?_
      exact q
    refine xS_call (q := 40) (n := 2) (kq := 0) (as := [xa 1, xi p4]) (st1 := []) rfl rfl rfl rfl rfl rfl rfl rfl rfl rfl (fun _ => xw_rcv1 (t := 1) (xw_obd (by decide +kernel)) rfl) rfl (List.forall_mem_cons.mpr ⟨rfl, List.forall_mem_cons.mpr ⟨rfl, fun _ h => absurd h List.not_mem_nil⟩⟩) (ygf40 hB _ _ cp4) (fun v13 m13 cv13 => ?_)
    refine xS_of (pc' := 73) (L' := [(0, xa 0)]) (st' := [xi (xR m13 1 1)]) (m' := m13) (fun ex ns r q => ?_) ?_
    · refine xw_aload_n rfl rfl rfl ?_
      refine xw_gfR (n := 1) (e := 1) rfl (xw_obd (by decide +kernel)) (by decide +kernel) (by decide +kernel) rfl ?_
      refine xw_gfIc (v := (m13 1 1)) (v' := (xR m13 1 1)) rfl (xw_obd (by decide +kernel)) xk1_1 (qi := 1) rfl rfl rfl ?_
      exact q
    exact xS_ret (v := (xR m13 1 1)) rfl rfl xw_rtI (w32_xR _ _ _)

theorem ygf43 {B : Nat} (hB : B ≤ 512) {xs : Nat → Int32} {SL d : Nat} : ∀ p0 m, w32 p0 = p0 → xS B xs SL (d + 0) 43 (1, none, [], 0) 0 0 [(0, xi p0)] [] m (yf43 B p0 m) := by
  intro p0 m cp0
  unfold yf43
  refine xS_of (pc' := 1) (L' := [(0, xi p0)]) (st' := [xi p0]) (m' := m) (fun ex ns r q => ?_) ?_
  · refine xw_iload_n rfl rfl ?_
    exact q
  refine xS_if (fun h0 => ?_) (fun h0 => ?_)
  · refine xS_of (pc' := 4) (L' := [(0, xi p0)]) (st' := []) (m' := m) (fun ex ns r q => ?_) ?_
    · refine xw_if_neF rfl (w32_cg cp0) h0 ?_
      exact q
    exact xS_thr (E := (.new 355, 3, 15, 0)) rfl rfl rfl rfl
  · refine xS_of (pc' := 12) (L' := [(0, xi p0)]) (st' := []) (m' := m) (fun ex ns r q => ?_) ?_
    · refine xw_if_neT rfl (w32_cg cp0) h0 ?_
      exact q
    exact xS_ret (v := 0) rfl rfl rfl rfl
theorem ygk42_25 {B : Nat} (hB : B ≤ 512) {xs : Nat → Int32} {SL d : Nat} : ∀ x1 m, w32 x1 = x1 → xS B xs SL (d + 2) 42 (2, (some .int), [], 1) 1 25 [(0, xa 0), (1, xi x1)] [] m (yk42_25 B x1 m) := by
  intro x1 m c1
  unfold yk42_25
  refine xS_of (pc' := 26) (L' := [(0, xa 0), (1, xi x1)]) (st' := [xi 0]) (m' := m) (fun ex ns r q => ?_) ?_
  · refine xw_iconst rfl ?_
    refine xw_lo (L2 := [(0, xa 0), (1, xi x1)]) (List.forall_mem_cons.mpr ⟨rfl, List.forall_mem_cons.mpr ⟨rfl, fun _ h => absurd h List.not_mem_nil⟩⟩) ?_
    exact q
  refine xS_call (q := 43) (n := 1) (kq := 0) (as := [xi 0]) (st1 := []) rfl rfl rfl rfl rfl rfl rfl rfl rfl rfl (fun _ => xw_rcv0 rfl) rfl (List.forall_mem_cons.mpr ⟨rfl, fun _ h => absurd h List.not_mem_nil⟩) (ygf43 hB _ _ rfl) (fun v1 m1 cv1 => ?_)
  refine xS_of (pc' := 30) (L' := [(0, xa 0), (1, xi x1)]) (st' := [xa 0]) (m' := m1) (fun ex ns r q => ?_) ?_
  · refine xw_aload_n rfl rfl rfl ?_
    refine xw_lo (L2 := [(0, xa 0), (1, xi x1)]) (List.forall_mem_cons.mpr ⟨rfl, List.forall_mem_cons.mpr ⟨rfl, fun _ h => absurd h List.not_mem_nil⟩⟩) ?_
    exact q
  refine xS_call (q := 38) (n := 1) (kq := 0) (as := [xa 0]) (st1 := []) rfl rfl rfl rfl rfl rfl rfl rfl rfl rfl (fun _ => xw_rcv1 (t := 0) (xw_obd (by decide +kernel)) rfl) rfl (List.forall_mem_cons.mpr ⟨rfl, fun _ h => absurd h List.not_mem_nil⟩) (ygf38 hB _) (fun v2 m2 cv2 => ?_)
  refine xS_of (pc' := 53) (L' := [(0, xa 0), (1, xi x1)]) (st' := [xi (w32 ((xR m2 1 1) - x1))]) (m' := (xw_u m2 1 1 ((xR m2 1 1) - x1))) (fun ex ns r q => ?_) ?_
  · refine xw_aload_n rfl rfl rfl ?_
    refine xw_gfR (n := 1) (e := 1) rfl (xw_obd (by decide +kernel)) (by decide +kernel) (by decide +kernel) rfl ?_
    refine xw_dup rfl rfl ?_
    refine xw_gfIc (v := (m2 1 1)) (v' := (xR m2 1 1)) rfl (xw_obd (by decide +kernel)) xk1_1 (qi := 1) rfl rfl rfl ?_
    refine xw_iload_n rfl rfl ?_
    refine xw_isub rfl ?_
    refine xw_pfI rfl (xw_obd (by decide +kernel)) xk1_1 (qi := 1) rfl (xw_okI rfl) ?_
    refine xw_aload_n rfl rfl rfl ?_
    refine xw_gfR (n := 1) (e := 1) rfl (xw_obd (by decide +kernel)) (by decide +kernel) (by decide +kernel) rfl ?_
    refine xw_gfIc (v := ((xR m2 1 1) - x1)) (v' := (w32 ((xR m2 1 1) - x1))) rfl (xw_obd (by decide +kernel)) xk1_1 (qi := 1) rfl xw_us rfl ?_
    exact q
  exact xS_ret (v := (w32 ((xR m2 1 1) - x1))) rfl rfl xw_rtI (w32_w _)
theorem ygf42 {B : Nat} (hB : B ≤ 512) {xs : Nat → Int32} {SL d : Nat} : ∀ p0 m, w32 p0 = p0 → xS B xs SL (d + 2) 42 (2, (some .int), [], 1) 1 0 [(0, xa 0), (1, xi p0)] [] m (yf42 B p0 m) := by
  intro p0 m cp0
  unfold yf42
  refine xS_of (pc' := 1) (L' := [(0, xa 0), (1, xi p0)]) (st' := [xi p0]) (m' := m) (fun ex ns r q => ?_) ?_
  · refine xw_iload_n rfl rfl ?_
    exact q
  refine xS_if (fun h0 => ?_) (fun h0 => ?_)
  · refine xS_of (pc' := 25) (L' := [(0, xa 0), (1, xi p0)]) (st' := []) (m' := m) (fun ex ns r q => ?_) ?_
    · refine xw_if_ltT rfl (w32_cg cp0) h0 ?_
      refine xw_lo (L2 := [(0, xa 0), (1, xi p0)]) (List.forall_mem_cons.mpr ⟨rfl, List.forall_mem_cons.mpr ⟨rfl, fun _ h => absurd h List.not_mem_nil⟩⟩) ?_
      exact q
    exact ygk42_25 hB _ _ cp0
  · refine xS_of (pc' := 7) (L' := [(0, xa 0), (1, xi p0)]) (st' := [xi 20, xi p0]) (m' := m) (fun ex ns r q => ?_) ?_
    · refine xw_if_ltF rfl (w32_cg cp0) h0 ?_
      refine xw_iload_n rfl rfl ?_
      refine xw_bipush (e := 20) rfl (by decide +kernel) ?_
      exact q
    refine xS_if (fun h1 => ?_) (fun h1 => ?_)
    · refine xS_of (pc' := 25) (L' := [(0, xa 0), (1, xi p0)]) (st' := []) (m' := m) (fun ex ns r q => ?_) ?_
      · refine xw_ic_gtT rfl (w32_cg cp0) (w32_cg rfl) h1 ?_
        refine xw_lo (L2 := [(0, xa 0), (1, xi p0)]) (List.forall_mem_cons.mpr ⟨rfl, List.forall_mem_cons.mpr ⟨rfl, fun _ h => absurd h List.not_mem_nil⟩⟩) ?_
        exact q
      exact ygk42_25 hB _ _ cp0
    · refine xS_of (pc' := 18) (L' := [(0, xa 0), (1, xi p0)]) (st' := [xi (xR m 1 1), xi p0]) (m' := m) (fun ex ns r q => ?_) ?_
      · refine xw_ic_gtF rfl (w32_cg cp0) (w32_cg rfl) h1 ?_
        refine xw_iload_n rfl rfl ?_
        refine xw_aload_n rfl rfl rfl ?_
        refine xw_gfR (n := 1) (e := 1) rfl (xw_obd (by decide +kernel)) (by decide +kernel) (by decide +kernel) rfl ?_
        refine xw_gfIc (v := (m 1 1)) (v' := (xR m 1 1)) rfl (xw_obd (by decide +kernel)) xk1_1 (qi := 1) rfl rfl rfl ?_
        exact q
      refine xS_if (fun h2 => ?_) (fun h2 => ?_)
      · refine xS_of (pc' := 25) (L' := [(0, xa 0), (1, xi p0)]) (st' := []) (m' := m) (fun ex ns r q => ?_) ?_
        · refine xw_ic_gtT rfl (w32_cg cp0) (w32_cg (w32_xR _ _ _)) h2 ?_
          refine xw_lo (L2 := [(0, xa 0), (1, xi p0)]) (List.forall_mem_cons.mpr ⟨rfl, List.forall_mem_cons.mpr ⟨rfl, fun _ h => absurd h List.not_mem_nil⟩⟩) ?_
          exact q
        exact ygk42_25 hB _ _ cp0
      · refine xS_of (pc' := 26) (L' := [(0, xa 0), (1, xi p0)]) (st' := [xi 1]) (m' := m) (fun ex ns r q => ?_) ?_
        · refine xw_ic_gtF rfl (w32_cg cp0) (w32_cg (w32_xR _ _ _)) h2 ?_
          refine xw_iconst rfl ?_
          refine xw_goto rfl ?_
          refine xw_lo (L2 := [(0, xa 0), (1, xi p0)]) (List.forall_mem_cons.mpr ⟨rfl, List.forall_mem_cons.mpr ⟨rfl, fun _ h => absurd h List.not_mem_nil⟩⟩) ?_
          exact q
        refine xS_call (q := 43) (n := 1) (kq := 0) (as := [xi 1]) (st1 := []) rfl rfl rfl rfl rfl rfl rfl rfl rfl rfl (fun _ => xw_rcv0 rfl) rfl (List.forall_mem_cons.mpr ⟨rfl, fun _ h => absurd h List.not_mem_nil⟩) (ygf43 hB _ _ rfl) (fun v1 m1 cv1 => ?_)
        refine xS_of (pc' := 30) (L' := [(0, xa 0), (1, xi p0)]) (st' := [xa 0]) (m' := m1) (fun ex ns r q => ?_) ?_
        · refine xw_aload_n rfl rfl rfl ?_
          refine xw_lo (L2 := [(0, xa 0), (1, xi p0)]) (List.forall_mem_cons.mpr ⟨rfl, List.forall_mem_cons.mpr ⟨rfl, fun _ h => absurd h List.not_mem_nil⟩⟩) ?_
          exact q
        refine xS_call (q := 38) (n := 1) (kq := 0) (as := [xa 0]) (st1 := []) rfl rfl rfl rfl rfl rfl rfl rfl rfl rfl (fun _ => xw_rcv1 (t := 0) (xw_obd (by decide +kernel)) rfl) rfl (List.forall_mem_cons.mpr ⟨rfl, fun _ h => absurd h List.not_mem_nil⟩) (ygf38 hB _) (fun v2 m2 cv2 => ?_)
        refine xS_of (pc' := 53) (L' := [(0, xa 0), (1, xi p0)]) (st' := [xi (w32 ((xR m2 1 1) - p0))]) (m' := (xw_u m2 1 1 ((xR m2 1 1) - p0))) (fun ex ns r q => ?_) ?_
        · refine xw_aload_n rfl rfl rfl ?_
          refine xw_gfR (n := 1) (e := 1) rfl (xw_obd (by decide +kernel)) (by decide +kernel) (by decide +kernel) rfl ?_
          refine xw_dup rfl rfl ?_
          refine xw_gfIc (v := (m2 1 1)) (v' := (xR m2 1 1)) rfl (xw_obd (by decide +kernel)) xk1_1 (qi := 1) rfl rfl rfl ?_
          refine xw_iload_n rfl rfl ?_
          refine xw_isub rfl ?_
          refine xw_pfI rfl (xw_obd (by decide +kernel)) xk1_1 (qi := 1) rfl (xw_okI rfl) ?_
          refine xw_aload_n rfl rfl rfl ?_
          refine xw_gfR (n := 1) (e := 1) rfl (xw_obd (by decide +kernel)) (by decide +kernel) (by decide +kernel) rfl ?_
          refine xw_gfIc (v := ((xR m2 1 1) - p0)) (v' := (w32 ((xR m2 1 1) - p0))) rfl (xw_obd (by decide +kernel)) xk1_1 (qi := 1) rfl xw_us rfl ?_
          exact q
        exact xS_ret (v := (w32 ((xR m2 1 1) - p0))) rfl rfl xw_rtI (w32_w _)

theorem ygf48 {B : Nat} (hB : B ≤ 512) {xs : Nat → Int32} {SL d : Nat} : ∀ p0 m, w32 p0 = p0 → xS B xs SL (d + 0) 48 (1, (some .boolean), [], 0) 4 0 [(0, xi p0)] [] m (yf48 B p0 m) := by
  intro p0 m cp0
  unfold yf48
  refine xS_of (pc' := 3) (L' := [(0, xi p0)]) (st' := [xi 32, xi p0]) (m' := m) (fun ex ns r q => ?_) ?_
  · refine xw_iload_n rfl rfl ?_
    refine xw_bipush (e := 32) rfl (by decide +kernel) ?_
    exact q
  refine xS_if (fun h0 => ?_) (fun h0 => ?_)
  · refine xS_of (pc' := 29) (L' := [(0, xi p0)]) (st' := [xi 1]) (m' := m) (fun ex ns r q => ?_) ?_
    · refine xw_ic_eqT rfl (w32_cg cp0) (w32_cg rfl) h0 ?_
      refine xw_iconst rfl ?_
      refine xw_goto rfl ?_
      exact q
    exact xS_ret (v := 1) rfl rfl (xw_rtZ (Or.inr rfl)) (Or.inr rfl)
  · refine xS_of (pc' := 9) (L' := [(0, xi p0)]) (st' := [xi 9, xi p0]) (m' := m) (fun ex ns r q => ?_) ?_
    · refine xw_ic_eqF rfl (w32_cg cp0) (w32_cg rfl) h0 ?_
      refine xw_iload_n rfl rfl ?_
      refine xw_bipush (e := 9) rfl (by decide +kernel) ?_
      exact q
    refine xS_if (fun h1 => ?_) (fun h1 => ?_)
    · refine xS_of (pc' := 29) (L' := [(0, xi p0)]) (st' := [xi 1]) (m' := m) (fun ex ns r q => ?_) ?_
      · refine xw_ic_eqT rfl (w32_cg cp0) (w32_cg rfl) h1 ?_
        refine xw_iconst rfl ?_
        refine xw_goto rfl ?_
        exact q
      exact xS_ret (v := 1) rfl rfl (xw_rtZ (Or.inr rfl)) (Or.inr rfl)
    · refine xS_of (pc' := 15) (L' := [(0, xi p0)]) (st' := [xi 10, xi p0]) (m' := m) (fun ex ns r q => ?_) ?_
      · refine xw_ic_eqF rfl (w32_cg cp0) (w32_cg rfl) h1 ?_
        refine xw_iload_n rfl rfl ?_
        refine xw_bipush (e := 10) rfl (by decide +kernel) ?_
        exact q
      refine xS_if (fun h2 => ?_) (fun h2 => ?_)
      · refine xS_of (pc' := 29) (L' := [(0, xi p0)]) (st' := [xi 1]) (m' := m) (fun ex ns r q => ?_) ?_
        · refine xw_ic_eqT rfl (w32_cg cp0) (w32_cg rfl) h2 ?_
          refine xw_iconst rfl ?_
          refine xw_goto rfl ?_
          exact q
        exact xS_ret (v := 1) rfl rfl (xw_rtZ (Or.inr rfl)) (Or.inr rfl)
      · refine xS_of (pc' := 21) (L' := [(0, xi p0)]) (st' := [xi 13, xi p0]) (m' := m) (fun ex ns r q => ?_) ?_
        · refine xw_ic_eqF rfl (w32_cg cp0) (w32_cg rfl) h2 ?_
          refine xw_iload_n rfl rfl ?_
          refine xw_bipush (e := 13) rfl (by decide +kernel) ?_
          exact q
        refine xS_if (fun h3 => ?_) (fun h3 => ?_)
        · refine xS_of (pc' := 29) (L' := [(0, xi p0)]) (st' := [xi 1]) (m' := m) (fun ex ns r q => ?_) ?_
          · refine xw_ic_neF rfl (w32_cg cp0) (w32_cg rfl) h3 ?_
            refine xw_iconst rfl ?_
            refine xw_goto rfl ?_
            exact q
          exact xS_ret (v := 1) rfl rfl (xw_rtZ (Or.inr rfl)) (Or.inr rfl)
        · refine xS_of (pc' := 29) (L' := [(0, xi p0)]) (st' := [xi 0]) (m' := m) (fun ex ns r q => ?_) ?_
          · refine xw_ic_neT rfl (w32_cg cp0) (w32_cg rfl) h3 ?_
            refine xw_iconst rfl ?_
            exact q
          exact xS_ret (v := 0) rfl rfl (xw_rtZ (Or.inl rfl)) (Or.inl rfl)
theorem ygk49_12 {B : Nat} (hB : B ≤ 512) {xs : Nat → Int32} {SL d : Nat} : ∀ x0 m, w32 x0 = x0 → xS B xs SL (d + 0) 49 (1, (some .boolean), [], 0) 4 12 [(0, xi x0)] [] m (yk49_12 B x0 m) := by
  intro x0 m c0
  unfold yk49_12
  refine xS_of (pc' := 15) (L' := [(0, xi x0)]) (st' := [xi 65, xi x0]) (m' := m) (fun ex ns r q => ?_) ?_
  · refine xw_iload_n rfl rfl ?_
    refine xw_bipush (e := 65) rfl (by decide +kernel) ?_
    exact q
  refine xS_if (fun h0 => ?_) (fun h0 => ?_)
  · refine xS_of (pc' := 29) (L' := [(0, xi x0)]) (st' := [xi 0]) (m' := m) (fun ex ns r q => ?_) ?_
    · refine xw_ic_ltT rfl (w32_cg c0) (w32_cg rfl) h0 ?_
      refine xw_iconst rfl ?_
      exact q
    exact xS_ret (v := 0) rfl rfl (xw_rtZ (Or.inl rfl)) (Or.inl rfl)
  · refine xS_of (pc' := 21) (L' := [(0, xi x0)]) (st' := [xi 90, xi x0]) (m' := m) (fun ex ns r q => ?_) ?_
    · refine xw_ic_ltF rfl (w32_cg c0) (w32_cg rfl) h0 ?_
      refine xw_iload_n rfl rfl ?_
      refine xw_bipush (e := 90) rfl (by decide +kernel) ?_
      exact q
    refine xS_if (fun h1 => ?_) (fun h1 => ?_)
    · refine xS_of (pc' := 29) (L' := [(0, xi x0)]) (st' := [xi 0]) (m' := m) (fun ex ns r q => ?_) ?_
      · refine xw_ic_gtT rfl (w32_cg c0) (w32_cg rfl) h1 ?_
        refine xw_iconst rfl ?_
        exact q
      exact xS_ret (v := 0) rfl rfl (xw_rtZ (Or.inl rfl)) (Or.inl rfl)
    · refine xS_of (pc' := 29) (L' := [(0, xi x0)]) (st' := [xi 1]) (m' := m) (fun ex ns r q => ?_) ?_
      · refine xw_ic_gtF rfl (w32_cg c0) (w32_cg rfl) h1 ?_
        refine xw_iconst rfl ?_
        refine xw_goto rfl ?_
        exact q
      exact xS_ret (v := 1) rfl rfl (xw_rtZ (Or.inr rfl)) (Or.inr rfl)
theorem ygf49 {B : Nat} (hB : B ≤ 512) {xs : Nat → Int32} {SL d : Nat} : ∀ p0 m, w32 p0 = p0 → xS B xs SL (d + 0) 49 (1, (some .boolean), [], 0) 4 0 [(0, xi p0)] [] m (yf49 B p0 m) := by
  intro p0 m cp0
  unfold yf49
  refine xS_of (pc' := 3) (L' := [(0, xi p0)]) (st' := [xi 97, xi p0]) (m' := m) (fun ex ns r q => ?_) ?_
  · refine xw_iload_n rfl rfl ?_
    refine xw_bipush (e := 97) rfl (by decide +kernel) ?_
    exact q
  refine xS_if (fun h0 => ?_) (fun h0 => ?_)
  · refine xS_of (pc' := 12) (L' := [(0, xi p0)]) (st' := []) (m' := m) (fun ex ns r q => ?_) ?_
    · refine xw_ic_ltT rfl (w32_cg cp0) (w32_cg rfl) h0 ?_
      refine xw_lo (L2 := [(0, xi p0)]) (List.forall_mem_cons.mpr ⟨rfl, fun _ h => absurd h List.not_mem_nil⟩) ?_
      exact q
    exact ygk49_12 hB _ _ cp0
  · refine xS_of (pc' := 9) (L' := [(0, xi p0)]) (st' := [xi 122, xi p0]) (m' := m) (fun ex ns r q => ?_) ?_
    · refine xw_ic_ltF rfl (w32_cg cp0) (w32_cg rfl) h0 ?_
      refine xw_iload_n rfl rfl ?_
      refine xw_bipush (e := 122) rfl (by decide +kernel) ?_
      exact q
    refine xS_if (fun h1 => ?_) (fun h1 => ?_)
    · refine xS_of (pc' := 12) (L' := [(0, xi p0)]) (st' := []) (m' := m) (fun ex ns r q => ?_) ?_
      · refine xw_ic_leF rfl (w32_cg cp0) (w32_cg rfl) (Int.not_le.mpr h1) ?_
        refine xw_lo (L2 := [(0, xi p0)]) (List.forall_mem_cons.mpr ⟨rfl, fun _ h => absurd h List.not_mem_nil⟩) ?_
        exact q
      exact ygk49_12 hB _ _ cp0
    · refine xS_of (pc' := 29) (L' := [(0, xi p0)]) (st' := [xi 1]) (m' := m) (fun ex ns r q => ?_) ?_
      · refine xw_ic_leT rfl (w32_cg cp0) (w32_cg rfl) (Int.not_lt.mp h1) ?_
        refine xw_iconst rfl ?_
        refine xw_goto rfl ?_
        exact q
      exact xS_ret (v := 1) rfl rfl (xw_rtZ (Or.inr rfl)) (Or.inr rfl)
theorem ygk50_36 {B : Nat} (hB : B ≤ 512) {xs : Nat → Int32} {SL d : Nat} : ∀ x0 m, w32 x0 = x0 → xS B xs SL (d + 0) 50 (1, (some .boolean), [], 0) 4 36 [(0, xi x0)] [] m (yk50_36 B x0 m) := by
  intro x0 m c0
  unfold yk50_36
  refine xS_of (pc' := 39) (L' := [(0, xi x0)]) (st' := [xi 95, xi x0]) (m' := m) (fun ex ns r q => ?_) ?_
  · refine xw_iload_n rfl rfl ?_
    refine xw_bipush (e := 95) rfl (by decide +kernel) ?_
    exact q
  refine xS_if (fun h0 => ?_) (fun h0 => ?_)
  · refine xS_of (pc' := 47) (L' := [(0, xi x0)]) (st' := [xi 1]) (m' := m) (fun ex ns r q => ?_) ?_
    · refine xw_ic_neF rfl (w32_cg c0) (w32_cg rfl) h0 ?_
      refine xw_iconst rfl ?_
      refine xw_goto rfl ?_
      exact q
    exact xS_ret (v := 1) rfl rfl (xw_rtZ (Or.inr rfl)) (Or.inr rfl)
  · refine xS_of (pc' := 47) (L' := [(0, xi x0)]) (st' := [xi 0]) (m' := m) (fun ex ns r q => ?_) ?_
    · refine xw_ic_neT rfl (w32_cg c0) (w32_cg rfl) h0 ?_
      refine xw_iconst rfl ?_
      exact q
    exact xS_ret (v := 0) rfl rfl (xw_rtZ (Or.inl rfl)) (Or.inl rfl)
theorem ygk50_24 {B : Nat} (hB : B ≤ 512) {xs : Nat → Int32} {SL d : Nat} : ∀ x0 m, w32 x0 = x0 → xS B xs SL (d + 0) 50 (1, (some .boolean), [], 0) 4 24 [(0, xi x0)] [] m (yk50_24 B x0 m) := by
  intro x0 m c0
  unfold yk50_24
  refine xS_of (pc' := 27) (L' := [(0, xi x0)]) (st' := [xi 48, xi x0]) (m' := m) (fun ex ns r q => ?_) ?_
  · refine xw_iload_n rfl rfl ?_
    refine xw_bipush (e := 48) rfl (by decide +kernel) ?_
    exact q
  refine xS_if (fun h0 => ?_) (fun h0 => ?_)
  · refine xS_of (pc' := 36) (L' := [(0, xi x0)]) (st' := []) (m' := m) (fun ex ns r q => ?_) ?_
    · refine xw_ic_ltT rfl (w32_cg c0) (w32_cg rfl) h0 ?_
      refine xw_lo (L2 := [(0, xi x0)]) (List.forall_mem_cons.mpr ⟨rfl, fun _ h => absurd h List.not_mem_nil⟩) ?_
      exact q
    exact ygk50_36 hB _ _ c0
  · refine xS_of (pc' := 33) (L' := [(0, xi x0)]) (st' := [xi 57, xi x0]) (m' := m) (fun ex ns r q => ?_) ?_
    · refine xw_ic_ltF rfl (w32_cg c0) (w32_cg rfl) h0 ?_
      refine xw_iload_n rfl rfl ?_
      refine xw_bipush (e := 57) rfl (by decide +kernel) ?_
      exact q
    refine xS_if (fun h1 => ?_) (fun h1 => ?_)
    · refine xS_of (pc' := 36) (L' := [(0, xi x0)]) (st' := []) (m' := m) (fun ex ns r q => ?_) ?_
      · refine xw_ic_leF rfl (w32_cg c0) (w32_cg rfl) (Int.not_le.mpr h1) ?_
        refine xw_lo (L2 := [(0, xi x0)]) (List.forall_mem_cons.mpr ⟨rfl, fun _ h => absurd h List.not_mem_nil⟩) ?_
        exact q
      exact ygk50_36 hB _ _ c0
    · refine xS_of (pc' := 47) (L' := [(0, xi x0)]) (st' := [xi 1]) (m' := m) (fun ex ns r q => ?_) ?_
      · refine xw_ic_leT rfl (w32_cg c0) (w32_cg rfl) (Int.not_lt.mp h1) ?_
        refine xw_iconst rfl ?_
        refine xw_goto rfl ?_
        exact q
      exact xS_ret (v := 1) rfl rfl (xw_rtZ (Or.inr rfl)) (Or.inr rfl)
theorem ygk50_12 {B : Nat} (hB : B ≤ 512) {xs : Nat → Int32} {SL d : Nat} : ∀ x0 m, w32 x0 = x0 → xS B xs SL (d + 0) 50 (1, (some .boolean), [], 0) 4 12 [(0, xi x0)] [] m (yk50_12 B x0 m) := by
  intro x0 m c0
  unfold yk50_12
  refine xS_of (pc' := 15) (L' := [(0, xi x0)]) (st' := [xi 65, xi x0]) (m' := m) (fun ex ns r q => ?_) ?_
  · refine xw_iload_n rfl rfl ?_
    refine xw_bipush (e := 65) rfl (by decide +kernel) ?_
    exact q
  refine xS_if (fun h0 => ?_) (fun h0 => ?_)
  · refine xS_of (pc' := 24) (L' := [(0, xi x0)]) (st' := []) (m' := m) (fun ex ns r q => ?_) ?_
    · refine xw_ic_ltT rfl (w32_cg c0) (w32_cg rfl) h0 ?_
      refine xw_lo (L2 := [(0, xi x0)]) (List.forall_mem_cons.mpr ⟨rfl, fun _ h => absurd h List.not_mem_nil⟩) ?_
      exact q
    exact ygk50_24 hB _ _ c0
  · refine xS_of (pc' := 21) (L' := [(0, xi x0)]) (st' := [xi 90, xi x0]) (m' := m) (fun ex ns r q => ?_) ?_
    · refine xw_ic_ltF rfl (w32_cg c0) (w32_cg rfl) h0 ?_
      refine xw_iload_n rfl rfl ?_
      refine xw_bipush (e := 90) rfl (by decide +kernel) ?_
      exact q
    refine xS_if (fun h1 => ?_) (fun h1 => ?_)
    · refine xS_of (pc' := 24) (L' := [(0, xi x0)]) (st' := []) (m' := m) (fun ex ns r q => ?_) ?_
      · refine xw_ic_leF rfl (w32_cg c0) (w32_cg rfl) (Int.not_le.mpr h1) ?_
        refine xw_lo (L2 := [(0, xi x0)]) (List.forall_mem_cons.mpr ⟨rfl, fun _ h => absurd h List.not_mem_nil⟩) ?_
        exact q
      exact ygk50_24 hB _ _ c0
    · refine xS_of (pc' := 47) (L' := [(0, xi x0)]) (st' := [xi 1]) (m' := m) (fun ex ns r q => ?_) ?_
      · refine xw_ic_leT rfl (w32_cg c0) (w32_cg rfl) (Int.not_lt.mp h1) ?_
        refine xw_iconst rfl ?_
        refine xw_goto rfl ?_
        exact q
      exact xS_ret (v := 1) rfl rfl (xw_rtZ (Or.inr rfl)) (Or.inr rfl)
theorem ygf50 {B : Nat} (hB : B ≤ 512) {xs : Nat → Int32} {SL d : Nat} : ∀ p0 m, w32 p0 = p0 → xS B xs SL (d + 0) 50 (1, (some .boolean), [], 0) 4 0 [(0, xi p0)] [] m (yf50 B p0 m) := by
  intro p0 m cp0
  unfold yf50
  refine xS_of (pc' := 3) (L' := [(0, xi p0)]) (st' := [xi 97, xi p0]) (m' := m) (fun ex ns r q => ?_) ?_
  · refine xw_iload_n rfl rfl ?_
    refine xw_bipush (e := 97) rfl (by decide +kernel) ?_
    exact q
  refine xS_if (fun h0 => ?_) (fun h0 => ?_)
  · refine xS_of (pc' := 12) (L' := [(0, xi p0)]) (st' := []) (m' := m) (fun ex ns r q => ?_) ?_
    · refine xw_ic_ltT rfl (w32_cg cp0) (w32_cg rfl) h0 ?_
      refine xw_lo (L2 := [(0, xi p0)]) (List.forall_mem_cons.mpr ⟨rfl, fun _ h => absurd h List.not_mem_nil⟩) ?_
      exact q
    exact ygk50_12 hB _ _ cp0
  · refine xS_of (pc' := 9) (L' := [(0, xi p0)]) (st' := [xi 122, xi p0]) (m' := m) (fun ex ns r q => ?_) ?_
    · refine xw_ic_ltF rfl (w32_cg cp0) (w32_cg rfl) h0 ?_
      refine xw_iload_n rfl rfl ?_
      refine xw_bipush (e := 122) rfl (by decide +kernel) ?_
      exact q
    refine xS_if (fun h1 => ?_) (fun h1 => ?_)
    · refine xS_of (pc' := 12) (L' := [(0, xi p0)]) (st' := []) (m' := m) (fun ex ns r q => ?_) ?_
      · refine xw_ic_leF rfl (w32_cg cp0) (w32_cg rfl) (Int.not_le.mpr h1) ?_
        refine xw_lo (L2 := [(0, xi p0)]) (List.forall_mem_cons.mpr ⟨rfl, fun _ h => absurd h List.not_mem_nil⟩) ?_
        exact q
      exact ygk50_12 hB _ _ cp0
    · refine xS_of (pc' := 47) (L' := [(0, xi p0)]) (st' := [xi 1]) (m' := m) (fun ex ns r q => ?_) ?_
      · refine xw_ic_leT rfl (w32_cg cp0) (w32_cg rfl) (Int.not_lt.mp h1) ?_
        refine xw_iconst rfl ?_
        refine xw_goto rfl ?_
        exact q
      exact xS_ret (v := 1) rfl rfl (xw_rtZ (Or.inr rfl)) (Or.inr rfl)
theorem ysl51_27 {B : Nat} (hB : B ≤ 512) {xs : Nat → Int32} {SL d : Nat} {r27 : Int → Int → Int → Int → xw_M → xP} (hr27 : ∀ x1 x2 x3 x4 m, w32 x1 = x1 → w32 x2 = x2 → w32 x3 = x3 → w32 x4 = x4 → xS B xs SL (d + 0) 51 (6, (some .int), [], 2) 1 27 [(0, xa 1), (1, xi x1), (2, xi x2), (3, xi x3), (4, xi x4)] [] m (r27 x1 x2 x3 x4 m)) : ∀ x1 x2 x3 x4 m, w32 x1 = x1 → w32 x2 = x2 → w32 x3 = x3 → w32 x4 = x4 → xS B xs SL (d + 0) 51 (6, (some .int), [], 2) 1 27 [(0, xa 1), (1, xi x1), (2, xi x2), (3, xi x3), (4, xi x4)] [] m (yl51_27 B r27 x1 x2 x3 x4 m) := by
  intro x1 x2 x3 x4 m c1 c2 c3 c4
  unfold yl51_27
  refine xS_of (pc' := 34) (L' := [(0, xa 1), (1, xi x1), (2, xi x2), (3, xi x3), (4, xi x4)]) (st' := [xi 108, xi x4]) (m' := m) (fun ex ns r q => ?_) ?_
  · refine xw_iload rfl rfl ?_
    refine xw_ldcS rfl (by decide) ?_
    refine xw_slen (e := 108) rfl rfl rfl ?_
    exact q
  refine xS_if (fun h0 => ?_) (fun h0 => ?_)
  · refine xS_g (fun g1 => ?_)
    refine xS_of (pc' := 50) (L' := [(5, xi (xw_chr 0 x4)), (0, xa 1), (1, xi x1), (2, xi x2), (3, xi x3), (4, xi x4)]) (st' := [xi 32, xi (xw_chr 0 x4)]) (m' := m) (fun ex ns r q => ?_) ?_
    · refine xw_ic_geF rfl (w32_cg c4) (w32_cg rfl) (Int.not_le.mpr h0) ?_
      refine xw_ldcS rfl (by decide) ?_
      refine xw_iload rfl rfl ?_
      refine xw_schar (n := 0) (x := x4) (e := 108) rfl rfl g1 rfl ?_
      refine xw_istore (L' := [(5, xi (xw_chr 0 x4)), (0, xa 1), (1, xi x1), (2, xi x2), (3, xi x3), (4, xi x4)]) rfl (by decide) rfl ?_
      refine xw_iload rfl rfl ?_
      refine xw_bipush (e := 32) rfl (by decide +kernel) ?_
      exact q
    refine xS_if (fun h2 => ?_) (fun h2 => ?_)
    · refine xS_of (pc' := 55) (L' := [(5, xi (xw_chr 0 x4)), (0, xa 1), (1, xi x1), (2, xi x2), (3, xi x3), (4, xi x4)]) (st' := [xi x1, xi x3]) (m' := m) (fun ex ns r q => ?_) ?_
      · refine xw_ic_neF rfl (w32_cg (w32_chr _ _)) (w32_cg rfl) h2 ?_
        refine xw_iload_n rfl rfl ?_
        refine xw_iload_n rfl rfl ?_
        exact q
      refine xS_if (fun h3 => ?_) (fun h3 => ?_)
      · refine xS_of (pc' := 59) (L' := [(5, xi (xw_chr 0 x4)), (0, xa 1), (1, xi x1), (2, xi x2), (3, xi x3), (4, xi x4)]) (st' := [xi x2]) (m' := m) (fun ex ns r q => ?_) ?_
        · refine xw_ic_neF rfl (w32_cg c3) (w32_cg c1) h3 ?_
          refine xw_iload_n rfl rfl ?_
          exact q
        exact xS_ret (v := x2) rfl rfl xw_rtI c2
      · refine xS_of (pc' := 27) (L' := [(0, xa 1), (1, xi x1), (2, xi (w32 (x2 + 1))), (3, xi 0), (4, xi (w32 (x4 + 1)))]) (st' := []) (m' := m) (fun ex ns r q => ?_) ?_
        · refine xw_ic_neT rfl (w32_cg c3) (w32_cg c1) h3 ?_
          refine xw_iincc (z := (w32 (x2 + 1))) (L' := [(2, xi (w32 (x2 + 1))), (5, xi (xw_chr 0 x4)), (0, xa 1), (1, xi x1), (3, xi x3), (4, xi x4)]) rfl rfl (by decide) rfl rfl ?_
          refine xw_iconst rfl ?_
          refine xw_istore_n (L' := [(3, xi 0), (2, xi (w32 (x2 + 1))), (5, xi (xw_chr 0 x4)), (0, xa 1), (1, xi x1), (4, xi x4)]) rfl (by decide) rfl ?_
          refine xw_goto rfl ?_
          refine xw_iincc (z := (w32 (x4 + 1))) (L' := [(4, xi (w32 (x4 + 1))), (3, xi 0), (2, xi (w32 (x2 + 1))), (5, xi (xw_chr 0 x4)), (0, xa 1), (1, xi x1)]) rfl rfl (by decide) rfl rfl ?_
          refine xw_goto rfl ?_
          refine xw_lo (L2 := [(0, xa 1), (1, xi x1), (2, xi (w32 (x2 + 1))), (3, xi 0), (4, xi (w32 (x4 + 1)))]) (List.forall_mem_cons.mpr ⟨rfl, List.forall_mem_cons.mpr ⟨rfl, List.forall_mem_cons.mpr ⟨rfl, List.forall_mem_cons.mpr ⟨rfl, List.forall_mem_cons.mpr ⟨rfl, fun _ h => absurd h List.not_mem_nil⟩⟩⟩⟩⟩) ?_
          exact q
        exact hr27 _ _ _ _ _ c1 (w32_w _) rfl (w32_w _)
    · refine xS_of (pc' := 69) (L' := [(5, xi (xw_chr 0 x4)), (0, xa 1), (1, xi x1), (2, xi x2), (3, xi x3), (4, xi x4)]) (st' := [xi x3]) (m' := m) (fun ex ns r q => ?_) ?_
      · refine xw_ic_neT rfl (w32_cg (w32_chr _ _)) (w32_cg rfl) h2 ?_
        refine xw_iload_n rfl rfl ?_
        exact q
      refine xS_if (fun h3 => ?_) (fun h3 => ?_)
      · refine xS_of (pc' := 27) (L' := [(0, xa 1), (1, xi x1), (2, xi x2), (3, xi (-1)), (4, xi (w32 (x4 + 1)))]) (st' := []) (m' := m) (fun ex ns r q => ?_) ?_
        · refine xw_if_ltT rfl (w32_cg c3) h3 ?_
          refine xw_iconst rfl ?_
          refine xw_istore_n (L' := [(3, xi (-1)), (5, xi (xw_chr 0 x4)), (0, xa 1), (1, xi x1), (2, xi x2), (4, xi x4)]) rfl (by decide) rfl ?_
          refine xw_iincc (z := (w32 (x4 + 1))) (L' := [(4, xi (w32 (x4 + 1))), (3, xi (-1)), (5, xi (xw_chr 0 x4)), (0, xa 1), (1, xi x1), (2, xi x2)]) rfl rfl (by decide) rfl rfl ?_
          refine xw_goto rfl ?_
          refine xw_lo (L2 := [(0, xa 1), (1, xi x1), (2, xi x2), (3, xi (-1)), (4, xi (w32 (x4 + 1)))]) (List.forall_mem_cons.mpr ⟨rfl, List.forall_mem_cons.mpr ⟨rfl, List.forall_mem_cons.mpr ⟨rfl, List.forall_mem_cons.mpr ⟨rfl, List.forall_mem_cons.mpr ⟨rfl, fun _ h => absurd h List.not_mem_nil⟩⟩⟩⟩⟩) ?_
          exact q
        exact hr27 _ _ _ _ _ c1 c2 rfl (w32_w _)
      · refine xS_of (pc' := 74) (L' := [(5, xi (xw_chr 0 x4)), (0, xa 1), (1, xi x1), (2, xi x2), (3, xi x3), (4, xi x4)]) (st' := [xi x1, xi x3]) (m' := m) (fun ex ns r q => ?_) ?_
        · refine xw_if_ltF rfl (w32_cg c3) h3 ?_
          refine xw_iload_n rfl rfl ?_
          refine xw_iload_n rfl rfl ?_
          exact q
        refine xS_if (fun h4 => ?_) (fun h4 => ?_)
        · refine xS_g (fun g5 => ?_)
          refine xS_of (pc' := 90) (L' := [(5, xi (xw_chr 0 x4)), (0, xa 1), (1, xi x1), (2, xi x2), (3, xi x3), (4, xi x4)]) (st' := [xi (xw_chr 0 x4), xi (xR m 2 ((xR m 1 4) + x3))]) (m' := m) (fun ex ns r q => ?_) ?_
          · refine xw_ic_geF rfl (w32_cg c3) (w32_cg c1) (Int.not_le.mpr h4) ?_
            refine xw_aload_n rfl rfl rfl ?_
            refine xw_gfR (n := 2) (e := 2) rfl (xw_obd (by decide +kernel)) (by decide +kernel) (by decide +kernel) rfl ?_
            refine xw_aload_n rfl rfl rfl ?_
            refine xw_gfIc (v := (m 1 4)) (v' := (xR m 1 4)) rfl (xw_obd (by decide +kernel)) xk1_4 (qi := 4) rfl rfl rfl ?_
            refine xw_iload_n rfl rfl ?_
            refine xw_iadd rfl ?_
            refine xw_baldc (n := 65536) (v := (m 2 ((xR m 1 4) + x3))) (v' := (xR m 2 ((xR m 1 4) + x3))) rfl hB (xw_obd (by decide +kernel)) rfl g5 rfl rfl ?_
            refine xw_iload rfl rfl ?_
            exact q
          refine xS_if (fun h6 => ?_) (fun h6 => ?_)
          · refine xS_of (pc' := 27) (L' := [(0, xa 1), (1, xi x1), (2, xi x2), (3, xi (w32 (x3 + 1))), (4, xi (w32 (x4 + 1)))]) (st' := []) (m' := m) (fun ex ns r q => ?_) ?_
            · refine xw_ic_neF rfl (w32_cg (w32_xR _ _ _)) (w32_cg (w32_chr _ _)) h6 ?_
              refine xw_iincc (z := (w32 (x3 + 1))) (L' := [(3, xi (w32 (x3 + 1))), (5, xi (xw_chr 0 x4)), (0, xa 1), (1, xi x1), (2, xi x2), (4, xi x4)]) rfl rfl (by decide) rfl rfl ?_
              refine xw_goto rfl ?_
              refine xw_iincc (z := (w32 (x4 + 1))) (L' := [(4, xi (w32 (x4 + 1))), (3, xi (w32 (x3 + 1))), (5, xi (xw_chr 0 x4)), (0, xa 1), (1, xi x1), (2, xi x2)]) rfl rfl (by decide) rfl rfl ?_
              refine xw_goto rfl ?_
              refine xw_lo (L2 := [(0, xa 1), (1, xi x1), (2, xi x2), (3, xi (w32 (x3 + 1))), (4, xi (w32 (x4 + 1)))]) (List.forall_mem_cons.mpr ⟨rfl, List.forall_mem_cons.mpr ⟨rfl, List.forall_mem_cons.mpr ⟨rfl, List.forall_mem_cons.mpr ⟨rfl, List.forall_mem_cons.mpr ⟨rfl, fun _ h => absurd h List.not_mem_nil⟩⟩⟩⟩⟩) ?_
              exact q
            exact hr27 _ _ _ _ _ c1 c2 (w32_w _) (w32_w _)
          · refine xS_of (pc' := 27) (L' := [(0, xa 1), (1, xi x1), (2, xi x2), (3, xi (-1)), (4, xi (w32 (x4 + 1)))]) (st' := []) (m' := m) (fun ex ns r q => ?_) ?_
            · refine xw_ic_neT rfl (w32_cg (w32_xR _ _ _)) (w32_cg (w32_chr _ _)) h6 ?_
              refine xw_iconst rfl ?_
              refine xw_istore_n (L' := [(3, xi (-1)), (5, xi (xw_chr 0 x4)), (0, xa 1), (1, xi x1), (2, xi x2), (4, xi x4)]) rfl (by decide) rfl ?_
              refine xw_iincc (z := (w32 (x4 + 1))) (L' := [(4, xi (w32 (x4 + 1))), (3, xi (-1)), (5, xi (xw_chr 0 x4)), (0, xa 1), (1, xi x1), (2, xi x2)]) rfl rfl (by decide) rfl rfl ?_
              refine xw_goto rfl ?_
              refine xw_lo (L2 := [(0, xa 1), (1, xi x1), (2, xi x2), (3, xi (-1)), (4, xi (w32 (x4 + 1)))]) (List.forall_mem_cons.mpr ⟨rfl, List.forall_mem_cons.mpr ⟨rfl, List.forall_mem_cons.mpr ⟨rfl, List.forall_mem_cons.mpr ⟨rfl, List.forall_mem_cons.mpr ⟨rfl, fun _ h => absurd h List.not_mem_nil⟩⟩⟩⟩⟩) ?_
              exact q
            exact hr27 _ _ _ _ _ c1 c2 rfl (w32_w _)
        · refine xS_of (pc' := 27) (L' := [(0, xa 1), (1, xi x1), (2, xi x2), (3, xi (-1)), (4, xi (w32 (x4 + 1)))]) (st' := []) (m' := m) (fun ex ns r q => ?_) ?_
          · refine xw_ic_geT rfl (w32_cg c3) (w32_cg c1) (Int.not_lt.mp h4) ?_
            refine xw_iconst rfl ?_
            refine xw_istore_n (L' := [(3, xi (-1)), (5, xi (xw_chr 0 x4)), (0, xa 1), (1, xi x1), (2, xi x2), (4, xi x4)]) rfl (by decide) rfl ?_
            refine xw_iincc (z := (w32 (x4 + 1))) (L' := [(4, xi (w32 (x4 + 1))), (3, xi (-1)), (5, xi (xw_chr 0 x4)), (0, xa 1), (1, xi x1), (2, xi x2)]) rfl rfl (by decide) rfl rfl ?_
            refine xw_goto rfl ?_
            refine xw_lo (L2 := [(0, xa 1), (1, xi x1), (2, xi x2), (3, xi (-1)), (4, xi (w32 (x4 + 1)))]) (List.forall_mem_cons.mpr ⟨rfl, List.forall_mem_cons.mpr ⟨rfl, List.forall_mem_cons.mpr ⟨rfl, List.forall_mem_cons.mpr ⟨rfl, List.forall_mem_cons.mpr ⟨rfl, fun _ h => absurd h List.not_mem_nil⟩⟩⟩⟩⟩) ?_
            exact q
          exact hr27 _ _ _ _ _ c1 c2 rfl (w32_w _)
  · refine xS_of (pc' := 108) (L' := [(0, xa 1), (1, xi x1), (2, xi x2), (3, xi x3), (4, xi x4)]) (st' := [xi 1]) (m' := m) (fun ex ns r q => ?_) ?_
    · refine xw_ic_geT rfl (w32_cg c4) (w32_cg rfl) (Int.not_lt.mp h0) ?_
      refine xw_iconst rfl ?_
      exact q
    exact xS_ret (v := 1) rfl rfl xw_rtI rfl
theorem ygl51_27 {B : Nat} (hB : B ≤ 512) {xs : Nat → Int32} {SL d : Nat} : ∀ n x1 x2 x3 x4 m, w32 x1 = x1 → w32 x2 = x2 → w32 x3 = x3 → w32 x4 = x4 → xS B xs SL (d + 0) 51 (6, (some .int), [], 2) 1 27 [(0, xa 1), (1, xi x1), (2, xi x2), (3, xi x3), (4, xi x4)] [] m (xl4 (yl51_27 B) n x1 x2 x3 x4 m) := by
  intro n
  induction n with
  | zero => intro x1 x2 x3 x4 m c1 c2 c3 c4; exact xS_none
  | succ n ih => exact ysl51_27 hB ih
theorem ygf51 {B : Nat} (hB : B ≤ 512) {xs : Nat → Int32} {SL d : Nat} : ∀ m, xS B xs SL (d + 0) 51 (6, (some .int), [], 2) 1 0 [(0, xa 1)] [] m (yf51 B m) := by
  intro m
  unfold yf51
  refine xS_of (pc' := 13) (L' := [(1, xi (w32 ((xR m 1 2) - (xR m 1 4)))), (0, xa 1)]) (st' := [xi 40, xi (w32 ((xR m 1 2) - (xR m 1 4)))]) (m' := m) (fun ex ns r q => ?_) ?_
  · refine xw_aload_n rfl rfl rfl ?_
    refine xw_gfIc (v := (m 1 2)) (v' := (xR m 1 2)) rfl (xw_obd (by decide +kernel)) xk1_2 (qi := 2) rfl rfl rfl ?_
    refine xw_aload_n rfl rfl rfl ?_
    refine xw_gfIc (v := (m 1 4)) (v' := (xR m 1 4)) rfl (xw_obd (by decide +kernel)) xk1_4 (qi := 4) rfl rfl rfl ?_
    refine xw_isub rfl ?_
    refine xw_cst (st' := [xi (w32 ((xR m 1 2) - (xR m 1 4)))]) (xw_sc (xi_c rfl) rfl) ?_
    refine xw_istore_n (L' := [(1, xi (w32 ((xR m 1 2) - (xR m 1 4)))), (0, xa 1)]) rfl (by decide) rfl ?_
    refine xw_iload_n rfl rfl ?_
    refine xw_bipush (e := 40) rfl (by decide +kernel) ?_
    exact q
  refine xS_if (fun h0 => ?_) (fun h0 => ?_)
  · refine xS_of (pc' := 17) (L' := [(1, xi (w32 ((xR m 1 2) - (xR m 1 4)))), (0, xa 1)]) (st' := [xi 2]) (m' := m) (fun ex ns r q => ?_) ?_
    · refine xw_ic_leF rfl (w32_cg (w32_w _)) (w32_cg rfl) (Int.not_le.mpr h0) ?_
      refine xw_iconst rfl ?_
      exact q
    exact xS_ret (v := 2) rfl rfl xw_rtI rfl
  · refine xS_of (pc' := 27) (L' := [(0, xa 1), (1, xi (w32 ((xR m 1 2) - (xR m 1 4)))), (2, xi 200), (3, xi 0), (4, xi 0)]) (st' := []) (m' := m) (fun ex ns r q => ?_) ?_
    · refine xw_ic_leT rfl (w32_cg (w32_w _)) (w32_cg rfl) (Int.not_lt.mp h0) ?_
      refine xw_sipush (e := 200) rfl (by decide +kernel) ?_
      refine xw_istore_n (L' := [(2, xi 200), (1, xi (w32 ((xR m 1 2) - (xR m 1 4)))), (0, xa 1)]) rfl (by decide) rfl ?_
      refine xw_iconst rfl ?_
      refine xw_istore_n (L' := [(3, xi 0), (2, xi 200), (1, xi (w32 ((xR m 1 2) - (xR m 1 4)))), (0, xa 1)]) rfl (by decide) rfl ?_
      refine xw_iconst rfl ?_
      refine xw_istore (L' := [(4, xi 0), (3, xi 0), (2, xi 200), (1, xi (w32 ((xR m 1 2) - (xR m 1 4)))), (0, xa 1)]) rfl (by decide) rfl ?_
      refine xw_lo (L2 := [(0, xa 1), (1, xi (w32 ((xR m 1 2) - (xR m 1 4)))), (2, xi 200), (3, xi 0), (4, xi 0)]) (List.forall_mem_cons.mpr ⟨rfl, List.forall_mem_cons.mpr ⟨rfl, List.forall_mem_cons.mpr ⟨rfl, List.forall_mem_cons.mpr ⟨rfl, List.forall_mem_cons.mpr ⟨rfl, fun _ h => absurd h List.not_mem_nil⟩⟩⟩⟩⟩) ?_
      exact q
    exact ygl51_27 hB 1000000 _ _ _ _ _ (w32_w _) rfl rfl rfl
theorem ygf52 {B : Nat} (hB : B ≤ 512) {xs : Nat → Int32} {SL d : Nat} : ∀ m, xS B xs SL (d + 0) 52 (2, (some .boolean), [], 2) 4 0 [(0, xa 1)] [] m (yf52 B m) := by
  intro m
  unfold yf52
  refine xS_g (fun g0 => ?_)
  refine xS_of (pc' := 11) (L' := [(0, xa 1)]) (st' := [xi 45, xi (xR m 2 (xR m 1 2))]) (m' := m) (fun ex ns r q => ?_) ?_
  · refine xw_aload_n rfl rfl rfl ?_
    refine xw_gfR (n := 2) (e := 2) rfl (xw_obd (by decide +kernel)) (by decide +kernel) (by decide +kernel) rfl ?_
    refine xw_aload_n rfl rfl rfl ?_
    refine xw_gfIc (v := (m 1 2)) (v' := (xR m 1 2)) rfl (xw_obd (by decide +kernel)) xk1_2 (qi := 2) rfl rfl rfl ?_
    refine xw_baldc (n := 65536) (v := (m 2 (xR m 1 2))) (v' := (xR m 2 (xR m 1 2))) rfl hB (xw_obd (by decide +kernel)) rfl g0 rfl rfl ?_
    refine xw_bipush (e := 45) rfl (by decide +kernel) ?_
    exact q
  refine xS_if (fun h1 => ?_) (fun h1 => ?_)
  · refine xS_of (pc' := 33) (L' := [(1, xi (w32 ((xR m 1 2) + 1))), (0, xa 1)]) (st' := [xi (xR m 1 1), xi (w32 ((xR m 1 2) + 1))]) (m' := m) (fun ex ns r q => ?_) ?_
    · refine xw_ic_neF rfl (w32_cg (w32_xR _ _ _)) (w32_cg rfl) h1 ?_
      refine xw_aload_n rfl rfl rfl ?_
      refine xw_gfIc (v := (m 1 2)) (v' := (xR m 1 2)) rfl (xw_obd (by decide +kernel)) xk1_2 (qi := 2) rfl rfl rfl ?_
      refine xw_iconst rfl ?_
      refine xw_iadd rfl ?_
      refine xw_goto rfl ?_
      refine xw_cst (st' := [xi (w32 ((xR m 1 2) + 1))]) (xw_sc (xi_c rfl) rfl) ?_
      refine xw_istore_n (L' := [(1, xi (w32 ((xR m 1 2) + 1))), (0, xa 1)]) rfl (by decide) rfl ?_
      refine xw_iload_n rfl rfl ?_
      refine xw_aload_n rfl rfl rfl ?_
      refine xw_gfIc (v := (m 1 1)) (v' := (xR m 1 1)) rfl (xw_obd (by decide +kernel)) xk1_1 (qi := 1) rfl rfl rfl ?_
      exact q
    refine xS_if (fun h2 => ?_) (fun h2 => ?_)
    · refine xS_g (fun g3 => ?_)
      refine xS_of (pc' := 44) (L' := [(1, xi (w32 ((xR m 1 2) + 1))), (0, xa 1)]) (st' := [xi 48, xi (xR m 2 (w32 ((xR m 1 2) + 1)))]) (m' := m) (fun ex ns r q => ?_) ?_
      · refine xw_ic_geF rfl (w32_cg (w32_w _)) (w32_cg (w32_xR _ _ _)) (Int.not_le.mpr h2) ?_
        refine xw_aload_n rfl rfl rfl ?_
        refine xw_gfR (n := 2) (e := 2) rfl (xw_obd (by decide +kernel)) (by decide +kernel) (by decide +kernel) rfl ?_
        refine xw_iload_n rfl rfl ?_
        refine xw_baldc (n := 65536) (v := (m 2 (w32 ((xR m 1 2) + 1)))) (v' := (xR m 2 (w32 ((xR m 1 2) + 1)))) rfl hB (xw_obd (by decide +kernel)) rfl g3 rfl rfl ?_
        refine xw_bipush (e := 48) rfl (by decide +kernel) ?_
        exact q
      refine xS_if (fun h4 => ?_) (fun h4 => ?_)
      · refine xS_of (pc' := 63) (L' := [(1, xi (w32 ((xR m 1 2) + 1))), (0, xa 1)]) (st' := [xi 0]) (m' := m) (fun ex ns r q => ?_) ?_
        · refine xw_ic_ltT rfl (w32_cg (w32_xR _ _ _)) (w32_cg rfl) h4 ?_
          refine xw_iconst rfl ?_
          exact q
        exact xS_ret (v := 0) rfl rfl (xw_rtZ (Or.inl rfl)) (Or.inl rfl)
      · refine xS_of (pc' := 55) (L' := [(1, xi (w32 ((xR m 1 2) + 1))), (0, xa 1)]) (st' := [xi 57, xi (xR m 2 (w32 ((xR m 1 2) + 1)))]) (m' := m) (fun ex ns r q => ?_) ?_
        · refine xw_ic_ltF rfl (w32_cg (w32_xR _ _ _)) (w32_cg rfl) h4 ?_
          refine xw_aload_n rfl rfl rfl ?_
          refine xw_gfR (n := 2) (e := 2) rfl (xw_obd (by decide +kernel)) (by decide +kernel) (by decide +kernel) rfl ?_
          refine xw_iload_n rfl rfl ?_
          refine xw_baldc (n := 65536) (v := (m 2 (w32 ((xR m 1 2) + 1)))) (v' := (xR m 2 (w32 ((xR m 1 2) + 1)))) rfl hB (xw_obd (by decide +kernel)) rfl g3 rfl rfl ?_
          refine xw_bipush (e := 57) rfl (by decide +kernel) ?_
          exact q
        refine xS_if (fun h5 => ?_) (fun h5 => ?_)
        · refine xS_of (pc' := 63) (L' := [(1, xi (w32 ((xR m 1 2) + 1))), (0, xa 1)]) (st' := [xi 0]) (m' := m) (fun ex ns r q => ?_) ?_
          · refine xw_ic_gtT rfl (w32_cg (w32_xR _ _ _)) (w32_cg rfl) h5 ?_
            refine xw_iconst rfl ?_
            exact q
          exact xS_ret (v := 0) rfl rfl (xw_rtZ (Or.inl rfl)) (Or.inl rfl)
        · refine xS_of (pc' := 63) (L' := [(1, xi (w32 ((xR m 1 2) + 1))), (0, xa 1)]) (st' := [xi 1]) (m' := m) (fun ex ns r q => ?_) ?_
          · refine xw_ic_gtF rfl (w32_cg (w32_xR _ _ _)) (w32_cg rfl) h5 ?_
            refine xw_iconst rfl ?_
            refine xw_goto rfl ?_
            exact q
          exact xS_ret (v := 1) rfl rfl (xw_rtZ (Or.inr rfl)) (Or.inr rfl)
    · refine xS_of (pc' := 63) (L' := [(1, xi (w32 ((xR m 1 2) + 1))), (0, xa 1)]) (st' := [xi 0]) (m' := m) (fun ex ns r q => ?_) ?_
      · refine xw_ic_geT rfl (w32_cg (w32_w _)) (w32_cg (w32_xR _ _ _)) (Int.not_lt.mp h2) ?_
        refine xw_iconst rfl ?_
        exact q
      exact xS_ret (v := 0) rfl rfl (xw_rtZ (Or.inl rfl)) (Or.inl rfl)
  · refine xS_of (pc' := 33) (L' := [(1, xi (xR m 1 2)), (0, xa 1)]) (st' := [xi (xR m 1 1), xi (xR m 1 2)]) (m' := m) (fun ex ns r q => ?_) ?_
    · refine xw_ic_neT rfl (w32_cg (w32_xR _ _ _)) (w32_cg rfl) h1 ?_
      refine xw_aload_n rfl rfl rfl ?_
      refine xw_gfIc (v := (m 1 2)) (v' := (xR m 1 2)) rfl (xw_obd (by decide +kernel)) xk1_2 (qi := 2) rfl rfl rfl ?_
      refine xw_istore_n (L' := [(1, xi (xR m 1 2)), (0, xa 1)]) rfl (by decide) rfl ?_
      refine xw_iload_n rfl rfl ?_
      refine xw_aload_n rfl rfl rfl ?_
      refine xw_gfIc (v := (m 1 1)) (v' := (xR m 1 1)) rfl (xw_obd (by decide +kernel)) xk1_1 (qi := 1) rfl rfl rfl ?_
      exact q
    refine xS_if (fun h2 => ?_) (fun h2 => ?_)
    · refine xS_of (pc' := 44) (L' := [(1, xi (xR m 1 2)), (0, xa 1)]) (st' := [xi 48, xi (xR m 2 (xR m 1 2))]) (m' := m) (fun ex ns r q => ?_) ?_
      · refine xw_ic_geF rfl (w32_cg (w32_xR _ _ _)) (w32_cg (w32_xR _ _ _)) (Int.not_le.mpr h2) ?_
        refine xw_aload_n rfl rfl rfl ?_
        refine xw_gfR (n := 2) (e := 2) rfl (xw_obd (by decide +kernel)) (by decide +kernel) (by decide +kernel) rfl ?_
        refine xw_iload_n rfl rfl ?_
        refine xw_baldc (n := 65536) (v := (m 2 (xR m 1 2))) (v' := (xR m 2 (xR m 1 2))) rfl hB (xw_obd (by decide +kernel)) rfl g0 rfl rfl ?_
        refine xw_bipush (e := 48) rfl (by decide +kernel) ?_
        exact q
      refine xS_if (fun h3 => ?_) (fun h3 => ?_)
      · refine xS_of (pc' := 63) (L' := [(1, xi (xR m 1 2)), (0, xa 1)]) (st' := [xi 0]) (m' := m) (fun ex ns r q => ?_) ?_
        · refine xw_ic_ltT rfl (w32_cg (w32_xR _ _ _)) (w32_cg rfl) h3 ?_
          refine xw_iconst rfl ?_
          exact q
        exact xS_ret (v := 0) rfl rfl (xw_rtZ (Or.inl rfl)) (Or.inl rfl)
      · refine xS_of (pc' := 55) (L' := [(1, xi (xR m 1 2)), (0, xa 1)]) (st' := [xi 57, xi (xR m 2 (xR m 1 2))]) (m' := m) (fun ex ns r q => ?_) ?_
        · refine xw_ic_ltF rfl (w32_cg (w32_xR _ _ _)) (w32_cg rfl) h3 ?_
          refine xw_aload_n rfl rfl rfl ?_
          refine xw_gfR (n := 2) (e := 2) rfl (xw_obd (by decide +kernel)) (by decide +kernel) (by decide +kernel) rfl ?_
          refine xw_iload_n rfl rfl ?_
          refine xw_baldc (n := 65536) (v := (m 2 (xR m 1 2))) (v' := (xR m 2 (xR m 1 2))) rfl hB (xw_obd (by decide +kernel)) rfl g0 rfl rfl ?_
          refine xw_bipush (e := 57) rfl (by decide +kernel) ?_
          exact q
        refine xS_if (fun h4 => ?_) (fun h4 => ?_)
        · refine xS_of (pc' := 63) (L' := [(1, xi (xR m 1 2)), (0, xa 1)]) (st' := [xi 0]) (m' := m) (fun ex ns r q => ?_) ?_
          · refine xw_ic_gtT rfl (w32_cg (w32_xR _ _ _)) (w32_cg rfl) h4 ?_
            refine xw_iconst rfl ?_
            exact q
          exact xS_ret (v := 0) rfl rfl (xw_rtZ (Or.inl rfl)) (Or.inl rfl)
        · refine xS_of (pc' := 63) (L' := [(1, xi (xR m 1 2)), (0, xa 1)]) (st' := [xi 1]) (m' := m) (fun ex ns r q => ?_) ?_
          · refine xw_ic_gtF rfl (w32_cg (w32_xR _ _ _)) (w32_cg rfl) h4 ?_
            refine xw_iconst rfl ?_
            refine xw_goto rfl ?_
            exact q
          exact xS_ret (v := 1) rfl rfl (xw_rtZ (Or.inr rfl)) (Or.inr rfl)
    · refine xS_of (pc' := 63) (L' := [(1, xi (xR m 1 2)), (0, xa 1)]) (st' := [xi 0]) (m' := m) (fun ex ns r q => ?_) ?_
      · refine xw_ic_geT rfl (w32_cg (w32_xR _ _ _)) (w32_cg (w32_xR _ _ _)) (Int.not_lt.mp h2) ?_
        refine xw_iconst rfl ?_
        exact q
      exact xS_ret (v := 0) rfl rfl (xw_rtZ (Or.inl rfl)) (Or.inl rfl)
theorem ygk53_104 {B : Nat} (hB : B ≤ 512) {xs : Nat → Int32} {SL d : Nat} {r36 : Int → Int → xw_M → xP} (hr36 : ∀ x1 x2 m, w32 x1 = x1 → w64 x2 = x2 → xS B xs SL (d + 0) 53 (4, (some .boolean), [], 2) 4 36 [(0, xa 1), (1, xi x1), (2, xj x2)] [] m (r36 x1 x2 m)) : ∀ x1 x2 m, w32 x1 = x1 → w64 x2 = x2 → xS B xs SL (d + 0) 53 (4, (some .boolean), [], 2) 4 104 [(0, xa 1), (1, xi x1), (2, xj x2)] [] m (yk53_104 B r36 x1 x2 m) := by
  intro x1 x2 m c1 c2
  unfold yk53_104
  refine xS_of (pc' := 36) (L' := [(0, xa 1), (1, xi x1), (2, xj x2)]) (st' := []) (m' := (xw_u m 1 2 ((xR m 1 2) + 1))) (fun ex ns r q => ?_) ?_
  · refine xw_aload_n rfl rfl rfl ?_
    refine xw_dup rfl rfl ?_
    refine xw_gfIc (v := (m 1 2)) (v' := (xR m 1 2)) rfl (xw_obd (by decide +kernel)) xk1_2 (qi := 2) rfl rfl rfl ?_
    refine xw_iconst rfl ?_
    refine xw_iadd rfl ?_
    refine xw_pfI rfl (xw_obd (by decide +kernel)) xk1_2 (qi := 2) rfl (xw_okI rfl) ?_
    refine xw_goto rfl ?_
    refine xw_lo (L2 := [(0, xa 1), (1, xi x1), (2, xj x2)]) (List.forall_mem_cons.mpr ⟨rfl, List.forall_mem_cons.mpr ⟨rfl, List.forall_mem_cons.mpr ⟨rfl, fun _ h => absurd h List.not_mem_nil⟩⟩⟩) ?_
    exact q
  exact hr36 _ _ _ c1 c2
theorem ygk53_117 {B : Nat} (hB : B ≤ 512) {xs : Nat → Int32} {SL d : Nat} : ∀ x1 x2 m, w32 x1 = x1 → w64 x2 = x2 → xS B xs SL (d + 0) 53 (4, (some .boolean), [], 2) 4 117 [(0, xa 1), (1, xi x1), (2, xj x2)] [] m (yk53_117 B x1 x2 m) := by
  intro x1 x2 m c1 c2
  unfold yk53_117
  refine xS_of (pc' := 118) (L' := [(0, xa 1), (1, xi x1), (2, xj x2)]) (st' := [xi x1]) (m' := m) (fun ex ns r q => ?_) ?_
  · refine xw_iload_n rfl rfl ?_
    exact q
  refine xS_if (fun h0 => ?_) (fun h0 => ?_)
  · refine xS_of (pc' := 140) (L' := [(2, xj x2), (0, xa 1), (1, xi x1)]) (st' := [xj x2, xj (w32 x2)]) (m' := (xw_u m 1 5 x2)) (fun ex ns r q => ?_) ?_
    · refine xw_if_eqT rfl (w32_cg c1) h0 ?_
      refine xw_lload_n rfl rfl ?_
      refine xw_lstore_n (L' := [(2, xj x2), (0, xa 1), (1, xi x1)]) rfl (by decide) rfl ?_
      refine xw_aload_n rfl rfl rfl ?_
      refine xw_lload_n rfl rfl ?_
      refine xw_l2i rfl ?_
      refine xw_pfI rfl (xw_obd (by decide +kernel)) xk1_5 (qi := 5) rfl (xw_okI rfl) ?_
      refine xw_aload_n rfl rfl rfl ?_
      refine xw_gfIc (v := x2) (v' := (w32 x2)) rfl (xw_obd (by decide +kernel)) xk1_5 (qi := 5) rfl xw_us rfl ?_
      refine xw_i2l rfl (w32_cg (w32_w _)) ?_
      refine xw_lload_n rfl rfl ?_
      exact q
    refine xS_if (fun h1 => ?_) (fun h1 => ?_)
    · refine xS_of (pc' := 149) (L' := [(2, xj x2), (0, xa 1), (1, xi x1)]) (st' := [xi 1]) (m' := (xw_u m 1 5 x2)) (fun ex ns r q => ?_) ?_
      · refine xw_jc_neF rfl rfl (w64_cg (w64_32 (w32_w _))) (w64_cg c2) h1 ?_
        refine xw_iconst rfl ?_
        refine xw_goto rfl ?_
        exact q
      exact xS_ret (v := 1) rfl rfl (xw_rtZ (Or.inr rfl)) (Or.inr rfl)
    · refine xS_of (pc' := 149) (L' := [(2, xj x2), (0, xa 1), (1, xi x1)]) (st' := [xi 0]) (m' := (xw_u m 1 5 x2)) (fun ex ns r q => ?_) ?_
      · refine xw_jc_neT rfl rfl (w64_cg (w64_32 (w32_w _))) (w64_cg c2) h1 ?_
        refine xw_iconst rfl ?_
        exact q
      exact xS_ret (v := 0) rfl rfl (xw_rtZ (Or.inl rfl)) (Or.inl rfl)
  · refine xS_of (pc' := 140) (L' := [(2, xj (w64 (-x2))), (0, xa 1), (1, xi x1)]) (st' := [xj (w64 (-x2)), xj (w32 (w64 (-x2)))]) (m' := (xw_u m 1 5 (w64 (-x2)))) (fun ex ns r q => ?_) ?_
    · refine xw_if_eqF rfl (w32_cg c1) h0 ?_
      refine xw_lload_n rfl rfl ?_
      refine xw_lneg rfl ?_
      refine xw_goto rfl ?_
      refine xw_cst (st' := [xj (w64 (-x2))]) (xw_sc (xj_c rfl) rfl) ?_
      refine xw_lstore_n (L' := [(2, xj (w64 (-x2))), (0, xa 1), (1, xi x1)]) rfl (by decide) rfl ?_
      refine xw_aload_n rfl rfl rfl ?_
      refine xw_lload_n rfl rfl ?_
      refine xw_l2i rfl ?_
      refine xw_pfI rfl (xw_obd (by decide +kernel)) xk1_5 (qi := 5) rfl (xw_okI rfl) ?_
      refine xw_aload_n rfl rfl rfl ?_
      refine xw_gfIc (v := (w64 (-x2))) (v' := (w32 (w64 (-x2)))) rfl (xw_obd (by decide +kernel)) xk1_5 (qi := 5) rfl xw_us rfl ?_
      refine xw_i2l rfl (w32_cg (w32_w _)) ?_
      refine xw_lload_n rfl rfl ?_
      exact q
    refine xS_if (fun h1 => ?_) (fun h1 => ?_)
    · refine xS_of (pc' := 149) (L' := [(2, xj (w64 (-x2))), (0, xa 1), (1, xi x1)]) (st' := [xi 1]) (m' := (xw_u m 1 5 (w64 (-x2)))) (fun ex ns r q => ?_) ?_
      · refine xw_jc_neF rfl rfl (w64_cg (w64_32 (w32_w _))) (w64_cg (w64_w _)) h1 ?_
        refine xw_iconst rfl ?_
        refine xw_goto rfl ?_
        exact q
      exact xS_ret (v := 1) rfl rfl (xw_rtZ (Or.inr rfl)) (Or.inr rfl)
    · refine xS_of (pc' := 149) (L' := [(2, xj (w64 (-x2))), (0, xa 1), (1, xi x1)]) (st' := [xi 0]) (m' := (xw_u m 1 5 (w64 (-x2)))) (fun ex ns r q => ?_) ?_
      · refine xw_jc_neT rfl rfl (w64_cg (w64_32 (w32_w _))) (w64_cg (w64_w _)) h1 ?_
        refine xw_iconst rfl ?_
        exact q
      exact xS_ret (v := 0) rfl rfl (xw_rtZ (Or.inl rfl)) (Or.inl rfl)
theorem ysl53_36 {B : Nat} (hB : B ≤ 512) {xs : Nat → Int32} {SL d : Nat} {r36 : Int → Int → xw_M → xP} (hr36 : ∀ x1 x2 m, w32 x1 = x1 → w64 x2 = x2 → xS B xs SL (d + 0) 53 (4, (some .boolean), [], 2) 4 36 [(0, xa 1), (1, xi x1), (2, xj x2)] [] m (r36 x1 x2 m)) : ∀ x1 x2 m, w32 x1 = x1 → w64 x2 = x2 → xS B xs SL (d + 0) 53 (4, (some .boolean), [], 2) 4 36 [(0, xa 1), (1, xi x1), (2, xj x2)] [] m (yl53_36 B r36 x1 x2 m) := by
  intro x1 x2 m c1 c2
  unfold yl53_36
  refine xS_of (pc' := 44) (L' := [(0, xa 1), (1, xi x1), (2, xj x2)]) (st' := [xi (xR m 1 1), xi (xR m 1 2)]) (m' := m) (fun ex ns r q => ?_) ?_
  · refine xw_aload_n rfl rfl rfl ?_
    refine xw_gfIc (v := (m 1 2)) (v' := (xR m 1 2)) rfl (xw_obd (by decide +kernel)) xk1_2 (qi := 2) rfl rfl rfl ?_
    refine xw_aload_n rfl rfl rfl ?_
    refine xw_gfIc (v := (m 1 1)) (v' := (xR m 1 1)) rfl (xw_obd (by decide +kernel)) xk1_1 (qi := 1) rfl rfl rfl ?_
    exact q
  refine xS_if (fun h0 => ?_) (fun h0 => ?_)
  · refine xS_g (fun g1 => ?_)
    refine xS_of (pc' := 58) (L' := [(0, xa 1), (1, xi x1), (2, xj x2)]) (st' := [xi 48, xi (xR m 2 (xR m 1 2))]) (m' := m) (fun ex ns r q => ?_) ?_
    · refine xw_ic_geF rfl (w32_cg (w32_xR _ _ _)) (w32_cg (w32_xR _ _ _)) (Int.not_le.mpr h0) ?_
      refine xw_aload_n rfl rfl rfl ?_
      refine xw_gfR (n := 2) (e := 2) rfl (xw_obd (by decide +kernel)) (by decide +kernel) (by decide +kernel) rfl ?_
      refine xw_aload_n rfl rfl rfl ?_
      refine xw_gfIc (v := (m 1 2)) (v' := (xR m 1 2)) rfl (xw_obd (by decide +kernel)) xk1_2 (qi := 2) rfl rfl rfl ?_
      refine xw_baldc (n := 65536) (v := (m 2 (xR m 1 2))) (v' := (xR m 2 (xR m 1 2))) rfl hB (xw_obd (by decide +kernel)) rfl g1 rfl rfl ?_
      refine xw_bipush (e := 48) rfl (by decide +kernel) ?_
      exact q
    refine xS_if (fun h2 => ?_) (fun h2 => ?_)
    · refine xS_of (pc' := 117) (L' := [(0, xa 1), (1, xi x1), (2, xj x2)]) (st' := []) (m' := m) (fun ex ns r q => ?_) ?_
      · refine xw_ic_ltT rfl (w32_cg (w32_xR _ _ _)) (w32_cg rfl) h2 ?_
        refine xw_lo (L2 := [(0, xa 1), (1, xi x1), (2, xj x2)]) (List.forall_mem_cons.mpr ⟨rfl, List.forall_mem_cons.mpr ⟨rfl, List.forall_mem_cons.mpr ⟨rfl, fun _ h => absurd h List.not_mem_nil⟩⟩⟩) ?_
        exact q
      exact ygk53_117 hB _ _ _ c1 c2
    · refine xS_of (pc' := 72) (L' := [(0, xa 1), (1, xi x1), (2, xj x2)]) (st' := [xi 57, xi (xR m 2 (xR m 1 2))]) (m' := m) (fun ex ns r q => ?_) ?_
      · refine xw_ic_ltF rfl (w32_cg (w32_xR _ _ _)) (w32_cg rfl) h2 ?_
        refine xw_aload_n rfl rfl rfl ?_
        refine xw_gfR (n := 2) (e := 2) rfl (xw_obd (by decide +kernel)) (by decide +kernel) (by decide +kernel) rfl ?_
        refine xw_aload_n rfl rfl rfl ?_
        refine xw_gfIc (v := (m 1 2)) (v' := (xR m 1 2)) rfl (xw_obd (by decide +kernel)) xk1_2 (qi := 2) rfl rfl rfl ?_
        refine xw_baldc (n := 65536) (v := (m 2 (xR m 1 2))) (v' := (xR m 2 (xR m 1 2))) rfl hB (xw_obd (by decide +kernel)) rfl g1 rfl rfl ?_
        refine xw_bipush (e := 57) rfl (by decide +kernel) ?_
        exact q
      refine xS_if (fun h3 => ?_) (fun h3 => ?_)
      · refine xS_of (pc' := 117) (L' := [(0, xa 1), (1, xi x1), (2, xj x2)]) (st' := []) (m' := m) (fun ex ns r q => ?_) ?_
        · refine xw_ic_gtT rfl (w32_cg (w32_xR _ _ _)) (w32_cg rfl) h3 ?_
          refine xw_lo (L2 := [(0, xa 1), (1, xi x1), (2, xj x2)]) (List.forall_mem_cons.mpr ⟨rfl, List.forall_mem_cons.mpr ⟨rfl, List.forall_mem_cons.mpr ⟨rfl, fun _ h => absurd h List.not_mem_nil⟩⟩⟩) ?_
          exact q
        exact ygk53_117 hB _ _ _ c1 c2
      · refine xS_of (pc' := 79) (L' := [(0, xa 1), (1, xi x1), (2, xj x2)]) (st' := [xj 4294967296, xj x2]) (m' := m) (fun ex ns r q => ?_) ?_
        · refine xw_ic_gtF rfl (w32_cg (w32_xR _ _ _)) (w32_cg rfl) h3 ?_
          refine xw_lload_n rfl rfl ?_
          refine xw_ldc2 (e := 4294967296) rfl (by decide +kernel) ?_
          exact q
        refine xS_if (fun h4 => ?_) (fun h4 => ?_)
        · refine xS_of (pc' := 104) (L' := [(0, xa 1), (1, xi x1), (2, xj x2)]) (st' := []) (m' := m) (fun ex ns r q => ?_) ?_
          · refine xw_jc_gtT rfl rfl (w64_cg c2) (w64_cg rfl) h4 ?_
            refine xw_lo (L2 := [(0, xa 1), (1, xi x1), (2, xj x2)]) (List.forall_mem_cons.mpr ⟨rfl, List.forall_mem_cons.mpr ⟨rfl, List.forall_mem_cons.mpr ⟨rfl, fun _ h => absurd h List.not_mem_nil⟩⟩⟩) ?_
            exact q
          exact ygk53_104 hB hr36 _ _ _ c1 c2
        · refine xS_of (pc' := 104) (L' := [(0, xa 1), (1, xi x1), (2, xj (w64 (((x2 * 10) + (xR m 2 (xR m 1 2))) - 48)))]) (st' := []) (m' := m) (fun ex ns r q => ?_) ?_
          · refine xw_jc_gtF rfl rfl (w64_cg c2) (w64_cg rfl) h4 ?_
            refine xw_lload_n rfl rfl ?_
            refine xw_ldc2 (e := 10) rfl (by decide +kernel) ?_
            refine xw_lmul rfl ?_
            refine xw_aload_n rfl rfl rfl ?_
            refine xw_gfR (n := 2) (e := 2) rfl (xw_obd (by decide +kernel)) (by decide +kernel) (by decide +kernel) rfl ?_
            refine xw_aload_n rfl rfl rfl ?_
            refine xw_gfIc (v := (m 1 2)) (v' := (xR m 1 2)) rfl (xw_obd (by decide +kernel)) xk1_2 (qi := 2) rfl rfl rfl ?_
            refine xw_baldc (n := 65536) (v := (m 2 (xR m 1 2))) (v' := (xR m 2 (xR m 1 2))) rfl hB (xw_obd (by decide +kernel)) rfl g1 rfl rfl ?_
            refine xw_i2l rfl (w32_cg (w32_xR _ _ _)) ?_
            refine xw_ladd rfl ?_
            refine xw_ldc2 (e := 48) rfl (by decide +kernel) ?_
            refine xw_lsub rfl ?_
            refine xw_cst (st' := [xj (w64 (((x2 * 10) + (xR m 2 (xR m 1 2))) - 48))]) (xw_sc (xj_c rfl) rfl) ?_
            refine xw_lstore_n (L' := [(2, xj (w64 (((x2 * 10) + (xR m 2 (xR m 1 2))) - 48))), (0, xa 1), (1, xi x1)]) rfl (by decide) rfl ?_
            refine xw_lo (L2 := [(0, xa 1), (1, xi x1), (2, xj (w64 (((x2 * 10) + (xR m 2 (xR m 1 2))) - 48)))]) (List.forall_mem_cons.mpr ⟨rfl, List.forall_mem_cons.mpr ⟨rfl, List.forall_mem_cons.mpr ⟨rfl, fun _ h => absurd h List.not_mem_nil⟩⟩⟩) ?_
            exact q
          exact ygk53_104 hB hr36 _ _ _ c1 (w64_w _)
  · refine xS_of (pc' := 117) (L' := [(0, xa 1), (1, xi x1), (2, xj x2)]) (st' := []) (m' := m) (fun ex ns r q => ?_) ?_
    · refine xw_ic_geT rfl (w32_cg (w32_xR _ _ _)) (w32_cg (w32_xR _ _ _)) (Int.not_lt.mp h0) ?_
      refine xw_lo (L2 := [(0, xa 1), (1, xi x1), (2, xj x2)]) (List.forall_mem_cons.mpr ⟨rfl, List.forall_mem_cons.mpr ⟨rfl, List.forall_mem_cons.mpr ⟨rfl, fun _ h => absurd h List.not_mem_nil⟩⟩⟩) ?_
      exact q
    exact ygk53_117 hB _ _ _ c1 c2
theorem ygl53_36 {B : Nat} (hB : B ≤ 512) {xs : Nat → Int32} {SL d : Nat} : ∀ n x1 x2 m, w32 x1 = x1 → w64 x2 = x2 → xS B xs SL (d + 0) 53 (4, (some .boolean), [], 2) 4 36 [(0, xa 1), (1, xi x1), (2, xj x2)] [] m (xl2 (yl53_36 B) n x1 x2 m) := by
  intro n
  induction n with
  | zero => intro x1 x2 m c1 c2; exact xS_none
  | succ n ih => exact ysl53_36 hB ih
theorem ygf53 {B : Nat} (hB : B ≤ 512) {xs : Nat → Int32} {SL d : Nat} : ∀ m, xS B xs SL (d + 0) 53 (4, (some .boolean), [], 2) 4 0 [(0, xa 1)] [] m (yf53 B m) := by
  intro m
  unfold yf53
  refine xS_g (fun g0 => ?_)
  refine xS_of (pc' := 11) (L' := [(0, xa 1)]) (st' := [xi 45, xi (xR m 2 (xR m 1 2))]) (m' := m) (fun ex ns r q => ?_) ?_
  · refine xw_aload_n rfl rfl rfl ?_
    refine xw_gfR (n := 2) (e := 2) rfl (xw_obd (by decide +kernel)) (by decide +kernel) (by decide +kernel) rfl ?_
    refine xw_aload_n rfl rfl rfl ?_
    refine xw_gfIc (v := (m 1 2)) (v' := (xR m 1 2)) rfl (xw_obd (by decide +kernel)) xk1_2 (qi := 2) rfl rfl rfl ?_
    refine xw_baldc (n := 65536) (v := (m 2 (xR m 1 2))) (v' := (xR m 2 (xR m 1 2))) rfl hB (xw_obd (by decide +kernel)) rfl g0 rfl rfl ?_
    refine xw_bipush (e := 45) rfl (by decide +kernel) ?_
    exact q
  refine xS_if (fun h1 => ?_) (fun h1 => ?_)
  · refine xS_of (pc' := 36) (L' := [(0, xa 1), (1, xi 1), (2, xj 0)]) (st' := []) (m' := (xw_u m 1 2 ((xR m 1 2) + 1))) (fun ex ns r q => ?_) ?_
    · refine xw_ic_neF rfl (w32_cg (w32_xR _ _ _)) (w32_cg rfl) h1 ?_
      refine xw_iconst rfl ?_
      refine xw_goto rfl ?_
      refine xw_istore_n (L' := [(1, xi 1), (0, xa 1)]) rfl (by decide) rfl ?_
      refine xw_iload_n rfl rfl ?_
      refine xw_if_eqF rfl (w32_cg rfl) (by decide) ?_
      refine xw_aload_n rfl rfl rfl ?_
      refine xw_dup rfl rfl ?_
      refine xw_gfIc (v := (m 1 2)) (v' := (xR m 1 2)) rfl (xw_obd (by decide +kernel)) xk1_2 (qi := 2) rfl rfl rfl ?_
      refine xw_iconst rfl ?_
      refine xw_iadd rfl ?_
      refine xw_pfI rfl (xw_obd (by decide +kernel)) xk1_2 (qi := 2) rfl (xw_okI rfl) ?_
      refine xw_lconst (e := 0) rfl rfl ?_
      refine xw_lstore_n (L' := [(2, xj 0), (1, xi 1), (0, xa 1)]) rfl (by decide) rfl ?_
      refine xw_lo (L2 := [(0, xa 1), (1, xi 1), (2, xj 0)]) (List.forall_mem_cons.mpr ⟨rfl, List.forall_mem_cons.mpr ⟨rfl, List.forall_mem_cons.mpr ⟨rfl, fun _ h => absurd h List.not_mem_nil⟩⟩⟩) ?_
      exact q
    exact ygl53_36 hB 1000000 _ _ _ rfl rfl
  · refine xS_of (pc' := 36) (L' := [(0, xa 1), (1, xi 0), (2, xj 0)]) (st' := []) (m' := m) (fun ex ns r q => ?_) ?_
    · refine xw_ic_neT rfl (w32_cg (w32_xR _ _ _)) (w32_cg rfl) h1 ?_
      refine xw_iconst rfl ?_
      refine xw_istore_n (L' := [(1, xi 0), (0, xa 1)]) rfl (by decide) rfl ?_
      refine xw_iload_n rfl rfl ?_
      refine xw_if_eqT rfl (w32_cg rfl) (by decide) ?_
      refine xw_lconst (e := 0) rfl rfl ?_
      refine xw_lstore_n (L' := [(2, xj 0), (1, xi 0), (0, xa 1)]) rfl (by decide) rfl ?_
      refine xw_lo (L2 := [(0, xa 1), (1, xi 0), (2, xj 0)]) (List.forall_mem_cons.mpr ⟨rfl, List.forall_mem_cons.mpr ⟨rfl, List.forall_mem_cons.mpr ⟨rfl, fun _ h => absurd h List.not_mem_nil⟩⟩⟩) ?_
      exact q
    exact ygl53_36 hB 1000000 _ _ _ rfl rfl
theorem ygf54 {B : Nat} (hB : B ≤ 512) {xs : Nat → Int32} {SL d : Nat} : ∀ p0 p1 m, w32 p0 = p0 → w32 p1 = p1 → xS B xs SL (d + 0) 54 (3, none, [], 2) 0 0 [(0, xa 1), (1, xi p0), (2, xi p1)] [] m (yf54 B p0 p1 m) := by
  intro p0 p1 m cp0 cp1
  unfold yf54
  refine xS_of (pc' := 10) (L' := [(0, xa 1), (1, xi p0), (2, xi p1)]) (st' := []) (m' := (xw_u (xw_u m 1 6 p0) 1 7 p1)) (fun ex ns r q => ?_) ?_
  · refine xw_aload_n rfl rfl rfl ?_
    refine xw_iload_n rfl rfl ?_
    refine xw_pfI rfl (xw_obd (by decide +kernel)) xk1_6 (qi := 6) rfl (xw_okI rfl) ?_
    refine xw_aload_n rfl rfl rfl ?_
    refine xw_iload_n rfl rfl ?_
    refine xw_pfI rfl (xw_obd (by decide +kernel)) xk1_7 (qi := 7) rfl (xw_okI rfl) ?_
    exact q
  exact xS_thr (E := (.new 35, 3, 14, 0)) rfl rfl rfl rfl
theorem ysl55_86 {B : Nat} (hB : B ≤ 512) {xs : Nat → Int32} {SL d : Nat} {r86 : Int → Int → xw_M → xP} (hr86 : ∀ x1 x3 m, w32 x1 = x1 → w32 x3 = x3 → xS B xs SL (d + 0) 55 (4, (some .int), [], 2) 1 86 [(1, xi x1), (3, xi x3)] [] m (r86 x1 x3 m)) : ∀ x1 x3 m, w32 x1 = x1 → w32 x3 = x3 → xS B xs SL (d + 0) 55 (4, (some .int), [], 2) 1 86 [(1, xi x1), (3, xi x3)] [] m (yl55_86 B r86 x1 x3 m) := by
  intro x1 x3 m c1 c3
  unfold yl55_86
  refine xS_of (pc' := 92) (L' := [(1, xi x1), (3, xi x3)]) (st' := [xi 9, xi x3]) (m' := m) (fun ex ns r q => ?_) ?_
  · refine xw_iload_n rfl rfl ?_
    refine xw_ldcS rfl (by decide) ?_
    refine xw_slen (e := 9) rfl rfl rfl ?_
    exact q
  refine xS_if (fun h0 => ?_) (fun h0 => ?_)
  · refine xS_g (fun g1 => ?_)
    refine xS_of (pc' := 102) (L' := [(1, xi x1), (3, xi x3)]) (st' := [xi x1, xi (xw_chr 1 x3)]) (m' := m) (fun ex ns r q => ?_) ?_
    · refine xw_ic_geF rfl (w32_cg c3) (w32_cg rfl) (Int.not_le.mpr h0) ?_
      refine xw_ldcS rfl (by decide) ?_
      refine xw_iload_n rfl rfl ?_
      refine xw_schar (n := 1) (x := x3) (e := 9) rfl rfl g1 rfl ?_
      refine xw_iload_n rfl rfl ?_
      exact q
    refine xS_if (fun h2 => ?_) (fun h2 => ?_)
    · refine xS_of (pc' := 106) (L' := [(1, xi x1), (3, xi x3)]) (st' := [xi x1]) (m' := m) (fun ex ns r q => ?_) ?_
      · refine xw_ic_neF rfl (w32_cg (w32_chr _ _)) (w32_cg c1) h2 ?_
        refine xw_iload_n rfl rfl ?_
        exact q
      exact xS_ret (v := x1) rfl rfl xw_rtI c1
    · refine xS_of (pc' := 86) (L' := [(1, xi x1), (3, xi (w32 (x3 + 1)))]) (st' := []) (m' := m) (fun ex ns r q => ?_) ?_
      · refine xw_ic_neT rfl (w32_cg (w32_chr _ _)) (w32_cg c1) h2 ?_
        refine xw_iincc (z := (w32 (x3 + 1))) (L' := [(3, xi (w32 (x3 + 1))), (1, xi x1)]) rfl rfl (by decide) rfl rfl ?_
        refine xw_goto rfl ?_
        refine xw_lo (L2 := [(1, xi x1), (3, xi (w32 (x3 + 1)))]) (List.forall_mem_cons.mpr ⟨rfl, List.forall_mem_cons.mpr ⟨rfl, fun _ h => absurd h List.not_mem_nil⟩⟩) ?_
        exact q
      exact hr86 _ _ _ c1 (w32_w _)
  · refine xS_of (pc' := 114) (L' := [(1, xi x1), (3, xi x3)]) (st' := [xi (-1)]) (m' := m) (fun ex ns r q => ?_) ?_
    · refine xw_ic_geT rfl (w32_cg c3) (w32_cg rfl) (Int.not_lt.mp h0) ?_
      refine xw_iconst rfl ?_
      exact q
    exact xS_ret (v := (-1)) rfl rfl xw_rtI rfl
theorem ygl55_86 {B : Nat} (hB : B ≤ 512) {xs : Nat → Int32} {SL d : Nat} : ∀ n x1 x3 m, w32 x1 = x1 → w32 x3 = x3 → xS B xs SL (d + 0) 55 (4, (some .int), [], 2) 1 86 [(1, xi x1), (3, xi x3)] [] m (xl2 (yl55_86 B) n x1 x3 m) := by
  intro n
  induction n with
  | zero => intro x1 x3 m c1 c3; exact xS_none
  | succ n ih => exact ysl55_86 hB ih
theorem ygk55_69 {B : Nat} (hB : B ≤ 512) {xs : Nat → Int32} {SL d : Nat} : ∀ x1 x2 m, w32 x1 = x1 → w32 x2 = x2 → xS B xs SL (d + 0) 55 (4, (some .int), [], 2) 1 69 [(1, xi x1), (2, xi x2)] [] m (yk55_69 B x1 x2 m) := by
  intro x1 x2 m c1 c2
  unfold yk55_69
  refine xS_of (pc' := 72) (L' := [(1, xi x1), (2, xi x2)]) (st' := [xi 60, xi x1]) (m' := m) (fun ex ns r q => ?_) ?_
  · refine xw_iload_n rfl rfl ?_
    refine xw_bipush (e := 60) rfl (by decide +kernel) ?_
    exact q
  refine xS_if (fun h0 => ?_) (fun h0 => ?_)
  · refine xS_of (pc' := 78) (L' := [(1, xi x1), (2, xi x2)]) (st' := [xi 62, xi x2]) (m' := m) (fun ex ns r q => ?_) ?_
    · refine xw_ic_neF rfl (w32_cg c1) (w32_cg rfl) h0 ?_
      refine xw_iload_n rfl rfl ?_
      refine xw_bipush (e := 62) rfl (by decide +kernel) ?_
      exact q
    refine xS_if (fun h1 => ?_) (fun h1 => ?_)
    · refine xS_of (pc' := 83) (L' := [(1, xi x1), (2, xi x2)]) (st' := [xi 102]) (m' := m) (fun ex ns r q => ?_) ?_
      · refine xw_ic_neF rfl (w32_cg c2) (w32_cg rfl) h1 ?_
        refine xw_bipush (e := 102) rfl (by decide +kernel) ?_
        exact q
      exact xS_ret (v := 102) rfl rfl xw_rtI rfl
    · refine xS_of (pc' := 86) (L' := [(1, xi x1), (3, xi 0)]) (st' := []) (m' := m) (fun ex ns r q => ?_) ?_
      · refine xw_ic_neT rfl (w32_cg c2) (w32_cg rfl) h1 ?_
        refine xw_iconst rfl ?_
        refine xw_istore_n (L' := [(3, xi 0), (1, xi x1), (2, xi x2)]) rfl (by decide) rfl ?_
        refine xw_lo (L2 := [(1, xi x1), (3, xi 0)]) (List.forall_mem_cons.mpr ⟨rfl, List.forall_mem_cons.mpr ⟨rfl, fun _ h => absurd h List.not_mem_nil⟩⟩) ?_
        exact q
      exact ygl55_86 hB 1000000 _ _ _ c1 rfl
  · refine xS_of (pc' := 86) (L' := [(1, xi x1), (3, xi 0)]) (st' := []) (m' := m) (fun ex ns r q => ?_) ?_
    · refine xw_ic_neT rfl (w32_cg c1) (w32_cg rfl) h0 ?_
      refine xw_iconst rfl ?_
      refine xw_istore_n (L' := [(3, xi 0), (1, xi x1), (2, xi x2)]) rfl (by decide) rfl ?_
      refine xw_lo (L2 := [(1, xi x1), (3, xi 0)]) (List.forall_mem_cons.mpr ⟨rfl, List.forall_mem_cons.mpr ⟨rfl, fun _ h => absurd h List.not_mem_nil⟩⟩) ?_
      exact q
    exact ygl55_86 hB 1000000 _ _ _ c1 rfl
theorem ygk55_54 {B : Nat} (hB : B ≤ 512) {xs : Nat → Int32} {SL d : Nat} : ∀ x1 x2 m, w32 x1 = x1 → w32 x2 = x2 → xS B xs SL (d + 0) 55 (4, (some .int), [], 2) 1 54 [(1, xi x1), (2, xi x2)] [] m (yk55_54 B x1 x2 m) := by
  intro x1 x2 m c1 c2
  unfold yk55_54
  refine xS_of (pc' := 57) (L' := [(1, xi x1), (2, xi x2)]) (st' := [xi 62, xi x1]) (m' := m) (fun ex ns r q => ?_) ?_
  · refine xw_iload_n rfl rfl ?_
    refine xw_bipush (e := 62) rfl (by decide +kernel) ?_
    exact q
  refine xS_if (fun h0 => ?_) (fun h0 => ?_)
  · refine xS_of (pc' := 63) (L' := [(1, xi x1), (2, xi x2)]) (st' := [xi 61, xi x2]) (m' := m) (fun ex ns r q => ?_) ?_
    · refine xw_ic_neF rfl (w32_cg c1) (w32_cg rfl) h0 ?_
      refine xw_iload_n rfl rfl ?_
      refine xw_bipush (e := 61) rfl (by decide +kernel) ?_
      exact q
    refine xS_if (fun h1 => ?_) (fun h1 => ?_)
    · refine xS_of (pc' := 68) (L' := [(1, xi x1), (2, xi x2)]) (st' := [xi 101]) (m' := m) (fun ex ns r q => ?_) ?_
      · refine xw_ic_neF rfl (w32_cg c2) (w32_cg rfl) h1 ?_
        refine xw_bipush (e := 101) rfl (by decide +kernel) ?_
        exact q
      exact xS_ret (v := 101) rfl rfl xw_rtI rfl
    · refine xS_of (pc' := 69) (L' := [(1, xi x1), (2, xi x2)]) (st' := []) (m' := m) (fun ex ns r q => ?_) ?_
      · refine xw_ic_neT rfl (w32_cg c2) (w32_cg rfl) h1 ?_
        refine xw_lo (L2 := [(1, xi x1), (2, xi x2)]) (List.forall_mem_cons.mpr ⟨rfl, List.forall_mem_cons.mpr ⟨rfl, fun _ h => absurd h List.not_mem_nil⟩⟩) ?_
        exact q
      exact ygk55_69 hB _ _ _ c1 c2
  · refine xS_of (pc' := 69) (L' := [(1, xi x1), (2, xi x2)]) (st' := []) (m' := m) (fun ex ns r q => ?_) ?_
    · refine xw_ic_neT rfl (w32_cg c1) (w32_cg rfl) h0 ?_
      refine xw_lo (L2 := [(1, xi x1), (2, xi x2)]) (List.forall_mem_cons.mpr ⟨rfl, List.forall_mem_cons.mpr ⟨rfl, fun _ h => absurd h List.not_mem_nil⟩⟩) ?_
      exact q
    exact ygk55_69 hB _ _ _ c1 c2
theorem ygf55 {B : Nat} (hB : B ≤ 512) {xs : Nat → Int32} {SL d : Nat} : ∀ m, xS B xs SL (d + 0) 55 (4, (some .int), [], 2) 1 0 [(0, xa 1)] [] m (yf55 B m) := by
  intro m
  unfold yf55
  refine xS_g (fun g0 => ?_)
  refine xS_of (pc' := 20) (L' := [(1, xi (xR m 2 (xR m 1 2))), (0, xa 1)]) (st' := [xi (xR m 1 1), xi (w32 ((xR m 1 2) + 1))]) (m' := m) (fun ex ns r q => ?_) ?_
  · refine xw_aload_n rfl rfl rfl ?_
    refine xw_gfR (n := 2) (e := 2) rfl (xw_obd (by decide +kernel)) (by decide +kernel) (by decide +kernel) rfl ?_
    refine xw_aload_n rfl rfl rfl ?_
    refine xw_gfIc (v := (m 1 2)) (v' := (xR m 1 2)) rfl (xw_obd (by decide +kernel)) xk1_2 (qi := 2) rfl rfl rfl ?_
    refine xw_baldc (n := 65536) (v := (m 2 (xR m 1 2))) (v' := (xR m 2 (xR m 1 2))) rfl hB (xw_obd (by decide +kernel)) rfl g0 rfl rfl ?_
    refine xw_istore_n (L' := [(1, xi (xR m 2 (xR m 1 2))), (0, xa 1)]) rfl (by decide) rfl ?_
    refine xw_aload_n rfl rfl rfl ?_
    refine xw_gfIc (v := (m 1 2)) (v' := (xR m 1 2)) rfl (xw_obd (by decide +kernel)) xk1_2 (qi := 2) rfl rfl rfl ?_
    refine xw_iconst rfl ?_
    refine xw_iadd rfl ?_
    refine xw_aload_n rfl rfl rfl ?_
    refine xw_gfIc (v := (m 1 1)) (v' := (xR m 1 1)) rfl (xw_obd (by decide +kernel)) xk1_1 (qi := 1) rfl rfl rfl ?_
    refine xw_cst (st' := [xi (xR m 1 1), xi (w32 ((xR m 1 2) + 1))]) (xw_sc rfl (xw_sc (xi_c rfl) rfl)) ?_
    exact q
  refine xS_if (fun h1 => ?_) (fun h1 => ?_)
  · refine xS_g (fun g2 => ?_)
    refine xS_of (pc' := 42) (L' := [(2, xi (xR m 2 ((xR m 1 2) + 1))), (1, xi (xR m 2 (xR m 1 2))), (0, xa 1)]) (st' := [xi 60, xi (xR m 2 (xR m 1 2))]) (m' := m) (fun ex ns r q => ?_) ?_
    · refine xw_ic_geF rfl (w32_cg (w32_w _)) (w32_cg (w32_xR _ _ _)) (Int.not_le.mpr h1) ?_
      refine xw_aload_n rfl rfl rfl ?_
      refine xw_gfR (n := 2) (e := 2) rfl (xw_obd (by decide +kernel)) (by decide +kernel) (by decide +kernel) rfl ?_
      refine xw_aload_n rfl rfl rfl ?_
      refine xw_gfIc (v := (m 1 2)) (v' := (xR m 1 2)) rfl (xw_obd (by decide +kernel)) xk1_2 (qi := 2) rfl rfl rfl ?_
      refine xw_iconst rfl ?_
      refine xw_iadd rfl ?_
      refine xw_baldc (n := 65536) (v := (m 2 ((xR m 1 2) + 1))) (v' := (xR m 2 ((xR m 1 2) + 1))) rfl hB (xw_obd (by decide +kernel)) rfl g2 rfl rfl ?_
      refine xw_goto rfl ?_
      refine xw_istore_n (L' := [(2, xi (xR m 2 ((xR m 1 2) + 1))), (1, xi (xR m 2 (xR m 1 2))), (0, xa 1)]) rfl (by decide) rfl ?_
      refine xw_iload_n rfl rfl ?_
      refine xw_bipush (e := 60) rfl (by decide +kernel) ?_
      exact q
    refine xS_if (fun h3 => ?_) (fun h3 => ?_)
    · refine xS_of (pc' := 48) (L' := [(2, xi (xR m 2 ((xR m 1 2) + 1))), (1, xi (xR m 2 (xR m 1 2))), (0, xa 1)]) (st' := [xi 61, xi (xR m 2 ((xR m 1 2) + 1))]) (m' := m) (fun ex ns r q => ?_) ?_
      · refine xw_ic_neF rfl (w32_cg (w32_xR _ _ _)) (w32_cg rfl) h3 ?_
        refine xw_iload_n rfl rfl ?_
        refine xw_bipush (e := 61) rfl (by decide +kernel) ?_
        exact q
      refine xS_if (fun h4 => ?_) (fun h4 => ?_)
      · refine xS_of (pc' := 53) (L' := [(2, xi (xR m 2 ((xR m 1 2) + 1))), (1, xi (xR m 2 (xR m 1 2))), (0, xa 1)]) (st' := [xi 100]) (m' := m) (fun ex ns r q => ?_) ?_
        · refine xw_ic_neF rfl (w32_cg (w32_xR _ _ _)) (w32_cg rfl) h4 ?_
          refine xw_bipush (e := 100) rfl (by decide +kernel) ?_
          exact q
        exact xS_ret (v := 100) rfl rfl xw_rtI rfl
      · refine xS_of (pc' := 54) (L' := [(1, xi (xR m 2 (xR m 1 2))), (2, xi (xR m 2 ((xR m 1 2) + 1)))]) (st' := []) (m' := m) (fun ex ns r q => ?_) ?_
        · refine xw_ic_neT rfl (w32_cg (w32_xR _ _ _)) (w32_cg rfl) h4 ?_
          refine xw_lo (L2 := [(1, xi (xR m 2 (xR m 1 2))), (2, xi (xR m 2 ((xR m 1 2) + 1)))]) (List.forall_mem_cons.mpr ⟨rfl, List.forall_mem_cons.mpr ⟨rfl, fun _ h => absurd h List.not_mem_nil⟩⟩) ?_
          exact q
        exact ygk55_54 hB _ _ _ (w32_xR _ _ _) (w32_xR _ _ _)
    · refine xS_of (pc' := 54) (L' := [(1, xi (xR m 2 (xR m 1 2))), (2, xi (xR m 2 ((xR m 1 2) + 1)))]) (st' := []) (m' := m) (fun ex ns r q => ?_) ?_
      · refine xw_ic_neT rfl (w32_cg (w32_xR _ _ _)) (w32_cg rfl) h3 ?_
        refine xw_lo (L2 := [(1, xi (xR m 2 (xR m 1 2))), (2, xi (xR m 2 ((xR m 1 2) + 1)))]) (List.forall_mem_cons.mpr ⟨rfl, List.forall_mem_cons.mpr ⟨rfl, fun _ h => absurd h List.not_mem_nil⟩⟩) ?_
        exact q
      exact ygk55_54 hB _ _ _ (w32_xR _ _ _) (w32_xR _ _ _)
  · refine xS_of (pc' := 42) (L' := [(2, xi 0), (1, xi (xR m 2 (xR m 1 2))), (0, xa 1)]) (st' := [xi 60, xi (xR m 2 (xR m 1 2))]) (m' := m) (fun ex ns r q => ?_) ?_
    · refine xw_ic_geT rfl (w32_cg (w32_w _)) (w32_cg (w32_xR _ _ _)) (Int.not_lt.mp h1) ?_
      refine xw_iconst rfl ?_
      refine xw_istore_n (L' := [(2, xi 0), (1, xi (xR m 2 (xR m 1 2))), (0, xa 1)]) rfl (by decide) rfl ?_
      refine xw_iload_n rfl rfl ?_
      refine xw_bipush (e := 60) rfl (by decide +kernel) ?_
      exact q
    refine xS_if (fun h2 => ?_) (fun h2 => ?_)
    · refine xS_of (pc' := 54) (L' := [(1, xi (xR m 2 (xR m 1 2))), (2, xi 0)]) (st' := []) (m' := m) (fun ex ns r q => ?_) ?_
      · refine xw_ic_neF rfl (w32_cg (w32_xR _ _ _)) (w32_cg rfl) h2 ?_
        refine xw_iload_n rfl rfl ?_
        refine xw_bipush (e := 61) rfl (by decide +kernel) ?_
        refine xw_ic_neT rfl (w32_cg rfl) (w32_cg rfl) (by decide) ?_
        refine xw_lo (L2 := [(1, xi (xR m 2 (xR m 1 2))), (2, xi 0)]) (List.forall_mem_cons.mpr ⟨rfl, List.forall_mem_cons.mpr ⟨rfl, fun _ h => absurd h List.not_mem_nil⟩⟩) ?_
        exact q
      exact ygk55_54 hB _ _ _ (w32_xR _ _ _) rfl
    · refine xS_of (pc' := 54) (L' := [(1, xi (xR m 2 (xR m 1 2))), (2, xi 0)]) (st' := []) (m' := m) (fun ex ns r q => ?_) ?_
      · refine xw_ic_neT rfl (w32_cg (w32_xR _ _ _)) (w32_cg rfl) h2 ?_
        refine xw_lo (L2 := [(1, xi (xR m 2 (xR m 1 2))), (2, xi 0)]) (List.forall_mem_cons.mpr ⟨rfl, List.forall_mem_cons.mpr ⟨rfl, fun _ h => absurd h List.not_mem_nil⟩⟩) ?_
        exact q
      exact ygk55_54 hB _ _ _ (w32_xR _ _ _) rfl
theorem ygk47_120 {B : Nat} (hB : B ≤ 512) {xs : Nat → Int32} {SL d : Nat} : ∀ m, xS B xs SL (d + 1) 47 (1, none, [], 2) 0 120 [(0, xa 1)] [] m (yk47_120 B m) := by
  intro m
  unfold yk47_120
  refine xS_of (pc' := 122) (L' := []) (st' := [xa 1, xa 1]) (m' := m) (fun ex ns r q => ?_) ?_
  · refine xw_aload_n rfl rfl rfl ?_
    refine xw_aload_n rfl rfl rfl ?_
    refine xw_lo (L2 := []) (fun _ h => absurd h List.not_mem_nil) ?_
    exact q
  refine xS_call (q := 51) (n := 1) (kq := 1) (as := [xa 1]) (st1 := [xa 1]) rfl rfl rfl rfl rfl rfl rfl rfl rfl rfl (fun _ => xw_rcv1 (t := 1) (xw_obd (by decide +kernel)) rfl) rfl (List.forall_mem_cons.mpr ⟨rfl, fun _ h => absurd h List.not_mem_nil⟩) (ygf51 hB _) (fun v1 m1 cv1 => ?_)
  refine xS_of (pc' := 210) (L' := []) (st' := []) (m' := (xw_u m1 1 3 v1)) (fun ex ns r q => ?_) ?_
  · refine xw_pfI rfl (xw_obd (by decide +kernel)) xk1_3 (qi := 3) rfl (xw_okI rfl) ?_
    refine xw_goto rfl ?_
    exact q
  exact xS_ret (v := 0) rfl rfl rfl rfl
theorem ysl47_81 {B : Nat} (hB : B ≤ 512) {xs : Nat → Int32} {SL d : Nat} {r81 : xw_M → xP} (hr81 : ∀ m, xS B xs SL (d + 1) 47 (1, none, [], 2) 0 81 [(0, xa 1)] [] m (r81 m)) : ∀ m, xS B xs SL (d + 1) 47 (1, none, [], 2) 0 81 [(0, xa 1)] [] m (yl47_81 B r81 m) := by
  intro m
  unfold yl47_81
  refine xS_of (pc' := 89) (L' := [(0, xa 1)]) (st' := [xi (xR m 1 1), xi (xR m 1 2)]) (m' := m) (fun ex ns r q => ?_) ?_
  · refine xw_aload_n rfl rfl rfl ?_
    refine xw_gfIc (v := (m 1 2)) (v' := (xR m 1 2)) rfl (xw_obd (by decide +kernel)) xk1_2 (qi := 2) rfl rfl rfl ?_
    refine xw_aload_n rfl rfl rfl ?_
    refine xw_gfIc (v := (m 1 1)) (v' := (xR m 1 1)) rfl (xw_obd (by decide +kernel)) xk1_1 (qi := 1) rfl rfl rfl ?_
    exact q
  refine xS_if (fun h0 => ?_) (fun h0 => ?_)
  · refine xS_g (fun g1 => ?_)
    refine xS_of (pc' := 101) (L' := [(0, xa 1)]) (st' := [xi (xR m 2 (xR m 1 2))]) (m' := m) (fun ex ns r q => ?_) ?_
    · refine xw_ic_geF rfl (w32_cg (w32_xR _ _ _)) (w32_cg (w32_xR _ _ _)) (Int.not_le.mpr h0) ?_
      refine xw_aload_n rfl rfl rfl ?_
      refine xw_gfR (n := 2) (e := 2) rfl (xw_obd (by decide +kernel)) (by decide +kernel) (by decide +kernel) rfl ?_
      refine xw_aload_n rfl rfl rfl ?_
      refine xw_gfIc (v := (m 1 2)) (v' := (xR m 1 2)) rfl (xw_obd (by decide +kernel)) xk1_2 (qi := 2) rfl rfl rfl ?_
      refine xw_baldc (n := 65536) (v := (m 2 (xR m 1 2))) (v' := (xR m 2 (xR m 1 2))) rfl hB (xw_obd (by decide +kernel)) rfl g1 rfl rfl ?_
      refine xw_lo (L2 := [(0, xa 1)]) (List.forall_mem_cons.mpr ⟨rfl, fun _ h => absurd h List.not_mem_nil⟩) ?_
      exact q
    refine xS_call (q := 50) (n := 1) (kq := 4) (as := [xi (xR m 2 (xR m 1 2))]) (st1 := []) rfl rfl rfl rfl rfl rfl rfl rfl rfl rfl (fun _ => xw_rcv0 rfl) rfl (List.forall_mem_cons.mpr ⟨rfl, fun _ h => absurd h List.not_mem_nil⟩) (ygf50 hB _ _ (w32_xR _ _ _)) (fun v1 m1 cv1 => ?_)
    refine xS_if (fun h2 => ?_) (fun h2 => ?_)
    · refine xS_of (pc' := 120) (L' := [(0, xa 1)]) (st' := []) (m' := m1) (fun ex ns r q => ?_) ?_
      · refine xw_if_eqT rfl (w32_cg (w32_of (xw_zr cv1))) h2 ?_
        refine xw_lo (L2 := [(0, xa 1)]) (List.forall_mem_cons.mpr ⟨rfl, fun _ h => absurd h List.not_mem_nil⟩) ?_
        exact q
      exact ygk47_120 hB _
    · refine xS_of (pc' := 81) (L' := [(0, xa 1)]) (st' := []) (m' := (xw_u m1 1 2 ((xR m1 1 2) + 1))) (fun ex ns r q => ?_) ?_
      · refine xw_if_eqF rfl (w32_cg (w32_of (xw_zr cv1))) h2 ?_
        refine xw_aload_n rfl rfl rfl ?_
        refine xw_dup rfl rfl ?_
        refine xw_gfIc (v := (m1 1 2)) (v' := (xR m1 1 2)) rfl (xw_obd (by decide +kernel)) xk1_2 (qi := 2) rfl rfl rfl ?_
        refine xw_iconst rfl ?_
        refine xw_iadd rfl ?_
        refine xw_pfI rfl (xw_obd (by decide +kernel)) xk1_2 (qi := 2) rfl (xw_okI rfl) ?_
        refine xw_goto rfl ?_
        refine xw_lo (L2 := [(0, xa 1)]) (List.forall_mem_cons.mpr ⟨rfl, fun _ h => absurd h List.not_mem_nil⟩) ?_
        exact q
      exact hr81 _
  · refine xS_of (pc' := 120) (L' := [(0, xa 1)]) (st' := []) (m' := m) (fun ex ns r q => ?_) ?_
    · refine xw_ic_geT rfl (w32_cg (w32_xR _ _ _)) (w32_cg (w32_xR _ _ _)) (Int.not_lt.mp h0) ?_
      refine xw_lo (L2 := [(0, xa 1)]) (List.forall_mem_cons.mpr ⟨rfl, fun _ h => absurd h List.not_mem_nil⟩) ?_
      exact q
    exact ygk47_120 hB _
theorem ygl47_81 {B : Nat} (hB : B ≤ 512) {xs : Nat → Int32} {SL d : Nat} : ∀ n m, xS B xs SL (d + 1) 47 (1, none, [], 2) 0 81 [(0, xa 1)] [] m (xl0 (yl47_81 B) n m) := by
  intro n
  induction n with
  | zero => intro m; exact xS_none
  | succ n ih => exact ysl47_81 hB ih
theorem ygk47_187 {B : Nat} (hB : B ≤ 512) {xs : Nat → Int32} {SL d : Nat} : ∀ m, xS B xs SL (d + 1) 47 (1, none, [], 2) 0 187 [(0, xa 1)] [] m (yk47_187 B m) := by
  intro m
  unfold yk47_187
  refine xS_of (pc' := 198) (L' := [(0, xa 1)]) (st' := [xi 100, xi (xR m 1 3), xi (xR m 1 2), xa 1]) (m' := m) (fun ex ns r q => ?_) ?_
  · refine xw_aload_n rfl rfl rfl ?_
    refine xw_dup rfl rfl ?_
    refine xw_gfIc (v := (m 1 2)) (v' := (xR m 1 2)) rfl (xw_obd (by decide +kernel)) xk1_2 (qi := 2) rfl rfl rfl ?_
    refine xw_aload_n rfl rfl rfl ?_
    refine xw_gfIc (v := (m 1 3)) (v' := (xR m 1 3)) rfl (xw_obd (by decide +kernel)) xk1_3 (qi := 3) rfl rfl rfl ?_
    refine xw_bipush (e := 100) rfl (by decide +kernel) ?_
    exact q
  refine xS_if (fun h0 => ?_) (fun h0 => ?_)
  · refine xS_of (pc' := 210) (L' := [(0, xa 1)]) (st' := []) (m' := (xw_u m 1 2 ((xR m 1 2) + 1))) (fun ex ns r q => ?_) ?_
    · refine xw_ic_ltT rfl (w32_cg (w32_xR _ _ _)) (w32_cg rfl) h0 ?_
      refine xw_iconst rfl ?_
      refine xw_iadd rfl ?_
      refine xw_pfI rfl (xw_obd (by decide +kernel)) xk1_2 (qi := 2) rfl (xw_okI rfl) ?_
      exact q
    exact xS_ret (v := 0) rfl rfl rfl rfl
  · refine xS_of (pc' := 210) (L' := [(0, xa 1)]) (st' := []) (m' := (xw_u m 1 2 ((xR m 1 2) + 2))) (fun ex ns r q => ?_) ?_
    · refine xw_ic_ltF rfl (w32_cg (w32_xR _ _ _)) (w32_cg rfl) h0 ?_
      refine xw_iconst rfl ?_
      refine xw_goto rfl ?_
      refine xw_iadd rfl ?_
      refine xw_pfI rfl (xw_obd (by decide +kernel)) xk1_2 (qi := 2) rfl (xw_okI rfl) ?_
      exact q
    exact xS_ret (v := 0) rfl rfl rfl rfl
theorem ygk47_39 {B : Nat} (hB : B ≤ 512) {xs : Nat → Int32} {SL d : Nat} : ∀ m, xS B xs SL (d + 1) 47 (1, none, [], 2) 0 39 [(0, xa 1)] [] m (yk47_39 B m) := by
  intro m
  unfold yk47_39
  refine xS_of (pc' := 55) (L' := [(0, xa 1)]) (st' := [xi (xR m 1 1), xi (xR m 1 2)]) (m' := (xw_u m 1 4 (xR m 1 2))) (fun ex ns r q => ?_) ?_
  · refine xw_aload_n rfl rfl rfl ?_
    refine xw_aload_n rfl rfl rfl ?_
    refine xw_gfIc (v := (m 1 2)) (v' := (xR m 1 2)) rfl (xw_obd (by decide +kernel)) xk1_2 (qi := 2) rfl rfl rfl ?_
    refine xw_pfI rfl (xw_obd (by decide +kernel)) xk1_4 (qi := 4) rfl (xw_okI rfl) ?_
    refine xw_aload_n rfl rfl rfl ?_
    refine xw_gfIc (v := (m 1 2)) (v' := (xR m 1 2)) rfl (xw_obd (by decide +kernel)) xk1_2 (qi := 2) rfl (xw_un (fun e => absurd e.2 (by decide)) rfl) rfl ?_
    refine xw_aload_n rfl rfl rfl ?_
    refine xw_gfIc (v := (m 1 1)) (v' := (xR m 1 1)) rfl (xw_obd (by decide +kernel)) xk1_1 (qi := 1) rfl (xw_un (fun e => absurd e.2 (by decide)) rfl) rfl ?_
    exact q
  refine xS_if (fun h0 => ?_) (fun h0 => ?_)
  · refine xS_g (fun g1 => ?_)
    refine xS_of (pc' := 75) (L' := [(0, xa 1)]) (st' := [xi (xR m 2 (xR m 1 2))]) (m' := (xw_u m 1 4 (xR m 1 2))) (fun ex ns r q => ?_) ?_
    · refine xw_ic_ltT rfl (w32_cg (w32_xR _ _ _)) (w32_cg (w32_xR _ _ _)) h0 ?_
      refine xw_aload_n rfl rfl rfl ?_
      refine xw_gfR (n := 2) (e := 2) rfl (xw_obd (by decide +kernel)) (by decide +kernel) (by decide +kernel) rfl ?_
      refine xw_aload_n rfl rfl rfl ?_
      refine xw_gfIc (v := (m 1 2)) (v' := (xR m 1 2)) rfl (xw_obd (by decide +kernel)) xk1_2 (qi := 2) rfl (xw_un (fun e => absurd e.2 (by decide)) rfl) rfl ?_
      refine xw_baldc (n := 65536) (v := (m 2 (xR m 1 2))) (v' := (xR m 2 (xR m 1 2))) rfl hB (xw_obd (by decide +kernel)) rfl g1 (xw_un (fun e => absurd e.1 (by decide)) rfl) rfl ?_
      refine xw_lo (L2 := [(0, xa 1)]) (List.forall_mem_cons.mpr ⟨rfl, fun _ h => absurd h List.not_mem_nil⟩) ?_
      exact q
    refine xS_call (q := 49) (n := 1) (kq := 4) (as := [xi (xR m 2 (xR m 1 2))]) (st1 := []) rfl rfl rfl rfl rfl rfl rfl rfl rfl rfl (fun _ => xw_rcv0 rfl) rfl (List.forall_mem_cons.mpr ⟨rfl, fun _ h => absurd h List.not_mem_nil⟩) (ygf49 hB _ _ (w32_xR _ _ _)) (fun v1 m1 cv1 => ?_)
    refine xS_if (fun h2 => ?_) (fun h2 => ?_)
    · refine xS_of (pc' := 132) (L' := [(0, xa 1)]) (st' := [xa 1]) (m' := m1) (fun ex ns r q => ?_) ?_
      · refine xw_if_eqT rfl (w32_cg (w32_of (xw_zr cv1))) h2 ?_
        refine xw_aload_n rfl rfl rfl ?_
        refine xw_lo (L2 := [(0, xa 1)]) (List.forall_mem_cons.mpr ⟨rfl, fun _ h => absurd h List.not_mem_nil⟩) ?_
        exact q
      refine xS_call (q := 52) (n := 1) (kq := 4) (as := [xa 1]) (st1 := []) rfl rfl rfl rfl rfl rfl rfl rfl rfl rfl (fun _ => xw_rcv1 (t := 1) (xw_obd (by decide +kernel)) rfl) rfl (List.forall_mem_cons.mpr ⟨rfl, fun _ h => absurd h List.not_mem_nil⟩) (ygf52 hB _) (fun v2 m2 cv2 => ?_)
      refine xS_if (fun h3 => ?_) (fun h3 => ?_)
      · refine xS_of (pc' := 164) (L' := [(0, xa 1)]) (st' := [xa 1, xa 1]) (m' := m2) (fun ex ns r q => ?_) ?_
        · refine xw_if_eqT rfl (w32_cg (w32_of (xw_zr cv2))) h3 ?_
          refine xw_aload_n rfl rfl rfl ?_
          refine xw_aload_n rfl rfl rfl ?_
          refine xw_lo (L2 := [(0, xa 1)]) (List.forall_mem_cons.mpr ⟨rfl, fun _ h => absurd h List.not_mem_nil⟩) ?_
          exact q
        refine xS_call (q := 55) (n := 1) (kq := 1) (as := [xa 1]) (st1 := [xa 1]) rfl rfl rfl rfl rfl rfl rfl rfl rfl rfl (fun _ => xw_rcv1 (t := 1) (xw_obd (by decide +kernel)) rfl) rfl (List.forall_mem_cons.mpr ⟨rfl, fun _ h => absurd h List.not_mem_nil⟩) (ygf55 hB _) (fun v3 m3 cv3 => ?_)
        refine xS_of (pc' := 175) (L' := [(0, xa 1)]) (st' := [xi (-1), xi v3]) (m' := (xw_u m3 1 3 v3)) (fun ex ns r q => ?_) ?_
        · refine xw_pfI rfl (xw_obd (by decide +kernel)) xk1_3 (qi := 3) rfl (xw_okI rfl) ?_
          refine xw_aload_n rfl rfl rfl ?_
          refine xw_gfIc (v := v3) (v' := v3) rfl (xw_obd (by decide +kernel)) xk1_3 (qi := 3) rfl xw_us cv3 ?_
          refine xw_iconst rfl ?_
          exact q
        refine xS_if (fun h4 => ?_) (fun h4 => ?_)
        · refine xS_of (pc' := 184) (L' := [(0, xa 1)]) (st' := [xi (xR m3 1 4), xi 1, xa 1]) (m' := (xw_u m3 1 3 v3)) (fun ex ns r q => ?_) ?_
          · refine xw_ic_neF rfl (w32_cg cv3) (w32_cg rfl) h4 ?_
            refine xw_aload_n rfl rfl rfl ?_
            refine xw_iconst rfl ?_
            refine xw_aload_n rfl rfl rfl ?_
            refine xw_gfIc (v := (m3 1 4)) (v' := (xR m3 1 4)) rfl (xw_obd (by decide +kernel)) xk1_4 (qi := 4) rfl (xw_un (fun e => absurd e.2 (by decide)) rfl) rfl ?_
            refine xw_lo (L2 := [(0, xa 1)]) (List.forall_mem_cons.mpr ⟨rfl, fun _ h => absurd h List.not_mem_nil⟩) ?_
            exact q
          refine xS_call (q := 54) (n := 3) (kq := 0) (as := [xa 1, xi 1, xi (xR m3 1 4)]) (st1 := []) rfl rfl rfl rfl rfl rfl rfl rfl rfl rfl (fun _ => xw_rcv1 (t := 1) (xw_obd (by decide +kernel)) rfl) rfl (List.forall_mem_cons.mpr ⟨rfl, List.forall_mem_cons.mpr ⟨rfl, List.forall_mem_cons.mpr ⟨rfl, fun _ h => absurd h List.not_mem_nil⟩⟩⟩) (ygf54 hB _ _ _ rfl (w32_xR _ _ _)) (fun v4 m4 cv4 => ?_)
          refine xS_of (pc' := 187) (L' := [(0, xa 1)]) (st' := []) (m' := m4) (fun ex ns r q => ?_) ?_
          · refine xw_lo (L2 := [(0, xa 1)]) (List.forall_mem_cons.mpr ⟨rfl, fun _ h => absurd h List.not_mem_nil⟩) ?_
            exact q
          exact ygk47_187 hB _
        · refine xS_of (pc' := 187) (L' := [(0, xa 1)]) (st' := []) (m' := (xw_u m3 1 3 v3)) (fun ex ns r q => ?_) ?_
          · refine xw_ic_neT rfl (w32_cg cv3) (w32_cg rfl) h4 ?_
            refine xw_lo (L2 := [(0, xa 1)]) (List.forall_mem_cons.mpr ⟨rfl, fun _ h => absurd h List.not_mem_nil⟩) ?_
            exact q
          exact ygk47_187 hB _
      · refine xS_of (pc' := 144) (L' := [(0, xa 1)]) (st' := [xa 1]) (m' := (xw_u m2 1 3 3)) (fun ex ns r q => ?_) ?_
        · refine xw_if_eqF rfl (w32_cg (w32_of (xw_zr cv2))) h3 ?_
          refine xw_aload_n rfl rfl rfl ?_
          refine xw_iconst rfl ?_
          refine xw_pfI rfl (xw_obd (by decide +kernel)) xk1_3 (qi := 3) rfl (xw_okI rfl) ?_
          refine xw_aload_n rfl rfl rfl ?_
          refine xw_lo (L2 := [(0, xa 1)]) (List.forall_mem_cons.mpr ⟨rfl, fun _ h => absurd h List.not_mem_nil⟩) ?_
          exact q
        refine xS_call (q := 53) (n := 1) (kq := 4) (as := [xa 1]) (st1 := []) rfl rfl rfl rfl rfl rfl rfl rfl rfl rfl (fun _ => xw_rcv1 (t := 1) (xw_obd (by decide +kernel)) rfl) rfl (List.forall_mem_cons.mpr ⟨rfl, fun _ h => absurd h List.not_mem_nil⟩) (ygf53 hB _) (fun v5 m5 cv5 => ?_)
        refine xS_if (fun h4 => ?_) (fun h4 => ?_)
        · refine xS_of (pc' := 156) (L' := []) (st' := [xi (xR m5 1 4), xi 2, xa 1]) (m' := m5) (fun ex ns r q => ?_) ?_
          · refine xw_if_neF rfl (w32_cg (w32_of (xw_zr cv5))) h4 ?_
            refine xw_aload_n rfl rfl rfl ?_
            refine xw_iconst rfl ?_
            refine xw_aload_n rfl rfl rfl ?_
            refine xw_gfIc (v := (m5 1 4)) (v' := (xR m5 1 4)) rfl (xw_obd (by decide +kernel)) xk1_4 (qi := 4) rfl rfl rfl ?_
            refine xw_lo (L2 := []) (fun _ h => absurd h List.not_mem_nil) ?_
            exact q
          refine xS_call (q := 54) (n := 3) (kq := 0) (as := [xa 1, xi 2, xi (xR m5 1 4)]) (st1 := []) rfl rfl rfl rfl rfl rfl rfl rfl rfl rfl (fun _ => xw_rcv1 (t := 1) (xw_obd (by decide +kernel)) rfl) rfl (List.forall_mem_cons.mpr ⟨rfl, List.forall_mem_cons.mpr ⟨rfl, List.forall_mem_cons.mpr ⟨rfl, fun _ h => absurd h List.not_mem_nil⟩⟩⟩) (ygf54 hB _ _ _ rfl (w32_xR _ _ _)) (fun v6 m6 cv6 => ?_)
          refine xS_of (pc' := 210) (L' := []) (st' := []) (m' := m6) (fun ex ns r q => ?_) ?_
          · refine xw_goto rfl ?_
            exact q
          exact xS_ret (v := 0) rfl rfl rfl rfl
        · refine xS_of (pc' := 210) (L' := [(0, xa 1)]) (st' := []) (m' := m5) (fun ex ns r q => ?_) ?_
          · refine xw_if_neT rfl (w32_cg (w32_of (xw_zr cv5))) h4 ?_
            exact q
          exact xS_ret (v := 0) rfl rfl rfl rfl
    · refine xS_of (pc' := 81) (L' := [(0, xa 1)]) (st' := []) (m' := m1) (fun ex ns r q => ?_) ?_
      · refine xw_if_eqF rfl (w32_cg (w32_of (xw_zr cv1))) h2 ?_
        refine xw_lo (L2 := [(0, xa 1)]) (List.forall_mem_cons.mpr ⟨rfl, fun _ h => absurd h List.not_mem_nil⟩) ?_
        exact q
      exact ygl47_81 hB 1000000 _
  · refine xS_of (pc' := 210) (L' := [(0, xa 1)]) (st' := []) (m' := (xw_u (xw_u m 1 4 (xR m 1 2)) 1 3 0)) (fun ex ns r q => ?_) ?_
    · refine xw_ic_ltF rfl (w32_cg (w32_xR _ _ _)) (w32_cg (w32_xR _ _ _)) h0 ?_
      refine xw_aload_n rfl rfl rfl ?_
      refine xw_iconst rfl ?_
      refine xw_pfI rfl (xw_obd (by decide +kernel)) xk1_3 (qi := 3) rfl (xw_okI rfl) ?_
      refine xw_goto rfl ?_
      exact q
    exact xS_ret (v := 0) rfl rfl rfl rfl
theorem ysl47_0 {B : Nat} (hB : B ≤ 512) {xs : Nat → Int32} {SL d : Nat} {r0 : xw_M → xP} (hr0 : ∀ m, xS B xs SL (d + 1) 47 (1, none, [], 2) 0 0 [(0, xa 1)] [] m (r0 m)) : ∀ m, xS B xs SL (d + 1) 47 (1, none, [], 2) 0 0 [(0, xa 1)] [] m (yl47_0 B r0 m) := by
  intro m
  unfold yl47_0
  refine xS_of (pc' := 8) (L' := [(0, xa 1)]) (st' := [xi (xR m 1 1), xi (xR m 1 2)]) (m' := m) (fun ex ns r q => ?_) ?_
  · refine xw_aload_n rfl rfl rfl ?_
    refine xw_gfIc (v := (m 1 2)) (v' := (xR m 1 2)) rfl (xw_obd (by decide +kernel)) xk1_2 (qi := 2) rfl rfl rfl ?_
    refine xw_aload_n rfl rfl rfl ?_
    refine xw_gfIc (v := (m 1 1)) (v' := (xR m 1 1)) rfl (xw_obd (by decide +kernel)) xk1_1 (qi := 1) rfl rfl rfl ?_
    exact q
  refine xS_if (fun h0 => ?_) (fun h0 => ?_)
  · refine xS_g (fun g1 => ?_)
    refine xS_of (pc' := 20) (L' := [(0, xa 1)]) (st' := [xi (xR m 2 (xR m 1 2))]) (m' := m) (fun ex ns r q => ?_) ?_
    · refine xw_ic_geF rfl (w32_cg (w32_xR _ _ _)) (w32_cg (w32_xR _ _ _)) (Int.not_le.mpr h0) ?_
      refine xw_aload_n rfl rfl rfl ?_
      refine xw_gfR (n := 2) (e := 2) rfl (xw_obd (by decide +kernel)) (by decide +kernel) (by decide +kernel) rfl ?_
      refine xw_aload_n rfl rfl rfl ?_
      refine xw_gfIc (v := (m 1 2)) (v' := (xR m 1 2)) rfl (xw_obd (by decide +kernel)) xk1_2 (qi := 2) rfl rfl rfl ?_
      refine xw_baldc (n := 65536) (v := (m 2 (xR m 1 2))) (v' := (xR m 2 (xR m 1 2))) rfl hB (xw_obd (by decide +kernel)) rfl g1 rfl rfl ?_
      refine xw_lo (L2 := [(0, xa 1)]) (List.forall_mem_cons.mpr ⟨rfl, fun _ h => absurd h List.not_mem_nil⟩) ?_
      exact q
    refine xS_call (q := 48) (n := 1) (kq := 4) (as := [xi (xR m 2 (xR m 1 2))]) (st1 := []) rfl rfl rfl rfl rfl rfl rfl rfl rfl rfl (fun _ => xw_rcv0 rfl) rfl (List.forall_mem_cons.mpr ⟨rfl, fun _ h => absurd h List.not_mem_nil⟩) (ygf48 hB _ _ (w32_xR _ _ _)) (fun v1 m1 cv1 => ?_)
    refine xS_if (fun h2 => ?_) (fun h2 => ?_)
    · refine xS_of (pc' := 39) (L' := [(0, xa 1)]) (st' := []) (m' := m1) (fun ex ns r q => ?_) ?_
      · refine xw_if_eqT rfl (w32_cg (w32_of (xw_zr cv1))) h2 ?_
        refine xw_lo (L2 := [(0, xa 1)]) (List.forall_mem_cons.mpr ⟨rfl, fun _ h => absurd h List.not_mem_nil⟩) ?_
        exact q
      exact ygk47_39 hB _
    · refine xS_of (pc' := 0) (L' := [(0, xa 1)]) (st' := []) (m' := (xw_u m1 1 2 ((xR m1 1 2) + 1))) (fun ex ns r q => ?_) ?_
      · refine xw_if_eqF rfl (w32_cg (w32_of (xw_zr cv1))) h2 ?_
        refine xw_aload_n rfl rfl rfl ?_
        refine xw_dup rfl rfl ?_
        refine xw_gfIc (v := (m1 1 2)) (v' := (xR m1 1 2)) rfl (xw_obd (by decide +kernel)) xk1_2 (qi := 2) rfl rfl rfl ?_
        refine xw_iconst rfl ?_
        refine xw_iadd rfl ?_
        refine xw_pfI rfl (xw_obd (by decide +kernel)) xk1_2 (qi := 2) rfl (xw_okI rfl) ?_
        refine xw_goto rfl ?_
        refine xw_lo (L2 := [(0, xa 1)]) (List.forall_mem_cons.mpr ⟨rfl, fun _ h => absurd h List.not_mem_nil⟩) ?_
        exact q
      exact hr0 _
  · refine xS_of (pc' := 39) (L' := [(0, xa 1)]) (st' := []) (m' := m) (fun ex ns r q => ?_) ?_
    · refine xw_ic_geT rfl (w32_cg (w32_xR _ _ _)) (w32_cg (w32_xR _ _ _)) (Int.not_lt.mp h0) ?_
      refine xw_lo (L2 := [(0, xa 1)]) (List.forall_mem_cons.mpr ⟨rfl, fun _ h => absurd h List.not_mem_nil⟩) ?_
      exact q
    exact ygk47_39 hB _
theorem ygl47_0 {B : Nat} (hB : B ≤ 512) {xs : Nat → Int32} {SL d : Nat} : ∀ n m, xS B xs SL (d + 1) 47 (1, none, [], 2) 0 0 [(0, xa 1)] [] m (xl0 (yl47_0 B) n m) := by
  intro n
  induction n with
  | zero => intro m; exact xS_none
  | succ n ih => exact ysl47_0 hB ih
theorem ygf47 {B : Nat} (hB : B ≤ 512) {xs : Nat → Int32} {SL d : Nat} : ∀ m, xS B xs SL (d + 1) 47 (1, none, [], 2) 0 0 [(0, xa 1)] [] m (yf47 B m) := by
  intro m
  unfold yf47
  refine xS_of (pc' := 0) (L' := [(0, xa 1)]) (st' := []) (m' := m) (fun ex ns r q => ?_) ?_
  · refine xw_lo (L2 := [(0, xa 1)]) (List.forall_mem_cons.mpr ⟨rfl, fun _ h => absurd h List.not_mem_nil⟩) ?_
    exact q
  exact ygl47_0 hB 1000000 _
