/-! the machine does what the functions say, 14 -/
theorem ysl335_5 {B : Nat} (hB : B ≤ 512) {xs : Nat → Int32} {SL d : Nat} {r5 : Int → Int → Int → Int → xw_M → xP} (hr5 : ∀ x1 x2 x3 x4 m, w32 x1 = x1 → w32 x2 = x2 → w32 x3 = x3 → w32 x4 = x4 → xS B xs SL (d + 0) 335 (5, (some .boolean), [], 13) 4 5 [(0, xa 536), (1, xi x1), (2, xi x2), (3, xi x3), (4, xi x4)] [] m (r5 x1 x2 x3 x4 m)) : ∀ x1 x2 x3 x4 m, w32 x1 = x1 → w32 x2 = x2 → w32 x3 = x3 → w32 x4 = x4 → xS B xs SL (d + 0) 335 (5, (some .boolean), [], 13) 4 5 [(0, xa 536), (1, xi x1), (2, xi x2), (3, xi x3), (4, xi x4)] [] m (yl335_5 B r5 x1 x2 x3 x4 m) := by
  intro x1 x2 x3 x4 m c1 c2 c3 c4
  unfold yl335_5
  refine xS_of (pc' := 11) (L' := [(0, xa 536), (1, xi x1), (2, xi x2), (3, xi x3), (4, xi x4)]) (st' := [xi (xR m 536 14), xi x4]) (m' := m) (fun ex ns r q => ?_) ?_
  · refine xw_iload rfl rfl ?_
    refine xw_aload_n rfl rfl rfl ?_
    refine xw_gfIc (v := (m 536 14)) (v' := (xR m 536 14)) rfl (xw_obd (by decide +kernel)) xk12_14 (qi := 14) rfl rfl rfl ?_
    exact q
  refine xS_if (fun h0 => ?_) (fun h0 => ?_)
  · refine xS_of (pc' := 15) (L' := [(0, xa 536), (1, xi x1), (2, xi x2), (3, xi x3), (4, xi x4)]) (st' := [xi x3]) (m' := m) (fun ex ns r q => ?_) ?_
    · refine xw_ic_geF rfl (w32_cg c4) (w32_cg (w32_xR _ _ _)) (Int.not_le.mpr h0) ?_
      refine xw_iload_n rfl rfl ?_
      exact q
    refine xS_if (fun h1 => ?_) (fun h1 => ?_)
    · refine xS_g (fun g2 => ?_)
      refine xS_of (pc' := 58) (L' := [(0, xa 536), (1, xi x1), (2, xi x2), (3, xi x3), (4, xi x4)]) (st' := [xi x3]) (m' := m) (fun ex ns r q => ?_) ?_
      · refine xw_if_eqT rfl (w32_cg c3) h1 ?_
        refine xw_iload_n rfl rfl ?_
        exact q
      exact xS_ret (v := x3) rfl rfl (xw_rtZ g2) g2
    · refine xS_g (fun g2 => ?_)
      refine xS_g (fun g3 => ?_)
      refine xS_of (pc' := 42) (L' := [(0, xa 536), (1, xi x1), (2, xi x2), (3, xi x3), (4, xi x4)]) (st' := [xi (xR m 584 ((8 * x2) + x4)), xi (xR m 584 ((8 * x1) + x4))]) (m' := m) (fun ex ns r q => ?_) ?_
      · refine xw_if_eqF rfl (w32_cg c3) h1 ?_
        refine xw_aload_n rfl rfl rfl ?_
        refine xw_gfR (n := 584) (e := 584) rfl (xw_obd (by decide +kernel)) (by decide +kernel) (by decide +kernel) rfl ?_
        refine xw_bipush (e := 8) rfl (by decide +kernel) ?_
        refine xw_iload_n rfl rfl ?_
        refine xw_imul rfl ?_
        refine xw_iload rfl rfl ?_
        refine xw_iadd rfl ?_
        refine xw_baldc (n := 4096) (v := (m 584 ((8 * x1) + x4))) (v' := (xR m 584 ((8 * x1) + x4))) rfl hB (xw_obd (by decide +kernel)) rfl g2 rfl rfl ?_
        refine xw_aload_n rfl rfl rfl ?_
        refine xw_gfR (n := 584) (e := 584) rfl (xw_obd (by decide +kernel)) (by decide +kernel) (by decide +kernel) rfl ?_
        refine xw_bipush (e := 8) rfl (by decide +kernel) ?_
        refine xw_iload_n rfl rfl ?_
        refine xw_imul rfl ?_
        refine xw_iload rfl rfl ?_
        refine xw_iadd rfl ?_
        refine xw_baldc (n := 4096) (v := (m 584 ((8 * x2) + x4))) (v' := (xR m 584 ((8 * x2) + x4))) rfl hB (xw_obd (by decide +kernel)) rfl g3 rfl rfl ?_
        exact q
      refine xS_if (fun h4 => ?_) (fun h4 => ?_)
      · refine xS_of (pc' := 5) (L' := [(0, xa 536), (1, xi x1), (2, xi x2), (3, xi 0), (4, xi (w32 (x4 + 1)))]) (st' := []) (m' := m) (fun ex ns r q => ?_) ?_
        · refine xw_ic_gtT rfl (w32_cg (w32_xR _ _ _)) (w32_cg (w32_xR _ _ _)) h4 ?_
          refine xw_iconst rfl ?_
          refine xw_istore_n (L' := [(3, xi 0), (0, xa 536), (1, xi x1), (2, xi x2), (4, xi x4)]) rfl (by decide) rfl ?_
          refine xw_iincc (z := (w32 (x4 + 1))) (L' := [(4, xi (w32 (x4 + 1))), (3, xi 0), (0, xa 536), (1, xi x1), (2, xi x2)]) rfl rfl (by decide) rfl rfl ?_
          refine xw_goto rfl ?_
          refine xw_lo (L2 := [(0, xa 536), (1, xi x1), (2, xi x2), (3, xi 0), (4, xi (w32 (x4 + 1)))]) (List.forall_mem_cons.mpr ⟨rfl, List.forall_mem_cons.mpr ⟨rfl, List.forall_mem_cons.mpr ⟨rfl, List.forall_mem_cons.mpr ⟨rfl, List.forall_mem_cons.mpr ⟨rfl, fun _ h => absurd h List.not_mem_nil⟩⟩⟩⟩⟩) ?_
          exact q
        exact hr5 _ _ _ _ _ c1 c2 rfl (w32_w _)
      · refine xS_of (pc' := 5) (L' := [(0, xa 536), (1, xi x1), (2, xi x2), (3, xi 1), (4, xi (w32 (x4 + 1)))]) (st' := []) (m' := m) (fun ex ns r q => ?_) ?_
        · refine xw_ic_gtF rfl (w32_cg (w32_xR _ _ _)) (w32_cg (w32_xR _ _ _)) h4 ?_
          refine xw_iconst rfl ?_
          refine xw_goto rfl ?_
          refine xw_istore_n (L' := [(3, xi 1), (0, xa 536), (1, xi x1), (2, xi x2), (4, xi x4)]) rfl (by decide) rfl ?_
          refine xw_iincc (z := (w32 (x4 + 1))) (L' := [(4, xi (w32 (x4 + 1))), (3, xi 1), (0, xa 536), (1, xi x1), (2, xi x2)]) rfl rfl (by decide) rfl rfl ?_
          refine xw_goto rfl ?_
          refine xw_lo (L2 := [(0, xa 536), (1, xi x1), (2, xi x2), (3, xi 1), (4, xi (w32 (x4 + 1)))]) (List.forall_mem_cons.mpr ⟨rfl, List.forall_mem_cons.mpr ⟨rfl, List.forall_mem_cons.mpr ⟨rfl, List.forall_mem_cons.mpr ⟨rfl, List.forall_mem_cons.mpr ⟨rfl, fun _ h => absurd h List.not_mem_nil⟩⟩⟩⟩⟩) ?_
          exact q
        exact hr5 _ _ _ _ _ c1 c2 rfl (w32_w _)
  · refine xS_g (fun g1 => ?_)
    refine xS_of (pc' := 58) (L' := [(0, xa 536), (1, xi x1), (2, xi x2), (3, xi x3), (4, xi x4)]) (st' := [xi x3]) (m' := m) (fun ex ns r q => ?_) ?_
    · refine xw_ic_geT rfl (w32_cg c4) (w32_cg (w32_xR _ _ _)) (Int.not_lt.mp h0) ?_
      refine xw_iload_n rfl rfl ?_
      exact q
    exact xS_ret (v := x3) rfl rfl (xw_rtZ g1) g1
theorem ygl335_5 {B : Nat} (hB : B ≤ 512) {xs : Nat → Int32} {SL d : Nat} : ∀ n x1 x2 x3 x4 m, w32 x1 = x1 → w32 x2 = x2 → w32 x3 = x3 → w32 x4 = x4 → xS B xs SL (d + 0) 335 (5, (some .boolean), [], 13) 4 5 [(0, xa 536), (1, xi x1), (2, xi x2), (3, xi x3), (4, xi x4)] [] m (xl4 (yl335_5 B) n x1 x2 x3 x4 m) := by
  intro n
  induction n with
  | zero => intro x1 x2 x3 x4 m c1 c2 c3 c4; exact xS_none
  | succ n ih => exact ysl335_5 hB ih
theorem ygf335 {B : Nat} (hB : B ≤ 512) {xs : Nat → Int32} {SL d : Nat} : ∀ p0 p1 m, w32 p0 = p0 → w32 p1 = p1 → xS B xs SL (d + 0) 335 (5, (some .boolean), [], 13) 4 0 [(0, xa 536), (1, xi p0), (2, xi p1)] [] m (yf335 B p0 p1 m) := by
  intro p0 p1 m cp0 cp1
  unfold yf335
  refine xS_of (pc' := 5) (L' := [(0, xa 536), (1, xi p0), (2, xi p1), (3, xi 1), (4, xi 0)]) (st' := []) (m' := m) (fun ex ns r q => ?_) ?_
  · refine xw_iconst rfl ?_
    refine xw_istore_n (L' := [(3, xi 1), (0, xa 536), (1, xi p0), (2, xi p1)]) rfl (by decide) rfl ?_
    refine xw_iconst rfl ?_
    refine xw_istore (L' := [(4, xi 0), (3, xi 1), (0, xa 536), (1, xi p0), (2, xi p1)]) rfl (by decide) rfl ?_
    refine xw_lo (L2 := [(0, xa 536), (1, xi p0), (2, xi p1), (3, xi 1), (4, xi 0)]) (List.forall_mem_cons.mpr ⟨rfl, List.forall_mem_cons.mpr ⟨rfl, List.forall_mem_cons.mpr ⟨rfl, List.forall_mem_cons.mpr ⟨rfl, List.forall_mem_cons.mpr ⟨rfl, fun _ h => absurd h List.not_mem_nil⟩⟩⟩⟩⟩) ?_
    exact q
  exact ygl335_5 hB 1000000 _ _ _ _ _ cp0 cp1 rfl rfl
theorem ysl334_5 {B : Nat} (hB : B ≤ 512) {xs : Nat → Int32} {SL d : Nat} {r5 : Int → Int → Int → Int → xw_M → xP} (hr5 : ∀ x1 x2 x3 x5 m, w32 x1 = x1 → w32 x2 = x2 → w64 x3 = x3 → w32 x5 = x5 → xS B xs SL (d + 1) 334 (6, (some .long), [], 13) 2 5 [(0, xa 536), (1, xi x1), (2, xi x2), (3, xj x3), (5, xi x5)] [] m (r5 x1 x2 x3 x5 m)) : ∀ x1 x2 x3 x5 m, w32 x1 = x1 → w32 x2 = x2 → w64 x3 = x3 → w32 x5 = x5 → xS B xs SL (d + 1) 334 (6, (some .long), [], 13) 2 5 [(0, xa 536), (1, xi x1), (2, xi x2), (3, xj x3), (5, xi x5)] [] m (yl334_5 B r5 x1 x2 x3 x5 m) := by
  intro x1 x2 x3 x5 m c1 c2 c3 c5
  unfold yl334_5
  refine xS_of (pc' := 8) (L' := [(0, xa 536), (1, xi x1), (2, xi x2), (3, xj x3), (5, xi x5)]) (st' := [xi x2, xi x5]) (m' := m) (fun ex ns r q => ?_) ?_
  · refine xw_iload rfl rfl ?_
    refine xw_iload_n rfl rfl ?_
    exact q
  refine xS_if (fun h0 => ?_) (fun h0 => ?_)
  · refine xS_g (fun g1 => ?_)
    refine xS_g (fun g2 => ?_)
    refine xS_of (pc' := 25) (L' := [(0, xa 536), (1, xi x1), (2, xi x2), (3, xj x3), (5, xi x5)]) (st' := [xj (xJ m 583 x1), xj (xJ m 585 x5), xj x3]) (m' := m) (fun ex ns r q => ?_) ?_
    · refine xw_ic_geF rfl (w32_cg c5) (w32_cg c2) (Int.not_le.mpr h0) ?_
      refine xw_lload_n rfl rfl ?_
      refine xw_aload_n rfl rfl rfl ?_
      refine xw_gfR (n := 585) (e := 585) rfl (xw_obd (by decide +kernel)) (by decide +kernel) (by decide +kernel) rfl ?_
      refine xw_iload rfl rfl ?_
      refine xw_laldc (n := 512) (v := (m 585 x5)) (v' := (xJ m 585 x5)) rfl hB (xw_obd (by decide +kernel)) rfl g1 rfl rfl ?_
      refine xw_aload_n rfl rfl rfl ?_
      refine xw_gfR (n := 583) (e := 583) rfl (xw_obd (by decide +kernel)) (by decide +kernel) (by decide +kernel) rfl ?_
      refine xw_iload_n rfl rfl ?_
      refine xw_laldc (n := 512) (v := (m 583 x1)) (v' := (xJ m 583 x1)) rfl hB (xw_obd (by decide +kernel)) rfl g2 rfl rfl ?_
      exact q
    refine xS_if (fun h3 => ?_) (fun h3 => ?_)
    · refine xS_of (pc' := 33) (L' := [(0, xa 536), (1, xi x1), (2, xi x2), (5, xi x5)]) (st' := [xi x5, xi x1, xa 536, xj x3]) (m' := m) (fun ex ns r q => ?_) ?_
      · refine xw_jc_leF rfl rfl (w64_cg (w64_xJ _ _ _)) (w64_cg (w64_xJ _ _ _)) (Int.not_le.mpr h3) ?_
        refine xw_aload_n rfl rfl rfl ?_
        refine xw_iload_n rfl rfl ?_
        refine xw_iload rfl rfl ?_
        refine xw_lo (L2 := [(0, xa 536), (1, xi x1), (2, xi x2), (5, xi x5)]) (List.forall_mem_cons.mpr ⟨rfl, List.forall_mem_cons.mpr ⟨rfl, List.forall_mem_cons.mpr ⟨rfl, List.forall_mem_cons.mpr ⟨rfl, fun _ h => absurd h List.not_mem_nil⟩⟩⟩⟩) ?_
        exact q
      refine xS_call (q := 335) (n := 3) (kq := 4) (as := [xa 536, xi x1, xi x5]) (st1 := [xj x3]) rfl rfl rfl rfl rfl rfl rfl rfl rfl rfl (fun _ => xw_rcv1 (t := 12) (xw_obd (by decide +kernel)) rfl) rfl (List.forall_mem_cons.mpr ⟨rfl, List.forall_mem_cons.mpr ⟨rfl, List.forall_mem_cons.mpr ⟨rfl, fun _ h => absurd h List.not_mem_nil⟩⟩⟩) (ygf335 hB _ _ _ c1 c5) (fun v1 m1 cv1 => ?_)
      refine xS_if (fun h4 => ?_) (fun h4 => ?_)
      · refine xS_of (pc' := 5) (L' := [(0, xa 536), (1, xi x1), (2, xi x2), (3, xj (w64 (x3 + 0))), (5, xi (w32 (x5 + 1)))]) (st' := []) (m' := m1) (fun ex ns r q => ?_) ?_
        · refine xw_if_eqT rfl (w32_cg (w32_of (xw_zr cv1))) h4 ?_
          refine xw_lconst (e := 0) rfl rfl ?_
          refine xw_ladd rfl ?_
          refine xw_cst (st' := [xj (w64 (x3 + 0))]) (xw_sc (xj_c rfl) rfl) ?_
          refine xw_lstore_n (L' := [(3, xj (w64 (x3 + 0))), (0, xa 536), (1, xi x1), (2, xi x2), (5, xi x5)]) rfl (by decide) rfl ?_
          refine xw_iincc (z := (w32 (x5 + 1))) (L' := [(5, xi (w32 (x5 + 1))), (3, xj (w64 (x3 + 0))), (0, xa 536), (1, xi x1), (2, xi x2)]) rfl rfl (by decide) rfl rfl ?_
          refine xw_goto rfl ?_
          refine xw_lo (L2 := [(0, xa 536), (1, xi x1), (2, xi x2), (3, xj (w64 (x3 + 0))), (5, xi (w32 (x5 + 1)))]) (List.forall_mem_cons.mpr ⟨rfl, List.forall_mem_cons.mpr ⟨rfl, List.forall_mem_cons.mpr ⟨rfl, List.forall_mem_cons.mpr ⟨rfl, List.forall_mem_cons.mpr ⟨rfl, fun _ h => absurd h List.not_mem_nil⟩⟩⟩⟩⟩) ?_
          exact q
        exact hr5 _ _ _ _ _ c1 c2 (w64_w _) (w32_w _)
      · refine xS_of (pc' := 5) (L' := [(0, xa 536), (1, xi x1), (2, xi x2), (3, xj (w64 (x3 + ((xJ m1 585 x5) - (xJ m1 583 x1))))), (5, xi (w32 (x5 + 1)))]) (st' := []) (m' := m1) (fun ex ns r q => ?_) ?_
        · refine xw_if_eqF rfl (w32_cg (w32_of (xw_zr cv1))) h4 ?_
          refine xw_aload_n rfl rfl rfl ?_
          refine xw_gfR (n := 585) (e := 585) rfl (xw_obd (by decide +kernel)) (by decide +kernel) (by decide +kernel) rfl ?_
          refine xw_iload rfl rfl ?_
          refine xw_laldc (n := 512) (v := (m1 585 x5)) (v' := (xJ m1 585 x5)) rfl hB (xw_obd (by decide +kernel)) rfl g1 rfl rfl ?_
          refine xw_aload_n rfl rfl rfl ?_
          refine xw_gfR (n := 583) (e := 583) rfl (xw_obd (by decide +kernel)) (by decide +kernel) (by decide +kernel) rfl ?_
          refine xw_iload_n rfl rfl ?_
          refine xw_laldc (n := 512) (v := (m1 583 x1)) (v' := (xJ m1 583 x1)) rfl hB (xw_obd (by decide +kernel)) rfl g2 rfl rfl ?_
          refine xw_lsub rfl ?_
          refine xw_goto rfl ?_
          refine xw_ladd rfl ?_
          refine xw_cst (st' := [xj (w64 (x3 + ((xJ m1 585 x5) - (xJ m1 583 x1))))]) (xw_sc (xj_c rfl) rfl) ?_
          refine xw_lstore_n (L' := [(3, xj (w64 (x3 + ((xJ m1 585 x5) - (xJ m1 583 x1))))), (0, xa 536), (1, xi x1), (2, xi x2), (5, xi x5)]) rfl (by decide) rfl ?_
          refine xw_iincc (z := (w32 (x5 + 1))) (L' := [(5, xi (w32 (x5 + 1))), (3, xj (w64 (x3 + ((xJ m1 585 x5) - (xJ m1 583 x1))))), (0, xa 536), (1, xi x1), (2, xi x2)]) rfl rfl (by decide) rfl rfl ?_
          refine xw_goto rfl ?_
          refine xw_lo (L2 := [(0, xa 536), (1, xi x1), (2, xi x2), (3, xj (w64 (x3 + ((xJ m1 585 x5) - (xJ m1 583 x1))))), (5, xi (w32 (x5 + 1)))]) (List.forall_mem_cons.mpr ⟨rfl, List.forall_mem_cons.mpr ⟨rfl, List.forall_mem_cons.mpr ⟨rfl, List.forall_mem_cons.mpr ⟨rfl, List.forall_mem_cons.mpr ⟨rfl, fun _ h => absurd h List.not_mem_nil⟩⟩⟩⟩⟩) ?_
          exact q
        exact hr5 _ _ _ _ _ c1 c2 (w64_w _) (w32_w _)
    · refine xS_of (pc' := 5) (L' := [(0, xa 536), (1, xi x1), (2, xi x2), (3, xj (w64 (x3 + 0))), (5, xi (w32 (x5 + 1)))]) (st' := []) (m' := m) (fun ex ns r q => ?_) ?_
      · refine xw_jc_leT rfl rfl (w64_cg (w64_xJ _ _ _)) (w64_cg (w64_xJ _ _ _)) (Int.not_lt.mp h3) ?_
        refine xw_lconst (e := 0) rfl rfl ?_
        refine xw_ladd rfl ?_
        refine xw_cst (st' := [xj (w64 (x3 + 0))]) (xw_sc (xj_c rfl) rfl) ?_
        refine xw_lstore_n (L' := [(3, xj (w64 (x3 + 0))), (0, xa 536), (1, xi x1), (2, xi x2), (5, xi x5)]) rfl (by decide) rfl ?_
        refine xw_iincc (z := (w32 (x5 + 1))) (L' := [(5, xi (w32 (x5 + 1))), (3, xj (w64 (x3 + 0))), (0, xa 536), (1, xi x1), (2, xi x2)]) rfl rfl (by decide) rfl rfl ?_
        refine xw_goto rfl ?_
        refine xw_lo (L2 := [(0, xa 536), (1, xi x1), (2, xi x2), (3, xj (w64 (x3 + 0))), (5, xi (w32 (x5 + 1)))]) (List.forall_mem_cons.mpr ⟨rfl, List.forall_mem_cons.mpr ⟨rfl, List.forall_mem_cons.mpr ⟨rfl, List.forall_mem_cons.mpr ⟨rfl, List.forall_mem_cons.mpr ⟨rfl, fun _ h => absurd h List.not_mem_nil⟩⟩⟩⟩⟩) ?_
        exact q
      exact hr5 _ _ _ _ _ c1 c2 (w64_w _) (w32_w _)
  · refine xS_of (pc' := 66) (L' := [(0, xa 536), (1, xi x1), (2, xi x2), (3, xj x3), (5, xi x5)]) (st' := [xj x3]) (m' := m) (fun ex ns r q => ?_) ?_
    · refine xw_ic_geT rfl (w32_cg c5) (w32_cg c2) (Int.not_lt.mp h0) ?_
      refine xw_lload_n rfl rfl ?_
      exact q
    exact xS_ret (v := x3) rfl rfl rfl c3
theorem ygl334_5 {B : Nat} (hB : B ≤ 512) {xs : Nat → Int32} {SL d : Nat} : ∀ n x1 x2 x3 x5 m, w32 x1 = x1 → w32 x2 = x2 → w64 x3 = x3 → w32 x5 = x5 → xS B xs SL (d + 1) 334 (6, (some .long), [], 13) 2 5 [(0, xa 536), (1, xi x1), (2, xi x2), (3, xj x3), (5, xi x5)] [] m (xl4 (yl334_5 B) n x1 x2 x3 x5 m) := by
  intro n
  induction n with
  | zero => intro x1 x2 x3 x5 m c1 c2 c3 c5; exact xS_none
  | succ n ih => exact ysl334_5 hB ih
theorem ygf334 {B : Nat} (hB : B ≤ 512) {xs : Nat → Int32} {SL d : Nat} : ∀ p0 p1 m, w32 p0 = p0 → w32 p1 = p1 → xS B xs SL (d + 1) 334 (6, (some .long), [], 13) 2 0 [(0, xa 536), (1, xi p0), (2, xi p1)] [] m (yf334 B p0 p1 m) := by
  intro p0 p1 m cp0 cp1
  unfold yf334
  refine xS_of (pc' := 5) (L' := [(0, xa 536), (1, xi p0), (2, xi p1), (3, xj 0), (5, xi 0)]) (st' := []) (m' := m) (fun ex ns r q => ?_) ?_
  · refine xw_lconst (e := 0) rfl rfl ?_
    refine xw_lstore_n (L' := [(3, xj 0), (0, xa 536), (1, xi p0), (2, xi p1)]) rfl (by decide) rfl ?_
    refine xw_iconst rfl ?_
    refine xw_istore (L' := [(5, xi 0), (3, xj 0), (0, xa 536), (1, xi p0), (2, xi p1)]) rfl (by decide) rfl ?_
    refine xw_lo (L2 := [(0, xa 536), (1, xi p0), (2, xi p1), (3, xj 0), (5, xi 0)]) (List.forall_mem_cons.mpr ⟨rfl, List.forall_mem_cons.mpr ⟨rfl, List.forall_mem_cons.mpr ⟨rfl, List.forall_mem_cons.mpr ⟨rfl, List.forall_mem_cons.mpr ⟨rfl, fun _ h => absurd h List.not_mem_nil⟩⟩⟩⟩⟩) ?_
    exact q
  exact ygl334_5 hB 1000000 _ _ _ _ _ cp0 cp1 rfl rfl
theorem ygk332_191 {B : Nat} (hB : B ≤ 512) {xs : Nat → Int32} {SL d : Nat} {r29 : Int → Int → Int → xw_M → xP} (hr29 : ∀ x1 x2 x3 m, w32 x1 = x1 → w32 x2 = x2 → w32 x3 = x3 → xS B xs SL (d + 2) 332 (10, none, [], 13) 0 29 [(0, xa 536), (1, xi x1), (2, xi x2), (3, xi x3)] [] m (r29 x1 x2 x3 m)) : ∀ x1 x2 x4 m, w32 x1 = x1 → w32 x2 = x2 → w32 x4 = x4 → xS B xs SL (d + 2) 332 (10, none, [], 13) 0 191 [(0, xa 536), (1, xi x1), (2, xi x2), (4, xi x4)] [] m (yk332_191 B r29 x1 x2 x4 m) := by
  intro x1 x2 x4 m c1 c2 c4
  unfold yk332_191
  refine xS_of (pc' := 193) (L' := [(0, xa 536), (1, xi x1), (2, xi x2), (4, xi x4)]) (st' := [xi x4]) (m' := m) (fun ex ns r q => ?_) ?_
  · refine xw_iload rfl rfl ?_
    exact q
  refine xS_if (fun h0 => ?_) (fun h0 => ?_)
  · refine xS_of (pc' := 29) (L' := [(0, xa 536), (1, xi x1), (2, xi x2), (3, xi 0)]) (st' := []) (m' := m) (fun ex ns r q => ?_) ?_
    · refine xw_if_ltT rfl (w32_cg c4) h0 ?_
      refine xw_iconst rfl ?_
      refine xw_istore_n (L' := [(3, xi 0), (0, xa 536), (1, xi x1), (2, xi x2), (4, xi x4)]) rfl (by decide) rfl ?_
      refine xw_goto rfl ?_
      refine xw_lo (L2 := [(0, xa 536), (1, xi x1), (2, xi x2), (3, xi 0)]) (List.forall_mem_cons.mpr ⟨rfl, List.forall_mem_cons.mpr ⟨rfl, List.forall_mem_cons.mpr ⟨rfl, List.forall_mem_cons.mpr ⟨rfl, fun _ h => absurd h List.not_mem_nil⟩⟩⟩⟩) ?_
      exact q
    exact hr29 _ _ _ _ c1 c2 rfl
  · refine xS_of (pc' := 201) (L' := [(0, xa 536), (1, xi x1), (2, xi x2), (4, xi x4)]) (st' := [xi x1, xi (xR m 536 43)]) (m' := m) (fun ex ns r q => ?_) ?_
    · refine xw_if_ltF rfl (w32_cg c4) h0 ?_
      refine xw_aload_n rfl rfl rfl ?_
      refine xw_gfIc (v := (m 536 43)) (v' := (xR m 536 43)) rfl (xw_obd (by decide +kernel)) xk12_43 (qi := 43) rfl rfl rfl ?_
      refine xw_iload_n rfl rfl ?_
      exact q
    refine xS_if (fun h1 => ?_) (fun h1 => ?_)
    · refine xS_of (pc' := 29) (L' := [(0, xa 536), (1, xi x1), (2, xi x2), (3, xi 1)]) (st' := []) (m' := m) (fun ex ns r q => ?_) ?_
      · refine xw_ic_geF rfl (w32_cg (w32_xR _ _ _)) (w32_cg c1) (Int.not_le.mpr h1) ?_
        refine xw_iconst rfl ?_
        refine xw_goto rfl ?_
        refine xw_istore_n (L' := [(3, xi 1), (0, xa 536), (1, xi x1), (2, xi x2), (4, xi x4)]) rfl (by decide) rfl ?_
        refine xw_goto rfl ?_
        refine xw_lo (L2 := [(0, xa 536), (1, xi x1), (2, xi x2), (3, xi 1)]) (List.forall_mem_cons.mpr ⟨rfl, List.forall_mem_cons.mpr ⟨rfl, List.forall_mem_cons.mpr ⟨rfl, List.forall_mem_cons.mpr ⟨rfl, fun _ h => absurd h List.not_mem_nil⟩⟩⟩⟩) ?_
        exact q
      exact hr29 _ _ _ _ c1 c2 rfl
    · refine xS_of (pc' := 29) (L' := [(0, xa 536), (1, xi x1), (2, xi x2), (3, xi 0)]) (st' := []) (m' := m) (fun ex ns r q => ?_) ?_
      · refine xw_ic_geT rfl (w32_cg (w32_xR _ _ _)) (w32_cg c1) (Int.not_lt.mp h1) ?_
        refine xw_iconst rfl ?_
        refine xw_istore_n (L' := [(3, xi 0), (0, xa 536), (1, xi x1), (2, xi x2), (4, xi x4)]) rfl (by decide) rfl ?_
        refine xw_goto rfl ?_
        refine xw_lo (L2 := [(0, xa 536), (1, xi x1), (2, xi x2), (3, xi 0)]) (List.forall_mem_cons.mpr ⟨rfl, List.forall_mem_cons.mpr ⟨rfl, List.forall_mem_cons.mpr ⟨rfl, List.forall_mem_cons.mpr ⟨rfl, fun _ h => absurd h List.not_mem_nil⟩⟩⟩⟩) ?_
        exact q
      exact hr29 _ _ _ _ c1 c2 rfl
theorem ysl332_126 {B : Nat} (hB : B ≤ 512) {xs : Nat → Int32} {SL d : Nat} {r29 : Int → Int → Int → xw_M → xP} (hr29 : ∀ x1 x2 x3 m, w32 x1 = x1 → w32 x2 = x2 → w32 x3 = x3 → xS B xs SL (d + 2) 332 (10, none, [], 13) 0 29 [(0, xa 536), (1, xi x1), (2, xi x2), (3, xi x3)] [] m (r29 x1 x2 x3 m)) {r126 : Int → Int → Int → Int → xw_M → xP} (hr126 : ∀ x1 x2 x4 x7 m, w32 x1 = x1 → w32 x2 = x2 → w32 x4 = x4 → w32 x7 = x7 → xS B xs SL (d + 2) 332 (10, none, [], 13) 0 126 [(0, xa 536), (1, xi x1), (2, xi x2), (4, xi x4), (7, xi x7)] [] m (r126 x1 x2 x4 x7 m)) : ∀ x1 x2 x4 x7 m, w32 x1 = x1 → w32 x2 = x2 → w32 x4 = x4 → w32 x7 = x7 → xS B xs SL (d + 2) 332 (10, none, [], 13) 0 126 [(0, xa 536), (1, xi x1), (2, xi x2), (4, xi x4), (7, xi x7)] [] m (yl332_126 B r29 r126 x1 x2 x4 x7 m) := by
  intro x1 x2 x4 x7 m c1 c2 c4 c7
  unfold yl332_126
  refine xS_of (pc' := 129) (L' := [(0, xa 536), (1, xi x1), (2, xi x2), (4, xi x4), (7, xi x7)]) (st' := [xi x2, xi x7]) (m' := m) (fun ex ns r q => ?_) ?_
  · refine xw_iload rfl rfl ?_
    refine xw_iload_n rfl rfl ?_
    exact q
  refine xS_if (fun h0 => ?_) (fun h0 => ?_)
  · refine xS_g (fun g1 => ?_)
    refine xS_g (fun g2 => ?_)
    refine xS_of (pc' := 152) (L' := [(0, xa 536), (1, xi x1), (2, xi x2), (4, xi x4), (7, xi x7)]) (st' := [xj (xJ m 583 x4), xj (xJ m 585 x7), xi x7, xa 585]) (m' := m) (fun ex ns r q => ?_) ?_
    · refine xw_ic_geF rfl (w32_cg c7) (w32_cg c2) (Int.not_le.mpr h0) ?_
      refine xw_aload_n rfl rfl rfl ?_
      refine xw_gfR (n := 585) (e := 585) rfl (xw_obd (by decide +kernel)) (by decide +kernel) (by decide +kernel) rfl ?_
      refine xw_iload rfl rfl ?_
      refine xw_aload_n rfl rfl rfl ?_
      refine xw_gfR (n := 585) (e := 585) rfl (xw_obd (by decide +kernel)) (by decide +kernel) (by decide +kernel) rfl ?_
      refine xw_iload rfl rfl ?_
      refine xw_laldc (n := 512) (v := (m 585 x7)) (v' := (xJ m 585 x7)) rfl hB (xw_obd (by decide +kernel)) rfl g1 rfl rfl ?_
      refine xw_aload_n rfl rfl rfl ?_
      refine xw_gfR (n := 583) (e := 583) rfl (xw_obd (by decide +kernel)) (by decide +kernel) (by decide +kernel) rfl ?_
      refine xw_iload rfl rfl ?_
      refine xw_laldc (n := 512) (v := (m 583 x4)) (v' := (xJ m 583 x4)) rfl hB (xw_obd (by decide +kernel)) rfl g2 rfl rfl ?_
      exact q
    refine xS_if (fun h3 => ?_) (fun h3 => ?_)
    · refine xS_of (pc' := 161) (L' := [(0, xa 536), (1, xi x1), (2, xi x2), (4, xi x4), (7, xi x7)]) (st' := [xi x7, xi x4, xa 536, xi x7, xa 585]) (m' := m) (fun ex ns r q => ?_) ?_
      · refine xw_jc_leF rfl rfl (w64_cg (w64_xJ _ _ _)) (w64_cg (w64_xJ _ _ _)) (Int.not_le.mpr h3) ?_
        refine xw_aload_n rfl rfl rfl ?_
        refine xw_iload rfl rfl ?_
        refine xw_iload rfl rfl ?_
        refine xw_lo (L2 := [(0, xa 536), (1, xi x1), (2, xi x2), (4, xi x4), (7, xi x7)]) (List.forall_mem_cons.mpr ⟨rfl, List.forall_mem_cons.mpr ⟨rfl, List.forall_mem_cons.mpr ⟨rfl, List.forall_mem_cons.mpr ⟨rfl, List.forall_mem_cons.mpr ⟨rfl, fun _ h => absurd h List.not_mem_nil⟩⟩⟩⟩⟩) ?_
        exact q
      refine xS_call (q := 335) (n := 3) (kq := 4) (as := [xa 536, xi x4, xi x7]) (st1 := [xi x7, xa 585]) rfl rfl rfl rfl rfl rfl rfl rfl rfl rfl (fun _ => xw_rcv1 (t := 12) (xw_obd (by decide +kernel)) rfl) rfl (List.forall_mem_cons.mpr ⟨rfl, List.forall_mem_cons.mpr ⟨rfl, List.forall_mem_cons.mpr ⟨rfl, fun _ h => absurd h List.not_mem_nil⟩⟩⟩) (ygf335 hB _ _ _ c4 c7) (fun v1 m1 cv1 => ?_)
      refine xS_if (fun h4 => ?_) (fun h4 => ?_)
      · refine xS_of (pc' := 126) (L' := [(0, xa 536), (1, xi x1), (2, xi x2), (4, xi x4), (7, xi (w32 (x7 + 1)))]) (st' := []) (m' := (xw_u m1 585 x7 (xJ m1 585 x7))) (fun ex ns r q => ?_) ?_
        · refine xw_if_eqT rfl (w32_cg (w32_of (xw_zr cv1))) h4 ?_
          refine xw_aload_n rfl rfl rfl ?_
          refine xw_gfR (n := 585) (e := 585) rfl (xw_obd (by decide +kernel)) (by decide +kernel) (by decide +kernel) rfl ?_
          refine xw_iload rfl rfl ?_
          refine xw_laldc (n := 512) (v := (m1 585 x7)) (v' := (xJ m1 585 x7)) rfl hB (xw_obd (by decide +kernel)) rfl g1 rfl rfl ?_
          refine xw_last (n := 512) rfl hB (xw_obd (by decide +kernel)) rfl g1 ?_
          refine xw_iincc (z := (w32 (x7 + 1))) (L' := [(7, xi (w32 (x7 + 1))), (0, xa 536), (1, xi x1), (2, xi x2), (4, xi x4)]) rfl rfl (by decide) rfl rfl ?_
          refine xw_goto rfl ?_
          refine xw_lo (L2 := [(0, xa 536), (1, xi x1), (2, xi x2), (4, xi x4), (7, xi (w32 (x7 + 1)))]) (List.forall_mem_cons.mpr ⟨rfl, List.forall_mem_cons.mpr ⟨rfl, List.forall_mem_cons.mpr ⟨rfl, List.forall_mem_cons.mpr ⟨rfl, List.forall_mem_cons.mpr ⟨rfl, fun _ h => absurd h List.not_mem_nil⟩⟩⟩⟩⟩) ?_
          exact q
        exact hr126 _ _ _ _ _ c1 c2 c4 (w32_w _)
      · refine xS_of (pc' := 126) (L' := [(0, xa 536), (1, xi x1), (2, xi x2), (4, xi x4), (7, xi (w32 (x7 + 1)))]) (st' := []) (m' := (xw_u m1 585 x7 (xJ m1 583 x4))) (fun ex ns r q => ?_) ?_
        · refine xw_if_eqF rfl (w32_cg (w32_of (xw_zr cv1))) h4 ?_
          refine xw_aload_n rfl rfl rfl ?_
          refine xw_gfR (n := 583) (e := 583) rfl (xw_obd (by decide +kernel)) (by decide +kernel) (by decide +kernel) rfl ?_
          refine xw_iload rfl rfl ?_
          refine xw_laldc (n := 512) (v := (m1 583 x4)) (v' := (xJ m1 583 x4)) rfl hB (xw_obd (by decide +kernel)) rfl g2 rfl rfl ?_
          refine xw_goto rfl ?_
          refine xw_last (n := 512) rfl hB (xw_obd (by decide +kernel)) rfl g1 ?_
          refine xw_iincc (z := (w32 (x7 + 1))) (L' := [(7, xi (w32 (x7 + 1))), (0, xa 536), (1, xi x1), (2, xi x2), (4, xi x4)]) rfl rfl (by decide) rfl rfl ?_
          refine xw_goto rfl ?_
          refine xw_lo (L2 := [(0, xa 536), (1, xi x1), (2, xi x2), (4, xi x4), (7, xi (w32 (x7 + 1)))]) (List.forall_mem_cons.mpr ⟨rfl, List.forall_mem_cons.mpr ⟨rfl, List.forall_mem_cons.mpr ⟨rfl, List.forall_mem_cons.mpr ⟨rfl, List.forall_mem_cons.mpr ⟨rfl, fun _ h => absurd h List.not_mem_nil⟩⟩⟩⟩⟩) ?_
          exact q
        exact hr126 _ _ _ _ _ c1 c2 c4 (w32_w _)
    · refine xS_of (pc' := 126) (L' := [(0, xa 536), (1, xi x1), (2, xi x2), (4, xi x4), (7, xi (w32 (x7 + 1)))]) (st' := []) (m' := (xw_u m 585 x7 (xJ m 585 x7))) (fun ex ns r q => ?_) ?_
      · refine xw_jc_leT rfl rfl (w64_cg (w64_xJ _ _ _)) (w64_cg (w64_xJ _ _ _)) (Int.not_lt.mp h3) ?_
        refine xw_aload_n rfl rfl rfl ?_
        refine xw_gfR (n := 585) (e := 585) rfl (xw_obd (by decide +kernel)) (by decide +kernel) (by decide +kernel) rfl ?_
        refine xw_iload rfl rfl ?_
        refine xw_laldc (n := 512) (v := (m 585 x7)) (v' := (xJ m 585 x7)) rfl hB (xw_obd (by decide +kernel)) rfl g1 rfl rfl ?_
        refine xw_last (n := 512) rfl hB (xw_obd (by decide +kernel)) rfl g1 ?_
        refine xw_iincc (z := (w32 (x7 + 1))) (L' := [(7, xi (w32 (x7 + 1))), (0, xa 536), (1, xi x1), (2, xi x2), (4, xi x4)]) rfl rfl (by decide) rfl rfl ?_
        refine xw_goto rfl ?_
        refine xw_lo (L2 := [(0, xa 536), (1, xi x1), (2, xi x2), (4, xi x4), (7, xi (w32 (x7 + 1)))]) (List.forall_mem_cons.mpr ⟨rfl, List.forall_mem_cons.mpr ⟨rfl, List.forall_mem_cons.mpr ⟨rfl, List.forall_mem_cons.mpr ⟨rfl, List.forall_mem_cons.mpr ⟨rfl, fun _ h => absurd h List.not_mem_nil⟩⟩⟩⟩⟩) ?_
        exact q
      exact hr126 _ _ _ _ _ c1 c2 c4 (w32_w _)
  · refine xS_of (pc' := 191) (L' := [(0, xa 536), (1, xi x1), (2, xi x2), (4, xi x4)]) (st' := []) (m' := m) (fun ex ns r q => ?_) ?_
    · refine xw_ic_geT rfl (w32_cg c7) (w32_cg c2) (Int.not_lt.mp h0) ?_
      refine xw_lo (L2 := [(0, xa 536), (1, xi x1), (2, xi x2), (4, xi x4)]) (List.forall_mem_cons.mpr ⟨rfl, List.forall_mem_cons.mpr ⟨rfl, List.forall_mem_cons.mpr ⟨rfl, List.forall_mem_cons.mpr ⟨rfl, fun _ h => absurd h List.not_mem_nil⟩⟩⟩⟩) ?_
      exact q
    exact ygk332_191 hB hr29 _ _ _ _ c1 c2 c4
theorem ygl332_126 {B : Nat} (hB : B ≤ 512) {xs : Nat → Int32} {SL d : Nat} {r29 : Int → Int → Int → xw_M → xP} (hr29 : ∀ x1 x2 x3 m, w32 x1 = x1 → w32 x2 = x2 → w32 x3 = x3 → xS B xs SL (d + 2) 332 (10, none, [], 13) 0 29 [(0, xa 536), (1, xi x1), (2, xi x2), (3, xi x3)] [] m (r29 x1 x2 x3 m)) : ∀ n x1 x2 x4 x7 m, w32 x1 = x1 → w32 x2 = x2 → w32 x4 = x4 → w32 x7 = x7 → xS B xs SL (d + 2) 332 (10, none, [], 13) 0 126 [(0, xa 536), (1, xi x1), (2, xi x2), (4, xi x4), (7, xi x7)] [] m (xl4 (yl332_126 B r29) n x1 x2 x4 x7 m) := by
  intro n
  induction n with
  | zero => intro x1 x2 x4 x7 m c1 c2 c4 c7; exact xS_none
  | succ n ih => exact ysl332_126 hB hr29 ih
theorem ysl332_42 {B : Nat} (hB : B ≤ 512) {xs : Nat → Int32} {SL d : Nat} {r29 : Int → Int → Int → xw_M → xP} (hr29 : ∀ x1 x2 x3 m, w32 x1 = x1 → w32 x2 = x2 → w32 x3 = x3 → xS B xs SL (d + 2) 332 (10, none, [], 13) 0 29 [(0, xa 536), (1, xi x1), (2, xi x2), (3, xi x3)] [] m (r29 x1 x2 x3 m)) {r42 : Int → Int → Int → Int → Int → xw_M → xP} (hr42 : ∀ x1 x2 x4 x5 x7 m, w32 x1 = x1 → w32 x2 = x2 → w32 x4 = x4 → w64 x5 = x5 → w32 x7 = x7 → xS B xs SL (d + 2) 332 (10, none, [], 13) 0 42 [(0, xa 536), (1, xi x1), (2, xi x2), (4, xi x4), (5, xj x5), (7, xi x7)] [] m (r42 x1 x2 x4 x5 x7 m)) : ∀ x1 x2 x4 x5 x7 m, w32 x1 = x1 → w32 x2 = x2 → w32 x4 = x4 → w64 x5 = x5 → w32 x7 = x7 → xS B xs SL (d + 2) 332 (10, none, [], 13) 0 42 [(0, xa 536), (1, xi x1), (2, xi x2), (4, xi x4), (5, xj x5), (7, xi x7)] [] m (yl332_42 B r29 r42 x1 x2 x4 x5 x7 m) := by
  intro x1 x2 x4 x5 x7 m c1 c2 c4 c5 c7
  unfold yl332_42
  refine xS_of (pc' := 45) (L' := [(0, xa 536), (1, xi x1), (2, xi x2), (4, xi x4), (5, xj x5), (7, xi x7)]) (st' := [xi x2, xi x7]) (m' := m) (fun ex ns r q => ?_) ?_
  · refine xw_iload rfl rfl ?_
    refine xw_iload_n rfl rfl ?_
    exact q
  refine xS_if (fun h0 => ?_) (fun h0 => ?_)
  · refine xS_of (pc' := 52) (L' := [(0, xa 536), (1, xi x1), (2, xi x2), (4, xi x4), (5, xj x5), (7, xi x7)]) (st' := [xi x2, xi x7, xa 536]) (m' := m) (fun ex ns r q => ?_) ?_
    · refine xw_ic_geF rfl (w32_cg c7) (w32_cg c2) (Int.not_le.mpr h0) ?_
      refine xw_aload_n rfl rfl rfl ?_
      refine xw_iload rfl rfl ?_
      refine xw_iload_n rfl rfl ?_
      refine xw_lo (L2 := [(0, xa 536), (1, xi x1), (2, xi x2), (4, xi x4), (5, xj x5), (7, xi x7)]) (List.forall_mem_cons.mpr ⟨rfl, List.forall_mem_cons.mpr ⟨rfl, List.forall_mem_cons.mpr ⟨rfl, List.forall_mem_cons.mpr ⟨rfl, List.forall_mem_cons.mpr ⟨rfl, List.forall_mem_cons.mpr ⟨rfl, fun _ h => absurd h List.not_mem_nil⟩⟩⟩⟩⟩⟩) ?_
      exact q
    refine xS_call (q := 334) (n := 3) (kq := 2) (as := [xa 536, xi x7, xi x2]) (st1 := []) rfl rfl rfl rfl rfl rfl rfl rfl rfl rfl (fun _ => xw_rcv1 (t := 12) (xw_obd (by decide +kernel)) rfl) rfl (List.forall_mem_cons.mpr ⟨rfl, List.forall_mem_cons.mpr ⟨rfl, List.forall_mem_cons.mpr ⟨rfl, fun _ h => absurd h List.not_mem_nil⟩⟩⟩) (ygf334 hB _ _ _ c7 c2) (fun v1 m1 cv1 => ?_)
    refine xS_of (pc' := 61) (L' := [(8, xj v1), (0, xa 536), (1, xi x1), (2, xi x2), (4, xi x4), (5, xj x5), (7, xi x7)]) (st' := [xj x5, xj v1]) (m' := m1) (fun ex ns r q => ?_) ?_
    · refine xw_lstore (L' := [(8, xj v1), (0, xa 536), (1, xi x1), (2, xi x2), (4, xi x4), (5, xj x5), (7, xi x7)]) rfl (by decide) rfl ?_
      refine xw_lload rfl rfl ?_
      refine xw_lload rfl rfl ?_
      exact q
    refine xS_if (fun h1 => ?_) (fun h1 => ?_)
    · refine xS_of (pc' := 42) (L' := [(0, xa 536), (1, xi x1), (2, xi x2), (4, xi x7), (5, xj v1), (7, xi (w32 (x7 + 1)))]) (st' := []) (m' := m1) (fun ex ns r q => ?_) ?_
      · refine xw_jc_leF rfl rfl (w64_cg cv1) (w64_cg c5) (Int.not_le.mpr h1) ?_
        refine xw_iload rfl rfl ?_
        refine xw_goto rfl ?_
        refine xw_istore (L' := [(4, xi x7), (8, xj v1), (0, xa 536), (1, xi x1), (2, xi x2), (5, xj x5), (7, xi x7)]) rfl (by decide) rfl ?_
        refine xw_lload rfl rfl ?_
        refine xw_lload rfl rfl ?_
        refine xw_jc_leF rfl rfl (w64_cg cv1) (w64_cg c5) (Int.not_le.mpr h1) ?_
        refine xw_lload rfl rfl ?_
        refine xw_goto rfl ?_
        refine xw_lstore (L' := [(5, xj v1), (4, xi x7), (8, xj v1), (0, xa 536), (1, xi x1), (2, xi x2), (7, xi x7)]) rfl (by decide) rfl ?_
        refine xw_iincc (z := (w32 (x7 + 1))) (L' := [(7, xi (w32 (x7 + 1))), (5, xj v1), (4, xi x7), (8, xj v1), (0, xa 536), (1, xi x1), (2, xi x2)]) rfl rfl (by decide) rfl rfl ?_
        refine xw_goto rfl ?_
        refine xw_lo (L2 := [(0, xa 536), (1, xi x1), (2, xi x2), (4, xi x7), (5, xj v1), (7, xi (w32 (x7 + 1)))]) (List.forall_mem_cons.mpr ⟨rfl, List.forall_mem_cons.mpr ⟨rfl, List.forall_mem_cons.mpr ⟨rfl, List.forall_mem_cons.mpr ⟨rfl, List.forall_mem_cons.mpr ⟨rfl, List.forall_mem_cons.mpr ⟨rfl, fun _ h => absurd h List.not_mem_nil⟩⟩⟩⟩⟩⟩) ?_
        exact q
      exact hr42 _ _ _ _ _ _ c1 c2 c7 cv1 (w32_w _)
    · refine xS_of (pc' := 42) (L' := [(0, xa 536), (1, xi x1), (2, xi x2), (4, xi x4), (5, xj x5), (7, xi (w32 (x7 + 1)))]) (st' := []) (m' := m1) (fun ex ns r q => ?_) ?_
      · refine xw_jc_leT rfl rfl (w64_cg cv1) (w64_cg c5) (Int.not_lt.mp h1) ?_
        refine xw_iload rfl rfl ?_
        refine xw_istore (L' := [(4, xi x4), (8, xj v1), (0, xa 536), (1, xi x1), (2, xi x2), (5, xj x5), (7, xi x7)]) rfl (by decide) rfl ?_
        refine xw_lload rfl rfl ?_
        refine xw_lload rfl rfl ?_
        refine xw_jc_leT rfl rfl (w64_cg cv1) (w64_cg c5) (Int.not_lt.mp h1) ?_
        refine xw_lload rfl rfl ?_
        refine xw_lstore (L' := [(5, xj x5), (4, xi x4), (8, xj v1), (0, xa 536), (1, xi x1), (2, xi x2), (7, xi x7)]) rfl (by decide) rfl ?_
        refine xw_iincc (z := (w32 (x7 + 1))) (L' := [(7, xi (w32 (x7 + 1))), (5, xj x5), (4, xi x4), (8, xj v1), (0, xa 536), (1, xi x1), (2, xi x2)]) rfl rfl (by decide) rfl rfl ?_
        refine xw_goto rfl ?_
        refine xw_lo (L2 := [(0, xa 536), (1, xi x1), (2, xi x2), (4, xi x4), (5, xj x5), (7, xi (w32 (x7 + 1)))]) (List.forall_mem_cons.mpr ⟨rfl, List.forall_mem_cons.mpr ⟨rfl, List.forall_mem_cons.mpr ⟨rfl, List.forall_mem_cons.mpr ⟨rfl, List.forall_mem_cons.mpr ⟨rfl, List.forall_mem_cons.mpr ⟨rfl, fun _ h => absurd h List.not_mem_nil⟩⟩⟩⟩⟩⟩) ?_
        exact q
      exact hr42 _ _ _ _ _ _ c1 c2 c4 c5 (w32_w _)
  · refine xS_of (pc' := 99) (L' := [(0, xa 536), (1, xi x1), (2, xi x2), (4, xi x4), (5, xj x5), (7, xi x7)]) (st' := [xi x4]) (m' := m) (fun ex ns r q => ?_) ?_
    · refine xw_ic_geT rfl (w32_cg c7) (w32_cg c2) (Int.not_lt.mp h0) ?_
      refine xw_iload rfl rfl ?_
      exact q
    refine xS_if (fun h1 => ?_) (fun h1 => ?_)
    · refine xS_of (pc' := 191) (L' := [(0, xa 536), (1, xi x1), (2, xi x2), (4, xi x4)]) (st' := []) (m' := m) (fun ex ns r q => ?_) ?_
      · refine xw_if_ltT rfl (w32_cg c4) h1 ?_
        refine xw_lo (L2 := [(0, xa 536), (1, xi x1), (2, xi x2), (4, xi x4)]) (List.forall_mem_cons.mpr ⟨rfl, List.forall_mem_cons.mpr ⟨rfl, List.forall_mem_cons.mpr ⟨rfl, List.forall_mem_cons.mpr ⟨rfl, fun _ h => absurd h List.not_mem_nil⟩⟩⟩⟩) ?_
        exact q
      exact ygk332_191 hB hr29 _ _ _ _ c1 c2 c4
    · refine xS_g (fun g2 => ?_)
      refine xS_of (pc' := 126) (L' := [(0, xa 536), (1, xi x1), (2, xi x2), (4, xi x4), (7, xi 0)]) (st' := []) (m' := (xw_u (xw_u m 581 (xR m 536 43) x4) 536 43 ((xR m 536 43) + 1))) (fun ex ns r q => ?_) ?_
      · refine xw_if_ltF rfl (w32_cg c4) h1 ?_
        refine xw_aload_n rfl rfl rfl ?_
        refine xw_gfR (n := 581) (e := 581) rfl (xw_obd (by decide +kernel)) (by decide +kernel) (by decide +kernel) rfl ?_
        refine xw_aload_n rfl rfl rfl ?_
        refine xw_gfIc (v := (m 536 43)) (v' := (xR m 536 43)) rfl (xw_obd (by decide +kernel)) xk12_43 (qi := 43) rfl rfl rfl ?_
        refine xw_iload rfl rfl ?_
        refine xw_iast (n := 16) rfl hB (xw_obd (by decide +kernel)) rfl g2 ?_
        refine xw_aload_n rfl rfl rfl ?_
        refine xw_dup rfl rfl ?_
        refine xw_gfIc (v := (m 536 43)) (v' := (xR m 536 43)) rfl (xw_obd (by decide +kernel)) xk12_43 (qi := 43) rfl (xw_un (fun e => absurd e.1 (by decide)) rfl) rfl ?_
        refine xw_iconst rfl ?_
        refine xw_iadd rfl ?_
        refine xw_pfI rfl (xw_obd (by decide +kernel)) xk12_43 (qi := 43) rfl (xw_okI rfl) ?_
        refine xw_iconst rfl ?_
        refine xw_istore (L' := [(7, xi 0), (0, xa 536), (1, xi x1), (2, xi x2), (4, xi x4), (5, xj x5)]) rfl (by decide) rfl ?_
        refine xw_lo (L2 := [(0, xa 536), (1, xi x1), (2, xi x2), (4, xi x4), (7, xi 0)]) (List.forall_mem_cons.mpr ⟨rfl, List.forall_mem_cons.mpr ⟨rfl, List.forall_mem_cons.mpr ⟨rfl, List.forall_mem_cons.mpr ⟨rfl, List.forall_mem_cons.mpr ⟨rfl, fun _ h => absurd h List.not_mem_nil⟩⟩⟩⟩⟩) ?_
        exact q
      exact ygl332_126 hB hr29 1000000 _ _ _ _ _ c1 c2 c4 rfl
theorem ygl332_42 {B : Nat} (hB : B ≤ 512) {xs : Nat → Int32} {SL d : Nat} {r29 : Int → Int → Int → xw_M → xP} (hr29 : ∀ x1 x2 x3 m, w32 x1 = x1 → w32 x2 = x2 → w32 x3 = x3 → xS B xs SL (d + 2) 332 (10, none, [], 13) 0 29 [(0, xa 536), (1, xi x1), (2, xi x2), (3, xi x3)] [] m (r29 x1 x2 x3 m)) : ∀ n x1 x2 x4 x5 x7 m, w32 x1 = x1 → w32 x2 = x2 → w32 x4 = x4 → w64 x5 = x5 → w32 x7 = x7 → xS B xs SL (d + 2) 332 (10, none, [], 13) 0 42 [(0, xa 536), (1, xi x1), (2, xi x2), (4, xi x4), (5, xj x5), (7, xi x7)] [] m (xl5 (yl332_42 B r29) n x1 x2 x4 x5 x7 m) := by
  intro n
  induction n with
  | zero => intro x1 x2 x4 x5 x7 m c1 c2 c4 c5 c7; exact xS_none
  | succ n ih => exact ysl332_42 hB hr29 ih
theorem ysl332_29 {B : Nat} (hB : B ≤ 512) {xs : Nat → Int32} {SL d : Nat} {r29 : Int → Int → Int → xw_M → xP} (hr29 : ∀ x1 x2 x3 m, w32 x1 = x1 → w32 x2 = x2 → w32 x3 = x3 → xS B xs SL (d + 2) 332 (10, none, [], 13) 0 29 [(0, xa 536), (1, xi x1), (2, xi x2), (3, xi x3)] [] m (r29 x1 x2 x3 m)) : ∀ x1 x2 x3 m, w32 x1 = x1 → w32 x2 = x2 → w32 x3 = x3 → xS B xs SL (d + 2) 332 (10, none, [], 13) 0 29 [(0, xa 536), (1, xi x1), (2, xi x2), (3, xi x3)] [] m (yl332_29 B r29 x1 x2 x3 m) := by
  intro x1 x2 x3 m c1 c2 c3
  unfold yl332_29
  refine xS_of (pc' := 30) (L' := [(0, xa 536), (1, xi x1), (2, xi x2), (3, xi x3)]) (st' := [xi x3]) (m' := m) (fun ex ns r q => ?_) ?_
  · refine xw_iload_n rfl rfl ?_
    exact q
  refine xS_if (fun h0 => ?_) (fun h0 => ?_)
  · refine xS_of (pc' := 213) (L' := [(0, xa 536), (1, xi x1), (2, xi x2), (3, xi x3)]) (st' := []) (m' := m) (fun ex ns r q => ?_) ?_
    · refine xw_if_eqT rfl (w32_cg c3) h0 ?_
      exact q
    exact xS_ret (v := 0) rfl rfl rfl rfl
  · refine xS_of (pc' := 42) (L' := [(0, xa 536), (1, xi x1), (2, xi x2), (4, xi (-1)), (5, xj 0), (7, xi 0)]) (st' := []) (m' := m) (fun ex ns r q => ?_) ?_
    · refine xw_if_eqF rfl (w32_cg c3) h0 ?_
      refine xw_iconst rfl ?_
      refine xw_istore (L' := [(4, xi (-1)), (0, xa 536), (1, xi x1), (2, xi x2), (3, xi x3)]) rfl (by decide) rfl ?_
      refine xw_lconst (e := 0) rfl rfl ?_
      refine xw_lstore (L' := [(5, xj 0), (4, xi (-1)), (0, xa 536), (1, xi x1), (2, xi x2), (3, xi x3)]) rfl (by decide) rfl ?_
      refine xw_iconst rfl ?_
      refine xw_istore (L' := [(7, xi 0), (5, xj 0), (4, xi (-1)), (0, xa 536), (1, xi x1), (2, xi x2), (3, xi x3)]) rfl (by decide) rfl ?_
      refine xw_lo (L2 := [(0, xa 536), (1, xi x1), (2, xi x2), (4, xi (-1)), (5, xj 0), (7, xi 0)]) (List.forall_mem_cons.mpr ⟨rfl, List.forall_mem_cons.mpr ⟨rfl, List.forall_mem_cons.mpr ⟨rfl, List.forall_mem_cons.mpr ⟨rfl, List.forall_mem_cons.mpr ⟨rfl, List.forall_mem_cons.mpr ⟨rfl, fun _ h => absurd h List.not_mem_nil⟩⟩⟩⟩⟩⟩) ?_
      exact q
    exact ygl332_42 hB hr29 1000000 _ _ _ _ _ _ c1 c2 rfl rfl rfl
theorem ygl332_29 {B : Nat} (hB : B ≤ 512) {xs : Nat → Int32} {SL d : Nat} : ∀ n x1 x2 x3 m, w32 x1 = x1 → w32 x2 = x2 → w32 x3 = x3 → xS B xs SL (d + 2) 332 (10, none, [], 13) 0 29 [(0, xa 536), (1, xi x1), (2, xi x2), (3, xi x3)] [] m (xl3 (yl332_29 B) n x1 x2 x3 m) := by
  intro n
  induction n with
  | zero => intro x1 x2 x3 m c1 c2 c3; exact xS_none
  | succ n ih => exact ysl332_29 hB ih
theorem ygf332 {B : Nat} (hB : B ≤ 512) {xs : Nat → Int32} {SL d : Nat} : ∀ p0 m, w32 p0 = p0 → xS B xs SL (d + 2) 332 (10, none, [], 13) 0 0 [(0, xa 536), (1, xi p0)] [] m (yf332 B p0 m) := by
  intro p0 m cp0
  unfold yf332
  refine xS_of (pc' := 1) (L' := [(0, xa 536), (1, xi p0)]) (st' := [xa 536]) (m' := m) (fun ex ns r q => ?_) ?_
  · refine xw_aload_n rfl rfl rfl ?_
    refine xw_lo (L2 := [(0, xa 536), (1, xi p0)]) (List.forall_mem_cons.mpr ⟨rfl, List.forall_mem_cons.mpr ⟨rfl, fun _ h => absurd h List.not_mem_nil⟩⟩) ?_
    exact q
  refine xS_call (q := 331) (n := 1) (kq := 1) (as := [xa 536]) (st1 := []) rfl rfl rfl rfl rfl rfl rfl rfl rfl rfl (fun _ => xw_rcv1 (t := 12) (xw_obd (by decide +kernel)) rfl) rfl (List.forall_mem_cons.mpr ⟨rfl, fun _ h => absurd h List.not_mem_nil⟩) (ygf331 hB _) (fun v1 m1 cv1 => ?_)
  refine xS_of (pc' := 7) (L' := [(0, xa 536), (1, xi p0), (2, xi v1)]) (st' := [xi v1, xa 536]) (m' := m1) (fun ex ns r q => ?_) ?_
  · refine xw_istore_n (L' := [(2, xi v1), (0, xa 536), (1, xi p0)]) rfl (by decide) rfl ?_
    refine xw_aload_n rfl rfl rfl ?_
    refine xw_iload_n rfl rfl ?_
    refine xw_lo (L2 := [(0, xa 536), (1, xi p0), (2, xi v1)]) (List.forall_mem_cons.mpr ⟨rfl, List.forall_mem_cons.mpr ⟨rfl, List.forall_mem_cons.mpr ⟨rfl, fun _ h => absurd h List.not_mem_nil⟩⟩⟩) ?_
    exact q
  refine xS_call (q := 333) (n := 2) (kq := 0) (as := [xa 536, xi v1]) (st1 := []) rfl rfl rfl rfl rfl rfl rfl rfl rfl rfl (fun _ => xw_rcv1 (t := 12) (xw_obd (by decide +kernel)) rfl) rfl (List.forall_mem_cons.mpr ⟨rfl, List.forall_mem_cons.mpr ⟨rfl, fun _ h => absurd h List.not_mem_nil⟩⟩) (ygf333 hB _ _ cv1) (fun v2 m2 cv2 => ?_)
  refine xS_of (pc' := 20) (L' := [(0, xa 536), (1, xi p0), (2, xi v1)]) (st' := [xi p0, xi 0]) (m' := (xw_u m2 536 43 0)) (fun ex ns r q => ?_) ?_
  · refine xw_aload_n rfl rfl rfl ?_
    refine xw_iconst rfl ?_
    refine xw_pfI rfl (xw_obd (by decide +kernel)) xk12_43 (qi := 43) rfl (xw_okI rfl) ?_
    refine xw_aload_n rfl rfl rfl ?_
    refine xw_gfIc (v := 0) (v' := 0) rfl (xw_obd (by decide +kernel)) xk12_43 (qi := 43) rfl xw_us rfl ?_
    refine xw_iload_n rfl rfl ?_
    exact q
  refine xS_if (fun h0 => ?_) (fun h0 => ?_)
  · refine xS_of (pc' := 29) (L' := [(0, xa 536), (1, xi p0), (2, xi v1), (3, xi 1)]) (st' := []) (m' := (xw_u m2 536 43 0)) (fun ex ns r q => ?_) ?_
    · refine xw_ic_geF rfl (w32_cg rfl) (w32_cg cp0) (Int.not_le.mpr h0) ?_
      refine xw_iconst rfl ?_
      refine xw_goto rfl ?_
      refine xw_istore_n (L' := [(3, xi 1), (0, xa 536), (1, xi p0), (2, xi v1)]) rfl (by decide) rfl ?_
      refine xw_lo (L2 := [(0, xa 536), (1, xi p0), (2, xi v1), (3, xi 1)]) (List.forall_mem_cons.mpr ⟨rfl, List.forall_mem_cons.mpr ⟨rfl, List.forall_mem_cons.mpr ⟨rfl, List.forall_mem_cons.mpr ⟨rfl, fun _ h => absurd h List.not_mem_nil⟩⟩⟩⟩) ?_
      exact q
    exact ygl332_29 hB 1000000 _ _ _ _ cp0 cv1 rfl
  · refine xS_of (pc' := 29) (L' := [(0, xa 536), (1, xi p0), (2, xi v1), (3, xi 0)]) (st' := []) (m' := (xw_u m2 536 43 0)) (fun ex ns r q => ?_) ?_
    · refine xw_ic_geT rfl (w32_cg rfl) (w32_cg cp0) (Int.not_lt.mp h0) ?_
      refine xw_iconst rfl ?_
      refine xw_istore_n (L' := [(3, xi 0), (0, xa 536), (1, xi p0), (2, xi v1)]) rfl (by decide) rfl ?_
      refine xw_lo (L2 := [(0, xa 536), (1, xi p0), (2, xi v1), (3, xi 0)]) (List.forall_mem_cons.mpr ⟨rfl, List.forall_mem_cons.mpr ⟨rfl, List.forall_mem_cons.mpr ⟨rfl, List.forall_mem_cons.mpr ⟨rfl, fun _ h => absurd h List.not_mem_nil⟩⟩⟩⟩) ?_
      exact q
    exact ygl332_29 hB 1000000 _ _ _ _ cp0 cv1 rfl
theorem ygk330_210 {B : Nat} (hB : B ≤ 512) {xs : Nat → Int32} {SL d : Nat} : ∀ x3 m, w32 x3 = x3 → xS B xs SL (d + 6) 330 (5, (some .int), [], 13) 1 210 [(0, xa 536), (3, xi x3)] [] m (yk330_210 B x3 m) := by
  intro x3 m c3
  unfold yk330_210
  refine xS_of (pc' := 214) (L' := [(0, xa 536), (3, xi x3)]) (st' := [xi (-3), xi x3, xa 536]) (m' := m) (fun ex ns r q => ?_) ?_
  · refine xw_aload_n rfl rfl rfl ?_
    refine xw_iload_n rfl rfl ?_
    refine xw_bipush (e := (-3)) rfl (by decide +kernel) ?_
    exact q
  refine xS_if (fun h0 => ?_) (fun h0 => ?_)
  · refine xS_of (pc' := 226) (L' := []) (st' := [xi (-3), xa 536]) (m' := m) (fun ex ns r q => ?_) ?_
    · refine xw_ic_neF rfl (w32_cg c3) (w32_cg rfl) h0 ?_
      refine xw_bipush (e := (-3)) rfl (by decide +kernel) ?_
      refine xw_goto rfl ?_
      refine xw_lo (L2 := []) (fun _ h => absurd h List.not_mem_nil) ?_
      exact q
    refine xS_call (q := 312) (n := 2) (kq := 1) (as := [xa 536, xi (-3)]) (st1 := []) rfl rfl rfl rfl rfl rfl rfl rfl rfl rfl (fun _ => xw_rcv1 (t := 12) (xw_obd (by decide +kernel)) rfl) rfl (List.forall_mem_cons.mpr ⟨rfl, List.forall_mem_cons.mpr ⟨rfl, fun _ h => absurd h List.not_mem_nil⟩⟩) (ygf312 hB _ _ rfl) (fun v1 m1 cv1 => ?_)
    exact xS_ret (v := v1) rfl rfl xw_rtI cv1
  · refine xS_of (pc' := 226) (L' := []) (st' := [xi (xR m 536 40), xa 536]) (m' := m) (fun ex ns r q => ?_) ?_
    · refine xw_ic_neT rfl (w32_cg c3) (w32_cg rfl) h0 ?_
      refine xw_aload_n rfl rfl rfl ?_
      refine xw_gfIc (v := (m 536 40)) (v' := (xR m 536 40)) rfl (xw_obd (by decide +kernel)) xk12_40 (qi := 40) rfl rfl rfl ?_
      refine xw_lo (L2 := []) (fun _ h => absurd h List.not_mem_nil) ?_
      exact q
    refine xS_call (q := 312) (n := 2) (kq := 1) (as := [xa 536, xi (xR m 536 40)]) (st1 := []) rfl rfl rfl rfl rfl rfl rfl rfl rfl rfl (fun _ => xw_rcv1 (t := 12) (xw_obd (by decide +kernel)) rfl) rfl (List.forall_mem_cons.mpr ⟨rfl, List.forall_mem_cons.mpr ⟨rfl, fun _ h => absurd h List.not_mem_nil⟩⟩) (ygf312 hB _ _ (w32_xR _ _ _)) (fun v2 m2 cv2 => ?_)
    exact xS_ret (v := v2) rfl rfl xw_rtI cv2
theorem ysl330_167 {B : Nat} (hB : B ≤ 512) {xs : Nat → Int32} {SL d : Nat} {r167 : Int → Int → xw_M → xP} (hr167 : ∀ x3 x4 m, w32 x3 = x3 → w32 x4 = x4 → xS B xs SL (d + 6) 330 (5, (some .int), [], 13) 1 167 [(0, xa 536), (3, xi x3), (4, xi x4)] [] m (r167 x3 x4 m)) : ∀ x3 x4 m, w32 x3 = x3 → w32 x4 = x4 → xS B xs SL (d + 6) 330 (5, (some .int), [], 13) 1 167 [(0, xa 536), (3, xi x3), (4, xi x4)] [] m (yl330_167 B r167 x3 x4 m) := by
  intro x3 x4 m c3 c4
  unfold yl330_167
  refine xS_of (pc' := 173) (L' := [(0, xa 536), (3, xi x3), (4, xi x4)]) (st' := [xi (xR m 536 40), xi x4]) (m' := m) (fun ex ns r q => ?_) ?_
  · refine xw_iload rfl rfl ?_
    refine xw_aload_n rfl rfl rfl ?_
    refine xw_gfIc (v := (m 536 40)) (v' := (xR m 536 40)) rfl (xw_obd (by decide +kernel)) xk12_40 (qi := 40) rfl rfl rfl ?_
    exact q
  refine xS_if (fun h0 => ?_) (fun h0 => ?_)
  · refine xS_g (fun g1 => ?_)
    refine xS_of (pc' := 167) (L' := [(0, xa 536), (3, xi x3), (4, xi (w32 (x4 + 1)))]) (st' := []) (m' := (xw_u (xw_u m 579 x4 (xR m 581 x4)) 580 x4 (xR m 582 x4))) (fun ex ns r q => ?_) ?_
    · refine xw_ic_geF rfl (w32_cg c4) (w32_cg (w32_xR _ _ _)) (Int.not_le.mpr h0) ?_
      refine xw_aload_n rfl rfl rfl ?_
      refine xw_gfR (n := 579) (e := 579) rfl (xw_obd (by decide +kernel)) (by decide +kernel) (by decide +kernel) rfl ?_
      refine xw_iload rfl rfl ?_
      refine xw_aload_n rfl rfl rfl ?_
      refine xw_gfR (n := 581) (e := 581) rfl (xw_obd (by decide +kernel)) (by decide +kernel) (by decide +kernel) rfl ?_
      refine xw_iload rfl rfl ?_
      refine xw_ialdc (n := 16) (v := (m 581 x4)) (v' := (xR m 581 x4)) rfl hB (xw_obd (by decide +kernel)) rfl g1 rfl rfl ?_
      refine xw_iast (n := 16) rfl hB (xw_obd (by decide +kernel)) rfl g1 ?_
      refine xw_aload_n rfl rfl rfl ?_
      refine xw_gfR (n := 580) (e := 580) rfl (xw_obd (by decide +kernel)) (by decide +kernel) (by decide +kernel) rfl ?_
      refine xw_iload rfl rfl ?_
      refine xw_aload_n rfl rfl rfl ?_
      refine xw_gfR (n := 582) (e := 582) rfl (xw_obd (by decide +kernel)) (by decide +kernel) (by decide +kernel) rfl ?_
      refine xw_iload rfl rfl ?_
      refine xw_ialdc (n := 16) (v := (m 582 x4)) (v' := (xR m 582 x4)) rfl hB (xw_obd (by decide +kernel)) rfl g1 (xw_un (fun e => absurd e.1 (by decide)) rfl) rfl ?_
      refine xw_iast (n := 16) rfl hB (xw_obd (by decide +kernel)) rfl g1 ?_
      refine xw_iincc (z := (w32 (x4 + 1))) (L' := [(4, xi (w32 (x4 + 1))), (0, xa 536), (3, xi x3)]) rfl rfl (by decide) rfl rfl ?_
      refine xw_goto rfl ?_
      refine xw_lo (L2 := [(0, xa 536), (3, xi x3), (4, xi (w32 (x4 + 1)))]) (List.forall_mem_cons.mpr ⟨rfl, List.forall_mem_cons.mpr ⟨rfl, List.forall_mem_cons.mpr ⟨rfl, fun _ h => absurd h List.not_mem_nil⟩⟩⟩) ?_
      exact q
    exact hr167 _ _ _ c3 (w32_w _)
  · refine xS_of (pc' := 210) (L' := [(0, xa 536), (3, xi x3)]) (st' := []) (m' := m) (fun ex ns r q => ?_) ?_
    · refine xw_ic_geT rfl (w32_cg c4) (w32_cg (w32_xR _ _ _)) (Int.not_lt.mp h0) ?_
      refine xw_lo (L2 := [(0, xa 536), (3, xi x3)]) (List.forall_mem_cons.mpr ⟨rfl, List.forall_mem_cons.mpr ⟨rfl, fun _ h => absurd h List.not_mem_nil⟩⟩) ?_
      exact q
    exact ygk330_210 hB _ _ c3
theorem ygl330_167 {B : Nat} (hB : B ≤ 512) {xs : Nat → Int32} {SL d : Nat} : ∀ n x3 x4 m, w32 x3 = x3 → w32 x4 = x4 → xS B xs SL (d + 6) 330 (5, (some .int), [], 13) 1 167 [(0, xa 536), (3, xi x3), (4, xi x4)] [] m (xl2 (yl330_167 B) n x3 x4 m) := by
  intro n
  induction n with
  | zero => intro x3 x4 m c3 c4; exact xS_none
  | succ n ih => exact ysl330_167 hB ih
theorem ysl330_79 {B : Nat} (hB : B ≤ 512) {xs : Nat → Int32} {SL d : Nat} {r79 : Int → Int → xw_M → xP} (hr79 : ∀ x2 x3 m, w32 x2 = x2 → w32 x3 = x3 → xS B xs SL (d + 6) 330 (5, (some .int), [], 13) 1 79 [(0, xa 536), (2, xi x2), (3, xi x3)] [] m (r79 x2 x3 m)) : ∀ x2 x3 m, w32 x2 = x2 → w32 x3 = x3 → xS B xs SL (d + 6) 330 (5, (some .int), [], 13) 1 79 [(0, xa 536), (2, xi x2), (3, xi x3)] [] m (yl330_79 B r79 x2 x3 m) := by
  intro x2 x3 m c2 c3
  unfold yl330_79
  refine xS_of (pc' := 84) (L' := [(0, xa 536), (2, xi x2), (3, xi x3)]) (st' := [xi (xR m 536 43), xi x3]) (m' := m) (fun ex ns r q => ?_) ?_
  · refine xw_iload_n rfl rfl ?_
    refine xw_aload_n rfl rfl rfl ?_
    refine xw_gfIc (v := (m 536 43)) (v' := (xR m 536 43)) rfl (xw_obd (by decide +kernel)) xk12_43 (qi := 43) rfl rfl rfl ?_
    exact q
  refine xS_if (fun h0 => ?_) (fun h0 => ?_)
  · refine xS_g (fun g1 => ?_)
    refine xS_of (pc' := 100) (L' := [(0, xa 536), (3, xi x3)]) (st' := [xi (xR m 581 x3), xi (xR m 536 31), xi 0, xa 536, xi x2]) (m' := m) (fun ex ns r q => ?_) ?_
    · refine xw_ic_geF rfl (w32_cg c3) (w32_cg (w32_xR _ _ _)) (Int.not_le.mpr h0) ?_
      refine xw_iload_n rfl rfl ?_
      refine xw_aload_n rfl rfl rfl ?_
      refine xw_iconst rfl ?_
      refine xw_aload_n rfl rfl rfl ?_
      refine xw_gfIc (v := (m 536 31)) (v' := (xR m 536 31)) rfl (xw_obd (by decide +kernel)) xk12_31 (qi := 31) rfl rfl rfl ?_
      refine xw_aload_n rfl rfl rfl ?_
      refine xw_gfR (n := 581) (e := 581) rfl (xw_obd (by decide +kernel)) (by decide +kernel) (by decide +kernel) rfl ?_
      refine xw_iload_n rfl rfl ?_
      refine xw_ialdc (n := 16) (v := (m 581 x3)) (v' := (xR m 581 x3)) rfl hB (xw_obd (by decide +kernel)) rfl g1 rfl rfl ?_
      refine xw_lo (L2 := [(0, xa 536), (3, xi x3)]) (List.forall_mem_cons.mpr ⟨rfl, List.forall_mem_cons.mpr ⟨rfl, fun _ h => absurd h List.not_mem_nil⟩⟩) ?_
      exact q
    refine xS_call (q := 324) (n := 4) (kq := 1) (as := [xa 536, xi 0, xi (xR m 536 31), xi (xR m 581 x3)]) (st1 := [xi x2]) rfl rfl rfl rfl rfl rfl rfl rfl rfl rfl (fun _ => xw_rcv1 (t := 12) (xw_obd (by decide +kernel)) rfl) rfl (List.forall_mem_cons.mpr ⟨rfl, List.forall_mem_cons.mpr ⟨rfl, List.forall_mem_cons.mpr ⟨rfl, List.forall_mem_cons.mpr ⟨rfl, fun _ h => absurd h List.not_mem_nil⟩⟩⟩⟩) (ygf324 hB _ _ _ _ rfl (w32_xR _ _ _) (w32_xR _ _ _)) (fun v1 m1 cv1 => ?_)
    refine xS_of (pc' := 79) (L' := [(0, xa 536), (2, xi (w32 (x2 + v1))), (3, xi (w32 (x3 + 1)))]) (st' := []) (m' := (xw_u m1 582 x3 (xR m1 536 61))) (fun ex ns r q => ?_) ?_
    · refine xw_iadd rfl ?_
      refine xw_cst (st' := [xi (w32 (x2 + v1))]) (xw_sc (xi_c rfl) rfl) ?_
      refine xw_istore_n (L' := [(2, xi (w32 (x2 + v1))), (0, xa 536), (3, xi x3)]) rfl (by decide) rfl ?_
      refine xw_aload_n rfl rfl rfl ?_
      refine xw_gfR (n := 582) (e := 582) rfl (xw_obd (by decide +kernel)) (by decide +kernel) (by decide +kernel) rfl ?_
      refine xw_iload_n rfl rfl ?_
      refine xw_aload_n rfl rfl rfl ?_
      refine xw_gfIc (v := (m1 536 61)) (v' := (xR m1 536 61)) rfl (xw_obd (by decide +kernel)) xk12_61 (qi := 61) rfl rfl rfl ?_
      refine xw_iast (n := 16) rfl hB (xw_obd (by decide +kernel)) rfl g1 ?_
      refine xw_iincc (z := (w32 (x3 + 1))) (L' := [(3, xi (w32 (x3 + 1))), (2, xi (w32 (x2 + v1))), (0, xa 536)]) rfl rfl (by decide) rfl rfl ?_
      refine xw_goto rfl ?_
      refine xw_lo (L2 := [(0, xa 536), (2, xi (w32 (x2 + v1))), (3, xi (w32 (x3 + 1)))]) (List.forall_mem_cons.mpr ⟨rfl, List.forall_mem_cons.mpr ⟨rfl, List.forall_mem_cons.mpr ⟨rfl, fun _ h => absurd h List.not_mem_nil⟩⟩⟩) ?_
      exact q
    exact hr79 _ _ _ (w32_w _) (w32_w _)
  · refine xS_of (pc' := 126) (L' := [(0, xa 536)]) (st' := [xi 1, xi 0, xi 2, xi x2, xa 536]) (m' := m) (fun ex ns r q => ?_) ?_
    · refine xw_ic_geT rfl (w32_cg c3) (w32_cg (w32_xR _ _ _)) (Int.not_lt.mp h0) ?_
      refine xw_aload_n rfl rfl rfl ?_
      refine xw_iload_n rfl rfl ?_
      refine xw_iconst rfl ?_
      refine xw_iconst rfl ?_
      refine xw_iconst rfl ?_
      refine xw_lo (L2 := [(0, xa 536)]) (List.forall_mem_cons.mpr ⟨rfl, fun _ h => absurd h List.not_mem_nil⟩) ?_
      exact q
    refine xS_call (q := 305) (n := 5) (kq := 1) (as := [xa 536, xi x2, xi 2, xi 0, xi 1]) (st1 := []) rfl rfl rfl rfl rfl rfl rfl rfl rfl rfl (fun _ => xw_rcv1 (t := 12) (xw_obd (by decide +kernel)) rfl) rfl (List.forall_mem_cons.mpr ⟨rfl, List.forall_mem_cons.mpr ⟨rfl, List.forall_mem_cons.mpr ⟨rfl, List.forall_mem_cons.mpr ⟨rfl, List.forall_mem_cons.mpr ⟨rfl, fun _ h => absurd h List.not_mem_nil⟩⟩⟩⟩⟩) (ygf305 hB _ _ _ _ _ c2 rfl rfl rfl) (fun v2 m2 cv2 => ?_)
    refine xS_of (pc' := 133) (L' := [(3, xi v2), (0, xa 536)]) (st' := [xi (-2), xi v2]) (m' := m2) (fun ex ns r q => ?_) ?_
    · refine xw_istore_n (L' := [(3, xi v2), (0, xa 536)]) rfl (by decide) rfl ?_
      refine xw_iload_n rfl rfl ?_
      refine xw_bipush (e := (-2)) rfl (by decide +kernel) ?_
      exact q
    refine xS_if (fun h1 => ?_) (fun h1 => ?_)
    · refine xS_of (pc' := 138) (L' := [(3, xi v2), (0, xa 536)]) (st' := [xi (-2)]) (m' := m2) (fun ex ns r q => ?_) ?_
      · refine xw_ic_neF rfl (w32_cg cv2) (w32_cg rfl) h1 ?_
        refine xw_bipush (e := (-2)) rfl (by decide +kernel) ?_
        exact q
      exact xS_ret (v := (-2)) rfl rfl xw_rtI rfl
    · refine xS_of (pc' := 153) (L' := [(3, xi v2), (0, xa 536)]) (st' := [xi (xR m2 536 57)]) (m' := (xw_u m2 536 39 ((xR m2 536 39) + 1))) (fun ex ns r q => ?_) ?_
      · refine xw_ic_neT rfl (w32_cg cv2) (w32_cg rfl) h1 ?_
        refine xw_aload_n rfl rfl rfl ?_
        refine xw_dup rfl rfl ?_
        refine xw_gfIc (v := (m2 536 39)) (v' := (xR m2 536 39)) rfl (xw_obd (by decide +kernel)) xk12_39 (qi := 39) rfl rfl rfl ?_
        refine xw_iconst rfl ?_
        refine xw_iadd rfl ?_
        refine xw_pfI rfl (xw_obd (by decide +kernel)) xk12_39 (qi := 39) rfl (xw_okI rfl) ?_
        refine xw_aload_n rfl rfl rfl ?_
        refine xw_gfIc (v := (m2 536 57)) (v' := (xR m2 536 57)) rfl (xw_obd (by decide +kernel)) xk12_57 (qi := 57) rfl (xw_un (fun e => absurd e.2 (by decide)) rfl) rfl ?_
        exact q
      refine xS_if (fun h2 => ?_) (fun h2 => ?_)
      · refine xS_of (pc' := 210) (L' := [(0, xa 536), (3, xi v2)]) (st' := []) (m' := (xw_u m2 536 39 ((xR m2 536 39) + 1))) (fun ex ns r q => ?_) ?_
        · refine xw_if_eqT rfl (w32_cg (w32_xR _ _ _)) h2 ?_
          refine xw_lo (L2 := [(0, xa 536), (3, xi v2)]) (List.forall_mem_cons.mpr ⟨rfl, List.forall_mem_cons.mpr ⟨rfl, fun _ h => absurd h List.not_mem_nil⟩⟩) ?_
          exact q
        exact ygk330_210 hB _ _ cv2
      · refine xS_of (pc' := 167) (L' := [(0, xa 536), (3, xi v2), (4, xi 0)]) (st' := []) (m' := (xw_u (xw_u m2 536 39 ((xR m2 536 39) + 1)) 536 40 (xR m2 536 43))) (fun ex ns r q => ?_) ?_
        · refine xw_if_eqF rfl (w32_cg (w32_xR _ _ _)) h2 ?_
          refine xw_aload_n rfl rfl rfl ?_
          refine xw_aload_n rfl rfl rfl ?_
          refine xw_gfIc (v := (m2 536 43)) (v' := (xR m2 536 43)) rfl (xw_obd (by decide +kernel)) xk12_43 (qi := 43) rfl (xw_un (fun e => absurd e.2 (by decide)) rfl) rfl ?_
          refine xw_pfI rfl (xw_obd (by decide +kernel)) xk12_40 (qi := 40) rfl (xw_okI rfl) ?_
          refine xw_iconst rfl ?_
          refine xw_istore (L' := [(4, xi 0), (3, xi v2), (0, xa 536)]) rfl (by decide) rfl ?_
          refine xw_lo (L2 := [(0, xa 536), (3, xi v2), (4, xi 0)]) (List.forall_mem_cons.mpr ⟨rfl, List.forall_mem_cons.mpr ⟨rfl, List.forall_mem_cons.mpr ⟨rfl, fun _ h => absurd h List.not_mem_nil⟩⟩⟩) ?_
          exact q
        exact ygl330_167 hB 1000000 _ _ _ cv2 rfl
theorem ygl330_79 {B : Nat} (hB : B ≤ 512) {xs : Nat → Int32} {SL d : Nat} : ∀ n x2 x3 m, w32 x2 = x2 → w32 x3 = x3 → xS B xs SL (d + 6) 330 (5, (some .int), [], 13) 1 79 [(0, xa 536), (2, xi x2), (3, xi x3)] [] m (xl2 (yl330_79 B) n x2 x3 m) := by
  intro n
  induction n with
  | zero => intro x2 x3 m c2 c3; exact xS_none
  | succ n ih => exact ysl330_79 hB ih
theorem ygf330 {B : Nat} (hB : B ≤ 512) {xs : Nat → Int32} {SL d : Nat} : ∀ p0 m, w32 p0 = p0 → xS B xs SL (d + 6) 330 (5, (some .int), [], 13) 1 0 [(0, xa 536), (1, xi p0)] [] m (yf330 B p0 m) := by
  intro p0 m cp0
  unfold yf330
  refine xS_of (pc' := 2) (L' := [(0, xa 536), (1, xi p0)]) (st' := [xi p0, xa 536]) (m' := m) (fun ex ns r q => ?_) ?_
  · refine xw_aload_n rfl rfl rfl ?_
    refine xw_iload_n rfl rfl ?_
    exact q
  refine xS_if (fun h0 => ?_) (fun h0 => ?_)
  · refine xS_of (pc' := 57) (L' := [(0, xa 536), (1, xi p0)]) (st' := [xi 0]) (m' := (xw_u m 536 1 1)) (fun ex ns r q => ?_) ?_
    · refine xw_if_ltT rfl (w32_cg cp0) h0 ?_
      refine xw_iconst rfl ?_
      refine xw_goto rfl ?_
      refine xw_pfI rfl (xw_obd (by decide +kernel)) xk12_1 (qi := 1) rfl (xw_okI rfl) ?_
      refine xw_aload_n rfl rfl rfl ?_
      refine xw_gfIc (v := 1) (v' := 1) rfl (xw_obd (by decide +kernel)) xk12_1 (qi := 1) rfl xw_us rfl ?_
      refine xw_if_leF rfl (w32_cg rfl) (Int.not_le.mpr (by decide)) ?_
      refine xw_iconst rfl ?_
      exact q
    exact xS_ret (v := 0) rfl rfl xw_rtI rfl
  · refine xS_of (pc' := 8) (L' := [(0, xa 536), (1, xi p0)]) (st' := [xi 16, xi p0, xa 536]) (m' := m) (fun ex ns r q => ?_) ?_
    · refine xw_if_ltF rfl (w32_cg cp0) h0 ?_
      refine xw_iload_n rfl rfl ?_
      refine xw_bipush (e := 16) rfl (by decide +kernel) ?_
      exact q
    refine xS_if (fun h1 => ?_) (fun h1 => ?_)
    · refine xS_of (pc' := 57) (L' := [(0, xa 536), (1, xi p0)]) (st' := [xi 0]) (m' := (xw_u m 536 1 1)) (fun ex ns r q => ?_) ?_
      · refine xw_ic_leF rfl (w32_cg cp0) (w32_cg rfl) (Int.not_le.mpr h1) ?_
        refine xw_iconst rfl ?_
        refine xw_goto rfl ?_
        refine xw_pfI rfl (xw_obd (by decide +kernel)) xk12_1 (qi := 1) rfl (xw_okI rfl) ?_
        refine xw_aload_n rfl rfl rfl ?_
        refine xw_gfIc (v := 1) (v' := 1) rfl (xw_obd (by decide +kernel)) xk12_1 (qi := 1) rfl xw_us rfl ?_
        refine xw_if_leF rfl (w32_cg rfl) (Int.not_le.mpr (by decide)) ?_
        refine xw_iconst rfl ?_
        exact q
      exact xS_ret (v := 0) rfl rfl xw_rtI rfl
    · refine xS_of (pc' := 16) (L' := [(0, xa 536), (1, xi p0)]) (st' := [xa 536, xa 536]) (m' := m) (fun ex ns r q => ?_) ?_
      · refine xw_ic_leT rfl (w32_cg cp0) (w32_cg rfl) (Int.not_lt.mp h1) ?_
        refine xw_aload_n rfl rfl rfl ?_
        refine xw_lo (L2 := [(0, xa 536), (1, xi p0)]) (List.forall_mem_cons.mpr ⟨rfl, List.forall_mem_cons.mpr ⟨rfl, fun _ h => absurd h List.not_mem_nil⟩⟩) ?_
        exact q
      refine xS_call (q := 320) (n := 1) (kq := 4) (as := [xa 536]) (st1 := [xa 536]) rfl rfl rfl rfl rfl rfl rfl rfl rfl rfl (fun _ => xw_rcv1 (t := 12) (xw_obd (by decide +kernel)) rfl) rfl (List.forall_mem_cons.mpr ⟨rfl, fun _ h => absurd h List.not_mem_nil⟩) (ygf320 hB _) (fun v1 m1 cv1 => ?_)
      refine xS_if (fun h2 => ?_) (fun h2 => ?_)
      · refine xS_of (pc' := 57) (L' := [(0, xa 536), (1, xi p0)]) (st' := [xi 0]) (m' := (xw_u m1 536 1 2)) (fun ex ns r q => ?_) ?_
        · refine xw_if_eqT rfl (w32_cg (w32_of (xw_zr cv1))) h2 ?_
          refine xw_iconst rfl ?_
          refine xw_goto rfl ?_
          refine xw_pfI rfl (xw_obd (by decide +kernel)) xk12_1 (qi := 1) rfl (xw_okI rfl) ?_
          refine xw_aload_n rfl rfl rfl ?_
          refine xw_gfIc (v := 2) (v' := 2) rfl (xw_obd (by decide +kernel)) xk12_1 (qi := 1) rfl xw_us rfl ?_
          refine xw_if_leF rfl (w32_cg rfl) (Int.not_le.mpr (by decide)) ?_
          refine xw_iconst rfl ?_
          exact q
        exact xS_ret (v := 0) rfl rfl xw_rtI rfl
      · refine xS_of (pc' := 23) (L' := [(0, xa 536), (1, xi p0)]) (st' := [xa 536, xa 536]) (m' := m1) (fun ex ns r q => ?_) ?_
        · refine xw_if_eqF rfl (w32_cg (w32_of (xw_zr cv1))) h2 ?_
          refine xw_aload_n rfl rfl rfl ?_
          refine xw_lo (L2 := [(0, xa 536), (1, xi p0)]) (List.forall_mem_cons.mpr ⟨rfl, List.forall_mem_cons.mpr ⟨rfl, fun _ h => absurd h List.not_mem_nil⟩⟩) ?_
          exact q
        refine xS_call (q := 331) (n := 1) (kq := 1) (as := [xa 536]) (st1 := [xa 536]) rfl rfl rfl rfl rfl rfl rfl rfl rfl rfl (fun _ => xw_rcv1 (t := 12) (xw_obd (by decide +kernel)) rfl) rfl (List.forall_mem_cons.mpr ⟨rfl, fun _ h => absurd h List.not_mem_nil⟩) (ygf331 hB _) (fun v2 m2 cv2 => ?_)
        refine xS_of (pc' := 29) (L' := [(0, xa 536), (1, xi p0)]) (st' := [xi 512, xi v2, xa 536]) (m' := m2) (fun ex ns r q => ?_) ?_
        · refine xw_sipush (e := 512) rfl (by decide +kernel) ?_
          exact q
        refine xS_if (fun h3 => ?_) (fun h3 => ?_)
        · refine xS_of (pc' := 57) (L' := [(0, xa 536), (1, xi p0)]) (st' := [xi 0]) (m' := (xw_u m2 536 1 2)) (fun ex ns r q => ?_) ?_
          · refine xw_ic_gtT rfl (w32_cg cv2) (w32_cg rfl) h3 ?_
            refine xw_iconst rfl ?_
            refine xw_goto rfl ?_
            refine xw_pfI rfl (xw_obd (by decide +kernel)) xk12_1 (qi := 1) rfl (xw_okI rfl) ?_
            refine xw_aload_n rfl rfl rfl ?_
            refine xw_gfIc (v := 2) (v' := 2) rfl (xw_obd (by decide +kernel)) xk12_1 (qi := 1) rfl xw_us rfl ?_
            refine xw_if_leF rfl (w32_cg rfl) (Int.not_le.mpr (by decide)) ?_
            refine xw_iconst rfl ?_
            exact q
          exact xS_ret (v := 0) rfl rfl xw_rtI rfl
        · refine xS_of (pc' := 38) (L' := [(0, xa 536), (1, xi p0)]) (st' := [xi 100, xi (xR m2 536 39), xa 536]) (m' := m2) (fun ex ns r q => ?_) ?_
          · refine xw_ic_gtF rfl (w32_cg cv2) (w32_cg rfl) h3 ?_
            refine xw_aload_n rfl rfl rfl ?_
            refine xw_gfIc (v := (m2 536 39)) (v' := (xR m2 536 39)) rfl (xw_obd (by decide +kernel)) xk12_39 (qi := 39) rfl rfl rfl ?_
            refine xw_bipush (e := 100) rfl (by decide +kernel) ?_
            exact q
          refine xS_if (fun h4 => ?_) (fun h4 => ?_)
          · refine xS_of (pc' := 57) (L' := [(0, xa 536), (1, xi p0)]) (st' := [xi 0]) (m' := (xw_u m2 536 1 2)) (fun ex ns r q => ?_) ?_
            · refine xw_ic_neF rfl (w32_cg (w32_xR _ _ _)) (w32_cg rfl) h4 ?_
              refine xw_iconst rfl ?_
              refine xw_goto rfl ?_
              refine xw_pfI rfl (xw_obd (by decide +kernel)) xk12_1 (qi := 1) rfl (xw_okI rfl) ?_
              refine xw_aload_n rfl rfl rfl ?_
              refine xw_gfIc (v := 2) (v' := 2) rfl (xw_obd (by decide +kernel)) xk12_1 (qi := 1) rfl xw_us rfl ?_
              refine xw_if_leF rfl (w32_cg rfl) (Int.not_le.mpr (by decide)) ?_
              refine xw_iconst rfl ?_
              exact q
            exact xS_ret (v := 0) rfl rfl xw_rtI rfl
          · refine xS_of (pc' := 60) (L' := [(0, xa 536)]) (st' := [xi p0, xa 536]) (m' := (xw_u m2 536 1 0)) (fun ex ns r q => ?_) ?_
            · refine xw_ic_neT rfl (w32_cg (w32_xR _ _ _)) (w32_cg rfl) h4 ?_
              refine xw_iconst rfl ?_
              refine xw_pfI rfl (xw_obd (by decide +kernel)) xk12_1 (qi := 1) rfl (xw_okI rfl) ?_
              refine xw_aload_n rfl rfl rfl ?_
              refine xw_gfIc (v := 0) (v' := 0) rfl (xw_obd (by decide +kernel)) xk12_1 (qi := 1) rfl xw_us rfl ?_
              refine xw_if_leT rfl (w32_cg rfl) (Int.not_lt.mp (by decide)) ?_
              refine xw_aload_n rfl rfl rfl ?_
              refine xw_iload_n rfl rfl ?_
              refine xw_lo (L2 := [(0, xa 536)]) (List.forall_mem_cons.mpr ⟨rfl, fun _ h => absurd h List.not_mem_nil⟩) ?_
              exact q
            refine xS_call (q := 332) (n := 2) (kq := 0) (as := [xa 536, xi p0]) (st1 := []) rfl rfl rfl rfl rfl rfl rfl rfl rfl rfl (fun _ => xw_rcv1 (t := 12) (xw_obd (by decide +kernel)) rfl) rfl (List.forall_mem_cons.mpr ⟨rfl, List.forall_mem_cons.mpr ⟨rfl, fun _ h => absurd h List.not_mem_nil⟩⟩) (ygf332 hB _ _ cp0) (fun v3 m3 cv3 => ?_)
            refine xS_of (pc' := 67) (L' := [(0, xa 536)]) (st' := [xi (xR m3 536 43)]) (m' := m3) (fun ex ns r q => ?_) ?_
            · refine xw_aload_n rfl rfl rfl ?_
              refine xw_gfIc (v := (m3 536 43)) (v' := (xR m3 536 43)) rfl (xw_obd (by decide +kernel)) xk12_43 (qi := 43) rfl rfl rfl ?_
              exact q
            refine xS_if (fun h5 => ?_) (fun h5 => ?_)
            · refine xS_of (pc' := 79) (L' := [(0, xa 536), (2, xi 0), (3, xi 0)]) (st' := []) (m' := m3) (fun ex ns r q => ?_) ?_
              · refine xw_if_neF rfl (w32_cg (w32_xR _ _ _)) h5 ?_
                refine xw_iconst rfl ?_
                refine xw_goto rfl ?_
                refine xw_istore_n (L' := [(2, xi 0), (0, xa 536)]) rfl (by decide) rfl ?_
                refine xw_iconst rfl ?_
                refine xw_istore_n (L' := [(3, xi 0), (2, xi 0), (0, xa 536)]) rfl (by decide) rfl ?_
                refine xw_lo (L2 := [(0, xa 536), (2, xi 0), (3, xi 0)]) (List.forall_mem_cons.mpr ⟨rfl, List.forall_mem_cons.mpr ⟨rfl, List.forall_mem_cons.mpr ⟨rfl, fun _ h => absurd h List.not_mem_nil⟩⟩⟩) ?_
                exact q
              exact ygl330_79 hB 1000000 _ _ _ rfl rfl
            · refine xS_of (pc' := 79) (L' := [(0, xa 536), (2, xi 8), (3, xi 0)]) (st' := []) (m' := m3) (fun ex ns r q => ?_) ?_
              · refine xw_if_neT rfl (w32_cg (w32_xR _ _ _)) h5 ?_
                refine xw_bipush (e := 8) rfl (by decide +kernel) ?_
                refine xw_istore_n (L' := [(2, xi 8), (0, xa 536)]) rfl (by decide) rfl ?_
                refine xw_iconst rfl ?_
                refine xw_istore_n (L' := [(3, xi 0), (2, xi 8), (0, xa 536)]) rfl (by decide) rfl ?_
                refine xw_lo (L2 := [(0, xa 536), (2, xi 8), (3, xi 0)]) (List.forall_mem_cons.mpr ⟨rfl, List.forall_mem_cons.mpr ⟨rfl, List.forall_mem_cons.mpr ⟨rfl, fun _ h => absurd h List.not_mem_nil⟩⟩⟩) ?_
                exact q
              exact ygl330_79 hB 1000000 _ _ _ rfl rfl
theorem ygk336_155 {B : Nat} (hB : B ≤ 512) {xs : Nat → Int32} {SL d : Nat} : ∀ x2 m, w32 x2 = x2 → xS B xs SL (d + 6) 336 (4, (some .int), [], 13) 1 155 [(0, xa 536), (2, xi x2)] [] m (yk336_155 B x2 m) := by
  intro x2 m c2
  unfold yk336_155
  refine xS_of (pc' := 157) (L' := []) (st' := [xi x2, xa 536]) (m' := m) (fun ex ns r q => ?_) ?_
  · refine xw_aload_n rfl rfl rfl ?_
    refine xw_iload_n rfl rfl ?_
    refine xw_lo (L2 := []) (fun _ h => absurd h List.not_mem_nil) ?_
    exact q
  refine xS_call (q := 312) (n := 2) (kq := 1) (as := [xa 536, xi x2]) (st1 := []) rfl rfl rfl rfl rfl rfl rfl rfl rfl rfl (fun _ => xw_rcv1 (t := 12) (xw_obd (by decide +kernel)) rfl) rfl (List.forall_mem_cons.mpr ⟨rfl, List.forall_mem_cons.mpr ⟨rfl, fun _ h => absurd h List.not_mem_nil⟩⟩) (ygf312 hB _ _ c2) (fun v1 m1 cv1 => ?_)
  exact xS_ret (v := v1) rfl rfl xw_rtI cv1
theorem ysl336_122 {B : Nat} (hB : B ≤ 512) {xs : Nat → Int32} {SL d : Nat} {r122 : Int → Int → xw_M → xP} (hr122 : ∀ x2 x3 m, w32 x2 = x2 → w32 x3 = x3 → xS B xs SL (d + 6) 336 (4, (some .int), [], 13) 1 122 [(0, xa 536), (2, xi x2), (3, xi x3)] [] m (r122 x2 x3 m)) : ∀ x2 x3 m, w32 x2 = x2 → w32 x3 = x3 → xS B xs SL (d + 6) 336 (4, (some .int), [], 13) 1 122 [(0, xa 536), (2, xi x2), (3, xi x3)] [] m (yl336_122 B r122 x2 x3 m) := by
  intro x2 x3 m c2 c3
  unfold yl336_122
  refine xS_of (pc' := 127) (L' := [(0, xa 536), (2, xi x2), (3, xi x3)]) (st' := [xi (xR m 536 40), xi x3]) (m' := m) (fun ex ns r q => ?_) ?_
  · refine xw_iload_n rfl rfl ?_
    refine xw_aload_n rfl rfl rfl ?_
    refine xw_gfIc (v := (m 536 40)) (v' := (xR m 536 40)) rfl (xw_obd (by decide +kernel)) xk12_40 (qi := 40) rfl rfl rfl ?_
    exact q
  refine xS_if (fun h0 => ?_) (fun h0 => ?_)
  · refine xS_of (pc' := 134) (L' := [(0, xa 536), (2, xi x2), (3, xi x3)]) (st' := [xi (xR m 536 57)]) (m' := m) (fun ex ns r q => ?_) ?_
    · refine xw_ic_geF rfl (w32_cg c3) (w32_cg (w32_xR _ _ _)) (Int.not_le.mpr h0) ?_
      refine xw_aload_n rfl rfl rfl ?_
      refine xw_gfIc (v := (m 536 57)) (v' := (xR m 536 57)) rfl (xw_obd (by decide +kernel)) xk12_57 (qi := 57) rfl rfl rfl ?_
      exact q
    refine xS_if (fun h1 => ?_) (fun h1 => ?_)
    · refine xS_of (pc' := 155) (L' := [(0, xa 536), (2, xi x2)]) (st' := []) (m' := m) (fun ex ns r q => ?_) ?_
      · refine xw_if_eqT rfl (w32_cg (w32_xR _ _ _)) h1 ?_
        refine xw_lo (L2 := [(0, xa 536), (2, xi x2)]) (List.forall_mem_cons.mpr ⟨rfl, List.forall_mem_cons.mpr ⟨rfl, fun _ h => absurd h List.not_mem_nil⟩⟩) ?_
        exact q
      exact ygk336_155 hB _ _ c2
    · refine xS_g (fun g2 => ?_)
      refine xS_of (pc' := 122) (L' := [(0, xa 536), (2, xi x2), (3, xi (w32 (x3 + 1)))]) (st' := []) (m' := (xw_u m 580 x3 (xR m 582 x3))) (fun ex ns r q => ?_) ?_
      · refine xw_if_eqF rfl (w32_cg (w32_xR _ _ _)) h1 ?_
        refine xw_aload_n rfl rfl rfl ?_
        refine xw_gfR (n := 580) (e := 580) rfl (xw_obd (by decide +kernel)) (by decide +kernel) (by decide +kernel) rfl ?_
        refine xw_iload_n rfl rfl ?_
        refine xw_aload_n rfl rfl rfl ?_
        refine xw_gfR (n := 582) (e := 582) rfl (xw_obd (by decide +kernel)) (by decide +kernel) (by decide +kernel) rfl ?_
        refine xw_iload_n rfl rfl ?_
        refine xw_ialdc (n := 16) (v := (m 582 x3)) (v' := (xR m 582 x3)) rfl hB (xw_obd (by decide +kernel)) rfl g2 rfl rfl ?_
        refine xw_iast (n := 16) rfl hB (xw_obd (by decide +kernel)) rfl g2 ?_
        refine xw_iincc (z := (w32 (x3 + 1))) (L' := [(3, xi (w32 (x3 + 1))), (0, xa 536), (2, xi x2)]) rfl rfl (by decide) rfl rfl ?_
        refine xw_goto rfl ?_
        refine xw_lo (L2 := [(0, xa 536), (2, xi x2), (3, xi (w32 (x3 + 1)))]) (List.forall_mem_cons.mpr ⟨rfl, List.forall_mem_cons.mpr ⟨rfl, List.forall_mem_cons.mpr ⟨rfl, fun _ h => absurd h List.not_mem_nil⟩⟩⟩) ?_
        exact q
      exact hr122 _ _ _ c2 (w32_w _)
  · refine xS_of (pc' := 155) (L' := [(0, xa 536), (2, xi x2)]) (st' := []) (m' := m) (fun ex ns r q => ?_) ?_
    · refine xw_ic_geT rfl (w32_cg c3) (w32_cg (w32_xR _ _ _)) (Int.not_lt.mp h0) ?_
      refine xw_lo (L2 := [(0, xa 536), (2, xi x2)]) (List.forall_mem_cons.mpr ⟨rfl, List.forall_mem_cons.mpr ⟨rfl, fun _ h => absurd h List.not_mem_nil⟩⟩) ?_
      exact q
    exact ygk336_155 hB _ _ c2
theorem ygl336_122 {B : Nat} (hB : B ≤ 512) {xs : Nat → Int32} {SL d : Nat} : ∀ n x2 x3 m, w32 x2 = x2 → w32 x3 = x3 → xS B xs SL (d + 6) 336 (4, (some .int), [], 13) 1 122 [(0, xa 536), (2, xi x2), (3, xi x3)] [] m (xl2 (yl336_122 B) n x2 x3 m) := by
  intro n
  induction n with
  | zero => intro x2 x3 m c2 c3; exact xS_none
  | succ n ih => exact ysl336_122 hB ih
theorem ysl336_50 {B : Nat} (hB : B ≤ 512) {xs : Nat → Int32} {SL d : Nat} {r50 : Int → Int → xw_M → xP} (hr50 : ∀ x1 x2 m, w32 x1 = x1 → w32 x2 = x2 → xS B xs SL (d + 6) 336 (4, (some .int), [], 13) 1 50 [(0, xa 536), (1, xi x1), (2, xi x2)] [] m (r50 x1 x2 m)) : ∀ x1 x2 m, w32 x1 = x1 → w32 x2 = x2 → xS B xs SL (d + 6) 336 (4, (some .int), [], 13) 1 50 [(0, xa 536), (1, xi x1), (2, xi x2)] [] m (yl336_50 B r50 x1 x2 m) := by
  intro x1 x2 m c1 c2
  unfold yl336_50
  refine xS_of (pc' := 55) (L' := [(0, xa 536), (1, xi x1), (2, xi x2)]) (st' := [xi (xR m 536 40), xi x2]) (m' := m) (fun ex ns r q => ?_) ?_
  · refine xw_iload_n rfl rfl ?_
    refine xw_aload_n rfl rfl rfl ?_
    refine xw_gfIc (v := (m 536 40)) (v' := (xR m 536 40)) rfl (xw_obd (by decide +kernel)) xk12_40 (qi := 40) rfl rfl rfl ?_
    exact q
  refine xS_if (fun h0 => ?_) (fun h0 => ?_)
  · refine xS_g (fun g1 => ?_)
    refine xS_of (pc' := 71) (L' := [(0, xa 536), (2, xi x2)]) (st' := [xi (xR m 579 x2), xi (xR m 536 31), xi 0, xa 536, xi x1]) (m' := m) (fun ex ns r q => ?_) ?_
    · refine xw_ic_geF rfl (w32_cg c2) (w32_cg (w32_xR _ _ _)) (Int.not_le.mpr h0) ?_
      refine xw_iload_n rfl rfl ?_
      refine xw_aload_n rfl rfl rfl ?_
      refine xw_iconst rfl ?_
      refine xw_aload_n rfl rfl rfl ?_
      refine xw_gfIc (v := (m 536 31)) (v' := (xR m 536 31)) rfl (xw_obd (by decide +kernel)) xk12_31 (qi := 31) rfl rfl rfl ?_
      refine xw_aload_n rfl rfl rfl ?_
      refine xw_gfR (n := 579) (e := 579) rfl (xw_obd (by decide +kernel)) (by decide +kernel) (by decide +kernel) rfl ?_
      refine xw_iload_n rfl rfl ?_
      refine xw_ialdc (n := 16) (v := (m 579 x2)) (v' := (xR m 579 x2)) rfl hB (xw_obd (by decide +kernel)) rfl g1 rfl rfl ?_
      refine xw_lo (L2 := [(0, xa 536), (2, xi x2)]) (List.forall_mem_cons.mpr ⟨rfl, List.forall_mem_cons.mpr ⟨rfl, fun _ h => absurd h List.not_mem_nil⟩⟩) ?_
      exact q
    refine xS_call (q := 324) (n := 4) (kq := 1) (as := [xa 536, xi 0, xi (xR m 536 31), xi (xR m 579 x2)]) (st1 := [xi x1]) rfl rfl rfl rfl rfl rfl rfl rfl rfl rfl (fun _ => xw_rcv1 (t := 12) (xw_obd (by decide +kernel)) rfl) rfl (List.forall_mem_cons.mpr ⟨rfl, List.forall_mem_cons.mpr ⟨rfl, List.forall_mem_cons.mpr ⟨rfl, List.forall_mem_cons.mpr ⟨rfl, fun _ h => absurd h List.not_mem_nil⟩⟩⟩⟩) (ygf324 hB _ _ _ _ rfl (w32_xR _ _ _) (w32_xR _ _ _)) (fun v1 m1 cv1 => ?_)
    refine xS_of (pc' := 50) (L' := [(0, xa 536), (1, xi (w32 (x1 + v1))), (2, xi (w32 (x2 + 1)))]) (st' := []) (m' := (xw_u m1 582 x2 (xR m1 536 61))) (fun ex ns r q => ?_) ?_
    · refine xw_iadd rfl ?_
      refine xw_cst (st' := [xi (w32 (x1 + v1))]) (xw_sc (xi_c rfl) rfl) ?_
      refine xw_istore_n (L' := [(1, xi (w32 (x1 + v1))), (0, xa 536), (2, xi x2)]) rfl (by decide) rfl ?_
      refine xw_aload_n rfl rfl rfl ?_
      refine xw_gfR (n := 582) (e := 582) rfl (xw_obd (by decide +kernel)) (by decide +kernel) (by decide +kernel) rfl ?_
      refine xw_iload_n rfl rfl ?_
      refine xw_aload_n rfl rfl rfl ?_
      refine xw_gfIc (v := (m1 536 61)) (v' := (xR m1 536 61)) rfl (xw_obd (by decide +kernel)) xk12_61 (qi := 61) rfl rfl rfl ?_
      refine xw_iast (n := 16) rfl hB (xw_obd (by decide +kernel)) rfl g1 ?_
      refine xw_iincc (z := (w32 (x2 + 1))) (L' := [(2, xi (w32 (x2 + 1))), (1, xi (w32 (x1 + v1))), (0, xa 536)]) rfl rfl (by decide) rfl rfl ?_
      refine xw_goto rfl ?_
      refine xw_lo (L2 := [(0, xa 536), (1, xi (w32 (x1 + v1))), (2, xi (w32 (x2 + 1)))]) (List.forall_mem_cons.mpr ⟨rfl, List.forall_mem_cons.mpr ⟨rfl, List.forall_mem_cons.mpr ⟨rfl, fun _ h => absurd h List.not_mem_nil⟩⟩⟩) ?_
      exact q
    exact hr50 _ _ _ (w32_w _) (w32_w _)
  · refine xS_of (pc' := 97) (L' := [(0, xa 536)]) (st' := [xi 1, xi 1, xi 1, xi x1, xa 536]) (m' := m) (fun ex ns r q => ?_) ?_
    · refine xw_ic_geT rfl (w32_cg c2) (w32_cg (w32_xR _ _ _)) (Int.not_lt.mp h0) ?_
      refine xw_aload_n rfl rfl rfl ?_
      refine xw_iload_n rfl rfl ?_
      refine xw_iconst rfl ?_
      refine xw_iconst rfl ?_
      refine xw_iconst rfl ?_
      refine xw_lo (L2 := [(0, xa 536)]) (List.forall_mem_cons.mpr ⟨rfl, fun _ h => absurd h List.not_mem_nil⟩) ?_
      exact q
    refine xS_call (q := 305) (n := 5) (kq := 1) (as := [xa 536, xi x1, xi 1, xi 1, xi 1]) (st1 := []) rfl rfl rfl rfl rfl rfl rfl rfl rfl rfl (fun _ => xw_rcv1 (t := 12) (xw_obd (by decide +kernel)) rfl) rfl (List.forall_mem_cons.mpr ⟨rfl, List.forall_mem_cons.mpr ⟨rfl, List.forall_mem_cons.mpr ⟨rfl, List.forall_mem_cons.mpr ⟨rfl, List.forall_mem_cons.mpr ⟨rfl, fun _ h => absurd h List.not_mem_nil⟩⟩⟩⟩⟩) (ygf305 hB _ _ _ _ _ c1 rfl rfl rfl) (fun v2 m2 cv2 => ?_)
    refine xS_of (pc' := 104) (L' := [(2, xi v2), (0, xa 536)]) (st' := [xi (-2), xi v2]) (m' := m2) (fun ex ns r q => ?_) ?_
    · refine xw_istore_n (L' := [(2, xi v2), (0, xa 536)]) rfl (by decide) rfl ?_
      refine xw_iload_n rfl rfl ?_
      refine xw_bipush (e := (-2)) rfl (by decide +kernel) ?_
      exact q
    refine xS_if (fun h1 => ?_) (fun h1 => ?_)
    · refine xS_of (pc' := 109) (L' := [(2, xi v2), (0, xa 536)]) (st' := [xi (-2)]) (m' := m2) (fun ex ns r q => ?_) ?_
      · refine xw_ic_neF rfl (w32_cg cv2) (w32_cg rfl) h1 ?_
        refine xw_bipush (e := (-2)) rfl (by decide +kernel) ?_
        exact q
      exact xS_ret (v := (-2)) rfl rfl xw_rtI rfl
    · refine xS_of (pc' := 122) (L' := [(0, xa 536), (2, xi v2), (3, xi 0)]) (st' := []) (m' := (xw_u m2 536 39 ((xR m2 536 39) + 1))) (fun ex ns r q => ?_) ?_
      · refine xw_ic_neT rfl (w32_cg cv2) (w32_cg rfl) h1 ?_
        refine xw_aload_n rfl rfl rfl ?_
        refine xw_dup rfl rfl ?_
        refine xw_gfIc (v := (m2 536 39)) (v' := (xR m2 536 39)) rfl (xw_obd (by decide +kernel)) xk12_39 (qi := 39) rfl rfl rfl ?_
        refine xw_iconst rfl ?_
        refine xw_iadd rfl ?_
        refine xw_pfI rfl (xw_obd (by decide +kernel)) xk12_39 (qi := 39) rfl (xw_okI rfl) ?_
        refine xw_iconst rfl ?_
        refine xw_istore_n (L' := [(3, xi 0), (2, xi v2), (0, xa 536)]) rfl (by decide) rfl ?_
        refine xw_lo (L2 := [(0, xa 536), (2, xi v2), (3, xi 0)]) (List.forall_mem_cons.mpr ⟨rfl, List.forall_mem_cons.mpr ⟨rfl, List.forall_mem_cons.mpr ⟨rfl, fun _ h => absurd h List.not_mem_nil⟩⟩⟩) ?_
        exact q
      exact ygl336_122 hB 1000000 _ _ _ cv2 rfl
theorem ygl336_50 {B : Nat} (hB : B ≤ 512) {xs : Nat → Int32} {SL d : Nat} : ∀ n x1 x2 m, w32 x1 = x1 → w32 x2 = x2 → xS B xs SL (d + 6) 336 (4, (some .int), [], 13) 1 50 [(0, xa 536), (1, xi x1), (2, xi x2)] [] m (xl2 (yl336_50 B) n x1 x2 m) := by
  intro n
  induction n with
  | zero => intro x1 x2 m c1 c2; exact xS_none
  | succ n ih => exact ysl336_50 hB ih
theorem ygf336 {B : Nat} (hB : B ≤ 512) {xs : Nat → Int32} {SL d : Nat} : ∀ m, xS B xs SL (d + 6) 336 (4, (some .int), [], 13) 1 0 [(0, xa 536)] [] m (yf336 B m) := by
  intro m
  unfold yf336
  refine xS_of (pc' := 2) (L' := [(0, xa 536)]) (st' := [xa 536, xa 536]) (m' := m) (fun ex ns r q => ?_) ?_
  · refine xw_aload_n rfl rfl rfl ?_
    refine xw_aload_n rfl rfl rfl ?_
    refine xw_lo (L2 := [(0, xa 536)]) (List.forall_mem_cons.mpr ⟨rfl, fun _ h => absurd h List.not_mem_nil⟩) ?_
    exact q
  refine xS_call (q := 320) (n := 1) (kq := 4) (as := [xa 536]) (st1 := [xa 536]) rfl rfl rfl rfl rfl rfl rfl rfl rfl rfl (fun _ => xw_rcv1 (t := 12) (xw_obd (by decide +kernel)) rfl) rfl (List.forall_mem_cons.mpr ⟨rfl, fun _ h => absurd h List.not_mem_nil⟩) (ygf320 hB _) (fun v1 m1 cv1 => ?_)
  refine xS_if (fun h0 => ?_) (fun h0 => ?_)
  · refine xS_of (pc' := 33) (L' := [(0, xa 536)]) (st' := [xi 0]) (m' := (xw_u m1 536 1 1)) (fun ex ns r q => ?_) ?_
    · refine xw_if_eqT rfl (w32_cg (w32_of (xw_zr cv1))) h0 ?_
      refine xw_iconst rfl ?_
      refine xw_pfI rfl (xw_obd (by decide +kernel)) xk12_1 (qi := 1) rfl (xw_okI rfl) ?_
      refine xw_aload_n rfl rfl rfl ?_
      refine xw_gfIc (v := 1) (v' := 1) rfl (xw_obd (by decide +kernel)) xk12_1 (qi := 1) rfl xw_us rfl ?_
      refine xw_if_leF rfl (w32_cg rfl) (Int.not_le.mpr (by decide)) ?_
      refine xw_iconst rfl ?_
      exact q
    exact xS_ret (v := 0) rfl rfl xw_rtI rfl
  · refine xS_of (pc' := 14) (L' := [(0, xa 536)]) (st' := [xi 100, xi (xR m1 536 39), xa 536]) (m' := m1) (fun ex ns r q => ?_) ?_
    · refine xw_if_eqF rfl (w32_cg (w32_of (xw_zr cv1))) h0 ?_
      refine xw_aload_n rfl rfl rfl ?_
      refine xw_gfIc (v := (m1 536 39)) (v' := (xR m1 536 39)) rfl (xw_obd (by decide +kernel)) xk12_39 (qi := 39) rfl rfl rfl ?_
      refine xw_bipush (e := 100) rfl (by decide +kernel) ?_
      exact q
    refine xS_if (fun h1 => ?_) (fun h1 => ?_)
    · refine xS_of (pc' := 43) (L' := [(0, xa 536)]) (st' := [xi (-1), xi (xR m1 536 31), xi 0, xa 536, xi 8]) (m' := (xw_u m1 536 1 0)) (fun ex ns r q => ?_) ?_
      · refine xw_ic_geF rfl (w32_cg (w32_xR _ _ _)) (w32_cg rfl) (Int.not_le.mpr h1) ?_
        refine xw_iconst rfl ?_
        refine xw_goto rfl ?_
        refine xw_pfI rfl (xw_obd (by decide +kernel)) xk12_1 (qi := 1) rfl (xw_okI rfl) ?_
        refine xw_aload_n rfl rfl rfl ?_
        refine xw_gfIc (v := 0) (v' := 0) rfl (xw_obd (by decide +kernel)) xk12_1 (qi := 1) rfl xw_us rfl ?_
        refine xw_if_leT rfl (w32_cg rfl) (Int.not_lt.mp (by decide)) ?_
        refine xw_bipush (e := 8) rfl (by decide +kernel) ?_
        refine xw_aload_n rfl rfl rfl ?_
        refine xw_iconst rfl ?_
        refine xw_aload_n rfl rfl rfl ?_
        refine xw_gfIc (v := (m1 536 31)) (v' := (xR m1 536 31)) rfl (xw_obd (by decide +kernel)) xk12_31 (qi := 31) rfl (xw_un (fun e => absurd e.2 (by decide)) rfl) rfl ?_
        refine xw_iconst rfl ?_
        refine xw_lo (L2 := [(0, xa 536)]) (List.forall_mem_cons.mpr ⟨rfl, fun _ h => absurd h List.not_mem_nil⟩) ?_
        exact q
      refine xS_call (q := 324) (n := 4) (kq := 1) (as := [xa 536, xi 0, xi (xR m1 536 31), xi (-1)]) (st1 := [xi 8]) rfl rfl rfl rfl rfl rfl rfl rfl rfl rfl (fun _ => xw_rcv1 (t := 12) (xw_obd (by decide +kernel)) rfl) rfl (List.forall_mem_cons.mpr ⟨rfl, List.forall_mem_cons.mpr ⟨rfl, List.forall_mem_cons.mpr ⟨rfl, List.forall_mem_cons.mpr ⟨rfl, fun _ h => absurd h List.not_mem_nil⟩⟩⟩⟩) (ygf324 hB _ _ _ _ rfl (w32_xR _ _ _) rfl) (fun v2 m2 cv2 => ?_)
      refine xS_of (pc' := 50) (L' := [(0, xa 536), (1, xi (w32 (8 + v2))), (2, xi 0)]) (st' := []) (m' := m2) (fun ex ns r q => ?_) ?_
      · refine xw_iadd rfl ?_
        refine xw_cst (st' := [xi (w32 (8 + v2))]) (xw_sc (xi_c rfl) rfl) ?_
        refine xw_istore_n (L' := [(1, xi (w32 (8 + v2))), (0, xa 536)]) rfl (by decide) rfl ?_
        refine xw_iconst rfl ?_
        refine xw_istore_n (L' := [(2, xi 0), (1, xi (w32 (8 + v2))), (0, xa 536)]) rfl (by decide) rfl ?_
        refine xw_lo (L2 := [(0, xa 536), (1, xi (w32 (8 + v2))), (2, xi 0)]) (List.forall_mem_cons.mpr ⟨rfl, List.forall_mem_cons.mpr ⟨rfl, List.forall_mem_cons.mpr ⟨rfl, fun _ h => absurd h List.not_mem_nil⟩⟩⟩) ?_
        exact q
      exact ygl336_50 hB 1000000 _ _ _ (w32_w _) rfl
    · refine xS_of (pc' := 33) (L' := [(0, xa 536)]) (st' := [xi 0]) (m' := (xw_u m1 536 1 1)) (fun ex ns r q => ?_) ?_
      · refine xw_ic_geT rfl (w32_cg (w32_xR _ _ _)) (w32_cg rfl) (Int.not_lt.mp h1) ?_
        refine xw_iconst rfl ?_
        refine xw_pfI rfl (xw_obd (by decide +kernel)) xk12_1 (qi := 1) rfl (xw_okI rfl) ?_
        refine xw_aload_n rfl rfl rfl ?_
        refine xw_gfIc (v := 1) (v' := 1) rfl (xw_obd (by decide +kernel)) xk12_1 (qi := 1) rfl xw_us rfl ?_
        refine xw_if_leF rfl (w32_cg rfl) (Int.not_le.mpr (by decide)) ?_
        refine xw_iconst rfl ?_
        exact q
      exact xS_ret (v := 0) rfl rfl xw_rtI rfl
theorem ygf337 {B : Nat} (hB : B ≤ 512) {xs : Nat → Int32} {SL d : Nat} : ∀ m, xS B xs SL (d + 0) 337 (1, (some .int), [], 13) 1 0 [(0, xa 536)] [] m (yf337 B m) := by
  intro m
  unfold yf337
  refine xS_of (pc' := 9) (L' := [(0, xa 536)]) (st' := [xi (xR m 536 3)]) (m' := (xw_u m 536 1 0)) (fun ex ns r q => ?_) ?_
  · refine xw_aload_n rfl rfl rfl ?_
    refine xw_iconst rfl ?_
    refine xw_pfI rfl (xw_obd (by decide +kernel)) xk12_1 (qi := 1) rfl (xw_okI rfl) ?_
    refine xw_aload_n rfl rfl rfl ?_
    refine xw_gfIc (v := (m 536 3)) (v' := (xR m 536 3)) rfl (xw_obd (by decide +kernel)) xk12_3 (qi := 3) rfl (xw_un (fun e => absurd e.2 (by decide)) rfl) rfl ?_
    exact q
  refine xS_if (fun h0 => ?_) (fun h0 => ?_)
  · refine xS_of (pc' := 20) (L' := [(0, xa 536)]) (st' := [xi (xR m 536 2)]) (m' := (xw_u m 536 1 0)) (fun ex ns r q => ?_) ?_
    · refine xw_if_eqT rfl (w32_cg (w32_xR _ _ _)) h0 ?_
      refine xw_aload_n rfl rfl rfl ?_
      refine xw_gfIc (v := (m 536 2)) (v' := (xR m 536 2)) rfl (xw_obd (by decide +kernel)) xk12_2 (qi := 2) rfl (xw_un (fun e => absurd e.2 (by decide)) rfl) rfl ?_
      exact q
    refine xS_if (fun h1 => ?_) (fun h1 => ?_)
    · refine xS_of (pc' := 28) (L' := [(0, xa 536)]) (st' := [xi 0]) (m' := (xw_u m 536 1 0)) (fun ex ns r q => ?_) ?_
      · refine xw_if_eqT rfl (w32_cg (w32_xR _ _ _)) h1 ?_
        refine xw_iconst rfl ?_
        exact q
      exact xS_ret (v := 0) rfl rfl xw_rtI rfl
    · refine xS_of (pc' := 28) (L' := [(0, xa 536)]) (st' := [xi 1]) (m' := (xw_u m 536 1 0)) (fun ex ns r q => ?_) ?_
      · refine xw_if_eqF rfl (w32_cg (w32_xR _ _ _)) h1 ?_
        refine xw_iconst rfl ?_
        refine xw_goto rfl ?_
        exact q
      exact xS_ret (v := 1) rfl rfl xw_rtI rfl
  · refine xS_of (pc' := 28) (L' := [(0, xa 536)]) (st' := [xi 2]) (m' := (xw_u m 536 1 0)) (fun ex ns r q => ?_) ?_
    · refine xw_if_eqF rfl (w32_cg (w32_xR _ _ _)) h0 ?_
      refine xw_iconst rfl ?_
      refine xw_goto rfl ?_
      exact q
    exact xS_ret (v := 2) rfl rfl xw_rtI rfl
theorem ygf338 {B : Nat} (hB : B ≤ 512) {xs : Nat → Int32} {SL d : Nat} : ∀ m, xS B xs SL (d + 0) 338 (1, (some .int), [], 13) 1 0 [(0, xa 536)] [] m (yf338 B m) := by
  intro m
  unfold yf338
  refine xS_of (pc' := 9) (L' := [(0, xa 536)]) (st' := [xi (xR m 536 50)]) (m' := (xw_u m 536 1 0)) (fun ex ns r q => ?_) ?_
  · refine xw_aload_n rfl rfl rfl ?_
    refine xw_iconst rfl ?_
    refine xw_pfI rfl (xw_obd (by decide +kernel)) xk12_1 (qi := 1) rfl (xw_okI rfl) ?_
    refine xw_aload_n rfl rfl rfl ?_
    refine xw_gfIc (v := (m 536 50)) (v' := (xR m 536 50)) rfl (xw_obd (by decide +kernel)) xk12_50 (qi := 50) rfl (xw_un (fun e => absurd e.2 (by decide)) rfl) rfl ?_
    exact q
  exact xS_ret (v := (xR m 536 50)) rfl rfl xw_rtI (w32_xR _ _ _)
theorem ysl339_108 {B : Nat} (hB : B ≤ 512) {xs : Nat → Int32} {SL d : Nat} {r108 : Int → Int → xw_M → xP} (hr108 : ∀ x2 x3 m, w32 x2 = x2 → w32 x3 = x3 → xS B xs SL (d + 1) 339 (4, (some .int), [], 13) 1 108 [(0, xa 536), (2, xi x2), (3, xi x3)] [] m (r108 x2 x3 m)) : ∀ x2 x3 m, w32 x2 = x2 → w32 x3 = x3 → xS B xs SL (d + 1) 339 (4, (some .int), [], 13) 1 108 [(0, xa 536), (2, xi x2), (3, xi x3)] [] m (yl339_108 B r108 x2 x3 m) := by
  intro x2 x3 m c2 c3
  unfold yl339_108
  refine xS_of (pc' := 113) (L' := [(0, xa 536), (2, xi x2), (3, xi x3)]) (st' := [xi (xR m 536 49), xi x3]) (m' := m) (fun ex ns r q => ?_) ?_
  · refine xw_iload_n rfl rfl ?_
    refine xw_aload_n rfl rfl rfl ?_
    refine xw_gfIc (v := (m 536 49)) (v' := (xR m 536 49)) rfl (xw_obd (by decide +kernel)) xk12_49 (qi := 49) rfl rfl rfl ?_
    exact q
  refine xS_if (fun h0 => ?_) (fun h0 => ?_)
  · refine xS_g (fun g1 => ?_)
    refine xS_of (pc' := 123) (L' := [(0, xa 536), (2, xi x2), (3, xi x3)]) (st' := [xi (xR m 589 x3), xi x2]) (m' := m) (fun ex ns r q => ?_) ?_
    · refine xw_ic_geF rfl (w32_cg c3) (w32_cg (w32_xR _ _ _)) (Int.not_le.mpr h0) ?_
      refine xw_iload_n rfl rfl ?_
      refine xw_aload_n rfl rfl rfl ?_
      refine xw_gfR (n := 589) (e := 589) rfl (xw_obd (by decide +kernel)) (by decide +kernel) (by decide +kernel) rfl ?_
      refine xw_iload_n rfl rfl ?_
      refine xw_zaldc (n := 512) (v := (m 589 x3)) (v' := (xR m 589 x3)) rfl hB (xw_obd (by decide +kernel)) rfl g1 rfl rfl ?_
      exact q
    refine xS_if (fun h2 => ?_) (fun h2 => ?_)
    · refine xS_of (pc' := 108) (L' := [(0, xa 536), (2, xi (w32 (x2 + 1))), (3, xi (w32 (x3 + 1)))]) (st' := []) (m' := m) (fun ex ns r q => ?_) ?_
      · refine xw_if_eqT rfl (w32_cg (w32_xR _ _ _)) h2 ?_
        refine xw_iconst rfl ?_
        refine xw_iadd rfl ?_
        refine xw_cst (st' := [xi (w32 (x2 + 1))]) (xw_sc (xi_c rfl) rfl) ?_
        refine xw_istore_n (L' := [(2, xi (w32 (x2 + 1))), (0, xa 536), (3, xi x3)]) rfl (by decide) rfl ?_
        refine xw_iincc (z := (w32 (x3 + 1))) (L' := [(3, xi (w32 (x3 + 1))), (2, xi (w32 (x2 + 1))), (0, xa 536)]) rfl rfl (by decide) rfl rfl ?_
        refine xw_goto rfl ?_
        refine xw_lo (L2 := [(0, xa 536), (2, xi (w32 (x2 + 1))), (3, xi (w32 (x3 + 1)))]) (List.forall_mem_cons.mpr ⟨rfl, List.forall_mem_cons.mpr ⟨rfl, List.forall_mem_cons.mpr ⟨rfl, fun _ h => absurd h List.not_mem_nil⟩⟩⟩) ?_
        exact q
      exact hr108 _ _ _ (w32_w _) (w32_w _)
    · refine xS_of (pc' := 108) (L' := [(0, xa 536), (2, xi (w32 (x2 + 0))), (3, xi (w32 (x3 + 1)))]) (st' := []) (m' := m) (fun ex ns r q => ?_) ?_
      · refine xw_if_eqF rfl (w32_cg (w32_xR _ _ _)) h2 ?_
        refine xw_iconst rfl ?_
        refine xw_goto rfl ?_
        refine xw_iadd rfl ?_
        refine xw_cst (st' := [xi (w32 (x2 + 0))]) (xw_sc (xi_c rfl) rfl) ?_
        refine xw_istore_n (L' := [(2, xi (w32 (x2 + 0))), (0, xa 536), (3, xi x3)]) rfl (by decide) rfl ?_
        refine xw_iincc (z := (w32 (x3 + 1))) (L' := [(3, xi (w32 (x3 + 1))), (2, xi (w32 (x2 + 0))), (0, xa 536)]) rfl rfl (by decide) rfl rfl ?_
        refine xw_goto rfl ?_
        refine xw_lo (L2 := [(0, xa 536), (2, xi (w32 (x2 + 0))), (3, xi (w32 (x3 + 1)))]) (List.forall_mem_cons.mpr ⟨rfl, List.forall_mem_cons.mpr ⟨rfl, List.forall_mem_cons.mpr ⟨rfl, fun _ h => absurd h List.not_mem_nil⟩⟩⟩) ?_
        exact q
      exact hr108 _ _ _ (w32_w _) (w32_w _)
  · refine xS_of (pc' := 140) (L' := [(0, xa 536), (2, xi x2), (3, xi x3)]) (st' := [xi x2]) (m' := m) (fun ex ns r q => ?_) ?_
    · refine xw_ic_geT rfl (w32_cg c3) (w32_cg (w32_xR _ _ _)) (Int.not_lt.mp h0) ?_
      refine xw_iload_n rfl rfl ?_
      exact q
    exact xS_ret (v := x2) rfl rfl xw_rtI c2
theorem ygl339_108 {B : Nat} (hB : B ≤ 512) {xs : Nat → Int32} {SL d : Nat} : ∀ n x2 x3 m, w32 x2 = x2 → w32 x3 = x3 → xS B xs SL (d + 1) 339 (4, (some .int), [], 13) 1 108 [(0, xa 536), (2, xi x2), (3, xi x3)] [] m (xl2 (yl339_108 B) n x2 x3 m) := by
  intro n
  induction n with
  | zero => intro x2 x3 m c2 c3; exact xS_none
  | succ n ih => exact ysl339_108 hB ih
theorem ygf339 {B : Nat} (hB : B ≤ 512) {xs : Nat → Int32} {SL d : Nat} : ∀ p0 m, w32 p0 = p0 → xS B xs SL (d + 1) 339 (4, (some .int), [], 13) 1 0 [(0, xa 536), (1, xi p0)] [] m (yf339 B p0 m) := by
  intro p0 m cp0
  unfold yf339
  refine xS_of (pc' := 2) (L' := [(0, xa 536), (1, xi p0)]) (st' := [xi p0, xa 536]) (m' := m) (fun ex ns r q => ?_) ?_
  · refine xw_aload_n rfl rfl rfl ?_
    refine xw_iload_n rfl rfl ?_
    exact q
  refine xS_if (fun h0 => ?_) (fun h0 => ?_)
  · refine xS_of (pc' := 38) (L' := [(0, xa 536), (1, xi p0)]) (st' := [xi 0]) (m' := (xw_u m 536 1 1)) (fun ex ns r q => ?_) ?_
    · refine xw_if_ltT rfl (w32_cg cp0) h0 ?_
      refine xw_iconst rfl ?_
      refine xw_goto rfl ?_
      refine xw_pfI rfl (xw_obd (by decide +kernel)) xk12_1 (qi := 1) rfl (xw_okI rfl) ?_
      refine xw_aload_n rfl rfl rfl ?_
      refine xw_gfIc (v := 1) (v' := 1) rfl (xw_obd (by decide +kernel)) xk12_1 (qi := 1) rfl xw_us rfl ?_
      refine xw_if_leF rfl (w32_cg rfl) (Int.not_le.mpr (by decide)) ?_
      refine xw_iconst rfl ?_
      exact q
    exact xS_ret (v := 0) rfl rfl xw_rtI rfl
  · refine xS_of (pc' := 8) (L' := [(0, xa 536), (1, xi p0)]) (st' := [xi 6, xi p0, xa 536]) (m' := m) (fun ex ns r q => ?_) ?_
    · refine xw_if_ltF rfl (w32_cg cp0) h0 ?_
      refine xw_iload_n rfl rfl ?_
      refine xw_bipush (e := 6) rfl (by decide +kernel) ?_
      exact q
    refine xS_if (fun h1 => ?_) (fun h1 => ?_)
    · refine xS_of (pc' := 38) (L' := [(0, xa 536), (1, xi p0)]) (st' := [xi 0]) (m' := (xw_u m 536 1 1)) (fun ex ns r q => ?_) ?_
      · refine xw_ic_leF rfl (w32_cg cp0) (w32_cg rfl) (Int.not_le.mpr h1) ?_
        refine xw_iconst rfl ?_
        refine xw_goto rfl ?_
        refine xw_pfI rfl (xw_obd (by decide +kernel)) xk12_1 (qi := 1) rfl (xw_okI rfl) ?_
        refine xw_aload_n rfl rfl rfl ?_
        refine xw_gfIc (v := 1) (v' := 1) rfl (xw_obd (by decide +kernel)) xk12_1 (qi := 1) rfl xw_us rfl ?_
        refine xw_if_leF rfl (w32_cg rfl) (Int.not_le.mpr (by decide)) ?_
        refine xw_iconst rfl ?_
        exact q
      exact xS_ret (v := 0) rfl rfl xw_rtI rfl
    · refine xS_of (pc' := 19) (L' := [(0, xa 536), (1, xi p0)]) (st' := [xi (xR m 536 3), xa 536]) (m' := m) (fun ex ns r q => ?_) ?_
      · refine xw_ic_leT rfl (w32_cg cp0) (w32_cg rfl) (Int.not_lt.mp h1) ?_
        refine xw_aload_n rfl rfl rfl ?_
        refine xw_gfIc (v := (m 536 3)) (v' := (xR m 536 3)) rfl (xw_obd (by decide +kernel)) xk12_3 (qi := 3) rfl rfl rfl ?_
        exact q
      refine xS_if (fun h2 => ?_) (fun h2 => ?_)
      · refine xS_of (pc' := 40) (L' := [(0, xa 536), (1, xi p0)]) (st' := [xi p0]) (m' := (xw_u m 536 1 0)) (fun ex ns r q => ?_) ?_
        · refine xw_if_eqT rfl (w32_cg (w32_xR _ _ _)) h2 ?_
          refine xw_iconst rfl ?_
          refine xw_pfI rfl (xw_obd (by decide +kernel)) xk12_1 (qi := 1) rfl (xw_okI rfl) ?_
          refine xw_aload_n rfl rfl rfl ?_
          refine xw_gfIc (v := 0) (v' := 0) rfl (xw_obd (by decide +kernel)) xk12_1 (qi := 1) rfl xw_us rfl ?_
          refine xw_if_leT rfl (w32_cg rfl) (Int.not_lt.mp (by decide)) ?_
          refine xw_iload_n rfl rfl ?_
          exact q
        refine xS_if (fun h3 => ?_) (fun h3 => ?_)
        · refine xS_of (pc' := 84) (L' := [(0, xa 536), (1, xi p0)]) (st' := [xi (xR m 536 38)]) (m' := (xw_u m 536 1 0)) (fun ex ns r q => ?_) ?_
          · refine xw_sw (t := 80) rfl (by rw [h3]; rfl) ?_
            refine xw_aload_n rfl rfl rfl ?_
            refine xw_gfIc (v := (m 536 38)) (v' := (xR m 536 38)) rfl (xw_obd (by decide +kernel)) xk12_38 (qi := 38) rfl (xw_un (fun e => absurd e.2 (by decide)) rfl) rfl ?_
            exact q
          exact xS_ret (v := (xR m 536 38)) rfl rfl xw_rtI (w32_xR _ _ _)
        · refine xS_if (fun h4 => ?_) (fun h4 => ?_)
          · refine xS_of (pc' := 89) (L' := [(0, xa 536), (1, xi p0)]) (st' := [xi (xR m 536 31)]) (m' := (xw_u m 536 1 0)) (fun ex ns r q => ?_) ?_
            · refine xw_sw (t := 85) rfl (by rw [h4]; rfl) ?_
              refine xw_aload_n rfl rfl rfl ?_
              refine xw_gfIc (v := (m 536 31)) (v' := (xR m 536 31)) rfl (xw_obd (by decide +kernel)) xk12_31 (qi := 31) rfl (xw_un (fun e => absurd e.2 (by decide)) rfl) rfl ?_
              exact q
            exact xS_ret (v := (xR m 536 31)) rfl rfl xw_rtI (w32_xR _ _ _)
          · refine xS_if (fun h5 => ?_) (fun h5 => ?_)
            · refine xS_of (pc' := 94) (L' := [(0, xa 536), (1, xi p0)]) (st' := [xi (xR m 536 40)]) (m' := (xw_u m 536 1 0)) (fun ex ns r q => ?_) ?_
              · refine xw_sw (t := 90) rfl (by rw [h5]; rfl) ?_
                refine xw_aload_n rfl rfl rfl ?_
                refine xw_gfIc (v := (m 536 40)) (v' := (xR m 536 40)) rfl (xw_obd (by decide +kernel)) xk12_40 (qi := 40) rfl (xw_un (fun e => absurd e.2 (by decide)) rfl) rfl ?_
                exact q
              exact xS_ret (v := (xR m 536 40)) rfl rfl xw_rtI (w32_xR _ _ _)
            · refine xS_if (fun h6 => ?_) (fun h6 => ?_)
              · refine xS_of (pc' := 99) (L' := [(0, xa 536), (1, xi p0)]) (st' := [xi (xR m 536 52)]) (m' := (xw_u m 536 1 0)) (fun ex ns r q => ?_) ?_
                · refine xw_sw (t := 95) rfl (by rw [h6]; rfl) ?_
                  refine xw_aload_n rfl rfl rfl ?_
                  refine xw_gfIc (v := (m 536 52)) (v' := (xR m 536 52)) rfl (xw_obd (by decide +kernel)) xk12_52 (qi := 52) rfl (xw_un (fun e => absurd e.2 (by decide)) rfl) rfl ?_
                  exact q
                exact xS_ret (v := (xR m 536 52)) rfl rfl xw_rtI (w32_xR _ _ _)
              · refine xS_if (fun h7 => ?_) (fun h7 => ?_)
                · refine xS_of (pc' := 101) (L' := [(0, xa 536)]) (st' := [xa 536]) (m' := (xw_u m 536 1 0)) (fun ex ns r q => ?_) ?_
                  · refine xw_sw (t := 100) rfl (by rw [h7]; rfl) ?_
                    refine xw_aload_n rfl rfl rfl ?_
                    refine xw_lo (L2 := [(0, xa 536)]) (List.forall_mem_cons.mpr ⟨rfl, fun _ h => absurd h List.not_mem_nil⟩) ?_
                    exact q
                  refine xS_call (q := 308) (n := 1) (kq := 0) (as := [xa 536]) (st1 := []) rfl rfl rfl rfl rfl rfl rfl rfl rfl rfl (fun _ => xw_rcv1 (t := 12) (xw_obd (by decide +kernel)) rfl) rfl (List.forall_mem_cons.mpr ⟨rfl, fun _ h => absurd h List.not_mem_nil⟩) (ygf308 hB _) (fun v1 m1 cv1 => ?_)
                  refine xS_of (pc' := 108) (L' := [(0, xa 536), (2, xi 0), (3, xi 0)]) (st' := []) (m' := m1) (fun ex ns r q => ?_) ?_
                  · refine xw_iconst rfl ?_
                    refine xw_istore_n (L' := [(2, xi 0), (0, xa 536)]) rfl (by decide) rfl ?_
                    refine xw_iconst rfl ?_
                    refine xw_istore_n (L' := [(3, xi 0), (2, xi 0), (0, xa 536)]) rfl (by decide) rfl ?_
                    refine xw_lo (L2 := [(0, xa 536), (2, xi 0), (3, xi 0)]) (List.forall_mem_cons.mpr ⟨rfl, List.forall_mem_cons.mpr ⟨rfl, List.forall_mem_cons.mpr ⟨rfl, fun _ h => absurd h List.not_mem_nil⟩⟩⟩) ?_
                    exact q
                  exact ygl339_108 hB 1000000 _ _ _ rfl rfl
                · refine xS_if (fun h8 => ?_) (fun h8 => ?_)
                  · refine xS_of (pc' := 145) (L' := [(0, xa 536), (1, xi p0)]) (st' := [xi (xR m 536 32)]) (m' := (xw_u m 536 1 0)) (fun ex ns r q => ?_) ?_
                    · refine xw_sw (t := 141) rfl (by rw [h8]; rfl) ?_
                      refine xw_aload_n rfl rfl rfl ?_
                      refine xw_gfIc (v := (m 536 32)) (v' := (xR m 536 32)) rfl (xw_obd (by decide +kernel)) xk12_32 (qi := 32) rfl (xw_un (fun e => absurd e.2 (by decide)) rfl) rfl ?_
                      exact q
                    exact xS_ret (v := (xR m 536 32)) rfl rfl xw_rtI (w32_xR _ _ _)
                  · refine xS_of (pc' := 150) (L' := [(0, xa 536), (1, xi p0)]) (st' := [xi (xR m 536 5)]) (m' := (xw_u m 536 1 0)) (fun ex ns r q => ?_) ?_
                    · refine xw_sw (t := 146) rfl (xw_swd (w32_cg cp0) (by have := h3; have := h4; have := h5; have := h6; have := h7; have := h8; omega) rfl) ?_
                      refine xw_aload_n rfl rfl rfl ?_
                      refine xw_gfIc (v := (m 536 5)) (v' := (xR m 536 5)) rfl (xw_obd (by decide +kernel)) xk12_5 (qi := 5) rfl (xw_un (fun e => absurd e.2 (by decide)) rfl) rfl ?_
                      exact q
                    exact xS_ret (v := (xR m 536 5)) rfl rfl xw_rtI (w32_xR _ _ _)
      · refine xS_of (pc' := 38) (L' := [(0, xa 536), (1, xi p0)]) (st' := [xi 0]) (m' := (xw_u m 536 1 2)) (fun ex ns r q => ?_) ?_
        · refine xw_if_eqF rfl (w32_cg (w32_xR _ _ _)) h2 ?_
          refine xw_iconst rfl ?_
          refine xw_goto rfl ?_
          refine xw_pfI rfl (xw_obd (by decide +kernel)) xk12_1 (qi := 1) rfl (xw_okI rfl) ?_
          refine xw_aload_n rfl rfl rfl ?_
          refine xw_gfIc (v := 2) (v' := 2) rfl (xw_obd (by decide +kernel)) xk12_1 (qi := 1) rfl xw_us rfl ?_
          refine xw_if_leF rfl (w32_cg rfl) (Int.not_le.mpr (by decide)) ?_
          refine xw_iconst rfl ?_
          exact q
        exact xS_ret (v := 0) rfl rfl xw_rtI rfl
theorem ygf340 {B : Nat} (hB : B ≤ 512) {xs : Nat → Int32} {SL d : Nat} : ∀ p0 p1 m, w32 p0 = p0 → w32 p1 = p1 → xS B xs SL (d + 1) 340 (3, (some .int), [], 13) 1 0 [(0, xa 536), (1, xi p0), (2, xi p1)] [] m (yf340 B p0 p1 m) := by
  intro p0 p1 m cp0 cp1
  unfold yf340
  refine xS_of (pc' := 5) (L' := [(0, xa 536), (1, xi p0), (2, xi p1)]) (st' := [xi (xR m 536 3), xa 536]) (m' := m) (fun ex ns r q => ?_) ?_
  · refine xw_aload_n rfl rfl rfl ?_
    refine xw_aload_n rfl rfl rfl ?_
    refine xw_gfIc (v := (m 536 3)) (v' := (xR m 536 3)) rfl (xw_obd (by decide +kernel)) xk12_3 (qi := 3) rfl rfl rfl ?_
    exact q
  refine xS_if (fun h0 => ?_) (fun h0 => ?_)
  · refine xS_of (pc' := 9) (L' := [(0, xa 536), (1, xi p0), (2, xi p1)]) (st' := [xi p0, xa 536]) (m' := m) (fun ex ns r q => ?_) ?_
    · refine xw_if_neF rfl (w32_cg (w32_xR _ _ _)) h0 ?_
      refine xw_iload_n rfl rfl ?_
      exact q
    refine xS_if (fun h1 => ?_) (fun h1 => ?_)
    · refine xS_of (pc' := 62) (L' := [(0, xa 536), (1, xi p0), (2, xi p1)]) (st' := [xi 0]) (m' := (xw_u m 536 1 1)) (fun ex ns r q => ?_) ?_
      · refine xw_if_ltT rfl (w32_cg cp0) h1 ?_
        refine xw_iconst rfl ?_
        refine xw_goto rfl ?_
        refine xw_pfI rfl (xw_obd (by decide +kernel)) xk12_1 (qi := 1) rfl (xw_okI rfl) ?_
        refine xw_aload_n rfl rfl rfl ?_
        refine xw_gfIc (v := 1) (v' := 1) rfl (xw_obd (by decide +kernel)) xk12_1 (qi := 1) rfl xw_us rfl ?_
        refine xw_if_leF rfl (w32_cg rfl) (Int.not_le.mpr (by decide)) ?_
        refine xw_iconst rfl ?_
        refine xw_goto rfl ?_
        exact q
      exact xS_ret (v := 0) rfl rfl xw_rtI rfl
    · refine xS_of (pc' := 17) (L' := [(0, xa 536), (1, xi p0), (2, xi p1)]) (st' := [xi (xR m 536 40), xi p0, xa 536]) (m' := m) (fun ex ns r q => ?_) ?_
      · refine xw_if_ltF rfl (w32_cg cp0) h1 ?_
        refine xw_iload_n rfl rfl ?_
        refine xw_aload_n rfl rfl rfl ?_
        refine xw_gfIc (v := (m 536 40)) (v' := (xR m 536 40)) rfl (xw_obd (by decide +kernel)) xk12_40 (qi := 40) rfl rfl rfl ?_
        exact q
      refine xS_if (fun h2 => ?_) (fun h2 => ?_)
      · refine xS_of (pc' := 21) (L' := [(0, xa 536), (1, xi p0), (2, xi p1)]) (st' := [xi p1, xa 536]) (m' := m) (fun ex ns r q => ?_) ?_
        · refine xw_ic_geF rfl (w32_cg cp0) (w32_cg (w32_xR _ _ _)) (Int.not_le.mpr h2) ?_
          refine xw_iload_n rfl rfl ?_
          exact q
        refine xS_if (fun h3 => ?_) (fun h3 => ?_)
        · refine xS_of (pc' := 62) (L' := [(0, xa 536), (1, xi p0), (2, xi p1)]) (st' := [xi 0]) (m' := (xw_u m 536 1 1)) (fun ex ns r q => ?_) ?_
          · refine xw_if_ltT rfl (w32_cg cp1) h3 ?_
            refine xw_iconst rfl ?_
            refine xw_goto rfl ?_
            refine xw_pfI rfl (xw_obd (by decide +kernel)) xk12_1 (qi := 1) rfl (xw_okI rfl) ?_
            refine xw_aload_n rfl rfl rfl ?_
            refine xw_gfIc (v := 1) (v' := 1) rfl (xw_obd (by decide +kernel)) xk12_1 (qi := 1) rfl xw_us rfl ?_
            refine xw_if_leF rfl (w32_cg rfl) (Int.not_le.mpr (by decide)) ?_
            refine xw_iconst rfl ?_
            refine xw_goto rfl ?_
            exact q
          exact xS_ret (v := 0) rfl rfl xw_rtI rfl
        · refine xS_of (pc' := 29) (L' := [(0, xa 536), (1, xi p0), (2, xi p1)]) (st' := [xi (xR m 536 14), xi p1, xa 536]) (m' := m) (fun ex ns r q => ?_) ?_
          · refine xw_if_ltF rfl (w32_cg cp1) h3 ?_
            refine xw_iload_n rfl rfl ?_
            refine xw_aload_n rfl rfl rfl ?_
            refine xw_gfIc (v := (m 536 14)) (v' := (xR m 536 14)) rfl (xw_obd (by decide +kernel)) xk12_14 (qi := 14) rfl rfl rfl ?_
            exact q
          refine xS_if (fun h4 => ?_) (fun h4 => ?_)
          · refine xS_g (fun g5 => ?_)
            refine xS_of (pc' := 59) (L' := []) (st' := [xi p1, xi (xR m 579 p0), xa 536]) (m' := (xw_u m 536 1 0)) (fun ex ns r q => ?_) ?_
            · refine xw_ic_ltT rfl (w32_cg cp1) (w32_cg (w32_xR _ _ _)) h4 ?_
              refine xw_iconst rfl ?_
              refine xw_pfI rfl (xw_obd (by decide +kernel)) xk12_1 (qi := 1) rfl (xw_okI rfl) ?_
              refine xw_aload_n rfl rfl rfl ?_
              refine xw_gfIc (v := 0) (v' := 0) rfl (xw_obd (by decide +kernel)) xk12_1 (qi := 1) rfl xw_us rfl ?_
              refine xw_if_leT rfl (w32_cg rfl) (Int.not_lt.mp (by decide)) ?_
              refine xw_aload_n rfl rfl rfl ?_
              refine xw_aload_n rfl rfl rfl ?_
              refine xw_gfR (n := 579) (e := 579) rfl (xw_obd (by decide +kernel)) (by decide +kernel) (by decide +kernel) rfl ?_
              refine xw_iload_n rfl rfl ?_
              refine xw_ialdc (n := 16) (v := (m 579 p0)) (v' := (xR m 579 p0)) rfl hB (xw_obd (by decide +kernel)) rfl g5 (xw_un (fun e => absurd e.1 (by decide)) rfl) rfl ?_
              refine xw_iload_n rfl rfl ?_
              refine xw_lo (L2 := []) (fun _ h => absurd h List.not_mem_nil) ?_
              exact q
            refine xS_call (q := 291) (n := 3) (kq := 1) (as := [xa 536, xi (xR m 579 p0), xi p1]) (st1 := []) rfl rfl rfl rfl rfl rfl rfl rfl rfl rfl (fun _ => xw_rcv1 (t := 12) (xw_obd (by decide +kernel)) rfl) rfl (List.forall_mem_cons.mpr ⟨rfl, List.forall_mem_cons.mpr ⟨rfl, List.forall_mem_cons.mpr ⟨rfl, fun _ h => absurd h List.not_mem_nil⟩⟩⟩) (ygf291 hB _ _ _ (w32_xR _ _ _) cp1) (fun v1 m1 cv1 => ?_)
            exact xS_ret (v := v1) rfl rfl xw_rtI cv1
          · refine xS_of (pc' := 62) (L' := [(0, xa 536), (1, xi p0), (2, xi p1)]) (st' := [xi 0]) (m' := (xw_u m 536 1 1)) (fun ex ns r q => ?_) ?_
            · refine xw_ic_ltF rfl (w32_cg cp1) (w32_cg (w32_xR _ _ _)) h4 ?_
              refine xw_iconst rfl ?_
              refine xw_goto rfl ?_
              refine xw_pfI rfl (xw_obd (by decide +kernel)) xk12_1 (qi := 1) rfl (xw_okI rfl) ?_
              refine xw_aload_n rfl rfl rfl ?_
              refine xw_gfIc (v := 1) (v' := 1) rfl (xw_obd (by decide +kernel)) xk12_1 (qi := 1) rfl xw_us rfl ?_
              refine xw_if_leF rfl (w32_cg rfl) (Int.not_le.mpr (by decide)) ?_
              refine xw_iconst rfl ?_
              refine xw_goto rfl ?_
              exact q
            exact xS_ret (v := 0) rfl rfl xw_rtI rfl
      · refine xS_of (pc' := 62) (L' := [(0, xa 536), (1, xi p0), (2, xi p1)]) (st' := [xi 0]) (m' := (xw_u m 536 1 1)) (fun ex ns r q => ?_) ?_
        · refine xw_ic_geT rfl (w32_cg cp0) (w32_cg (w32_xR _ _ _)) (Int.not_lt.mp h2) ?_
          refine xw_iconst rfl ?_
          refine xw_goto rfl ?_
          refine xw_pfI rfl (xw_obd (by decide +kernel)) xk12_1 (qi := 1) rfl (xw_okI rfl) ?_
          refine xw_aload_n rfl rfl rfl ?_
          refine xw_gfIc (v := 1) (v' := 1) rfl (xw_obd (by decide +kernel)) xk12_1 (qi := 1) rfl xw_us rfl ?_
          refine xw_if_leF rfl (w32_cg rfl) (Int.not_le.mpr (by decide)) ?_
          refine xw_iconst rfl ?_
          refine xw_goto rfl ?_
          exact q
        exact xS_ret (v := 0) rfl rfl xw_rtI rfl
  · refine xS_of (pc' := 62) (L' := [(0, xa 536), (1, xi p0), (2, xi p1)]) (st' := [xi 0]) (m' := (xw_u m 536 1 1)) (fun ex ns r q => ?_) ?_
    · refine xw_if_neT rfl (w32_cg (w32_xR _ _ _)) h0 ?_
      refine xw_iconst rfl ?_
      refine xw_goto rfl ?_
      refine xw_pfI rfl (xw_obd (by decide +kernel)) xk12_1 (qi := 1) rfl (xw_okI rfl) ?_
      refine xw_aload_n rfl rfl rfl ?_
      refine xw_gfIc (v := 1) (v' := 1) rfl (xw_obd (by decide +kernel)) xk12_1 (qi := 1) rfl xw_us rfl ?_
      refine xw_if_leF rfl (w32_cg rfl) (Int.not_le.mpr (by decide)) ?_
      refine xw_iconst rfl ?_
      refine xw_goto rfl ?_
      exact q
    exact xS_ret (v := 0) rfl rfl xw_rtI rfl
theorem ygf341 {B : Nat} (hB : B ≤ 512) {xs : Nat → Int32} {SL d : Nat} : ∀ m, xS B xs SL (d + 0) 341 (1, (some .int), [], 13) 1 0 [(0, xa 536)] [] m (yf341 B m) := by
  intro m
  unfold yf341
  refine xS_of (pc' := 5) (L' := [(0, xa 536)]) (st' := [xi (xR m 536 3), xa 536]) (m' := m) (fun ex ns r q => ?_) ?_
  · refine xw_aload_n rfl rfl rfl ?_
    refine xw_aload_n rfl rfl rfl ?_
    refine xw_gfIc (v := (m 536 3)) (v' := (xR m 536 3)) rfl (xw_obd (by decide +kernel)) xk12_3 (qi := 3) rfl rfl rfl ?_
    exact q
  refine xS_if (fun h0 => ?_) (fun h0 => ?_)
  · refine xS_of (pc' := 31) (L' := [(0, xa 536)]) (st' := [xi (xR m 536 24)]) (m' := (xw_u m 536 1 0)) (fun ex ns r q => ?_) ?_
    · refine xw_if_eqT rfl (w32_cg (w32_xR _ _ _)) h0 ?_
      refine xw_iconst rfl ?_
      refine xw_pfI rfl (xw_obd (by decide +kernel)) xk12_1 (qi := 1) rfl (xw_okI rfl) ?_
      refine xw_aload_n rfl rfl rfl ?_
      refine xw_gfIc (v := 0) (v' := 0) rfl (xw_obd (by decide +kernel)) xk12_1 (qi := 1) rfl xw_us rfl ?_
      refine xw_if_leT rfl (w32_cg rfl) (Int.not_lt.mp (by decide)) ?_
      refine xw_aload_n rfl rfl rfl ?_
      refine xw_gfIc (v := (m 536 24)) (v' := (xR m 536 24)) rfl (xw_obd (by decide +kernel)) xk12_24 (qi := 24) rfl (xw_un (fun e => absurd e.2 (by decide)) rfl) rfl ?_
      exact q
    refine xS_if (fun h1 => ?_) (fun h1 => ?_)
    · refine xS_of (pc' := 42) (L' := [(0, xa 536)]) (st' := [xi (-1)]) (m' := (xw_u m 536 1 0)) (fun ex ns r q => ?_) ?_
      · refine xw_if_eqT rfl (w32_cg (w32_xR _ _ _)) h1 ?_
        refine xw_iconst rfl ?_
        exact q
      exact xS_ret (v := (-1)) rfl rfl xw_rtI rfl
    · refine xS_of (pc' := 42) (L' := [(0, xa 536)]) (st' := [xi (xR m 536 65)]) (m' := (xw_u m 536 1 0)) (fun ex ns r q => ?_) ?_
      · refine xw_if_eqF rfl (w32_cg (w32_xR _ _ _)) h1 ?_
        refine xw_aload_n rfl rfl rfl ?_
        refine xw_gfIc (v := (m 536 65)) (v' := (xR m 536 65)) rfl (xw_obd (by decide +kernel)) xk12_65 (qi := 65) rfl (xw_un (fun e => absurd e.2 (by decide)) rfl) rfl ?_
        refine xw_goto rfl ?_
        exact q
      exact xS_ret (v := (xR m 536 65)) rfl rfl xw_rtI (w32_xR _ _ _)
  · refine xS_of (pc' := 42) (L' := [(0, xa 536)]) (st' := [xi 0]) (m' := (xw_u m 536 1 1)) (fun ex ns r q => ?_) ?_
    · refine xw_if_eqF rfl (w32_cg (w32_xR _ _ _)) h0 ?_
      refine xw_iconst rfl ?_
      refine xw_goto rfl ?_
      refine xw_pfI rfl (xw_obd (by decide +kernel)) xk12_1 (qi := 1) rfl (xw_okI rfl) ?_
      refine xw_aload_n rfl rfl rfl ?_
      refine xw_gfIc (v := 1) (v' := 1) rfl (xw_obd (by decide +kernel)) xk12_1 (qi := 1) rfl xw_us rfl ?_
      refine xw_if_leF rfl (w32_cg rfl) (Int.not_le.mpr (by decide)) ?_
      refine xw_iconst rfl ?_
      refine xw_goto rfl ?_
      exact q
    exact xS_ret (v := 0) rfl rfl xw_rtI rfl
theorem ygf343 {B : Nat} (hB : B ≤ 512) {xs : Nat → Int32} {SL d : Nat} : ∀ p0 p1 m, w32 p0 = p0 → w32 p1 = p1 → xS B xs SL (d + 0) 343 (3, (some .boolean), [], 13) 4 0 [(0, xa 536), (1, xi p0), (2, xi p1)] [] m (yf343 B p0 p1 m) := by
  intro p0 p1 m cp0 cp1
  unfold yf343
  refine xS_of (pc' := 4) (L' := [(0, xa 536), (1, xi p0), (2, xi p1)]) (st' := [xi (xR m 536 24)]) (m' := m) (fun ex ns r q => ?_) ?_
  · refine xw_aload_n rfl rfl rfl ?_
    refine xw_gfIc (v := (m 536 24)) (v' := (xR m 536 24)) rfl (xw_obd (by decide +kernel)) xk12_24 (qi := 24) rfl rfl rfl ?_
    exact q
  refine xS_if (fun h0 => ?_) (fun h0 => ?_)
  · refine xS_of (pc' := 39) (L' := [(0, xa 536), (1, xi p0), (2, xi p1)]) (st' := [xi 0]) (m' := m) (fun ex ns r q => ?_) ?_
    · refine xw_if_eqT rfl (w32_cg (w32_xR _ _ _)) h0 ?_
      refine xw_iconst rfl ?_
      exact q
    exact xS_ret (v := 0) rfl rfl (xw_rtZ (Or.inl rfl)) (Or.inl rfl)
  · refine xS_of (pc' := 8) (L' := [(0, xa 536), (1, xi p0), (2, xi p1)]) (st' := [xi p0]) (m' := m) (fun ex ns r q => ?_) ?_
    · refine xw_if_eqF rfl (w32_cg (w32_xR _ _ _)) h0 ?_
      refine xw_iload_n rfl rfl ?_
      exact q
    refine xS_if (fun h1 => ?_) (fun h1 => ?_)
    · refine xS_of (pc' := 39) (L' := [(0, xa 536), (1, xi p0), (2, xi p1)]) (st' := [xi 0]) (m' := m) (fun ex ns r q => ?_) ?_
      · refine xw_if_ltT rfl (w32_cg cp0) h1 ?_
        refine xw_iconst rfl ?_
        exact q
      exact xS_ret (v := 0) rfl rfl (xw_rtZ (Or.inl rfl)) (Or.inl rfl)
    · refine xS_of (pc' := 16) (L' := [(0, xa 536), (1, xi p0), (2, xi p1)]) (st' := [xi (xR m 536 65), xi p0]) (m' := m) (fun ex ns r q => ?_) ?_
      · refine xw_if_ltF rfl (w32_cg cp0) h1 ?_
        refine xw_iload_n rfl rfl ?_
        refine xw_aload_n rfl rfl rfl ?_
        refine xw_gfIc (v := (m 536 65)) (v' := (xR m 536 65)) rfl (xw_obd (by decide +kernel)) xk12_65 (qi := 65) rfl rfl rfl ?_
        exact q
      refine xS_if (fun h2 => ?_) (fun h2 => ?_)
      · refine xS_of (pc' := 20) (L' := [(0, xa 536), (1, xi p0), (2, xi p1)]) (st' := [xi p1]) (m' := m) (fun ex ns r q => ?_) ?_
        · refine xw_ic_geF rfl (w32_cg cp0) (w32_cg (w32_xR _ _ _)) (Int.not_le.mpr h2) ?_
          refine xw_iload_n rfl rfl ?_
          exact q
        refine xS_if (fun h3 => ?_) (fun h3 => ?_)
        · refine xS_of (pc' := 39) (L' := [(0, xa 536), (1, xi p0), (2, xi p1)]) (st' := [xi 0]) (m' := m) (fun ex ns r q => ?_) ?_
          · refine xw_if_ltT rfl (w32_cg cp1) h3 ?_
            refine xw_iconst rfl ?_
            exact q
          exact xS_ret (v := 0) rfl rfl (xw_rtZ (Or.inl rfl)) (Or.inl rfl)
        · refine xS_g (fun g4 => ?_)
          refine xS_of (pc' := 31) (L' := [(0, xa 536), (1, xi p0), (2, xi p1)]) (st' := [xi (xR m (m 536 22) 0), xi p1]) (m' := m) (fun ex ns r q => ?_) ?_
          · refine xw_if_ltF rfl (w32_cg cp1) h3 ?_
            refine xw_iload_n rfl rfl ?_
            refine xw_aload_n rfl rfl rfl ?_
            refine xw_gfM (v := (m 536 22)) rfl (xw_obd (by decide +kernel)) xk12_22 (qi := 22) rfl rfl ?_
            refine xw_gfIc (v := (m (m 536 22) 0)) (v' := (xR m (m 536 22) 0)) rfl (xw_obd g4) xk13_0 (qi := 0) rfl rfl rfl ?_
            exact q
          refine xS_if (fun h5 => ?_) (fun h5 => ?_)
          · refine xS_of (pc' := 39) (L' := [(0, xa 536), (1, xi p0), (2, xi p1)]) (st' := [xi 1]) (m' := m) (fun ex ns r q => ?_) ?_
            · refine xw_ic_geF rfl (w32_cg cp1) (w32_cg (w32_xR _ _ _)) (Int.not_le.mpr h5) ?_
              refine xw_iconst rfl ?_
              refine xw_goto rfl ?_
              exact q
            exact xS_ret (v := 1) rfl rfl (xw_rtZ (Or.inr rfl)) (Or.inr rfl)
          · refine xS_of (pc' := 39) (L' := [(0, xa 536), (1, xi p0), (2, xi p1)]) (st' := [xi 0]) (m' := m) (fun ex ns r q => ?_) ?_
            · refine xw_ic_geT rfl (w32_cg cp1) (w32_cg (w32_xR _ _ _)) (Int.not_lt.mp h5) ?_
              refine xw_iconst rfl ?_
              exact q
            exact xS_ret (v := 0) rfl rfl (xw_rtZ (Or.inl rfl)) (Or.inl rfl)
      · refine xS_of (pc' := 39) (L' := [(0, xa 536), (1, xi p0), (2, xi p1)]) (st' := [xi 0]) (m' := m) (fun ex ns r q => ?_) ?_
        · refine xw_ic_geT rfl (w32_cg cp0) (w32_cg (w32_xR _ _ _)) (Int.not_lt.mp h2) ?_
          refine xw_iconst rfl ?_
          exact q
        exact xS_ret (v := 0) rfl rfl (xw_rtZ (Or.inl rfl)) (Or.inl rfl)
theorem ysl345_4 {B : Nat} (hB : B ≤ 512) {xs : Nat → Int32} {SL d : Nat} {r4 : Int → Int → Int → xw_M → xP} (hr4 : ∀ x1 x2 x3 m, w32 x1 = x1 → w32 x2 = x2 → w32 x3 = x3 → xS B xs SL (d + 0) 345 (4, (some .int), [], 13) 1 4 [(0, xa 536), (1, xi x1), (2, xi x2), (3, xi x3)] [] m (r4 x1 x2 x3 m)) : ∀ x1 x2 x3 m, w32 x1 = x1 → w32 x2 = x2 → w32 x3 = x3 → xS B xs SL (d + 0) 345 (4, (some .int), [], 13) 1 4 [(0, xa 536), (1, xi x1), (2, xi x2), (3, xi x3)] [] m (yl345_4 B r4 x1 x2 x3 m) := by
  intro x1 x2 x3 m c1 c2 c3
  unfold yl345_4
  refine xS_g (fun g0 => ?_)
  refine xS_of (pc' := 12) (L' := [(0, xa 536), (1, xi x1), (2, xi x2), (3, xi x3)]) (st' := [xi (xR m (m 536 22) 4), xi x3]) (m' := m) (fun ex ns r q => ?_) ?_
  · refine xw_iload_n rfl rfl ?_
    refine xw_aload_n rfl rfl rfl ?_
    refine xw_gfM (v := (m 536 22)) rfl (xw_obd (by decide +kernel)) xk12_22 (qi := 22) rfl rfl ?_
    refine xw_gfIc (v := (m (m 536 22) 4)) (v' := (xR m (m 536 22) 4)) rfl (xw_obd g0) xk13_4 (qi := 4) rfl rfl rfl ?_
    exact q
  refine xS_if (fun h1 => ?_) (fun h1 => ?_)
  · refine xS_g (fun g2 => ?_)
    refine xS_g (fun g3 => ?_)
    refine xS_g (fun g4 => ?_)
    refine xS_g (fun g5 => ?_)
    refine xS_of (pc' := 33) (L' := [(0, xa 536), (1, xi x1), (2, xi x2), (3, xi x3)]) (st' := [xi (xR m (xw_rf (m 536 22) 2) x1), xi (xR m (xw_rf (m 536 22) 5) x3)]) (m' := m) (fun ex ns r q => ?_) ?_
    · refine xw_ic_geF rfl (w32_cg c3) (w32_cg (w32_xR _ _ _)) (Int.not_le.mpr h1) ?_
      refine xw_aload_n rfl rfl rfl ?_
      refine xw_gfM (v := (m 536 22)) rfl (xw_obd (by decide +kernel)) xk12_22 (qi := 22) rfl rfl ?_
      refine xw_gfV (qi := 5) rfl (xw_obd g0) xk13_5 rfl ?_
      refine xw_iload_n rfl rfl ?_
      refine xw_ialdc (n := (xw_le B (xw_rf (m 536 22) 5))) (v := (m (xw_rf (m 536 22) 5) x3)) (v' := (xR m (xw_rf (m 536 22) 5) x3)) rfl hB (xw_obd g3) rfl g2 rfl rfl ?_
      refine xw_aload_n rfl rfl rfl ?_
      refine xw_gfM (v := (m 536 22)) rfl (xw_obd (by decide +kernel)) xk12_22 (qi := 22) rfl rfl ?_
      refine xw_gfV (qi := 2) rfl (xw_obd g0) xk13_2 rfl ?_
      refine xw_iload_n rfl rfl ?_
      refine xw_ialdc (n := (xw_le B (xw_rf (m 536 22) 2))) (v := (m (xw_rf (m 536 22) 2) x1)) (v' := (xR m (xw_rf (m 536 22) 2) x1)) rfl hB (xw_obd g5) rfl g4 rfl rfl ?_
      exact q
    refine xS_if (fun h6 => ?_) (fun h6 => ?_)
    · refine xS_of (pc' := 4) (L' := [(0, xa 536), (1, xi x1), (2, xi x3), (3, xi (w32 (x3 + 1)))]) (st' := []) (m' := m) (fun ex ns r q => ?_) ?_
      · refine xw_ic_neF rfl (w32_cg (w32_xR _ _ _)) (w32_cg (w32_xR _ _ _)) h6 ?_
        refine xw_iload_n rfl rfl ?_
        refine xw_goto rfl ?_
        refine xw_istore_n (L' := [(2, xi x3), (0, xa 536), (1, xi x1), (3, xi x3)]) rfl (by decide) rfl ?_
        refine xw_iincc (z := (w32 (x3 + 1))) (L' := [(3, xi (w32 (x3 + 1))), (2, xi x3), (0, xa 536), (1, xi x1)]) rfl rfl (by decide) rfl rfl ?_
        refine xw_goto rfl ?_
        refine xw_lo (L2 := [(0, xa 536), (1, xi x1), (2, xi x3), (3, xi (w32 (x3 + 1)))]) (List.forall_mem_cons.mpr ⟨rfl, List.forall_mem_cons.mpr ⟨rfl, List.forall_mem_cons.mpr ⟨rfl, List.forall_mem_cons.mpr ⟨rfl, fun _ h => absurd h List.not_mem_nil⟩⟩⟩⟩) ?_
        exact q
      exact hr4 _ _ _ _ c1 c3 (w32_w _)
    · refine xS_of (pc' := 4) (L' := [(0, xa 536), (1, xi x1), (2, xi x2), (3, xi (w32 (x3 + 1)))]) (st' := []) (m' := m) (fun ex ns r q => ?_) ?_
      · refine xw_ic_neT rfl (w32_cg (w32_xR _ _ _)) (w32_cg (w32_xR _ _ _)) h6 ?_
        refine xw_iload_n rfl rfl ?_
        refine xw_istore_n (L' := [(2, xi x2), (0, xa 536), (1, xi x1), (3, xi x3)]) rfl (by decide) rfl ?_
        refine xw_iincc (z := (w32 (x3 + 1))) (L' := [(3, xi (w32 (x3 + 1))), (2, xi x2), (0, xa 536), (1, xi x1)]) rfl rfl (by decide) rfl rfl ?_
        refine xw_goto rfl ?_
        refine xw_lo (L2 := [(0, xa 536), (1, xi x1), (2, xi x2), (3, xi (w32 (x3 + 1)))]) (List.forall_mem_cons.mpr ⟨rfl, List.forall_mem_cons.mpr ⟨rfl, List.forall_mem_cons.mpr ⟨rfl, List.forall_mem_cons.mpr ⟨rfl, fun _ h => absurd h List.not_mem_nil⟩⟩⟩⟩) ?_
        exact q
      exact hr4 _ _ _ _ c1 c2 (w32_w _)
  · refine xS_of (pc' := 49) (L' := [(0, xa 536), (1, xi x1), (2, xi x2), (3, xi x3)]) (st' := [xi x2]) (m' := m) (fun ex ns r q => ?_) ?_
    · refine xw_ic_geT rfl (w32_cg c3) (w32_cg (w32_xR _ _ _)) (Int.not_lt.mp h1) ?_
      refine xw_iload_n rfl rfl ?_
      exact q
    exact xS_ret (v := x2) rfl rfl xw_rtI c2
theorem ygl345_4 {B : Nat} (hB : B ≤ 512) {xs : Nat → Int32} {SL d : Nat} : ∀ n x1 x2 x3 m, w32 x1 = x1 → w32 x2 = x2 → w32 x3 = x3 → xS B xs SL (d + 0) 345 (4, (some .int), [], 13) 1 4 [(0, xa 536), (1, xi x1), (2, xi x2), (3, xi x3)] [] m (xl3 (yl345_4 B) n x1 x2 x3 m) := by
  intro n
  induction n with
  | zero => intro x1 x2 x3 m c1 c2 c3; exact xS_none
  | succ n ih => exact ysl345_4 hB ih
theorem ygf345 {B : Nat} (hB : B ≤ 512) {xs : Nat → Int32} {SL d : Nat} : ∀ p0 m, w32 p0 = p0 → xS B xs SL (d + 0) 345 (4, (some .int), [], 13) 1 0 [(0, xa 536), (1, xi p0)] [] m (yf345 B p0 m) := by
  intro p0 m cp0
  unfold yf345
  refine xS_of (pc' := 4) (L' := [(0, xa 536), (1, xi p0), (2, xi (-1)), (3, xi 0)]) (st' := []) (m' := m) (fun ex ns r q => ?_) ?_
  · refine xw_iconst rfl ?_
    refine xw_istore_n (L' := [(2, xi (-1)), (0, xa 536), (1, xi p0)]) rfl (by decide) rfl ?_
    refine xw_iconst rfl ?_
    refine xw_istore_n (L' := [(3, xi 0), (2, xi (-1)), (0, xa 536), (1, xi p0)]) rfl (by decide) rfl ?_
    refine xw_lo (L2 := [(0, xa 536), (1, xi p0), (2, xi (-1)), (3, xi 0)]) (List.forall_mem_cons.mpr ⟨rfl, List.forall_mem_cons.mpr ⟨rfl, List.forall_mem_cons.mpr ⟨rfl, List.forall_mem_cons.mpr ⟨rfl, fun _ h => absurd h List.not_mem_nil⟩⟩⟩⟩) ?_
    exact q
  exact ygl345_4 hB 1000000 _ _ _ _ cp0 rfl rfl
theorem ygf344 {B : Nat} (hB : B ≤ 512) {xs : Nat → Int32} {SL d : Nat} : ∀ p0 p1 m, w32 p0 = p0 → w32 p1 = p1 → xS B xs SL (d + 1) 344 (3, (some .boolean), [], 13) 4 0 [(0, xa 536), (1, xi p0), (2, xi p1)] [] m (yf344 B p0 p1 m) := by
  intro p0 p1 m cp0 cp1
  unfold yf344
  refine xS_g (fun g0 => ?_)
  refine xS_of (pc' := 8) (L' := []) (st' := [xi p1, xa 536, xi (xR m 595 p0)]) (m' := m) (fun ex ns r q => ?_) ?_
  · refine xw_aload_n rfl rfl rfl ?_
    refine xw_gfR (n := 595) (e := 595) rfl (xw_obd (by decide +kernel)) (by decide +kernel) (by decide +kernel) rfl ?_
    refine xw_iload_n rfl rfl ?_
    refine xw_ialdc (n := 4000) (v := (m 595 p0)) (v' := (xR m 595 p0)) rfl hB (xw_obd (by decide +kernel)) rfl g0 rfl rfl ?_
    refine xw_aload_n rfl rfl rfl ?_
    refine xw_iload_n rfl rfl ?_
    refine xw_lo (L2 := []) (fun _ h => absurd h List.not_mem_nil) ?_
    exact q
  refine xS_call (q := 345) (n := 2) (kq := 1) (as := [xa 536, xi p1]) (st1 := [xi (xR m 595 p0)]) rfl rfl rfl rfl rfl rfl rfl rfl rfl rfl (fun _ => xw_rcv1 (t := 12) (xw_obd (by decide +kernel)) rfl) rfl (List.forall_mem_cons.mpr ⟨rfl, List.forall_mem_cons.mpr ⟨rfl, fun _ h => absurd h List.not_mem_nil⟩⟩) (ygf345 hB _ _ cp1) (fun v1 m1 cv1 => ?_)
  refine xS_of (pc' := 14) (L' := []) (st' := [xi (xw_iandf (xw_ishrf (xR m 595 p0) v1) 1)]) (m' := m1) (fun ex ns r q => ?_) ?_
  · refine xw_ishr (z := (xw_ishrf (xR m 595 p0) v1)) rfl (xw_ishre _ _) ?_
    refine xw_iconst rfl ?_
    refine xw_iand (z := (xw_iandf (xw_ishrf (xR m 595 p0) v1) 1)) rfl (xw_iande _ _) ?_
    exact q
  refine xS_if (fun h1 => ?_) (fun h1 => ?_)
  · refine xS_of (pc' := 22) (L' := []) (st' := [xi 1]) (m' := m1) (fun ex ns r q => ?_) ?_
    · refine xw_if_neF rfl (w32_cg (w32_ti _)) h1 ?_
      refine xw_iconst rfl ?_
      refine xw_goto rfl ?_
      exact q
    exact xS_ret (v := 1) rfl rfl (xw_rtZ (Or.inr rfl)) (Or.inr rfl)
  · refine xS_of (pc' := 22) (L' := []) (st' := [xi 0]) (m' := m1) (fun ex ns r q => ?_) ?_
    · refine xw_if_neT rfl (w32_cg (w32_ti _)) h1 ?_
      refine xw_iconst rfl ?_
      exact q
    exact xS_ret (v := 0) rfl rfl (xw_rtZ (Or.inl rfl)) (Or.inl rfl)
theorem ygf342 {B : Nat} (hB : B ≤ 512) {xs : Nat → Int32} {SL d : Nat} : ∀ p0 p1 m, w32 p0 = p0 → w32 p1 = p1 → xS B xs SL (d + 2) 342 (5, (some .long), [], 13) 2 0 [(0, xa 536), (1, xi p0), (2, xi p1)] [] m (yf342 B p0 p1 m) := by
  intro p0 p1 m cp0 cp1
  unfold yf342
  refine xS_of (pc' := 4) (L' := [(0, xa 536), (1, xi p0), (2, xi p1)]) (st' := [xi p1, xi p0, xa 536, xa 536]) (m' := m) (fun ex ns r q => ?_) ?_
  · refine xw_aload_n rfl rfl rfl ?_
    refine xw_aload_n rfl rfl rfl ?_
    refine xw_iload_n rfl rfl ?_
    refine xw_iload_n rfl rfl ?_
    refine xw_lo (L2 := [(0, xa 536), (1, xi p0), (2, xi p1)]) (List.forall_mem_cons.mpr ⟨rfl, List.forall_mem_cons.mpr ⟨rfl, List.forall_mem_cons.mpr ⟨rfl, fun _ h => absurd h List.not_mem_nil⟩⟩⟩) ?_
    exact q
  refine xS_call (q := 343) (n := 3) (kq := 4) (as := [xa 536, xi p0, xi p1]) (st1 := [xa 536]) rfl rfl rfl rfl rfl rfl rfl rfl rfl rfl (fun _ => xw_rcv1 (t := 12) (xw_obd (by decide +kernel)) rfl) rfl (List.forall_mem_cons.mpr ⟨rfl, List.forall_mem_cons.mpr ⟨rfl, List.forall_mem_cons.mpr ⟨rfl, fun _ h => absurd h List.not_mem_nil⟩⟩⟩) (ygf343 hB _ _ _ cp0 cp1) (fun v1 m1 cv1 => ?_)
  refine xS_if (fun h0 => ?_) (fun h0 => ?_)
  · refine xS_of (pc' := 26) (L' := [(0, xa 536), (1, xi p0), (2, xi p1)]) (st' := [xj 0]) (m' := (xw_u m1 536 1 1)) (fun ex ns r q => ?_) ?_
    · refine xw_if_eqT rfl (w32_cg (w32_of (xw_zr cv1))) h0 ?_
      refine xw_iconst rfl ?_
      refine xw_pfI rfl (xw_obd (by decide +kernel)) xk12_1 (qi := 1) rfl (xw_okI rfl) ?_
      refine xw_aload_n rfl rfl rfl ?_
      refine xw_gfIc (v := 1) (v' := 1) rfl (xw_obd (by decide +kernel)) xk12_1 (qi := 1) rfl xw_us rfl ?_
      refine xw_if_leF rfl (w32_cg rfl) (Int.not_le.mpr (by decide)) ?_
      refine xw_lconst (e := 0) rfl rfl ?_
      exact q
    exact xS_ret (v := 0) rfl rfl rfl rfl
  · refine xS_g (fun g1 => ?_)
    refine xS_g (fun g2 => ?_)
    refine xS_g (fun g3 => ?_)
    refine xS_g (fun g4 => ?_)
    refine xS_g (fun g5 => ?_)
    refine xS_g (fun g6 => ?_)
    refine xS_g (fun g7 => ?_)
    refine xS_of (pc' := 54) (L' := [(4, xi (xR m1 (xw_rf (m1 536 22) 2) p1)), (3, xi (xR m1 (m1 536 73) p0)), (0, xa 536), (1, xi p0), (2, xi p1)]) (st' := [xi (xR m1 (xw_rf (m1 536 22) 1) p1)]) (m' := (xw_u m1 536 1 0)) (fun ex ns r q => ?_) ?_
    · refine xw_if_eqF rfl (w32_cg (w32_of (xw_zr cv1))) h0 ?_
      refine xw_iconst rfl ?_
      refine xw_goto rfl ?_
      refine xw_pfI rfl (xw_obd (by decide +kernel)) xk12_1 (qi := 1) rfl (xw_okI rfl) ?_
      refine xw_aload_n rfl rfl rfl ?_
      refine xw_gfIc (v := 0) (v' := 0) rfl (xw_obd (by decide +kernel)) xk12_1 (qi := 1) rfl xw_us rfl ?_
      refine xw_if_leT rfl (w32_cg rfl) (Int.not_lt.mp (by decide)) ?_
      refine xw_aload_n rfl rfl rfl ?_
      refine xw_gfM (v := (m1 536 73)) rfl (xw_obd (by decide +kernel)) xk12_73 (qi := 73) rfl (xw_un (fun e => absurd e.2 (by decide)) rfl) ?_
      refine xw_iload_n rfl rfl ?_
      refine xw_ialdc (n := (xw_le B (m1 536 73))) (v := (m1 (m1 536 73) p0)) (v' := (xR m1 (m1 536 73) p0)) rfl hB (xw_obd g2) rfl g1 (xw_un (xw_obne (t := 12) (t' := 16) (xw_obd (by decide +kernel)) (xw_obd g2) (by decide)) rfl) rfl ?_
      refine xw_istore_n (L' := [(3, xi (xR m1 (m1 536 73) p0)), (0, xa 536), (1, xi p0), (2, xi p1)]) rfl (by decide) rfl ?_
      refine xw_aload_n rfl rfl rfl ?_
      refine xw_gfM (v := (m1 536 22)) rfl (xw_obd (by decide +kernel)) xk12_22 (qi := 22) rfl (xw_un (fun e => absurd e.2 (by decide)) rfl) ?_
      refine xw_gfV (qi := 2) rfl (xw_obd g3) xk13_2 rfl ?_
      refine xw_iload_n rfl rfl ?_
      refine xw_ialdc (n := (xw_le B (xw_rf (m1 536 22) 2))) (v := (m1 (xw_rf (m1 536 22) 2) p1)) (v' := (xR m1 (xw_rf (m1 536 22) 2) p1)) rfl hB (xw_obd g5) rfl g4 (xw_un (xw_obne (t := 12) (t' := 16) (xw_obd (by decide +kernel)) (xw_obd g5) (by decide)) rfl) rfl ?_
      refine xw_istore (L' := [(4, xi (xR m1 (xw_rf (m1 536 22) 2) p1)), (3, xi (xR m1 (m1 536 73) p0)), (0, xa 536), (1, xi p0), (2, xi p1)]) rfl (by decide) rfl ?_
      refine xw_aload_n rfl rfl rfl ?_
      refine xw_gfM (v := (m1 536 22)) rfl (xw_obd (by decide +kernel)) xk12_22 (qi := 22) rfl (xw_un (fun e => absurd e.2 (by decide)) rfl) ?_
      refine xw_gfV (qi := 1) rfl (xw_obd g3) xk13_1 rfl ?_
      refine xw_iload_n rfl rfl ?_
      refine xw_ialdc (n := (xw_le B (xw_rf (m1 536 22) 1))) (v := (m1 (xw_rf (m1 536 22) 1) p1)) (v' := (xR m1 (xw_rf (m1 536 22) 1) p1)) rfl hB (xw_obd g7) rfl g6 (xw_un (xw_obne (t := 12) (t' := 16) (xw_obd (by decide +kernel)) (xw_obd g7) (by decide)) rfl) rfl ?_
      exact q
    refine xS_if (fun h8 => ?_) (fun h8 => ?_)
    · refine xS_of (pc' := 91) (L' := [(0, xa 536), (2, xi p1), (3, xi (xR m1 (m1 536 73) p0))]) (st' := [xi p1, xi (xR m1 (m1 536 73) p0), xa 536]) (m' := (xw_u m1 536 1 0)) (fun ex ns r q => ?_) ?_
      · refine xw_sw (t := 88) rfl (by rw [h8]; rfl) ?_
        refine xw_aload_n rfl rfl rfl ?_
        refine xw_iload_n rfl rfl ?_
        refine xw_iload_n rfl rfl ?_
        refine xw_lo (L2 := [(0, xa 536), (2, xi p1), (3, xi (xR m1 (m1 536 73) p0))]) (List.forall_mem_cons.mpr ⟨rfl, List.forall_mem_cons.mpr ⟨rfl, List.forall_mem_cons.mpr ⟨rfl, fun _ h => absurd h List.not_mem_nil⟩⟩⟩) ?_
        exact q
      refine xS_call (q := 344) (n := 3) (kq := 4) (as := [xa 536, xi (xR m1 (m1 536 73) p0), xi p1]) (st1 := []) rfl rfl rfl rfl rfl rfl rfl rfl rfl rfl (fun _ => xw_rcv1 (t := 12) (xw_obd (by decide +kernel)) rfl) rfl (List.forall_mem_cons.mpr ⟨rfl, List.forall_mem_cons.mpr ⟨rfl, List.forall_mem_cons.mpr ⟨rfl, fun _ h => absurd h List.not_mem_nil⟩⟩⟩) (ygf344 hB _ _ _ (w32_xR _ _ _) cp1) (fun v2 m2 cv2 => ?_)
      refine xS_if (fun h9 => ?_) (fun h9 => ?_)
      · refine xS_of (pc' := 111) (L' := []) (st' := [xi p1, xa 536, xi (8 * (xR m1 (m1 536 73) p0)), xa 596]) (m' := m2) (fun ex ns r q => ?_) ?_
        · refine xw_if_eqT rfl (w32_cg (w32_of (xw_zr cv2))) h9 ?_
          refine xw_aload_n rfl rfl rfl ?_
          refine xw_gfR (n := 596) (e := 596) rfl (xw_obd (by decide +kernel)) (by decide +kernel) (by decide +kernel) rfl ?_
          refine xw_bipush (e := 8) rfl (by decide +kernel) ?_
          refine xw_iload_n rfl rfl ?_
          refine xw_imul rfl ?_
          refine xw_aload_n rfl rfl rfl ?_
          refine xw_iload_n rfl rfl ?_
          refine xw_lo (L2 := []) (fun _ h => absurd h List.not_mem_nil) ?_
          exact q
        refine xS_call (q := 345) (n := 2) (kq := 1) (as := [xa 536, xi p1]) (st1 := [xi (8 * (xR m1 (m1 536 73) p0)), xa 596]) rfl rfl rfl rfl rfl rfl rfl rfl rfl rfl (fun _ => xw_rcv1 (t := 12) (xw_obd (by decide +kernel)) rfl) rfl (List.forall_mem_cons.mpr ⟨rfl, List.forall_mem_cons.mpr ⟨rfl, fun _ h => absurd h List.not_mem_nil⟩⟩) (ygf345 hB _ _ cp1) (fun v3 m3 cv3 => ?_)
        refine xS_g (fun g10 => ?_)
        refine xS_of (pc' := 117) (L' := []) (st' := [xj (xR m3 596 ((8 * (xR m1 (m1 536 73) p0)) + v3))]) (m' := m3) (fun ex ns r q => ?_) ?_
        · refine xw_iadd rfl ?_
          refine xw_ialdc (n := 32000) (v := (m3 596 ((8 * (xR m1 (m1 536 73) p0)) + v3))) (v' := (xR m3 596 ((8 * (xR m1 (m1 536 73) p0)) + v3))) rfl hB (xw_obd (by decide +kernel)) rfl g10 rfl rfl ?_
          refine xw_i2l rfl (w32_cg (w32_xR _ _ _)) ?_
          exact q
        exact xS_ret (v := (xR m3 596 ((8 * (xR m1 (m1 536 73) p0)) + v3))) rfl rfl rfl (w64_32 (w32_xR _ _ _))
      · refine xS_of (pc' := 117) (L' := [(0, xa 536), (2, xi p1), (3, xi (xR m1 (m1 536 73) p0))]) (st' := [xj 0]) (m' := m2) (fun ex ns r q => ?_) ?_
        · refine xw_if_eqF rfl (w32_cg (w32_of (xw_zr cv2))) h9 ?_
          refine xw_lconst (e := 0) rfl rfl ?_
          refine xw_goto rfl ?_
          exact q
        exact xS_ret (v := 0) rfl rfl rfl rfl
    · refine xS_if (fun h9 => ?_) (fun h9 => ?_)
      · refine xS_g (fun g10 => ?_)
        refine xS_of (pc' := 130) (L' := [(4, xi (xR m1 (xw_rf (m1 536 22) 2) p1)), (3, xi (xR m1 (m1 536 73) p0)), (0, xa 536), (1, xi p0), (2, xi p1)]) (st' := [xj (xJ m1 598 ((8 * (xR m1 (m1 536 73) p0)) + (xR m1 (xw_rf (m1 536 22) 2) p1)))]) (m' := (xw_u m1 536 1 0)) (fun ex ns r q => ?_) ?_
        · refine xw_sw (t := 118) rfl (by rw [h9]; rfl) ?_
          refine xw_aload_n rfl rfl rfl ?_
          refine xw_gfR (n := 598) (e := 598) rfl (xw_obd (by decide +kernel)) (by decide +kernel) (by decide +kernel) rfl ?_
          refine xw_bipush (e := 8) rfl (by decide +kernel) ?_
          refine xw_iload_n rfl rfl ?_
          refine xw_imul rfl ?_
          refine xw_iload rfl rfl ?_
          refine xw_iadd rfl ?_
          refine xw_laldc (n := 32000) (v := (m1 598 ((8 * (xR m1 (m1 536 73) p0)) + (xR m1 (xw_rf (m1 536 22) 2) p1)))) (v' := (xJ m1 598 ((8 * (xR m1 (m1 536 73) p0)) + (xR m1 (xw_rf (m1 536 22) 2) p1)))) rfl hB (xw_obd (by decide +kernel)) rfl g10 (xw_un (fun e => absurd e.1 (by decide)) rfl) rfl ?_
          exact q
        exact xS_ret (v := (xJ m1 598 ((8 * (xR m1 (m1 536 73) p0)) + (xR m1 (xw_rf (m1 536 22) 2) p1)))) rfl rfl rfl (w64_xJ _ _ _)
      · refine xS_if (fun h10 => ?_) (fun h10 => ?_)
        · refine xS_g (fun g11 => ?_)
          refine xS_of (pc' := 138) (L' := [(4, xi (xR m1 (xw_rf (m1 536 22) 2) p1)), (3, xi (xR m1 (m1 536 73) p0)), (0, xa 536), (1, xi p0), (2, xi p1)]) (st' := [xj 0, xj (xJ m1 597 (xR m1 (m1 536 73) p0))]) (m' := (xw_u m1 536 1 0)) (fun ex ns r q => ?_) ?_
          · refine xw_sw (t := 131) rfl (by rw [h10]; rfl) ?_
            refine xw_aload_n rfl rfl rfl ?_
            refine xw_gfR (n := 597) (e := 597) rfl (xw_obd (by decide +kernel)) (by decide +kernel) (by decide +kernel) rfl ?_
            refine xw_iload_n rfl rfl ?_
            refine xw_laldc (n := 4000) (v := (m1 597 (xR m1 (m1 536 73) p0))) (v' := (xJ m1 597 (xR m1 (m1 536 73) p0))) rfl hB (xw_obd (by decide +kernel)) rfl g11 (xw_un (fun e => absurd e.1 (by decide)) rfl) rfl ?_
            refine xw_lconst (e := 0) rfl rfl ?_
            exact q
          refine xS_if (fun h12 => ?_) (fun h12 => ?_)
          · refine xS_of (pc' := 158) (L' := [(4, xi (xR m1 (xw_rf (m1 536 22) 2) p1)), (3, xi (xR m1 (m1 536 73) p0)), (0, xa 536), (1, xi p0), (2, xi p1)]) (st' := [xj 0]) (m' := (xw_u m1 536 1 0)) (fun ex ns r q => ?_) ?_
            · refine xw_jc_neF rfl rfl (w64_cg (w64_xJ _ _ _)) (w64_cg rfl) h12 ?_
              refine xw_lconst (e := 0) rfl rfl ?_
              refine xw_goto rfl ?_
              exact q
            exact xS_ret (v := 0) rfl rfl rfl rfl
          · refine xS_g (fun g13 => ?_)
            refine xS_of (pc' := 158) (L' := [(4, xi (xR m1 (xw_rf (m1 536 22) 2) p1)), (3, xi (xR m1 (m1 536 73) p0)), (0, xa 536), (1, xi p0), (2, xi p1)]) (st' := [xj (xJ m1 599 ((8 * (xR m1 (m1 536 73) p0)) + (xR m1 (xw_rf (m1 536 22) 2) p1)))]) (m' := (xw_u m1 536 1 0)) (fun ex ns r q => ?_) ?_
            · refine xw_jc_neT rfl rfl (w64_cg (w64_xJ _ _ _)) (w64_cg rfl) h12 ?_
              refine xw_aload_n rfl rfl rfl ?_
              refine xw_gfR (n := 599) (e := 599) rfl (xw_obd (by decide +kernel)) (by decide +kernel) (by decide +kernel) rfl ?_
              refine xw_bipush (e := 8) rfl (by decide +kernel) ?_
              refine xw_iload_n rfl rfl ?_
              refine xw_imul rfl ?_
              refine xw_iload rfl rfl ?_
              refine xw_iadd rfl ?_
              refine xw_laldc (n := 32000) (v := (m1 599 ((8 * (xR m1 (m1 536 73) p0)) + (xR m1 (xw_rf (m1 536 22) 2) p1)))) (v' := (xJ m1 599 ((8 * (xR m1 (m1 536 73) p0)) + (xR m1 (xw_rf (m1 536 22) 2) p1)))) rfl hB (xw_obd (by decide +kernel)) rfl g13 (xw_un (fun e => absurd e.1 (by decide)) rfl) rfl ?_
              exact q
            exact xS_ret (v := (xJ m1 599 ((8 * (xR m1 (m1 536 73) p0)) + (xR m1 (xw_rf (m1 536 22) 2) p1)))) rfl rfl rfl (w64_xJ _ _ _)
        · refine xS_if (fun h11 => ?_) (fun h11 => ?_)
          · refine xS_g (fun g12 => ?_)
            refine xS_of (pc' := 166) (L' := [(4, xi (xR m1 (xw_rf (m1 536 22) 2) p1)), (3, xi (xR m1 (m1 536 73) p0)), (0, xa 536), (1, xi p0), (2, xi p1)]) (st' := [xj 0, xj (xJ m1 597 (xR m1 (m1 536 73) p0))]) (m' := (xw_u m1 536 1 0)) (fun ex ns r q => ?_) ?_
            · refine xw_sw (t := 159) rfl (by rw [h11]; rfl) ?_
              refine xw_aload_n rfl rfl rfl ?_
              refine xw_gfR (n := 597) (e := 597) rfl (xw_obd (by decide +kernel)) (by decide +kernel) (by decide +kernel) rfl ?_
              refine xw_iload_n rfl rfl ?_
              refine xw_laldc (n := 4000) (v := (m1 597 (xR m1 (m1 536 73) p0))) (v' := (xJ m1 597 (xR m1 (m1 536 73) p0))) rfl hB (xw_obd (by decide +kernel)) rfl g12 (xw_un (fun e => absurd e.1 (by decide)) rfl) rfl ?_
              refine xw_lconst (e := 0) rfl rfl ?_
              exact q
            refine xS_if (fun h13 => ?_) (fun h13 => ?_)
            · refine xS_of (pc' := 186) (L' := [(4, xi (xR m1 (xw_rf (m1 536 22) 2) p1)), (3, xi (xR m1 (m1 536 73) p0)), (0, xa 536), (1, xi p0), (2, xi p1)]) (st' := [xj 0]) (m' := (xw_u m1 536 1 0)) (fun ex ns r q => ?_) ?_
              · refine xw_jc_neF rfl rfl (w64_cg (w64_xJ _ _ _)) (w64_cg rfl) h13 ?_
                refine xw_lconst (e := 0) rfl rfl ?_
                refine xw_goto rfl ?_
                exact q
              exact xS_ret (v := 0) rfl rfl rfl rfl
            · refine xS_g (fun g14 => ?_)
              refine xS_of (pc' := 186) (L' := [(4, xi (xR m1 (xw_rf (m1 536 22) 2) p1)), (3, xi (xR m1 (m1 536 73) p0)), (0, xa 536), (1, xi p0), (2, xi p1)]) (st' := [xj (xJ m1 600 ((8 * (xR m1 (m1 536 73) p0)) + (xR m1 (xw_rf (m1 536 22) 2) p1)))]) (m' := (xw_u m1 536 1 0)) (fun ex ns r q => ?_) ?_
              · refine xw_jc_neT rfl rfl (w64_cg (w64_xJ _ _ _)) (w64_cg rfl) h13 ?_
                refine xw_aload_n rfl rfl rfl ?_
                refine xw_gfR (n := 600) (e := 600) rfl (xw_obd (by decide +kernel)) (by decide +kernel) (by decide +kernel) rfl ?_
                refine xw_bipush (e := 8) rfl (by decide +kernel) ?_
                refine xw_iload_n rfl rfl ?_
                refine xw_imul rfl ?_
                refine xw_iload rfl rfl ?_
                refine xw_iadd rfl ?_
                refine xw_laldc (n := 32000) (v := (m1 600 ((8 * (xR m1 (m1 536 73) p0)) + (xR m1 (xw_rf (m1 536 22) 2) p1)))) (v' := (xJ m1 600 ((8 * (xR m1 (m1 536 73) p0)) + (xR m1 (xw_rf (m1 536 22) 2) p1)))) rfl hB (xw_obd (by decide +kernel)) rfl g14 (xw_un (fun e => absurd e.1 (by decide)) rfl) rfl ?_
                exact q
              exact xS_ret (v := (xJ m1 600 ((8 * (xR m1 (m1 536 73) p0)) + (xR m1 (xw_rf (m1 536 22) 2) p1)))) rfl rfl rfl (w64_xJ _ _ _)
          · refine xS_if (fun h12 => ?_) (fun h12 => ?_)
            · refine xS_g (fun g13 => ?_)
              refine xS_of (pc' := 193) (L' := [(4, xi (xR m1 (xw_rf (m1 536 22) 2) p1)), (3, xi (xR m1 (m1 536 73) p0)), (0, xa 536), (1, xi p0), (2, xi p1)]) (st' := [xj (xJ m1 597 (xR m1 (m1 536 73) p0))]) (m' := (xw_u m1 536 1 0)) (fun ex ns r q => ?_) ?_
              · refine xw_sw (t := 187) rfl (by rw [h12]; rfl) ?_
                refine xw_aload_n rfl rfl rfl ?_
                refine xw_gfR (n := 597) (e := 597) rfl (xw_obd (by decide +kernel)) (by decide +kernel) (by decide +kernel) rfl ?_
                refine xw_iload_n rfl rfl ?_
                refine xw_laldc (n := 4000) (v := (m1 597 (xR m1 (m1 536 73) p0))) (v' := (xJ m1 597 (xR m1 (m1 536 73) p0))) rfl hB (xw_obd (by decide +kernel)) rfl g13 (xw_un (fun e => absurd e.1 (by decide)) rfl) rfl ?_
                exact q
              exact xS_ret (v := (xJ m1 597 (xR m1 (m1 536 73) p0))) rfl rfl rfl (w64_xJ _ _ _)
            · refine xS_of (pc' := 197) (L' := []) (st' := [xi p1, xi (xR m1 (m1 536 73) p0), xa 536]) (m' := (xw_u m1 536 1 0)) (fun ex ns r q => ?_) ?_
              · refine xw_sw (t := 194) rfl (xw_swd (w32_cg (w32_xR _ _ _)) (by have := h8; have := h9; have := h10; have := h11; have := h12; omega) rfl) ?_
                refine xw_aload_n rfl rfl rfl ?_
                refine xw_iload_n rfl rfl ?_
                refine xw_iload_n rfl rfl ?_
                refine xw_lo (L2 := []) (fun _ h => absurd h List.not_mem_nil) ?_
                exact q
              refine xS_call (q := 344) (n := 3) (kq := 4) (as := [xa 536, xi (xR m1 (m1 536 73) p0), xi p1]) (st1 := []) rfl rfl rfl rfl rfl rfl rfl rfl rfl rfl (fun _ => xw_rcv1 (t := 12) (xw_obd (by decide +kernel)) rfl) rfl (List.forall_mem_cons.mpr ⟨rfl, List.forall_mem_cons.mpr ⟨rfl, List.forall_mem_cons.mpr ⟨rfl, fun _ h => absurd h List.not_mem_nil⟩⟩⟩) (ygf344 hB _ _ _ (w32_xR _ _ _) cp1) (fun v4 m4 cv4 => ?_)
              refine xS_if (fun h13 => ?_) (fun h13 => ?_)
              · refine xS_of (pc' := 208) (L' := []) (st' := [xj 0]) (m' := m4) (fun ex ns r q => ?_) ?_
                · refine xw_if_eqT rfl (w32_cg (w32_of (xw_zr cv4))) h13 ?_
                  refine xw_lconst (e := 0) rfl rfl ?_
                  exact q
                exact xS_ret (v := 0) rfl rfl rfl rfl
              · refine xS_of (pc' := 208) (L' := []) (st' := [xj 1]) (m' := m4) (fun ex ns r q => ?_) ?_
                · refine xw_if_eqF rfl (w32_cg (w32_of (xw_zr cv4))) h13 ?_
                  refine xw_lconst (e := 1) rfl rfl ?_
                  refine xw_goto rfl ?_
                  exact q
                exact xS_ret (v := 1) rfl rfl rfl rfl
theorem ygk346_71 {B : Nat} (hB : B ≤ 512) {xs : Nat → Int32} {SL d : Nat} : ∀ x3 m, w32 x3 = x3 → xS B xs SL (d + 2) 346 (5, (some .boolean), [], 13) 4 71 [(0, xa 536), (3, xi x3)] [] m (yk346_71 B x3 m) := by
  intro x3 m c3
  unfold yk346_71
  refine xS_g (fun g0 => ?_)
  refine xS_of (pc' := 78) (L' := [(0, xa 536), (3, xi x3)]) (st' := [xj 0, xj (xJ m 597 x3)]) (m' := m) (fun ex ns r q => ?_) ?_
  · refine xw_aload_n rfl rfl rfl ?_
    refine xw_gfR (n := 597) (e := 597) rfl (xw_obd (by decide +kernel)) (by decide +kernel) (by decide +kernel) rfl ?_
    refine xw_iload_n rfl rfl ?_
    refine xw_laldc (n := 4000) (v := (m 597 x3)) (v' := (xJ m 597 x3)) rfl hB (xw_obd (by decide +kernel)) rfl g0 rfl rfl ?_
    refine xw_lconst (e := 0) rfl rfl ?_
    exact q
  refine xS_if (fun h1 => ?_) (fun h1 => ?_)
  · refine xS_of (pc' := 87) (L' := [(0, xa 536), (3, xi x3)]) (st' := [xi 1]) (m' := m) (fun ex ns r q => ?_) ?_
    · refine xw_jc_neF rfl rfl (w64_cg (w64_xJ _ _ _)) (w64_cg rfl) h1 ?_
      refine xw_iconst rfl ?_
      refine xw_goto rfl ?_
      exact q
    exact xS_ret (v := 1) rfl rfl (xw_rtZ (Or.inr rfl)) (Or.inr rfl)
  · refine xS_of (pc' := 87) (L' := [(0, xa 536), (3, xi x3)]) (st' := [xi 0]) (m' := m) (fun ex ns r q => ?_) ?_
    · refine xw_jc_neT rfl rfl (w64_cg (w64_xJ _ _ _)) (w64_cg rfl) h1 ?_
      refine xw_iconst rfl ?_
      exact q
    exact xS_ret (v := 0) rfl rfl (xw_rtZ (Or.inl rfl)) (Or.inl rfl)
theorem ygf346 {B : Nat} (hB : B ≤ 512) {xs : Nat → Int32} {SL d : Nat} : ∀ p0 p1 m, w32 p0 = p0 → w32 p1 = p1 → xS B xs SL (d + 2) 346 (5, (some .boolean), [], 13) 4 0 [(0, xa 536), (1, xi p0), (2, xi p1)] [] m (yf346 B p0 p1 m) := by
  intro p0 p1 m cp0 cp1
  unfold yf346
  refine xS_of (pc' := 4) (L' := [(0, xa 536), (1, xi p0), (2, xi p1)]) (st' := [xi p1, xi p0, xa 536, xa 536]) (m' := m) (fun ex ns r q => ?_) ?_
  · refine xw_aload_n rfl rfl rfl ?_
    refine xw_aload_n rfl rfl rfl ?_
    refine xw_iload_n rfl rfl ?_
    refine xw_iload_n rfl rfl ?_
    refine xw_lo (L2 := [(0, xa 536), (1, xi p0), (2, xi p1)]) (List.forall_mem_cons.mpr ⟨rfl, List.forall_mem_cons.mpr ⟨rfl, List.forall_mem_cons.mpr ⟨rfl, fun _ h => absurd h List.not_mem_nil⟩⟩⟩) ?_
    exact q
  refine xS_call (q := 343) (n := 3) (kq := 4) (as := [xa 536, xi p0, xi p1]) (st1 := [xa 536]) rfl rfl rfl rfl rfl rfl rfl rfl rfl rfl (fun _ => xw_rcv1 (t := 12) (xw_obd (by decide +kernel)) rfl) rfl (List.forall_mem_cons.mpr ⟨rfl, List.forall_mem_cons.mpr ⟨rfl, List.forall_mem_cons.mpr ⟨rfl, fun _ h => absurd h List.not_mem_nil⟩⟩⟩) (ygf343 hB _ _ _ cp0 cp1) (fun v1 m1 cv1 => ?_)
  refine xS_if (fun h0 => ?_) (fun h0 => ?_)
  · refine xS_of (pc' := 26) (L' := [(0, xa 536), (1, xi p0), (2, xi p1)]) (st' := [xi 0]) (m' := (xw_u m1 536 1 1)) (fun ex ns r q => ?_) ?_
    · refine xw_if_eqT rfl (w32_cg (w32_of (xw_zr cv1))) h0 ?_
      refine xw_iconst rfl ?_
      refine xw_pfI rfl (xw_obd (by decide +kernel)) xk12_1 (qi := 1) rfl (xw_okI rfl) ?_
      refine xw_aload_n rfl rfl rfl ?_
      refine xw_gfIc (v := 1) (v' := 1) rfl (xw_obd (by decide +kernel)) xk12_1 (qi := 1) rfl xw_us rfl ?_
      refine xw_if_leF rfl (w32_cg rfl) (Int.not_le.mpr (by decide)) ?_
      refine xw_iconst rfl ?_
      exact q
    exact xS_ret (v := 0) rfl rfl (xw_rtZ (Or.inl rfl)) (Or.inl rfl)
  · refine xS_g (fun g1 => ?_)
    refine xS_g (fun g2 => ?_)
    refine xS_g (fun g3 => ?_)
    refine xS_g (fun g4 => ?_)
    refine xS_g (fun g5 => ?_)
    refine xS_of (pc' := 47) (L' := [(4, xi (xR m1 (xw_rf (m1 536 22) 1) p1)), (3, xi (xR m1 (m1 536 73) p0)), (0, xa 536), (1, xi p0), (2, xi p1)]) (st' := [xi (xR m1 (xw_rf (m1 536 22) 1) p1)]) (m' := (xw_u m1 536 1 0)) (fun ex ns r q => ?_) ?_
    · refine xw_if_eqF rfl (w32_cg (w32_of (xw_zr cv1))) h0 ?_
      refine xw_iconst rfl ?_
      refine xw_goto rfl ?_
      refine xw_pfI rfl (xw_obd (by decide +kernel)) xk12_1 (qi := 1) rfl (xw_okI rfl) ?_
      refine xw_aload_n rfl rfl rfl ?_
      refine xw_gfIc (v := 0) (v' := 0) rfl (xw_obd (by decide +kernel)) xk12_1 (qi := 1) rfl xw_us rfl ?_
      refine xw_if_leT rfl (w32_cg rfl) (Int.not_lt.mp (by decide)) ?_
      refine xw_aload_n rfl rfl rfl ?_
      refine xw_gfM (v := (m1 536 73)) rfl (xw_obd (by decide +kernel)) xk12_73 (qi := 73) rfl (xw_un (fun e => absurd e.2 (by decide)) rfl) ?_
      refine xw_iload_n rfl rfl ?_
      refine xw_ialdc (n := (xw_le B (m1 536 73))) (v := (m1 (m1 536 73) p0)) (v' := (xR m1 (m1 536 73) p0)) rfl hB (xw_obd g2) rfl g1 (xw_un (xw_obne (t := 12) (t' := 16) (xw_obd (by decide +kernel)) (xw_obd g2) (by decide)) rfl) rfl ?_
      refine xw_istore_n (L' := [(3, xi (xR m1 (m1 536 73) p0)), (0, xa 536), (1, xi p0), (2, xi p1)]) rfl (by decide) rfl ?_
      refine xw_aload_n rfl rfl rfl ?_
      refine xw_gfM (v := (m1 536 22)) rfl (xw_obd (by decide +kernel)) xk12_22 (qi := 22) rfl (xw_un (fun e => absurd e.2 (by decide)) rfl) ?_
      refine xw_gfV (qi := 1) rfl (xw_obd g3) xk13_1 rfl ?_
      refine xw_iload_n rfl rfl ?_
      refine xw_ialdc (n := (xw_le B (xw_rf (m1 536 22) 1))) (v := (m1 (xw_rf (m1 536 22) 1) p1)) (v' := (xR m1 (xw_rf (m1 536 22) 1) p1)) rfl hB (xw_obd g5) rfl g4 (xw_un (xw_obne (t := 12) (t' := 16) (xw_obd (by decide +kernel)) (xw_obd g5) (by decide)) rfl) rfl ?_
      refine xw_istore (L' := [(4, xi (xR m1 (xw_rf (m1 536 22) 1) p1)), (3, xi (xR m1 (m1 536 73) p0)), (0, xa 536), (1, xi p0), (2, xi p1)]) rfl (by decide) rfl ?_
      refine xw_iload rfl rfl ?_
      exact q
    refine xS_if (fun h6 => ?_) (fun h6 => ?_)
    · refine xS_of (pc' := 53) (L' := []) (st' := [xi p1, xi (xR m1 (m1 536 73) p0), xa 536]) (m' := (xw_u m1 536 1 0)) (fun ex ns r q => ?_) ?_
      · refine xw_if_neF rfl (w32_cg (w32_xR _ _ _)) h6 ?_
        refine xw_aload_n rfl rfl rfl ?_
        refine xw_iload_n rfl rfl ?_
        refine xw_iload_n rfl rfl ?_
        refine xw_lo (L2 := []) (fun _ h => absurd h List.not_mem_nil) ?_
        exact q
      refine xS_call (q := 344) (n := 3) (kq := 4) (as := [xa 536, xi (xR m1 (m1 536 73) p0), xi p1]) (st1 := []) rfl rfl rfl rfl rfl rfl rfl rfl rfl rfl (fun _ => xw_rcv1 (t := 12) (xw_obd (by decide +kernel)) rfl) rfl (List.forall_mem_cons.mpr ⟨rfl, List.forall_mem_cons.mpr ⟨rfl, List.forall_mem_cons.mpr ⟨rfl, fun _ h => absurd h List.not_mem_nil⟩⟩⟩) (ygf344 hB _ _ _ (w32_xR _ _ _) cp1) (fun v2 m2 cv2 => ?_)
      refine xS_of (pc' := 87) (L' := []) (st' := [xi v2]) (m' := m2) (fun ex ns r q => ?_) ?_
      · refine xw_goto rfl ?_
        exact q
      exact xS_ret (v := v2) rfl rfl (xw_rtZ cv2) cv2
    · refine xS_of (pc' := 62) (L' := [(4, xi (xR m1 (xw_rf (m1 536 22) 1) p1)), (3, xi (xR m1 (m1 536 73) p0)), (0, xa 536), (1, xi p0), (2, xi p1)]) (st' := [xi 2, xi (xR m1 (xw_rf (m1 536 22) 1) p1)]) (m' := (xw_u m1 536 1 0)) (fun ex ns r q => ?_) ?_
      · refine xw_if_neT rfl (w32_cg (w32_xR _ _ _)) h6 ?_
        refine xw_iload rfl rfl ?_
        refine xw_iconst rfl ?_
        exact q
      refine xS_if (fun h7 => ?_) (fun h7 => ?_)
      · refine xS_of (pc' := 71) (L' := [(0, xa 536), (3, xi (xR m1 (m1 536 73) p0))]) (st' := []) (m' := (xw_u m1 536 1 0)) (fun ex ns r q => ?_) ?_
        · refine xw_ic_eqT rfl (w32_cg (w32_xR _ _ _)) (w32_cg rfl) h7 ?_
          refine xw_lo (L2 := [(0, xa 536), (3, xi (xR m1 (m1 536 73) p0))]) (List.forall_mem_cons.mpr ⟨rfl, List.forall_mem_cons.mpr ⟨rfl, fun _ h => absurd h List.not_mem_nil⟩⟩) ?_
          exact q
        exact ygk346_71 hB _ _ (w32_xR _ _ _)
      · refine xS_of (pc' := 68) (L' := [(4, xi (xR m1 (xw_rf (m1 536 22) 1) p1)), (3, xi (xR m1 (m1 536 73) p0)), (0, xa 536), (1, xi p0), (2, xi p1)]) (st' := [xi 3, xi (xR m1 (xw_rf (m1 536 22) 1) p1)]) (m' := (xw_u m1 536 1 0)) (fun ex ns r q => ?_) ?_
        · refine xw_ic_eqF rfl (w32_cg (w32_xR _ _ _)) (w32_cg rfl) h7 ?_
          refine xw_iload rfl rfl ?_
          refine xw_iconst rfl ?_
          exact q
        refine xS_if (fun h8 => ?_) (fun h8 => ?_)
        · refine xS_of (pc' := 71) (L' := [(0, xa 536), (3, xi (xR m1 (m1 536 73) p0))]) (st' := []) (m' := (xw_u m1 536 1 0)) (fun ex ns r q => ?_) ?_
          · refine xw_ic_neF rfl (w32_cg (w32_xR _ _ _)) (w32_cg rfl) h8 ?_
            refine xw_lo (L2 := [(0, xa 536), (3, xi (xR m1 (m1 536 73) p0))]) (List.forall_mem_cons.mpr ⟨rfl, List.forall_mem_cons.mpr ⟨rfl, fun _ h => absurd h List.not_mem_nil⟩⟩) ?_
            exact q
          exact ygk346_71 hB _ _ (w32_xR _ _ _)
        · refine xS_of (pc' := 87) (L' := [(4, xi (xR m1 (xw_rf (m1 536 22) 1) p1)), (3, xi (xR m1 (m1 536 73) p0)), (0, xa 536), (1, xi p0), (2, xi p1)]) (st' := [xi 0]) (m' := (xw_u m1 536 1 0)) (fun ex ns r q => ?_) ?_
          · refine xw_ic_neT rfl (w32_cg (w32_xR _ _ _)) (w32_cg rfl) h8 ?_
            refine xw_iconst rfl ?_
            exact q
          exact xS_ret (v := 0) rfl rfl (xw_rtZ (Or.inl rfl)) (Or.inl rfl)
theorem ygf347 {B : Nat} (hB : B ≤ 512) {xs : Nat → Int32} {SL d : Nat} : ∀ m, xS B xs SL (d + 0) 347 (1, (some .int), [], 13) 1 0 [(0, xa 536)] [] m (yf347 B m) := by
  intro m
  unfold yf347
  refine xS_of (pc' := 5) (L' := [(0, xa 536)]) (st' := [xi (xR m 536 3), xa 536]) (m' := m) (fun ex ns r q => ?_) ?_
  · refine xw_aload_n rfl rfl rfl ?_
    refine xw_aload_n rfl rfl rfl ?_
    refine xw_gfIc (v := (m 536 3)) (v' := (xR m 536 3)) rfl (xw_obd (by decide +kernel)) xk12_3 (qi := 3) rfl rfl rfl ?_
    exact q
  refine xS_if (fun h0 => ?_) (fun h0 => ?_)
  · refine xS_of (pc' := 12) (L' := [(0, xa 536)]) (st' := [xi (xR m 536 24), xa 536]) (m' := m) (fun ex ns r q => ?_) ?_
    · refine xw_if_neF rfl (w32_cg (w32_xR _ _ _)) h0 ?_
      refine xw_aload_n rfl rfl rfl ?_
      refine xw_gfIc (v := (m 536 24)) (v' := (xR m 536 24)) rfl (xw_obd (by decide +kernel)) xk12_24 (qi := 24) rfl rfl rfl ?_
      exact q
    refine xS_if (fun h1 => ?_) (fun h1 => ?_)
    · refine xS_of (pc' := 38) (L' := [(0, xa 536)]) (st' := [xi 0]) (m' := (xw_u m 536 1 1)) (fun ex ns r q => ?_) ?_
      · refine xw_if_eqT rfl (w32_cg (w32_xR _ _ _)) h1 ?_
        refine xw_iconst rfl ?_
        refine xw_pfI rfl (xw_obd (by decide +kernel)) xk12_1 (qi := 1) rfl (xw_okI rfl) ?_
        refine xw_aload_n rfl rfl rfl ?_
        refine xw_gfIc (v := 1) (v' := 1) rfl (xw_obd (by decide +kernel)) xk12_1 (qi := 1) rfl xw_us rfl ?_
        refine xw_if_leF rfl (w32_cg rfl) (Int.not_le.mpr (by decide)) ?_
        refine xw_iconst rfl ?_
        refine xw_goto rfl ?_
        exact q
      exact xS_ret (v := 0) rfl rfl xw_rtI rfl
    · refine xS_of (pc' := 38) (L' := [(0, xa 536)]) (st' := [xi (xR m 536 66)]) (m' := (xw_u m 536 1 0)) (fun ex ns r q => ?_) ?_
      · refine xw_if_eqF rfl (w32_cg (w32_xR _ _ _)) h1 ?_
        refine xw_iconst rfl ?_
        refine xw_goto rfl ?_
        refine xw_pfI rfl (xw_obd (by decide +kernel)) xk12_1 (qi := 1) rfl (xw_okI rfl) ?_
        refine xw_aload_n rfl rfl rfl ?_
        refine xw_gfIc (v := 0) (v' := 0) rfl (xw_obd (by decide +kernel)) xk12_1 (qi := 1) rfl xw_us rfl ?_
        refine xw_if_leT rfl (w32_cg rfl) (Int.not_lt.mp (by decide)) ?_
        refine xw_aload_n rfl rfl rfl ?_
        refine xw_gfIc (v := (m 536 66)) (v' := (xR m 536 66)) rfl (xw_obd (by decide +kernel)) xk12_66 (qi := 66) rfl (xw_un (fun e => absurd e.2 (by decide)) rfl) rfl ?_
        exact q
      exact xS_ret (v := (xR m 536 66)) rfl rfl xw_rtI (w32_xR _ _ _)
  · refine xS_of (pc' := 38) (L' := [(0, xa 536)]) (st' := [xi 0]) (m' := (xw_u m 536 1 1)) (fun ex ns r q => ?_) ?_
    · refine xw_if_neT rfl (w32_cg (w32_xR _ _ _)) h0 ?_
      refine xw_iconst rfl ?_
      refine xw_pfI rfl (xw_obd (by decide +kernel)) xk12_1 (qi := 1) rfl (xw_okI rfl) ?_
      refine xw_aload_n rfl rfl rfl ?_
      refine xw_gfIc (v := 1) (v' := 1) rfl (xw_obd (by decide +kernel)) xk12_1 (qi := 1) rfl xw_us rfl ?_
      refine xw_if_leF rfl (w32_cg rfl) (Int.not_le.mpr (by decide)) ?_
      refine xw_iconst rfl ?_
      refine xw_goto rfl ?_
      exact q
    exact xS_ret (v := 0) rfl rfl xw_rtI rfl
theorem ygf348 {B : Nat} (hB : B ≤ 512) {xs : Nat → Int32} {SL d : Nat} : ∀ m, xS B xs SL (d + 1) 348 (1, (some .int), [], 13) 1 0 [(0, xa 536)] [] m (yf348 B m) := by
  intro m
  unfold yf348
  refine xS_of (pc' := 2) (L' := []) (st' := [xa 536, xa 536]) (m' := m) (fun ex ns r q => ?_) ?_
  · refine xw_aload_n rfl rfl rfl ?_
    refine xw_aload_n rfl rfl rfl ?_
    refine xw_lo (L2 := []) (fun _ h => absurd h List.not_mem_nil) ?_
    exact q
  refine xS_call (q := 320) (n := 1) (kq := 4) (as := [xa 536]) (st1 := [xa 536]) rfl rfl rfl rfl rfl rfl rfl rfl rfl rfl (fun _ => xw_rcv1 (t := 12) (xw_obd (by decide +kernel)) rfl) rfl (List.forall_mem_cons.mpr ⟨rfl, fun _ h => absurd h List.not_mem_nil⟩) (ygf320 hB _) (fun v1 m1 cv1 => ?_)
  refine xS_if (fun h0 => ?_) (fun h0 => ?_)
  · refine xS_of (pc' := 17) (L' := []) (st' := [xi 0]) (m' := (xw_u m1 536 1 1)) (fun ex ns r q => ?_) ?_
    · refine xw_if_eqT rfl (w32_cg (w32_of (xw_zr cv1))) h0 ?_
      refine xw_iconst rfl ?_
      refine xw_pfI rfl (xw_obd (by decide +kernel)) xk12_1 (qi := 1) rfl (xw_okI rfl) ?_
      refine xw_iconst rfl ?_
      exact q
    exact xS_ret (v := 0) rfl rfl xw_rtI rfl
  · refine xS_of (pc' := 17) (L' := []) (st' := [xi 0]) (m' := (xw_u m1 536 1 0)) (fun ex ns r q => ?_) ?_
    · refine xw_if_eqF rfl (w32_cg (w32_of (xw_zr cv1))) h0 ?_
      refine xw_iconst rfl ?_
      refine xw_goto rfl ?_
      refine xw_pfI rfl (xw_obd (by decide +kernel)) xk12_1 (qi := 1) rfl (xw_okI rfl) ?_
      refine xw_iconst rfl ?_
      exact q
    exact xS_ret (v := 0) rfl rfl xw_rtI rfl

