/-! the machine does what the functions say, 12 -/
theorem ysl270_196 {B : Nat} (hB : B ≤ 512) {xs : Nat → Int32} {SL d : Nat} {r143 : Int → xw_M → xP} (hr143 : ∀ x3 m, w32 x3 = x3 → xS B xs SL (d + 198) 270 (6, none, [], 13) 0 143 [(0, xa 536), (3, xi x3)] [] m (r143 x3 m)) {r196 : Int → Int → Int → xw_M → xP} (hr196 : ∀ x3 x4 x5 m, w32 x3 = x3 → w32 x4 = x4 → w32 x5 = x5 → xS B xs SL (d + 198) 270 (6, none, [], 13) 0 196 [(0, xa 536), (3, xi x3), (4, xi x4), (5, xi x5)] [] m (r196 x3 x4 x5 m)) : ∀ x3 x4 x5 m, w32 x3 = x3 → w32 x4 = x4 → w32 x5 = x5 → xS B xs SL (d + 198) 270 (6, none, [], 13) 0 196 [(0, xa 536), (3, xi x3), (4, xi x4), (5, xi x5)] [] m (yl270_196 B r143 r196 x3 x4 x5 m) := by
  intro x3 x4 x5 m c3 c4 c5
  unfold yl270_196
  refine xS_g (fun g0 => ?_)
  refine xS_of (pc' := 205) (L' := [(0, xa 536), (3, xi x3), (4, xi x4), (5, xi x5)]) (st' := [xi (xR m (m 536 23) 4), xi x5]) (m' := m) (fun ex ns r q => ?_) ?_
  · refine xw_iload rfl rfl ?_
    refine xw_aload_n rfl rfl rfl ?_
    refine xw_gfM (v := (m 536 23)) rfl (xw_obd (by decide +kernel)) xk12_23 (qi := 23) rfl rfl ?_
    refine xw_gfIc (v := (m (m 536 23) 4)) (v' := (xR m (m 536 23) 4)) rfl (xw_obd g0) xk13_4 (qi := 4) rfl rfl rfl ?_
    exact q
  refine xS_if (fun h1 => ?_) (fun h1 => ?_)
  · refine xS_of (pc' := 210) (L' := [(0, xa 536), (3, xi x3), (4, xi x4), (5, xi x5)]) (st' := [xi x4]) (m' := m) (fun ex ns r q => ?_) ?_
    · refine xw_ic_geF rfl (w32_cg c5) (w32_cg (w32_xR _ _ _)) (Int.not_le.mpr h1) ?_
      refine xw_iload rfl rfl ?_
      exact q
    refine xS_if (fun h2 => ?_) (fun h2 => ?_)
    · refine xS_g (fun g3 => ?_)
      refine xS_g (fun g4 => ?_)
      refine xS_g (fun g5 => ?_)
      refine xS_g (fun g6 => ?_)
      refine xS_of (pc' := 232) (L' := [(0, xa 536), (3, xi x3), (4, xi x4), (5, xi x5)]) (st' := [xi (xR m (xw_rf (m 536 23) 2) x3), xi (xR m (xw_rf (m 536 23) 5) x5)]) (m' := m) (fun ex ns r q => ?_) ?_
      · refine xw_if_neF rfl (w32_cg c4) h2 ?_
        refine xw_aload_n rfl rfl rfl ?_
        refine xw_gfM (v := (m 536 23)) rfl (xw_obd (by decide +kernel)) xk12_23 (qi := 23) rfl rfl ?_
        refine xw_gfV (qi := 5) rfl (xw_obd g0) xk13_5 rfl ?_
        refine xw_iload rfl rfl ?_
        refine xw_ialdc (n := (xw_le B (xw_rf (m 536 23) 5))) (v := (m (xw_rf (m 536 23) 5) x5)) (v' := (xR m (xw_rf (m 536 23) 5) x5)) rfl hB (xw_obd g4) rfl g3 rfl rfl ?_
        refine xw_aload_n rfl rfl rfl ?_
        refine xw_gfM (v := (m 536 23)) rfl (xw_obd (by decide +kernel)) xk12_23 (qi := 23) rfl rfl ?_
        refine xw_gfV (qi := 2) rfl (xw_obd g0) xk13_2 rfl ?_
        refine xw_iload_n rfl rfl ?_
        refine xw_ialdc (n := (xw_le B (xw_rf (m 536 23) 2))) (v := (m (xw_rf (m 536 23) 2) x3)) (v' := (xR m (xw_rf (m 536 23) 2) x3)) rfl hB (xw_obd g6) rfl g5 rfl rfl ?_
        exact q
      refine xS_if (fun h7 => ?_) (fun h7 => ?_)
      · refine xS_of (pc' := 196) (L' := [(0, xa 536), (3, xi x3), (4, xi 1), (5, xi (w32 (x5 + 1)))]) (st' := []) (m' := m) (fun ex ns r q => ?_) ?_
        · refine xw_ic_neF rfl (w32_cg (w32_xR _ _ _)) (w32_cg (w32_xR _ _ _)) h7 ?_
          refine xw_iconst rfl ?_
          refine xw_goto rfl ?_
          refine xw_istore (L' := [(4, xi 1), (0, xa 536), (3, xi x3), (5, xi x5)]) rfl (by decide) rfl ?_
          refine xw_iincc (z := (w32 (x5 + 1))) (L' := [(5, xi (w32 (x5 + 1))), (4, xi 1), (0, xa 536), (3, xi x3)]) rfl rfl (by decide) rfl rfl ?_
          refine xw_goto rfl ?_
          refine xw_lo (L2 := [(0, xa 536), (3, xi x3), (4, xi 1), (5, xi (w32 (x5 + 1)))]) (List.forall_mem_cons.mpr ⟨rfl, List.forall_mem_cons.mpr ⟨rfl, List.forall_mem_cons.mpr ⟨rfl, List.forall_mem_cons.mpr ⟨rfl, fun _ h => absurd h List.not_mem_nil⟩⟩⟩⟩) ?_
          exact q
        exact hr196 _ _ _ _ c3 rfl (w32_w _)
      · refine xS_of (pc' := 196) (L' := [(0, xa 536), (3, xi x3), (4, xi 0), (5, xi (w32 (x5 + 1)))]) (st' := []) (m' := m) (fun ex ns r q => ?_) ?_
        · refine xw_ic_neT rfl (w32_cg (w32_xR _ _ _)) (w32_cg (w32_xR _ _ _)) h7 ?_
          refine xw_iconst rfl ?_
          refine xw_istore (L' := [(4, xi 0), (0, xa 536), (3, xi x3), (5, xi x5)]) rfl (by decide) rfl ?_
          refine xw_iincc (z := (w32 (x5 + 1))) (L' := [(5, xi (w32 (x5 + 1))), (4, xi 0), (0, xa 536), (3, xi x3)]) rfl rfl (by decide) rfl rfl ?_
          refine xw_goto rfl ?_
          refine xw_lo (L2 := [(0, xa 536), (3, xi x3), (4, xi 0), (5, xi (w32 (x5 + 1)))]) (List.forall_mem_cons.mpr ⟨rfl, List.forall_mem_cons.mpr ⟨rfl, List.forall_mem_cons.mpr ⟨rfl, List.forall_mem_cons.mpr ⟨rfl, fun _ h => absurd h List.not_mem_nil⟩⟩⟩⟩) ?_
          exact q
        exact hr196 _ _ _ _ c3 rfl (w32_w _)
    · refine xS_of (pc' := 196) (L' := [(0, xa 536), (3, xi x3), (4, xi 1), (5, xi (w32 (x5 + 1)))]) (st' := []) (m' := m) (fun ex ns r q => ?_) ?_
      · refine xw_if_neT rfl (w32_cg c4) h2 ?_
        refine xw_iconst rfl ?_
        refine xw_goto rfl ?_
        refine xw_istore (L' := [(4, xi 1), (0, xa 536), (3, xi x3), (5, xi x5)]) rfl (by decide) rfl ?_
        refine xw_iincc (z := (w32 (x5 + 1))) (L' := [(5, xi (w32 (x5 + 1))), (4, xi 1), (0, xa 536), (3, xi x3)]) rfl rfl (by decide) rfl rfl ?_
        refine xw_goto rfl ?_
        refine xw_lo (L2 := [(0, xa 536), (3, xi x3), (4, xi 1), (5, xi (w32 (x5 + 1)))]) (List.forall_mem_cons.mpr ⟨rfl, List.forall_mem_cons.mpr ⟨rfl, List.forall_mem_cons.mpr ⟨rfl, List.forall_mem_cons.mpr ⟨rfl, fun _ h => absurd h List.not_mem_nil⟩⟩⟩⟩) ?_
        exact q
      exact hr196 _ _ _ _ c3 rfl (w32_w _)
  · refine xS_g (fun g2 => ?_)
    refine xS_g (fun g3 => ?_)
    refine xS_of (pc' := 262) (L' := [(0, xa 536), (3, xi x3)]) (st' := [xi (xR m (xw_rf (m 536 23) 3) x3), xi 11, xi x4, xa 536]) (m' := m) (fun ex ns r q => ?_) ?_
    · refine xw_ic_geT rfl (w32_cg c5) (w32_cg (w32_xR _ _ _)) (Int.not_lt.mp h1) ?_
      refine xw_aload_n rfl rfl rfl ?_
      refine xw_iload rfl rfl ?_
      refine xw_bipush (e := 11) rfl (by decide +kernel) ?_
      refine xw_aload_n rfl rfl rfl ?_
      refine xw_gfM (v := (m 536 23)) rfl (xw_obd (by decide +kernel)) xk12_23 (qi := 23) rfl rfl ?_
      refine xw_gfV (qi := 3) rfl (xw_obd g0) xk13_3 rfl ?_
      refine xw_iload_n rfl rfl ?_
      refine xw_ialdc (n := (xw_le B (xw_rf (m 536 23) 3))) (v := (m (xw_rf (m 536 23) 3) x3)) (v' := (xR m (xw_rf (m 536 23) 3) x3)) rfl hB (xw_obd g3) rfl g2 rfl rfl ?_
      refine xw_lo (L2 := [(0, xa 536), (3, xi x3)]) (List.forall_mem_cons.mpr ⟨rfl, List.forall_mem_cons.mpr ⟨rfl, fun _ h => absurd h List.not_mem_nil⟩⟩) ?_
      exact q
    refine xS_call (q := 254) (n := 4) (kq := 4) (as := [xa 536, xi x4, xi 11, xi (xR m (xw_rf (m 536 23) 3) x3)]) (st1 := []) rfl rfl rfl rfl rfl rfl rfl rfl rfl rfl (fun _ => xw_rcv1 (t := 12) (xw_obd (by decide +kernel)) rfl) rfl (List.forall_mem_cons.mpr ⟨rfl, List.forall_mem_cons.mpr ⟨rfl, List.forall_mem_cons.mpr ⟨rfl, List.forall_mem_cons.mpr ⟨rfl, fun _ h => absurd h List.not_mem_nil⟩⟩⟩⟩) (ygf254 hB _ _ _ _ c4 rfl (w32_xR _ _ _)) (fun v1 m1 cv1 => ?_)
    refine xS_of (pc' := 143) (L' := [(0, xa 536), (3, xi (w32 (x3 + 1)))]) (st' := []) (m' := m1) (fun ex ns r q => ?_) ?_
    · refine xw_istore_n (L' := [(2, xi v1), (0, xa 536), (3, xi x3)]) rfl (by decide) rfl ?_
      refine xw_iincc (z := (w32 (x3 + 1))) (L' := [(3, xi (w32 (x3 + 1))), (2, xi v1), (0, xa 536)]) rfl rfl (by decide) rfl rfl ?_
      refine xw_goto rfl ?_
      refine xw_lo (L2 := [(0, xa 536), (3, xi (w32 (x3 + 1)))]) (List.forall_mem_cons.mpr ⟨rfl, List.forall_mem_cons.mpr ⟨rfl, fun _ h => absurd h List.not_mem_nil⟩⟩) ?_
      exact q
    exact hr143 _ _ (w32_w _)
theorem ygl270_196 {B : Nat} (hB : B ≤ 512) {xs : Nat → Int32} {SL d : Nat} {r143 : Int → xw_M → xP} (hr143 : ∀ x3 m, w32 x3 = x3 → xS B xs SL (d + 198) 270 (6, none, [], 13) 0 143 [(0, xa 536), (3, xi x3)] [] m (r143 x3 m)) : ∀ n x3 x4 x5 m, w32 x3 = x3 → w32 x4 = x4 → w32 x5 = x5 → xS B xs SL (d + 198) 270 (6, none, [], 13) 0 196 [(0, xa 536), (3, xi x3), (4, xi x4), (5, xi x5)] [] m (xl3 (yl270_196 B r143) n x3 x4 x5 m) := by
  intro n
  induction n with
  | zero => intro x3 x4 x5 m c3 c4 c5; exact xS_none
  | succ n ih => exact ysl270_196 hB hr143 ih
theorem ygk270_287 {B : Nat} (hB : B ≤ 512) {xs : Nat → Int32} {SL d : Nat} : ∀ m, xS B xs SL (d + 198) 270 (6, none, [], 13) 0 287 [(0, xa 536)] [] m (yk270_287 B m) := by
  intro m
  unfold yk270_287
  refine xS_of (pc' := 291) (L' := [(0, xa 536)]) (st' := [xi (xR m 536 6)]) (m' := m) (fun ex ns r q => ?_) ?_
  · refine xw_aload_n rfl rfl rfl ?_
    refine xw_gfIc (v := (m 536 6)) (v' := (xR m 536 6)) rfl (xw_obd (by decide +kernel)) xk12_6 (qi := 6) rfl rfl rfl ?_
    exact q
  refine xS_if (fun h0 => ?_) (fun h0 => ?_)
  · refine xS_of (pc' := 300) (L' := [(0, xa 536)]) (st' := [xa (m 536 23), xa 536, xa 536]) (m' := m) (fun ex ns r q => ?_) ?_
    · refine xw_if_neF rfl (w32_cg (w32_xR _ _ _)) h0 ?_
      refine xw_aload_n rfl rfl rfl ?_
      refine xw_aload_n rfl rfl rfl ?_
      refine xw_aload_n rfl rfl rfl ?_
      refine xw_gfM (v := (m 536 23)) rfl (xw_obd (by decide +kernel)) xk12_23 (qi := 23) rfl rfl ?_
      refine xw_lo (L2 := [(0, xa 536)]) (List.forall_mem_cons.mpr ⟨rfl, fun _ h => absurd h List.not_mem_nil⟩) ?_
      exact q
    refine xS_call (q := 285) (n := 2) (kq := 4) (as := [xa 536, xa (m 536 23)]) (st1 := [xa 536]) rfl rfl rfl rfl rfl rfl rfl rfl rfl rfl (fun _ => xw_rcv1 (t := 12) (xw_obd (by decide +kernel)) rfl) rfl (List.forall_mem_cons.mpr ⟨rfl, List.forall_mem_cons.mpr ⟨rfl, fun _ h => absurd h List.not_mem_nil⟩⟩) (ygf285 hB _ _) (fun v1 m1 cv1 => ?_)
    refine xS_of (pc' := 309) (L' := [(0, xa 536)]) (st' := [xi (xR m1 536 27), xi 12, xi v1, xa 536]) (m' := m1) (fun ex ns r q => ?_) ?_
    · refine xw_bipush (e := 12) rfl (by decide +kernel) ?_
      refine xw_aload_n rfl rfl rfl ?_
      refine xw_gfIc (v := (m1 536 27)) (v' := (xR m1 536 27)) rfl (xw_obd (by decide +kernel)) xk12_27 (qi := 27) rfl rfl rfl ?_
      refine xw_lo (L2 := [(0, xa 536)]) (List.forall_mem_cons.mpr ⟨rfl, fun _ h => absurd h List.not_mem_nil⟩) ?_
      exact q
    refine xS_call (q := 254) (n := 4) (kq := 4) (as := [xa 536, xi v1, xi 12, xi (xR m1 536 27)]) (st1 := []) rfl rfl rfl rfl rfl rfl rfl rfl rfl rfl (fun _ => xw_rcv1 (t := 12) (xw_obd (by decide +kernel)) rfl) rfl (List.forall_mem_cons.mpr ⟨rfl, List.forall_mem_cons.mpr ⟨rfl, List.forall_mem_cons.mpr ⟨rfl, List.forall_mem_cons.mpr ⟨rfl, fun _ h => absurd h List.not_mem_nil⟩⟩⟩⟩) (ygf254 hB _ _ _ _ (w32_of (xw_zr cv1)) rfl (w32_xR _ _ _)) (fun v2 m2 cv2 => ?_)
    refine xS_if (fun h1 => ?_) (fun h1 => ?_)
    · refine xS_of (pc' := 346) (L' := [(0, xa 536)]) (st' := []) (m' := m2) (fun ex ns r q => ?_) ?_
      · refine xw_if_eqT rfl (w32_cg (w32_of (xw_zr cv2))) h1 ?_
        exact q
      exact xS_ret (v := 0) rfl rfl rfl rfl
    · refine xS_of (pc' := 320) (L' := [(0, xa 536)]) (st' := [xa (m2 536 23), xa 536]) (m' := m2) (fun ex ns r q => ?_) ?_
      · refine xw_if_eqF rfl (w32_cg (w32_of (xw_zr cv2))) h1 ?_
        refine xw_aload_n rfl rfl rfl ?_
        refine xw_aload_n rfl rfl rfl ?_
        refine xw_gfM (v := (m2 536 23)) rfl (xw_obd (by decide +kernel)) xk12_23 (qi := 23) rfl rfl ?_
        refine xw_lo (L2 := [(0, xa 536)]) (List.forall_mem_cons.mpr ⟨rfl, fun _ h => absurd h List.not_mem_nil⟩) ?_
        exact q
      refine xS_call (q := 296) (n := 2) (kq := 0) (as := [xa 536, xa (m2 536 23)]) (st1 := []) rfl rfl rfl rfl rfl rfl rfl rfl rfl rfl (fun _ => xw_rcv1 (t := 12) (xw_obd (by decide +kernel)) rfl) rfl (List.forall_mem_cons.mpr ⟨rfl, List.forall_mem_cons.mpr ⟨rfl, fun _ h => absurd h List.not_mem_nil⟩⟩) (ygf296 hB _ _) (fun v3 m3 cv3 => ?_)
      refine xS_of (pc' := 346) (L' := [(3, xa (m3 536 22)), (0, xa 536)]) (st' := []) (m' := (xw_u (xw_u (xw_u m3 536 22 (m3 536 23)) 536 23 (m3 536 22)) 536 24 1)) (fun ex ns r q => ?_) ?_
      · refine xw_aload_n rfl rfl rfl ?_
        refine xw_gfM (v := (m3 536 22)) rfl (xw_obd (by decide +kernel)) xk12_22 (qi := 22) rfl rfl ?_
        refine xw_astore_n (L' := [(3, xa (m3 536 22)), (0, xa 536)]) rfl rfl (by decide) rfl ?_
        refine xw_aload_n rfl rfl rfl ?_
        refine xw_aload_n rfl rfl rfl ?_
        refine xw_gfM (v := (m3 536 23)) rfl (xw_obd (by decide +kernel)) xk12_23 (qi := 23) rfl rfl ?_
        refine xw_pfM rfl (xw_obd (by decide +kernel)) xk12_22 (qi := 22) rfl (xw_okM rfl rfl rfl) ?_
        refine xw_aload_n rfl rfl rfl ?_
        refine xw_aload_n rfl rfl rfl ?_
        refine xw_pfM rfl (xw_obd (by decide +kernel)) xk12_23 (qi := 23) rfl (xw_okM rfl rfl rfl) ?_
        refine xw_aload_n rfl rfl rfl ?_
        refine xw_iconst rfl ?_
        refine xw_pfI rfl (xw_obd (by decide +kernel)) xk12_24 (qi := 24) rfl (xw_okZ rfl (Or.inr rfl)) ?_
        exact q
      exact xS_ret (v := 0) rfl rfl rfl rfl
  · refine xS_of (pc' := 346) (L' := [(0, xa 536)]) (st' := []) (m' := m) (fun ex ns r q => ?_) ?_
    · refine xw_if_neT rfl (w32_cg (w32_xR _ _ _)) h0 ?_
      exact q
    exact xS_ret (v := 0) rfl rfl rfl rfl
theorem ygk270_272 {B : Nat} (hB : B ≤ 512) {xs : Nat → Int32} {SL d : Nat} : ∀ m, xS B xs SL (d + 198) 270 (6, none, [], 13) 0 272 [(0, xa 536)] [] m (yk270_272 B m) := by
  intro m
  unfold yk270_272
  refine xS_of (pc' := 276) (L' := [(0, xa 536)]) (st' := [xi (xR m 536 6)]) (m' := m) (fun ex ns r q => ?_) ?_
  · refine xw_aload_n rfl rfl rfl ?_
    refine xw_gfIc (v := (m 536 6)) (v' := (xR m 536 6)) rfl (xw_obd (by decide +kernel)) xk12_6 (qi := 6) rfl rfl rfl ?_
    exact q
  refine xS_if (fun h0 => ?_) (fun h0 => ?_)
  · refine xS_of (pc' := 284) (L' := [(0, xa 536)]) (st' := [xa (m 536 23), xa 536]) (m' := m) (fun ex ns r q => ?_) ?_
    · refine xw_if_neF rfl (w32_cg (w32_xR _ _ _)) h0 ?_
      refine xw_aload_n rfl rfl rfl ?_
      refine xw_aload_n rfl rfl rfl ?_
      refine xw_gfM (v := (m 536 23)) rfl (xw_obd (by decide +kernel)) xk12_23 (qi := 23) rfl rfl ?_
      refine xw_lo (L2 := [(0, xa 536)]) (List.forall_mem_cons.mpr ⟨rfl, fun _ h => absurd h List.not_mem_nil⟩) ?_
      exact q
    refine xS_call (q := 284) (n := 2) (kq := 0) (as := [xa 536, xa (m 536 23)]) (st1 := []) rfl rfl rfl rfl rfl rfl rfl rfl rfl rfl (fun _ => xw_rcv1 (t := 12) (xw_obd (by decide +kernel)) rfl) rfl (List.forall_mem_cons.mpr ⟨rfl, List.forall_mem_cons.mpr ⟨rfl, fun _ h => absurd h List.not_mem_nil⟩⟩) (ygf284 hB _ _) (fun v1 m1 cv1 => ?_)
    refine xS_of (pc' := 287) (L' := [(0, xa 536)]) (st' := []) (m' := m1) (fun ex ns r q => ?_) ?_
    · refine xw_lo (L2 := [(0, xa 536)]) (List.forall_mem_cons.mpr ⟨rfl, fun _ h => absurd h List.not_mem_nil⟩) ?_
      exact q
    exact ygk270_287 hB _
  · refine xS_of (pc' := 287) (L' := [(0, xa 536)]) (st' := []) (m' := m) (fun ex ns r q => ?_) ?_
    · refine xw_if_neT rfl (w32_cg (w32_xR _ _ _)) h0 ?_
      refine xw_lo (L2 := [(0, xa 536)]) (List.forall_mem_cons.mpr ⟨rfl, fun _ h => absurd h List.not_mem_nil⟩) ?_
      exact q
    exact ygk270_287 hB _
theorem ysl270_143 {B : Nat} (hB : B ≤ 512) {xs : Nat → Int32} {SL d : Nat} {r143 : Int → xw_M → xP} (hr143 : ∀ x3 m, w32 x3 = x3 → xS B xs SL (d + 198) 270 (6, none, [], 13) 0 143 [(0, xa 536), (3, xi x3)] [] m (r143 x3 m)) : ∀ x3 m, w32 x3 = x3 → xS B xs SL (d + 198) 270 (6, none, [], 13) 0 143 [(0, xa 536), (3, xi x3)] [] m (yl270_143 B r143 x3 m) := by
  intro x3 m c3
  unfold yl270_143
  refine xS_g (fun g0 => ?_)
  refine xS_of (pc' := 151) (L' := [(0, xa 536), (3, xi x3)]) (st' := [xi (xR m (m 536 23) 0), xi x3]) (m' := m) (fun ex ns r q => ?_) ?_
  · refine xw_iload_n rfl rfl ?_
    refine xw_aload_n rfl rfl rfl ?_
    refine xw_gfM (v := (m 536 23)) rfl (xw_obd (by decide +kernel)) xk12_23 (qi := 23) rfl rfl ?_
    refine xw_gfIc (v := (m (m 536 23) 0)) (v' := (xR m (m 536 23) 0)) rfl (xw_obd g0) xk13_0 (qi := 0) rfl rfl rfl ?_
    exact q
  refine xS_if (fun h1 => ?_) (fun h1 => ?_)
  · refine xS_of (pc' := 158) (L' := [(0, xa 536), (3, xi x3)]) (st' := [xi (xR m 536 6)]) (m' := m) (fun ex ns r q => ?_) ?_
    · refine xw_ic_geF rfl (w32_cg c3) (w32_cg (w32_xR _ _ _)) (Int.not_le.mpr h1) ?_
      refine xw_aload_n rfl rfl rfl ?_
      refine xw_gfIc (v := (m 536 6)) (v' := (xR m 536 6)) rfl (xw_obd (by decide +kernel)) xk12_6 (qi := 6) rfl rfl rfl ?_
      exact q
    refine xS_if (fun h2 => ?_) (fun h2 => ?_)
    · refine xS_g (fun g3 => ?_)
      refine xS_g (fun g4 => ?_)
      refine xS_of (pc' := 170) (L' := [(0, xa 536), (3, xi x3)]) (st' := [xi (xR m (xw_rf (m 536 23) 1) x3)]) (m' := m) (fun ex ns r q => ?_) ?_
      · refine xw_if_neF rfl (w32_cg (w32_xR _ _ _)) h2 ?_
        refine xw_aload_n rfl rfl rfl ?_
        refine xw_gfM (v := (m 536 23)) rfl (xw_obd (by decide +kernel)) xk12_23 (qi := 23) rfl rfl ?_
        refine xw_gfV (qi := 1) rfl (xw_obd g0) xk13_1 rfl ?_
        refine xw_iload_n rfl rfl ?_
        refine xw_ialdc (n := (xw_le B (xw_rf (m 536 23) 1))) (v := (m (xw_rf (m 536 23) 1) x3)) (v' := (xR m (xw_rf (m 536 23) 1) x3)) rfl hB (xw_obd g4) rfl g3 rfl rfl ?_
        exact q
      refine xS_if (fun h5 => ?_) (fun h5 => ?_)
      · refine xS_of (pc' := 183) (L' := [(0, xa 536), (3, xi x3)]) (st' := [xi 5, xi (xR m (xw_rf (m 536 23) 1) x3)]) (m' := m) (fun ex ns r q => ?_) ?_
        · refine xw_if_leF rfl (w32_cg (w32_xR _ _ _)) (Int.not_le.mpr h5) ?_
          refine xw_aload_n rfl rfl rfl ?_
          refine xw_gfM (v := (m 536 23)) rfl (xw_obd (by decide +kernel)) xk12_23 (qi := 23) rfl rfl ?_
          refine xw_gfV (qi := 1) rfl (xw_obd g0) xk13_1 rfl ?_
          refine xw_iload_n rfl rfl ?_
          refine xw_ialdc (n := (xw_le B (xw_rf (m 536 23) 1))) (v := (m (xw_rf (m 536 23) 1) x3)) (v' := (xR m (xw_rf (m 536 23) 1) x3)) rfl hB (xw_obd g4) rfl g3 rfl rfl ?_
          refine xw_iconst rfl ?_
          exact q
        refine xS_if (fun h6 => ?_) (fun h6 => ?_)
        · refine xS_of (pc' := 196) (L' := [(0, xa 536), (3, xi x3), (4, xi 1), (5, xi 0)]) (st' := []) (m' := m) (fun ex ns r q => ?_) ?_
          · refine xw_ic_geF rfl (w32_cg (w32_xR _ _ _)) (w32_cg rfl) (Int.not_le.mpr h6) ?_
            refine xw_iconst rfl ?_
            refine xw_goto rfl ?_
            refine xw_istore (L' := [(4, xi 1), (0, xa 536), (3, xi x3)]) rfl (by decide) rfl ?_
            refine xw_iconst rfl ?_
            refine xw_istore (L' := [(5, xi 0), (4, xi 1), (0, xa 536), (3, xi x3)]) rfl (by decide) rfl ?_
            refine xw_lo (L2 := [(0, xa 536), (3, xi x3), (4, xi 1), (5, xi 0)]) (List.forall_mem_cons.mpr ⟨rfl, List.forall_mem_cons.mpr ⟨rfl, List.forall_mem_cons.mpr ⟨rfl, List.forall_mem_cons.mpr ⟨rfl, fun _ h => absurd h List.not_mem_nil⟩⟩⟩⟩) ?_
            exact q
          exact ygl270_196 hB hr143 1000000 _ _ _ _ c3 rfl rfl
        · refine xS_of (pc' := 196) (L' := [(0, xa 536), (3, xi x3), (4, xi 0), (5, xi 0)]) (st' := []) (m' := m) (fun ex ns r q => ?_) ?_
          · refine xw_ic_geT rfl (w32_cg (w32_xR _ _ _)) (w32_cg rfl) (Int.not_lt.mp h6) ?_
            refine xw_iconst rfl ?_
            refine xw_istore (L' := [(4, xi 0), (0, xa 536), (3, xi x3)]) rfl (by decide) rfl ?_
            refine xw_iconst rfl ?_
            refine xw_istore (L' := [(5, xi 0), (4, xi 0), (0, xa 536), (3, xi x3)]) rfl (by decide) rfl ?_
            refine xw_lo (L2 := [(0, xa 536), (3, xi x3), (4, xi 0), (5, xi 0)]) (List.forall_mem_cons.mpr ⟨rfl, List.forall_mem_cons.mpr ⟨rfl, List.forall_mem_cons.mpr ⟨rfl, List.forall_mem_cons.mpr ⟨rfl, fun _ h => absurd h List.not_mem_nil⟩⟩⟩⟩) ?_
            exact q
          exact ygl270_196 hB hr143 1000000 _ _ _ _ c3 rfl rfl
      · refine xS_of (pc' := 196) (L' := [(0, xa 536), (3, xi x3), (4, xi 0), (5, xi 0)]) (st' := []) (m' := m) (fun ex ns r q => ?_) ?_
        · refine xw_if_leT rfl (w32_cg (w32_xR _ _ _)) (Int.not_lt.mp h5) ?_
          refine xw_iconst rfl ?_
          refine xw_istore (L' := [(4, xi 0), (0, xa 536), (3, xi x3)]) rfl (by decide) rfl ?_
          refine xw_iconst rfl ?_
          refine xw_istore (L' := [(5, xi 0), (4, xi 0), (0, xa 536), (3, xi x3)]) rfl (by decide) rfl ?_
          refine xw_lo (L2 := [(0, xa 536), (3, xi x3), (4, xi 0), (5, xi 0)]) (List.forall_mem_cons.mpr ⟨rfl, List.forall_mem_cons.mpr ⟨rfl, List.forall_mem_cons.mpr ⟨rfl, List.forall_mem_cons.mpr ⟨rfl, fun _ h => absurd h List.not_mem_nil⟩⟩⟩⟩) ?_
          exact q
        exact ygl270_196 hB hr143 1000000 _ _ _ _ c3 rfl rfl
    · refine xS_of (pc' := 272) (L' := [(0, xa 536)]) (st' := []) (m' := m) (fun ex ns r q => ?_) ?_
      · refine xw_if_neT rfl (w32_cg (w32_xR _ _ _)) h2 ?_
        refine xw_lo (L2 := [(0, xa 536)]) (List.forall_mem_cons.mpr ⟨rfl, fun _ h => absurd h List.not_mem_nil⟩) ?_
        exact q
      exact ygk270_272 hB _
  · refine xS_of (pc' := 272) (L' := [(0, xa 536)]) (st' := []) (m' := m) (fun ex ns r q => ?_) ?_
    · refine xw_ic_geT rfl (w32_cg c3) (w32_cg (w32_xR _ _ _)) (Int.not_lt.mp h1) ?_
      refine xw_lo (L2 := [(0, xa 536)]) (List.forall_mem_cons.mpr ⟨rfl, fun _ h => absurd h List.not_mem_nil⟩) ?_
      exact q
    exact ygk270_272 hB _
theorem ygl270_143 {B : Nat} (hB : B ≤ 512) {xs : Nat → Int32} {SL d : Nat} : ∀ n x3 m, w32 x3 = x3 → xS B xs SL (d + 198) 270 (6, none, [], 13) 0 143 [(0, xa 536), (3, xi x3)] [] m (xl1 (yl270_143 B) n x3 m) := by
  intro n
  induction n with
  | zero => intro x3 m c3; exact xS_none
  | succ n ih => exact ysl270_143 hB ih
theorem ygk270_130 {B : Nat} (hB : B ≤ 512) {xs : Nat → Int32} {SL d : Nat} : ∀ m, xS B xs SL (d + 198) 270 (6, none, [], 13) 0 130 [(0, xa 536)] [] m (yk270_130 B m) := by
  intro m
  unfold yk270_130
  refine xS_of (pc' := 134) (L' := [(0, xa 536)]) (st' := [xi 59, xa 536, xa 536]) (m' := m) (fun ex ns r q => ?_) ?_
  · refine xw_aload_n rfl rfl rfl ?_
    refine xw_aload_n rfl rfl rfl ?_
    refine xw_bipush (e := 59) rfl (by decide +kernel) ?_
    refine xw_lo (L2 := [(0, xa 536)]) (List.forall_mem_cons.mpr ⟨rfl, fun _ h => absurd h List.not_mem_nil⟩) ?_
    exact q
  refine xS_call (q := 266) (n := 2) (kq := 4) (as := [xa 536, xi 59]) (st1 := [xa 536]) rfl rfl rfl rfl rfl rfl rfl rfl rfl rfl (fun _ => xw_rcv1 (t := 12) (xw_obd (by decide +kernel)) rfl) rfl (List.forall_mem_cons.mpr ⟨rfl, List.forall_mem_cons.mpr ⟨rfl, fun _ h => absurd h List.not_mem_nil⟩⟩) (ygf266 hB _ _ rfl) (fun v1 m1 cv1 => ?_)
  refine xS_of (pc' := 137) (L' := [(0, xa 536)]) (st' := [xi v1, xa 536]) (m' := m1) (fun ex ns r q => ?_) ?_
  · refine xw_lo (L2 := [(0, xa 536)]) (List.forall_mem_cons.mpr ⟨rfl, fun _ h => absurd h List.not_mem_nil⟩) ?_
    exact q
  refine xS_call (q := 258) (n := 2) (kq := 4) (as := [xa 536, xi v1]) (st1 := []) rfl rfl rfl rfl rfl rfl rfl rfl rfl rfl (fun _ => xw_rcv1 (t := 12) (xw_obd (by decide +kernel)) rfl) rfl (List.forall_mem_cons.mpr ⟨rfl, List.forall_mem_cons.mpr ⟨rfl, fun _ h => absurd h List.not_mem_nil⟩⟩) (ygf258 hB _ _ (w32_of (xw_zr cv1))) (fun v2 m2 cv2 => ?_)
  refine xS_of (pc' := 143) (L' := [(0, xa 536), (3, xi 0)]) (st' := []) (m' := m2) (fun ex ns r q => ?_) ?_
  · refine xw_istore_n (L' := [(2, xi v2), (0, xa 536)]) rfl (by decide) rfl ?_
    refine xw_iconst rfl ?_
    refine xw_istore_n (L' := [(3, xi 0), (2, xi v2), (0, xa 536)]) rfl (by decide) rfl ?_
    refine xw_lo (L2 := [(0, xa 536), (3, xi 0)]) (List.forall_mem_cons.mpr ⟨rfl, List.forall_mem_cons.mpr ⟨rfl, fun _ h => absurd h List.not_mem_nil⟩⟩) ?_
    exact q
  exact ygl270_143 hB 1000000 _ _ rfl
theorem ygk270_111 {B : Nat} (hB : B ≤ 512) {xs : Nat → Int32} {SL d : Nat} : ∀ m, xS B xs SL (d + 198) 270 (6, none, [], 13) 0 111 [(0, xa 536)] [] m (yk270_111 B m) := by
  intro m
  unfold yk270_111
  refine xS_of (pc' := 115) (L' := [(0, xa 536)]) (st' := [xi (xR m 536 6)]) (m' := m) (fun ex ns r q => ?_) ?_
  · refine xw_aload_n rfl rfl rfl ?_
    refine xw_gfIc (v := (m 536 6)) (v' := (xR m 536 6)) rfl (xw_obd (by decide +kernel)) xk12_6 (qi := 6) rfl rfl rfl ?_
    exact q
  refine xS_if (fun h0 => ?_) (fun h0 => ?_)
  · refine xS_of (pc' := 120) (L' := [(0, xa 536)]) (st' := [xi 5, xa 536]) (m' := m) (fun ex ns r q => ?_) ?_
    · refine xw_if_neF rfl (w32_cg (w32_xR _ _ _)) h0 ?_
      refine xw_aload_n rfl rfl rfl ?_
      refine xw_iconst rfl ?_
      refine xw_lo (L2 := [(0, xa 536)]) (List.forall_mem_cons.mpr ⟨rfl, fun _ h => absurd h List.not_mem_nil⟩) ?_
      exact q
    refine xS_call (q := 257) (n := 2) (kq := 4) (as := [xa 536, xi 5]) (st1 := []) rfl rfl rfl rfl rfl rfl rfl rfl rfl rfl (fun _ => xw_rcv1 (t := 12) (xw_obd (by decide +kernel)) rfl) rfl (List.forall_mem_cons.mpr ⟨rfl, List.forall_mem_cons.mpr ⟨rfl, fun _ h => absurd h List.not_mem_nil⟩⟩) (ygf257 hB _ _ rfl) (fun v1 m1 cv1 => ?_)
    refine xS_if (fun h1 => ?_) (fun h1 => ?_)
    · refine xS_of (pc' := 130) (L' := [(0, xa 536)]) (st' := []) (m' := m1) (fun ex ns r q => ?_) ?_
      · refine xw_if_eqT rfl (w32_cg (w32_of (xw_zr cv1))) h1 ?_
        refine xw_lo (L2 := [(0, xa 536)]) (List.forall_mem_cons.mpr ⟨rfl, fun _ h => absurd h List.not_mem_nil⟩) ?_
        exact q
      exact ygk270_130 hB _
    · refine xS_of (pc' := 127) (L' := [(0, xa 536)]) (st' := [xa 536]) (m' := m1) (fun ex ns r q => ?_) ?_
      · refine xw_if_eqF rfl (w32_cg (w32_of (xw_zr cv1))) h1 ?_
        refine xw_aload_n rfl rfl rfl ?_
        refine xw_lo (L2 := [(0, xa 536)]) (List.forall_mem_cons.mpr ⟨rfl, fun _ h => absurd h List.not_mem_nil⟩) ?_
        exact q
      refine xS_call (q := 281) (n := 1) (kq := 0) (as := [xa 536]) (st1 := []) rfl rfl rfl rfl rfl rfl rfl rfl rfl rfl (fun _ => xw_rcv1 (t := 12) (xw_obd (by decide +kernel)) rfl) rfl (List.forall_mem_cons.mpr ⟨rfl, fun _ h => absurd h List.not_mem_nil⟩) (ygf281 hB _) (fun v2 m2 cv2 => ?_)
      refine xS_of (pc' := 130) (L' := [(0, xa 536)]) (st' := []) (m' := m2) (fun ex ns r q => ?_) ?_
      · refine xw_lo (L2 := [(0, xa 536)]) (List.forall_mem_cons.mpr ⟨rfl, fun _ h => absurd h List.not_mem_nil⟩) ?_
        exact q
      exact ygk270_130 hB _
  · refine xS_of (pc' := 130) (L' := [(0, xa 536)]) (st' := []) (m' := m) (fun ex ns r q => ?_) ?_
    · refine xw_if_neT rfl (w32_cg (w32_xR _ _ _)) h0 ?_
      refine xw_lo (L2 := [(0, xa 536)]) (List.forall_mem_cons.mpr ⟨rfl, fun _ h => absurd h List.not_mem_nil⟩) ?_
      exact q
    exact ygk270_130 hB _
theorem ysl270_47 {B : Nat} (hB : B ≤ 512) {xs : Nat → Int32} {SL d : Nat} {r47 : Int → xw_M → xP} (hr47 : ∀ x1 m, w32 x1 = x1 → xS B xs SL (d + 198) 270 (6, none, [], 13) 0 47 [(0, xa 536), (1, xi x1)] [] m (r47 x1 m)) : ∀ x1 m, w32 x1 = x1 → xS B xs SL (d + 198) 270 (6, none, [], 13) 0 47 [(0, xa 536), (1, xi x1)] [] m (yl270_47 B r47 x1 m) := by
  intro x1 m c1
  unfold yl270_47
  refine xS_of (pc' := 48) (L' := [(0, xa 536), (1, xi x1)]) (st' := [xi x1]) (m' := m) (fun ex ns r q => ?_) ?_
  · refine xw_iload_n rfl rfl ?_
    exact q
  refine xS_if (fun h0 => ?_) (fun h0 => ?_)
  · refine xS_of (pc' := 92) (L' := [(0, xa 536), (1, xi x1)]) (st' := [xi (xR m 536 6)]) (m' := m) (fun ex ns r q => ?_) ?_
    · refine xw_if_eqT rfl (w32_cg c1) h0 ?_
      refine xw_aload_n rfl rfl rfl ?_
      refine xw_gfIc (v := (m 536 6)) (v' := (xR m 536 6)) rfl (xw_obd (by decide +kernel)) xk12_6 (qi := 6) rfl rfl rfl ?_
      exact q
    refine xS_if (fun h1 => ?_) (fun h1 => ?_)
    · refine xS_of (pc' := 97) (L' := [(0, xa 536)]) (st' := [xi 4, xa 536]) (m' := m) (fun ex ns r q => ?_) ?_
      · refine xw_if_neF rfl (w32_cg (w32_xR _ _ _)) h1 ?_
        refine xw_aload_n rfl rfl rfl ?_
        refine xw_iconst rfl ?_
        refine xw_lo (L2 := [(0, xa 536)]) (List.forall_mem_cons.mpr ⟨rfl, fun _ h => absurd h List.not_mem_nil⟩) ?_
        exact q
      refine xS_call (q := 257) (n := 2) (kq := 4) (as := [xa 536, xi 4]) (st1 := []) rfl rfl rfl rfl rfl rfl rfl rfl rfl rfl (fun _ => xw_rcv1 (t := 12) (xw_obd (by decide +kernel)) rfl) rfl (List.forall_mem_cons.mpr ⟨rfl, List.forall_mem_cons.mpr ⟨rfl, fun _ h => absurd h List.not_mem_nil⟩⟩) (ygf257 hB _ _ rfl) (fun v1 m1 cv1 => ?_)
      refine xS_if (fun h2 => ?_) (fun h2 => ?_)
      · refine xS_of (pc' := 111) (L' := [(0, xa 536)]) (st' := []) (m' := m1) (fun ex ns r q => ?_) ?_
        · refine xw_if_eqT rfl (w32_cg (w32_of (xw_zr cv1))) h2 ?_
          refine xw_lo (L2 := [(0, xa 536)]) (List.forall_mem_cons.mpr ⟨rfl, fun _ h => absurd h List.not_mem_nil⟩) ?_
          exact q
        exact ygk270_111 hB _
      · refine xS_of (pc' := 104) (L' := [(0, xa 536)]) (st' := [xa 536]) (m' := m1) (fun ex ns r q => ?_) ?_
        · refine xw_if_eqF rfl (w32_cg (w32_of (xw_zr cv1))) h2 ?_
          refine xw_aload_n rfl rfl rfl ?_
          refine xw_lo (L2 := [(0, xa 536)]) (List.forall_mem_cons.mpr ⟨rfl, fun _ h => absurd h List.not_mem_nil⟩) ?_
          exact q
        refine xS_call (q := 248) (n := 1) (kq := 0) (as := [xa 536]) (st1 := []) rfl rfl rfl rfl rfl rfl rfl rfl rfl rfl (fun _ => xw_rcv1 (t := 12) (xw_obd (by decide +kernel)) rfl) rfl (List.forall_mem_cons.mpr ⟨rfl, fun _ h => absurd h List.not_mem_nil⟩) (ygf248 hB _) (fun v2 m2 cv2 => ?_)
        refine xS_of (pc' := 108) (L' := [(0, xa 536)]) (st' := [xa 536]) (m' := m2) (fun ex ns r q => ?_) ?_
        · refine xw_aload_n rfl rfl rfl ?_
          refine xw_lo (L2 := [(0, xa 536)]) (List.forall_mem_cons.mpr ⟨rfl, fun _ h => absurd h List.not_mem_nil⟩) ?_
          exact q
        refine xS_call (q := 274) (n := 1) (kq := 0) (as := [xa 536]) (st1 := []) rfl rfl rfl rfl rfl rfl rfl rfl rfl rfl (fun _ => xw_rcv1 (t := 12) (xw_obd (by decide +kernel)) rfl) rfl (List.forall_mem_cons.mpr ⟨rfl, fun _ h => absurd h List.not_mem_nil⟩) (xE_ok hB 64 _) (fun v3 m3 cv3 => ?_)
        refine xS_of (pc' := 111) (L' := [(0, xa 536)]) (st' := []) (m' := m3) (fun ex ns r q => ?_) ?_
        · refine xw_lo (L2 := [(0, xa 536)]) (List.forall_mem_cons.mpr ⟨rfl, fun _ h => absurd h List.not_mem_nil⟩) ?_
          exact q
        exact ygk270_111 hB _
    · refine xS_of (pc' := 111) (L' := [(0, xa 536)]) (st' := []) (m' := m) (fun ex ns r q => ?_) ?_
      · refine xw_if_neT rfl (w32_cg (w32_xR _ _ _)) h1 ?_
        refine xw_lo (L2 := [(0, xa 536)]) (List.forall_mem_cons.mpr ⟨rfl, fun _ h => absurd h List.not_mem_nil⟩) ?_
        exact q
      exact ygk270_111 hB _
  · refine xS_of (pc' := 52) (L' := [(0, xa 536)]) (st' := [xa 536]) (m' := m) (fun ex ns r q => ?_) ?_
    · refine xw_if_eqF rfl (w32_cg c1) h0 ?_
      refine xw_aload_n rfl rfl rfl ?_
      refine xw_lo (L2 := [(0, xa 536)]) (List.forall_mem_cons.mpr ⟨rfl, fun _ h => absurd h List.not_mem_nil⟩) ?_
      exact q
    refine xS_call (q := 248) (n := 1) (kq := 0) (as := [xa 536]) (st1 := []) rfl rfl rfl rfl rfl rfl rfl rfl rfl rfl (fun _ => xw_rcv1 (t := 12) (xw_obd (by decide +kernel)) rfl) rfl (List.forall_mem_cons.mpr ⟨rfl, fun _ h => absurd h List.not_mem_nil⟩) (ygf248 hB _) (fun v4 m4 cv4 => ?_)
    refine xS_of (pc' := 56) (L' := [(0, xa 536)]) (st' := [xa 536]) (m' := m4) (fun ex ns r q => ?_) ?_
    · refine xw_aload_n rfl rfl rfl ?_
      refine xw_lo (L2 := [(0, xa 536)]) (List.forall_mem_cons.mpr ⟨rfl, fun _ h => absurd h List.not_mem_nil⟩) ?_
      exact q
    refine xS_call (q := 271) (n := 1) (kq := 0) (as := [xa 536]) (st1 := []) rfl rfl rfl rfl rfl rfl rfl rfl rfl rfl (fun _ => xw_rcv1 (t := 12) (xw_obd (by decide +kernel)) rfl) rfl (List.forall_mem_cons.mpr ⟨rfl, fun _ h => absurd h List.not_mem_nil⟩) (ygf271 hB _) (fun v5 m5 cv5 => ?_)
    refine xS_of (pc' := 60) (L' := [(0, xa 536)]) (st' := [xa 536]) (m' := m5) (fun ex ns r q => ?_) ?_
    · refine xw_aload_n rfl rfl rfl ?_
      refine xw_lo (L2 := [(0, xa 536)]) (List.forall_mem_cons.mpr ⟨rfl, fun _ h => absurd h List.not_mem_nil⟩) ?_
      exact q
    refine xS_call (q := 248) (n := 1) (kq := 0) (as := [xa 536]) (st1 := []) rfl rfl rfl rfl rfl rfl rfl rfl rfl rfl (fun _ => xw_rcv1 (t := 12) (xw_obd (by decide +kernel)) rfl) rfl (List.forall_mem_cons.mpr ⟨rfl, fun _ h => absurd h List.not_mem_nil⟩) (ygf248 hB _) (fun v6 m6 cv6 => ?_)
    refine xS_of (pc' := 67) (L' := [(0, xa 536)]) (st' := [xi (xR m6 536 6)]) (m' := m6) (fun ex ns r q => ?_) ?_
    · refine xw_aload_n rfl rfl rfl ?_
      refine xw_gfIc (v := (m6 536 6)) (v' := (xR m6 536 6)) rfl (xw_obd (by decide +kernel)) xk12_6 (qi := 6) rfl rfl rfl ?_
      exact q
    refine xS_if (fun h1 => ?_) (fun h1 => ?_)
    · refine xS_of (pc' := 73) (L' := [(0, xa 536)]) (st' := [xi 44, xa 536]) (m' := m6) (fun ex ns r q => ?_) ?_
      · refine xw_if_neF rfl (w32_cg (w32_xR _ _ _)) h1 ?_
        refine xw_aload_n rfl rfl rfl ?_
        refine xw_bipush (e := 44) rfl (by decide +kernel) ?_
        refine xw_lo (L2 := [(0, xa 536)]) (List.forall_mem_cons.mpr ⟨rfl, fun _ h => absurd h List.not_mem_nil⟩) ?_
        exact q
      refine xS_call (q := 266) (n := 2) (kq := 4) (as := [xa 536, xi 44]) (st1 := []) rfl rfl rfl rfl rfl rfl rfl rfl rfl rfl (fun _ => xw_rcv1 (t := 12) (xw_obd (by decide +kernel)) rfl) rfl (List.forall_mem_cons.mpr ⟨rfl, List.forall_mem_cons.mpr ⟨rfl, fun _ h => absurd h List.not_mem_nil⟩⟩) (ygf266 hB _ _ rfl) (fun v7 m7 cv7 => ?_)
      refine xS_if (fun h2 => ?_) (fun h2 => ?_)
      · refine xS_of (pc' := 47) (L' := [(0, xa 536), (1, xi 0)]) (st' := []) (m' := m7) (fun ex ns r q => ?_) ?_
        · refine xw_if_eqT rfl (w32_cg (w32_of (xw_zr cv7))) h2 ?_
          refine xw_iconst rfl ?_
          refine xw_istore_n (L' := [(1, xi 0), (0, xa 536)]) rfl (by decide) rfl ?_
          refine xw_goto rfl ?_
          refine xw_lo (L2 := [(0, xa 536), (1, xi 0)]) (List.forall_mem_cons.mpr ⟨rfl, List.forall_mem_cons.mpr ⟨rfl, fun _ h => absurd h List.not_mem_nil⟩⟩) ?_
          exact q
        exact hr47 _ _ rfl
      · refine xS_of (pc' := 47) (L' := [(0, xa 536), (1, xi 1)]) (st' := []) (m' := m7) (fun ex ns r q => ?_) ?_
        · refine xw_if_eqF rfl (w32_cg (w32_of (xw_zr cv7))) h2 ?_
          refine xw_iconst rfl ?_
          refine xw_goto rfl ?_
          refine xw_istore_n (L' := [(1, xi 1), (0, xa 536)]) rfl (by decide) rfl ?_
          refine xw_goto rfl ?_
          refine xw_lo (L2 := [(0, xa 536), (1, xi 1)]) (List.forall_mem_cons.mpr ⟨rfl, List.forall_mem_cons.mpr ⟨rfl, fun _ h => absurd h List.not_mem_nil⟩⟩) ?_
          exact q
        exact hr47 _ _ rfl
    · refine xS_of (pc' := 47) (L' := [(0, xa 536), (1, xi 0)]) (st' := []) (m' := m6) (fun ex ns r q => ?_) ?_
      · refine xw_if_neT rfl (w32_cg (w32_xR _ _ _)) h1 ?_
        refine xw_iconst rfl ?_
        refine xw_istore_n (L' := [(1, xi 0), (0, xa 536)]) rfl (by decide) rfl ?_
        refine xw_goto rfl ?_
        refine xw_lo (L2 := [(0, xa 536), (1, xi 0)]) (List.forall_mem_cons.mpr ⟨rfl, List.forall_mem_cons.mpr ⟨rfl, fun _ h => absurd h List.not_mem_nil⟩⟩) ?_
        exact q
      exact hr47 _ _ rfl
theorem ygl270_47 {B : Nat} (hB : B ≤ 512) {xs : Nat → Int32} {SL d : Nat} : ∀ n x1 m, w32 x1 = x1 → xS B xs SL (d + 198) 270 (6, none, [], 13) 0 47 [(0, xa 536), (1, xi x1)] [] m (xl1 (yl270_47 B) n x1 m) := by
  intro n
  induction n with
  | zero => intro x1 m c1; exact xS_none
  | succ n ih => exact ysl270_47 hB ih
theorem ygf270 {B : Nat} (hB : B ≤ 512) {xs : Nat → Int32} {SL d : Nat} : ∀ m, xS B xs SL (d + 198) 270 (6, none, [], 13) 0 0 [(0, xa 536)] [] m (yf270 B m) := by
  intro m
  unfold yf270
  refine xS_g (fun g0 => ?_)
  refine xS_of (pc' := 47) (L' := [(0, xa 536), (1, xi 1)]) (st' := []) (m' := (xw_u (xw_u (xw_u (xw_u (xw_u (xw_u m (m 536 23) 0 0) (m 536 23) 4 0) (m 536 23) 6 0) (m 536 23) 11 0) (m 536 23) 13 0) 536 25 0)) (fun ex ns r q => ?_) ?_
  · refine xw_aload_n rfl rfl rfl ?_
    refine xw_gfM (v := (m 536 23)) rfl (xw_obd (by decide +kernel)) xk12_23 (qi := 23) rfl rfl ?_
    refine xw_iconst rfl ?_
    refine xw_pfI rfl (xw_obd g0) xk13_0 (qi := 0) rfl (xw_okI rfl) ?_
    refine xw_aload_n rfl rfl rfl ?_
    refine xw_gfM (v := (m 536 23)) rfl (xw_obd (by decide +kernel)) xk12_23 (qi := 23) rfl (xw_un (fun e => absurd e.2 (by decide)) rfl) ?_
    refine xw_iconst rfl ?_
    refine xw_pfI rfl (xw_obd g0) xk13_4 (qi := 4) rfl (xw_okI rfl) ?_
    refine xw_aload_n rfl rfl rfl ?_
    refine xw_gfM (v := (m 536 23)) rfl (xw_obd (by decide +kernel)) xk12_23 (qi := 23) rfl (xw_un (fun e => absurd e.2 (by decide)) (xw_un (fun e => absurd e.2 (by decide)) rfl)) ?_
    refine xw_iconst rfl ?_
    refine xw_pfI rfl (xw_obd g0) xk13_6 (qi := 6) rfl (xw_okI rfl) ?_
    refine xw_aload_n rfl rfl rfl ?_
    refine xw_gfM (v := (m 536 23)) rfl (xw_obd (by decide +kernel)) xk12_23 (qi := 23) rfl (xw_un (fun e => absurd e.2 (by decide)) (xw_un (fun e => absurd e.2 (by decide)) (xw_un (fun e => absurd e.2 (by decide)) rfl))) ?_
    refine xw_iconst rfl ?_
    refine xw_pfI rfl (xw_obd g0) xk13_11 (qi := 11) rfl (xw_okI rfl) ?_
    refine xw_aload_n rfl rfl rfl ?_
    refine xw_gfM (v := (m 536 23)) rfl (xw_obd (by decide +kernel)) xk12_23 (qi := 23) rfl (xw_un (fun e => absurd e.2 (by decide)) (xw_un (fun e => absurd e.2 (by decide)) (xw_un (fun e => absurd e.2 (by decide)) (xw_un (fun e => absurd e.2 (by decide)) rfl)))) ?_
    refine xw_iconst rfl ?_
    refine xw_pfI rfl (xw_obd g0) xk13_13 (qi := 13) rfl (xw_okI rfl) ?_
    refine xw_aload_n rfl rfl rfl ?_
    refine xw_iconst rfl ?_
    refine xw_pfI rfl (xw_obd (by decide +kernel)) xk12_25 (qi := 25) rfl (xw_okI rfl) ?_
    refine xw_iconst rfl ?_
    refine xw_istore_n (L' := [(1, xi 1), (0, xa 536)]) rfl (by decide) rfl ?_
    refine xw_lo (L2 := [(0, xa 536), (1, xi 1)]) (List.forall_mem_cons.mpr ⟨rfl, List.forall_mem_cons.mpr ⟨rfl, fun _ h => absurd h List.not_mem_nil⟩⟩) ?_
    exact q
  exact ygl270_47 hB 1000000 _ _ rfl
theorem ygk256_24 {B : Nat} (hB : B ≤ 512) {xs : Nat → Int32} {SL d : Nat} : ∀ m, xS B xs SL (d + 199) 256 (2, none, [], 13) 0 24 [(0, xa 536)] [] m (yk256_24 B m) := by
  intro m
  unfold yk256_24
  refine xS_of (pc' := 48) (L' := [(0, xa 536), (1, xi 1)]) (st' := [xi 1, xa 536]) (m' := m) (fun ex ns r q => ?_) ?_
  · refine xw_iconst rfl ?_
    refine xw_goto rfl ?_
    refine xw_istore_n (L' := [(1, xi 1), (0, xa 536)]) rfl (by decide) rfl ?_
    refine xw_aload_n rfl rfl rfl ?_
    refine xw_iload_n rfl rfl ?_
    refine xw_if_neT rfl (w32_cg rfl) (by decide) ?_
    refine xw_iconst rfl ?_
    refine xw_goto rfl ?_
    refine xw_lo (L2 := [(0, xa 536), (1, xi 1)]) (List.forall_mem_cons.mpr ⟨rfl, List.forall_mem_cons.mpr ⟨rfl, fun _ h => absurd h List.not_mem_nil⟩⟩) ?_
    exact q
  refine xS_call (q := 258) (n := 2) (kq := 4) (as := [xa 536, xi 1]) (st1 := []) rfl rfl rfl rfl rfl rfl rfl rfl rfl rfl (fun _ => xw_rcv1 (t := 12) (xw_obd (by decide +kernel)) rfl) rfl (List.forall_mem_cons.mpr ⟨rfl, List.forall_mem_cons.mpr ⟨rfl, fun _ h => absurd h List.not_mem_nil⟩⟩) (ygf258 hB _ _ rfl) (fun v1 m1 cv1 => ?_)
  refine xS_if (fun h0 => ?_) (fun h0 => ?_)
  · refine xS_of (pc' := 80) (L' := [(0, xa 536), (1, xi 1)]) (st' := []) (m' := m1) (fun ex ns r q => ?_) ?_
    · refine xw_if_eqT rfl (w32_cg (w32_of (xw_zr cv1))) h0 ?_
      exact q
    exact xS_ret (v := 0) rfl rfl rfl rfl
  · refine xS_of (pc' := 60) (L' := [(0, xa 536), (1, xi 1)]) (st' := [xi (xR m1 536 2), xi 1, xa 536]) (m' := m1) (fun ex ns r q => ?_) ?_
    · refine xw_if_eqF rfl (w32_cg (w32_of (xw_zr cv1))) h0 ?_
      refine xw_aload_n rfl rfl rfl ?_
      refine xw_iload_n rfl rfl ?_
      refine xw_aload_n rfl rfl rfl ?_
      refine xw_gfIc (v := (m1 536 2)) (v' := (xR m1 536 2)) rfl (xw_obd (by decide +kernel)) xk12_2 (qi := 2) rfl rfl rfl ?_
      exact q
    refine xS_if (fun h1 => ?_) (fun h1 => ?_)
    · refine xS_of (pc' := 74) (L' := [(0, xa 536), (1, xi 1)]) (st' := [xi (xR m1 536 9), xi 8, xi 0, xa 536]) (m' := m1) (fun ex ns r q => ?_) ?_
      · refine xw_ic_eqT rfl (w32_cg rfl) (w32_cg (w32_xR _ _ _)) h1 ?_
        refine xw_iconst rfl ?_
        refine xw_bipush (e := 8) rfl (by decide +kernel) ?_
        refine xw_aload_n rfl rfl rfl ?_
        refine xw_gfIc (v := (m1 536 9)) (v' := (xR m1 536 9)) rfl (xw_obd (by decide +kernel)) xk12_9 (qi := 9) rfl rfl rfl ?_
        refine xw_lo (L2 := [(0, xa 536), (1, xi 1)]) (List.forall_mem_cons.mpr ⟨rfl, List.forall_mem_cons.mpr ⟨rfl, fun _ h => absurd h List.not_mem_nil⟩⟩) ?_
        exact q
      refine xS_call (q := 254) (n := 4) (kq := 4) (as := [xa 536, xi 0, xi 8, xi (xR m1 536 9)]) (st1 := []) rfl rfl rfl rfl rfl rfl rfl rfl rfl rfl (fun _ => xw_rcv1 (t := 12) (xw_obd (by decide +kernel)) rfl) rfl (List.forall_mem_cons.mpr ⟨rfl, List.forall_mem_cons.mpr ⟨rfl, List.forall_mem_cons.mpr ⟨rfl, List.forall_mem_cons.mpr ⟨rfl, fun _ h => absurd h List.not_mem_nil⟩⟩⟩⟩) (ygf254 hB _ _ _ _ rfl rfl (w32_xR _ _ _)) (fun v2 m2 cv2 => ?_)
      refine xS_if (fun h2 => ?_) (fun h2 => ?_)
      · refine xS_of (pc' := 80) (L' := [(0, xa 536), (1, xi 1)]) (st' := []) (m' := m2) (fun ex ns r q => ?_) ?_
        · refine xw_if_neF rfl (w32_cg (w32_of (xw_zr cv2))) h2 ?_
          exact q
        exact xS_ret (v := 0) rfl rfl rfl rfl
      · refine xS_of (pc' := 91) (L' := [(0, xa 536), (1, xi 1)]) (st' := [xi 0, xa 536]) (m' := (xw_u m2 536 27 (xR m2 536 9))) (fun ex ns r q => ?_) ?_
        · refine xw_if_neT rfl (w32_cg (w32_of (xw_zr cv2))) h2 ?_
          refine xw_aload_n rfl rfl rfl ?_
          refine xw_aload_n rfl rfl rfl ?_
          refine xw_gfIc (v := (m2 536 9)) (v' := (xR m2 536 9)) rfl (xw_obd (by decide +kernel)) xk12_9 (qi := 9) rfl rfl rfl ?_
          refine xw_pfI rfl (xw_obd (by decide +kernel)) xk12_27 (qi := 27) rfl (xw_okI rfl) ?_
          refine xw_aload_n rfl rfl rfl ?_
          refine xw_iconst rfl ?_
          refine xw_lo (L2 := [(0, xa 536), (1, xi 1)]) (List.forall_mem_cons.mpr ⟨rfl, List.forall_mem_cons.mpr ⟨rfl, fun _ h => absurd h List.not_mem_nil⟩⟩) ?_
          exact q
        refine xS_call (q := 257) (n := 2) (kq := 4) (as := [xa 536, xi 0]) (st1 := []) rfl rfl rfl rfl rfl rfl rfl rfl rfl rfl (fun _ => xw_rcv1 (t := 12) (xw_obd (by decide +kernel)) rfl) rfl (List.forall_mem_cons.mpr ⟨rfl, List.forall_mem_cons.mpr ⟨rfl, fun _ h => absurd h List.not_mem_nil⟩⟩) (ygf257 hB _ _ rfl) (fun v3 m3 cv3 => ?_)
        refine xS_if (fun h3 => ?_) (fun h3 => ?_)
        · refine xS_of (pc' := 106) (L' := [(0, xa 536), (1, xi 1)]) (st' := [xi 1, xa 536]) (m' := m3) (fun ex ns r q => ?_) ?_
          · refine xw_if_eqT rfl (w32_cg (w32_of (xw_zr cv3))) h3 ?_
            refine xw_aload_n rfl rfl rfl ?_
            refine xw_iconst rfl ?_
            refine xw_lo (L2 := [(0, xa 536), (1, xi 1)]) (List.forall_mem_cons.mpr ⟨rfl, List.forall_mem_cons.mpr ⟨rfl, fun _ h => absurd h List.not_mem_nil⟩⟩) ?_
            exact q
          refine xS_call (q := 257) (n := 2) (kq := 4) (as := [xa 536, xi 1]) (st1 := []) rfl rfl rfl rfl rfl rfl rfl rfl rfl rfl (fun _ => xw_rcv1 (t := 12) (xw_obd (by decide +kernel)) rfl) rfl (List.forall_mem_cons.mpr ⟨rfl, List.forall_mem_cons.mpr ⟨rfl, fun _ h => absurd h List.not_mem_nil⟩⟩) (ygf257 hB _ _ rfl) (fun v4 m4 cv4 => ?_)
          refine xS_if (fun h4 => ?_) (fun h4 => ?_)
          · refine xS_of (pc' := 124) (L' := []) (st' := [xa 536]) (m' := m4) (fun ex ns r q => ?_) ?_
            · refine xw_if_eqT rfl (w32_cg (w32_of (xw_zr cv4))) h4 ?_
              refine xw_iload_n rfl rfl ?_
              refine xw_if_eqF rfl (w32_cg rfl) (by decide) ?_
              refine xw_aload_n rfl rfl rfl ?_
              refine xw_lo (L2 := []) (fun _ h => absurd h List.not_mem_nil) ?_
              exact q
            refine xS_call (q := 268) (n := 1) (kq := 0) (as := [xa 536]) (st1 := []) rfl rfl rfl rfl rfl rfl rfl rfl rfl rfl (fun _ => xw_rcv1 (t := 12) (xw_obd (by decide +kernel)) rfl) rfl (List.forall_mem_cons.mpr ⟨rfl, fun _ h => absurd h List.not_mem_nil⟩) (ygf268 hB _) (fun v5 m5 cv5 => ?_)
            refine xS_of (pc' := 134) (L' := []) (st' := []) (m' := m5) (fun ex ns r q => ?_) ?_
            · refine xw_goto rfl ?_
              exact q
            exact xS_ret (v := 0) rfl rfl rfl rfl
          · refine xS_of (pc' := 113) (L' := []) (st' := [xa 536]) (m' := m4) (fun ex ns r q => ?_) ?_
            · refine xw_if_eqF rfl (w32_cg (w32_of (xw_zr cv4))) h4 ?_
              refine xw_aload_n rfl rfl rfl ?_
              refine xw_lo (L2 := []) (fun _ h => absurd h List.not_mem_nil) ?_
              exact q
            refine xS_call (q := 267) (n := 1) (kq := 0) (as := [xa 536]) (st1 := []) rfl rfl rfl rfl rfl rfl rfl rfl rfl rfl (fun _ => xw_rcv1 (t := 12) (xw_obd (by decide +kernel)) rfl) rfl (List.forall_mem_cons.mpr ⟨rfl, fun _ h => absurd h List.not_mem_nil⟩) (ygf267 hB _) (fun v6 m6 cv6 => ?_)
            refine xS_of (pc' := 134) (L' := []) (st' := []) (m' := m6) (fun ex ns r q => ?_) ?_
            · refine xw_goto rfl ?_
              exact q
            exact xS_ret (v := 0) rfl rfl rfl rfl
        · refine xS_of (pc' := 98) (L' := []) (st' := [xa 536]) (m' := m3) (fun ex ns r q => ?_) ?_
          · refine xw_if_eqF rfl (w32_cg (w32_of (xw_zr cv3))) h3 ?_
            refine xw_aload_n rfl rfl rfl ?_
            refine xw_lo (L2 := []) (fun _ h => absurd h List.not_mem_nil) ?_
            exact q
          refine xS_call (q := 259) (n := 1) (kq := 0) (as := [xa 536]) (st1 := []) rfl rfl rfl rfl rfl rfl rfl rfl rfl rfl (fun _ => xw_rcv1 (t := 12) (xw_obd (by decide +kernel)) rfl) rfl (List.forall_mem_cons.mpr ⟨rfl, fun _ h => absurd h List.not_mem_nil⟩) (ygf259 hB _) (fun v7 m7 cv7 => ?_)
          refine xS_of (pc' := 134) (L' := []) (st' := []) (m' := m7) (fun ex ns r q => ?_) ?_
          · refine xw_goto rfl ?_
            exact q
          exact xS_ret (v := 0) rfl rfl rfl rfl
    · refine xS_of (pc' := 74) (L' := [(0, xa 536), (1, xi 1)]) (st' := [xi (xR m1 536 9), xi 8, xi 1, xa 536]) (m' := m1) (fun ex ns r q => ?_) ?_
      · refine xw_ic_eqF rfl (w32_cg rfl) (w32_cg (w32_xR _ _ _)) h1 ?_
        refine xw_iconst rfl ?_
        refine xw_goto rfl ?_
        refine xw_bipush (e := 8) rfl (by decide +kernel) ?_
        refine xw_aload_n rfl rfl rfl ?_
        refine xw_gfIc (v := (m1 536 9)) (v' := (xR m1 536 9)) rfl (xw_obd (by decide +kernel)) xk12_9 (qi := 9) rfl rfl rfl ?_
        refine xw_lo (L2 := [(0, xa 536), (1, xi 1)]) (List.forall_mem_cons.mpr ⟨rfl, List.forall_mem_cons.mpr ⟨rfl, fun _ h => absurd h List.not_mem_nil⟩⟩) ?_
        exact q
      refine xS_call (q := 254) (n := 4) (kq := 4) (as := [xa 536, xi 1, xi 8, xi (xR m1 536 9)]) (st1 := []) rfl rfl rfl rfl rfl rfl rfl rfl rfl rfl (fun _ => xw_rcv1 (t := 12) (xw_obd (by decide +kernel)) rfl) rfl (List.forall_mem_cons.mpr ⟨rfl, List.forall_mem_cons.mpr ⟨rfl, List.forall_mem_cons.mpr ⟨rfl, List.forall_mem_cons.mpr ⟨rfl, fun _ h => absurd h List.not_mem_nil⟩⟩⟩⟩) (ygf254 hB _ _ _ _ rfl rfl (w32_xR _ _ _)) (fun v8 m8 cv8 => ?_)
      refine xS_if (fun h2 => ?_) (fun h2 => ?_)
      · refine xS_of (pc' := 80) (L' := [(0, xa 536), (1, xi 1)]) (st' := []) (m' := m8) (fun ex ns r q => ?_) ?_
        · refine xw_if_neF rfl (w32_cg (w32_of (xw_zr cv8))) h2 ?_
          exact q
        exact xS_ret (v := 0) rfl rfl rfl rfl
      · refine xS_of (pc' := 91) (L' := [(0, xa 536), (1, xi 1)]) (st' := [xi 0, xa 536]) (m' := (xw_u m8 536 27 (xR m8 536 9))) (fun ex ns r q => ?_) ?_
        · refine xw_if_neT rfl (w32_cg (w32_of (xw_zr cv8))) h2 ?_
          refine xw_aload_n rfl rfl rfl ?_
          refine xw_aload_n rfl rfl rfl ?_
          refine xw_gfIc (v := (m8 536 9)) (v' := (xR m8 536 9)) rfl (xw_obd (by decide +kernel)) xk12_9 (qi := 9) rfl rfl rfl ?_
          refine xw_pfI rfl (xw_obd (by decide +kernel)) xk12_27 (qi := 27) rfl (xw_okI rfl) ?_
          refine xw_aload_n rfl rfl rfl ?_
          refine xw_iconst rfl ?_
          refine xw_lo (L2 := [(0, xa 536), (1, xi 1)]) (List.forall_mem_cons.mpr ⟨rfl, List.forall_mem_cons.mpr ⟨rfl, fun _ h => absurd h List.not_mem_nil⟩⟩) ?_
          exact q
        refine xS_call (q := 257) (n := 2) (kq := 4) (as := [xa 536, xi 0]) (st1 := []) rfl rfl rfl rfl rfl rfl rfl rfl rfl rfl (fun _ => xw_rcv1 (t := 12) (xw_obd (by decide +kernel)) rfl) rfl (List.forall_mem_cons.mpr ⟨rfl, List.forall_mem_cons.mpr ⟨rfl, fun _ h => absurd h List.not_mem_nil⟩⟩) (ygf257 hB _ _ rfl) (fun v9 m9 cv9 => ?_)
        refine xS_if (fun h3 => ?_) (fun h3 => ?_)
        · refine xS_of (pc' := 106) (L' := [(0, xa 536), (1, xi 1)]) (st' := [xi 1, xa 536]) (m' := m9) (fun ex ns r q => ?_) ?_
          · refine xw_if_eqT rfl (w32_cg (w32_of (xw_zr cv9))) h3 ?_
            refine xw_aload_n rfl rfl rfl ?_
            refine xw_iconst rfl ?_
            refine xw_lo (L2 := [(0, xa 536), (1, xi 1)]) (List.forall_mem_cons.mpr ⟨rfl, List.forall_mem_cons.mpr ⟨rfl, fun _ h => absurd h List.not_mem_nil⟩⟩) ?_
            exact q
          refine xS_call (q := 257) (n := 2) (kq := 4) (as := [xa 536, xi 1]) (st1 := []) rfl rfl rfl rfl rfl rfl rfl rfl rfl rfl (fun _ => xw_rcv1 (t := 12) (xw_obd (by decide +kernel)) rfl) rfl (List.forall_mem_cons.mpr ⟨rfl, List.forall_mem_cons.mpr ⟨rfl, fun _ h => absurd h List.not_mem_nil⟩⟩) (ygf257 hB _ _ rfl) (fun v10 m10 cv10 => ?_)
          refine xS_if (fun h4 => ?_) (fun h4 => ?_)
          · refine xS_of (pc' := 124) (L' := []) (st' := [xa 536]) (m' := m10) (fun ex ns r q => ?_) ?_
            · refine xw_if_eqT rfl (w32_cg (w32_of (xw_zr cv10))) h4 ?_
              refine xw_iload_n rfl rfl ?_
              refine xw_if_eqF rfl (w32_cg rfl) (by decide) ?_
              refine xw_aload_n rfl rfl rfl ?_
              refine xw_lo (L2 := []) (fun _ h => absurd h List.not_mem_nil) ?_
              exact q
            refine xS_call (q := 268) (n := 1) (kq := 0) (as := [xa 536]) (st1 := []) rfl rfl rfl rfl rfl rfl rfl rfl rfl rfl (fun _ => xw_rcv1 (t := 12) (xw_obd (by decide +kernel)) rfl) rfl (List.forall_mem_cons.mpr ⟨rfl, fun _ h => absurd h List.not_mem_nil⟩) (ygf268 hB _) (fun v11 m11 cv11 => ?_)
            refine xS_of (pc' := 134) (L' := []) (st' := []) (m' := m11) (fun ex ns r q => ?_) ?_
            · refine xw_goto rfl ?_
              exact q
            exact xS_ret (v := 0) rfl rfl rfl rfl
          · refine xS_of (pc' := 113) (L' := []) (st' := [xa 536]) (m' := m10) (fun ex ns r q => ?_) ?_
            · refine xw_if_eqF rfl (w32_cg (w32_of (xw_zr cv10))) h4 ?_
              refine xw_aload_n rfl rfl rfl ?_
              refine xw_lo (L2 := []) (fun _ h => absurd h List.not_mem_nil) ?_
              exact q
            refine xS_call (q := 267) (n := 1) (kq := 0) (as := [xa 536]) (st1 := []) rfl rfl rfl rfl rfl rfl rfl rfl rfl rfl (fun _ => xw_rcv1 (t := 12) (xw_obd (by decide +kernel)) rfl) rfl (List.forall_mem_cons.mpr ⟨rfl, fun _ h => absurd h List.not_mem_nil⟩) (ygf267 hB _) (fun v12 m12 cv12 => ?_)
            refine xS_of (pc' := 134) (L' := []) (st' := []) (m' := m12) (fun ex ns r q => ?_) ?_
            · refine xw_goto rfl ?_
              exact q
            exact xS_ret (v := 0) rfl rfl rfl rfl
        · refine xS_of (pc' := 98) (L' := []) (st' := [xa 536]) (m' := m9) (fun ex ns r q => ?_) ?_
          · refine xw_if_eqF rfl (w32_cg (w32_of (xw_zr cv9))) h3 ?_
            refine xw_aload_n rfl rfl rfl ?_
            refine xw_lo (L2 := []) (fun _ h => absurd h List.not_mem_nil) ?_
            exact q
          refine xS_call (q := 259) (n := 1) (kq := 0) (as := [xa 536]) (st1 := []) rfl rfl rfl rfl rfl rfl rfl rfl rfl rfl (fun _ => xw_rcv1 (t := 12) (xw_obd (by decide +kernel)) rfl) rfl (List.forall_mem_cons.mpr ⟨rfl, fun _ h => absurd h List.not_mem_nil⟩) (ygf259 hB _) (fun v13 m13 cv13 => ?_)
          refine xS_of (pc' := 134) (L' := []) (st' := []) (m' := m13) (fun ex ns r q => ?_) ?_
          · refine xw_goto rfl ?_
            exact q
          exact xS_ret (v := 0) rfl rfl rfl rfl
theorem ygf256 {B : Nat} (hB : B ≤ 512) {xs : Nat → Int32} {SL d : Nat} : ∀ m, xS B xs SL (d + 199) 256 (2, none, [], 13) 0 0 [(0, xa 536)] [] m (yf256 B m) := by
  intro m
  unfold yf256
  refine xS_of (pc' := 2) (L' := [(0, xa 536)]) (st' := [xi 0, xa 536]) (m' := m) (fun ex ns r q => ?_) ?_
  · refine xw_aload_n rfl rfl rfl ?_
    refine xw_iconst rfl ?_
    refine xw_lo (L2 := [(0, xa 536)]) (List.forall_mem_cons.mpr ⟨rfl, fun _ h => absurd h List.not_mem_nil⟩) ?_
    exact q
  refine xS_call (q := 257) (n := 2) (kq := 4) (as := [xa 536, xi 0]) (st1 := []) rfl rfl rfl rfl rfl rfl rfl rfl rfl rfl (fun _ => xw_rcv1 (t := 12) (xw_obd (by decide +kernel)) rfl) rfl (List.forall_mem_cons.mpr ⟨rfl, List.forall_mem_cons.mpr ⟨rfl, fun _ h => absurd h List.not_mem_nil⟩⟩) (ygf257 hB _ _ rfl) (fun v1 m1 cv1 => ?_)
  refine xS_if (fun h0 => ?_) (fun h0 => ?_)
  · refine xS_of (pc' := 10) (L' := [(0, xa 536)]) (st' := [xi 1, xa 536]) (m' := m1) (fun ex ns r q => ?_) ?_
    · refine xw_if_neF rfl (w32_cg (w32_of (xw_zr cv1))) h0 ?_
      refine xw_aload_n rfl rfl rfl ?_
      refine xw_iconst rfl ?_
      refine xw_lo (L2 := [(0, xa 536)]) (List.forall_mem_cons.mpr ⟨rfl, fun _ h => absurd h List.not_mem_nil⟩) ?_
      exact q
    refine xS_call (q := 257) (n := 2) (kq := 4) (as := [xa 536, xi 1]) (st1 := []) rfl rfl rfl rfl rfl rfl rfl rfl rfl rfl (fun _ => xw_rcv1 (t := 12) (xw_obd (by decide +kernel)) rfl) rfl (List.forall_mem_cons.mpr ⟨rfl, List.forall_mem_cons.mpr ⟨rfl, fun _ h => absurd h List.not_mem_nil⟩⟩) (ygf257 hB _ _ rfl) (fun v2 m2 cv2 => ?_)
    refine xS_if (fun h1 => ?_) (fun h1 => ?_)
    · refine xS_of (pc' := 18) (L' := [(0, xa 536)]) (st' := [xi 2, xa 536]) (m' := m2) (fun ex ns r q => ?_) ?_
      · refine xw_if_neF rfl (w32_cg (w32_of (xw_zr cv2))) h1 ?_
        refine xw_aload_n rfl rfl rfl ?_
        refine xw_iconst rfl ?_
        refine xw_lo (L2 := [(0, xa 536)]) (List.forall_mem_cons.mpr ⟨rfl, fun _ h => absurd h List.not_mem_nil⟩) ?_
        exact q
      refine xS_call (q := 257) (n := 2) (kq := 4) (as := [xa 536, xi 2]) (st1 := []) rfl rfl rfl rfl rfl rfl rfl rfl rfl rfl (fun _ => xw_rcv1 (t := 12) (xw_obd (by decide +kernel)) rfl) rfl (List.forall_mem_cons.mpr ⟨rfl, List.forall_mem_cons.mpr ⟨rfl, fun _ h => absurd h List.not_mem_nil⟩⟩) (ygf257 hB _ _ rfl) (fun v3 m3 cv3 => ?_)
      refine xS_if (fun h2 => ?_) (fun h2 => ?_)
      · refine xS_of (pc' := 37) (L' := [(0, xa 536), (1, xi 0)]) (st' := [xi 3, xa 536, xa 536]) (m' := m3) (fun ex ns r q => ?_) ?_
        · refine xw_if_eqT rfl (w32_cg (w32_of (xw_zr cv3))) h2 ?_
          refine xw_iconst rfl ?_
          refine xw_istore_n (L' := [(1, xi 0), (0, xa 536)]) rfl (by decide) rfl ?_
          refine xw_aload_n rfl rfl rfl ?_
          refine xw_iload_n rfl rfl ?_
          refine xw_if_neF rfl (w32_cg rfl) (by decide) ?_
          refine xw_aload_n rfl rfl rfl ?_
          refine xw_iconst rfl ?_
          refine xw_lo (L2 := [(0, xa 536), (1, xi 0)]) (List.forall_mem_cons.mpr ⟨rfl, List.forall_mem_cons.mpr ⟨rfl, fun _ h => absurd h List.not_mem_nil⟩⟩) ?_
          exact q
        refine xS_call (q := 257) (n := 2) (kq := 4) (as := [xa 536, xi 3]) (st1 := [xa 536]) rfl rfl rfl rfl rfl rfl rfl rfl rfl rfl (fun _ => xw_rcv1 (t := 12) (xw_obd (by decide +kernel)) rfl) rfl (List.forall_mem_cons.mpr ⟨rfl, List.forall_mem_cons.mpr ⟨rfl, fun _ h => absurd h List.not_mem_nil⟩⟩) (ygf257 hB _ _ rfl) (fun v4 m4 cv4 => ?_)
        refine xS_if (fun h3 => ?_) (fun h3 => ?_)
        · refine xS_of (pc' := 48) (L' := [(0, xa 536), (1, xi 0)]) (st' := [xi 0, xa 536]) (m' := m4) (fun ex ns r q => ?_) ?_
          · refine xw_if_eqT rfl (w32_cg (w32_of (xw_zr cv4))) h3 ?_
            refine xw_iconst rfl ?_
            refine xw_lo (L2 := [(0, xa 536), (1, xi 0)]) (List.forall_mem_cons.mpr ⟨rfl, List.forall_mem_cons.mpr ⟨rfl, fun _ h => absurd h List.not_mem_nil⟩⟩) ?_
            exact q
          refine xS_call (q := 258) (n := 2) (kq := 4) (as := [xa 536, xi 0]) (st1 := []) rfl rfl rfl rfl rfl rfl rfl rfl rfl rfl (fun _ => xw_rcv1 (t := 12) (xw_obd (by decide +kernel)) rfl) rfl (List.forall_mem_cons.mpr ⟨rfl, List.forall_mem_cons.mpr ⟨rfl, fun _ h => absurd h List.not_mem_nil⟩⟩) (ygf258 hB _ _ rfl) (fun v5 m5 cv5 => ?_)
          refine xS_if (fun h4 => ?_) (fun h4 => ?_)
          · refine xS_of (pc' := 80) (L' := [(0, xa 536), (1, xi 0)]) (st' := []) (m' := m5) (fun ex ns r q => ?_) ?_
            · refine xw_if_eqT rfl (w32_cg (w32_of (xw_zr cv5))) h4 ?_
              exact q
            exact xS_ret (v := 0) rfl rfl rfl rfl
          · refine xS_of (pc' := 60) (L' := [(0, xa 536), (1, xi 0)]) (st' := [xi (xR m5 536 2), xi 0, xa 536]) (m' := m5) (fun ex ns r q => ?_) ?_
            · refine xw_if_eqF rfl (w32_cg (w32_of (xw_zr cv5))) h4 ?_
              refine xw_aload_n rfl rfl rfl ?_
              refine xw_iload_n rfl rfl ?_
              refine xw_aload_n rfl rfl rfl ?_
              refine xw_gfIc (v := (m5 536 2)) (v' := (xR m5 536 2)) rfl (xw_obd (by decide +kernel)) xk12_2 (qi := 2) rfl rfl rfl ?_
              exact q
            refine xS_if (fun h5 => ?_) (fun h5 => ?_)
            · refine xS_of (pc' := 74) (L' := [(0, xa 536), (1, xi 0)]) (st' := [xi (xR m5 536 9), xi 8, xi 0, xa 536]) (m' := m5) (fun ex ns r q => ?_) ?_
              · refine xw_ic_eqT rfl (w32_cg rfl) (w32_cg (w32_xR _ _ _)) h5 ?_
                refine xw_iconst rfl ?_
                refine xw_bipush (e := 8) rfl (by decide +kernel) ?_
                refine xw_aload_n rfl rfl rfl ?_
                refine xw_gfIc (v := (m5 536 9)) (v' := (xR m5 536 9)) rfl (xw_obd (by decide +kernel)) xk12_9 (qi := 9) rfl rfl rfl ?_
                refine xw_lo (L2 := [(0, xa 536), (1, xi 0)]) (List.forall_mem_cons.mpr ⟨rfl, List.forall_mem_cons.mpr ⟨rfl, fun _ h => absurd h List.not_mem_nil⟩⟩) ?_
                exact q
              refine xS_call (q := 254) (n := 4) (kq := 4) (as := [xa 536, xi 0, xi 8, xi (xR m5 536 9)]) (st1 := []) rfl rfl rfl rfl rfl rfl rfl rfl rfl rfl (fun _ => xw_rcv1 (t := 12) (xw_obd (by decide +kernel)) rfl) rfl (List.forall_mem_cons.mpr ⟨rfl, List.forall_mem_cons.mpr ⟨rfl, List.forall_mem_cons.mpr ⟨rfl, List.forall_mem_cons.mpr ⟨rfl, fun _ h => absurd h List.not_mem_nil⟩⟩⟩⟩) (ygf254 hB _ _ _ _ rfl rfl (w32_xR _ _ _)) (fun v6 m6 cv6 => ?_)
              refine xS_if (fun h6 => ?_) (fun h6 => ?_)
              · refine xS_of (pc' := 80) (L' := [(0, xa 536), (1, xi 0)]) (st' := []) (m' := m6) (fun ex ns r q => ?_) ?_
                · refine xw_if_neF rfl (w32_cg (w32_of (xw_zr cv6))) h6 ?_
                  exact q
                exact xS_ret (v := 0) rfl rfl rfl rfl
              · refine xS_of (pc' := 91) (L' := [(0, xa 536), (1, xi 0)]) (st' := [xi 0, xa 536]) (m' := (xw_u m6 536 27 (xR m6 536 9))) (fun ex ns r q => ?_) ?_
                · refine xw_if_neT rfl (w32_cg (w32_of (xw_zr cv6))) h6 ?_
                  refine xw_aload_n rfl rfl rfl ?_
                  refine xw_aload_n rfl rfl rfl ?_
                  refine xw_gfIc (v := (m6 536 9)) (v' := (xR m6 536 9)) rfl (xw_obd (by decide +kernel)) xk12_9 (qi := 9) rfl rfl rfl ?_
                  refine xw_pfI rfl (xw_obd (by decide +kernel)) xk12_27 (qi := 27) rfl (xw_okI rfl) ?_
                  refine xw_aload_n rfl rfl rfl ?_
                  refine xw_iconst rfl ?_
                  refine xw_lo (L2 := [(0, xa 536), (1, xi 0)]) (List.forall_mem_cons.mpr ⟨rfl, List.forall_mem_cons.mpr ⟨rfl, fun _ h => absurd h List.not_mem_nil⟩⟩) ?_
                  exact q
                refine xS_call (q := 257) (n := 2) (kq := 4) (as := [xa 536, xi 0]) (st1 := []) rfl rfl rfl rfl rfl rfl rfl rfl rfl rfl (fun _ => xw_rcv1 (t := 12) (xw_obd (by decide +kernel)) rfl) rfl (List.forall_mem_cons.mpr ⟨rfl, List.forall_mem_cons.mpr ⟨rfl, fun _ h => absurd h List.not_mem_nil⟩⟩) (ygf257 hB _ _ rfl) (fun v7 m7 cv7 => ?_)
                refine xS_if (fun h7 => ?_) (fun h7 => ?_)
                · refine xS_of (pc' := 106) (L' := [(0, xa 536), (1, xi 0)]) (st' := [xi 1, xa 536]) (m' := m7) (fun ex ns r q => ?_) ?_
                  · refine xw_if_eqT rfl (w32_cg (w32_of (xw_zr cv7))) h7 ?_
                    refine xw_aload_n rfl rfl rfl ?_
                    refine xw_iconst rfl ?_
                    refine xw_lo (L2 := [(0, xa 536), (1, xi 0)]) (List.forall_mem_cons.mpr ⟨rfl, List.forall_mem_cons.mpr ⟨rfl, fun _ h => absurd h List.not_mem_nil⟩⟩) ?_
                    exact q
                  refine xS_call (q := 257) (n := 2) (kq := 4) (as := [xa 536, xi 1]) (st1 := []) rfl rfl rfl rfl rfl rfl rfl rfl rfl rfl (fun _ => xw_rcv1 (t := 12) (xw_obd (by decide +kernel)) rfl) rfl (List.forall_mem_cons.mpr ⟨rfl, List.forall_mem_cons.mpr ⟨rfl, fun _ h => absurd h List.not_mem_nil⟩⟩) (ygf257 hB _ _ rfl) (fun v8 m8 cv8 => ?_)
                  refine xS_if (fun h8 => ?_) (fun h8 => ?_)
                  · refine xS_of (pc' := 131) (L' := []) (st' := [xa 536]) (m' := m8) (fun ex ns r q => ?_) ?_
                    · refine xw_if_eqT rfl (w32_cg (w32_of (xw_zr cv8))) h8 ?_
                      refine xw_iload_n rfl rfl ?_
                      refine xw_if_eqT rfl (w32_cg rfl) (by decide) ?_
                      refine xw_aload_n rfl rfl rfl ?_
                      refine xw_lo (L2 := []) (fun _ h => absurd h List.not_mem_nil) ?_
                      exact q
                    refine xS_call (q := 270) (n := 1) (kq := 0) (as := [xa 536]) (st1 := []) rfl rfl rfl rfl rfl rfl rfl rfl rfl rfl (fun _ => xw_rcv1 (t := 12) (xw_obd (by decide +kernel)) rfl) rfl (List.forall_mem_cons.mpr ⟨rfl, fun _ h => absurd h List.not_mem_nil⟩) (ygf270 hB _) (fun v9 m9 cv9 => ?_)
                    exact xS_ret (v := 0) rfl rfl rfl rfl
                  · refine xS_of (pc' := 113) (L' := []) (st' := [xa 536]) (m' := m8) (fun ex ns r q => ?_) ?_
                    · refine xw_if_eqF rfl (w32_cg (w32_of (xw_zr cv8))) h8 ?_
                      refine xw_aload_n rfl rfl rfl ?_
                      refine xw_lo (L2 := []) (fun _ h => absurd h List.not_mem_nil) ?_
                      exact q
                    refine xS_call (q := 267) (n := 1) (kq := 0) (as := [xa 536]) (st1 := []) rfl rfl rfl rfl rfl rfl rfl rfl rfl rfl (fun _ => xw_rcv1 (t := 12) (xw_obd (by decide +kernel)) rfl) rfl (List.forall_mem_cons.mpr ⟨rfl, fun _ h => absurd h List.not_mem_nil⟩) (ygf267 hB _) (fun v10 m10 cv10 => ?_)
                    refine xS_of (pc' := 134) (L' := []) (st' := []) (m' := m10) (fun ex ns r q => ?_) ?_
                    · refine xw_goto rfl ?_
                      exact q
                    exact xS_ret (v := 0) rfl rfl rfl rfl
                · refine xS_of (pc' := 98) (L' := []) (st' := [xa 536]) (m' := m7) (fun ex ns r q => ?_) ?_
                  · refine xw_if_eqF rfl (w32_cg (w32_of (xw_zr cv7))) h7 ?_
                    refine xw_aload_n rfl rfl rfl ?_
                    refine xw_lo (L2 := []) (fun _ h => absurd h List.not_mem_nil) ?_
                    exact q
                  refine xS_call (q := 259) (n := 1) (kq := 0) (as := [xa 536]) (st1 := []) rfl rfl rfl rfl rfl rfl rfl rfl rfl rfl (fun _ => xw_rcv1 (t := 12) (xw_obd (by decide +kernel)) rfl) rfl (List.forall_mem_cons.mpr ⟨rfl, fun _ h => absurd h List.not_mem_nil⟩) (ygf259 hB _) (fun v11 m11 cv11 => ?_)
                  refine xS_of (pc' := 134) (L' := []) (st' := []) (m' := m11) (fun ex ns r q => ?_) ?_
                  · refine xw_goto rfl ?_
                    exact q
                  exact xS_ret (v := 0) rfl rfl rfl rfl
            · refine xS_of (pc' := 74) (L' := [(0, xa 536), (1, xi 0)]) (st' := [xi (xR m5 536 9), xi 8, xi 1, xa 536]) (m' := m5) (fun ex ns r q => ?_) ?_
              · refine xw_ic_eqF rfl (w32_cg rfl) (w32_cg (w32_xR _ _ _)) h5 ?_
                refine xw_iconst rfl ?_
                refine xw_goto rfl ?_
                refine xw_bipush (e := 8) rfl (by decide +kernel) ?_
                refine xw_aload_n rfl rfl rfl ?_
                refine xw_gfIc (v := (m5 536 9)) (v' := (xR m5 536 9)) rfl (xw_obd (by decide +kernel)) xk12_9 (qi := 9) rfl rfl rfl ?_
                refine xw_lo (L2 := [(0, xa 536), (1, xi 0)]) (List.forall_mem_cons.mpr ⟨rfl, List.forall_mem_cons.mpr ⟨rfl, fun _ h => absurd h List.not_mem_nil⟩⟩) ?_
                exact q
              refine xS_call (q := 254) (n := 4) (kq := 4) (as := [xa 536, xi 1, xi 8, xi (xR m5 536 9)]) (st1 := []) rfl rfl rfl rfl rfl rfl rfl rfl rfl rfl (fun _ => xw_rcv1 (t := 12) (xw_obd (by decide +kernel)) rfl) rfl (List.forall_mem_cons.mpr ⟨rfl, List.forall_mem_cons.mpr ⟨rfl, List.forall_mem_cons.mpr ⟨rfl, List.forall_mem_cons.mpr ⟨rfl, fun _ h => absurd h List.not_mem_nil⟩⟩⟩⟩) (ygf254 hB _ _ _ _ rfl rfl (w32_xR _ _ _)) (fun v12 m12 cv12 => ?_)
              refine xS_if (fun h6 => ?_) (fun h6 => ?_)
              · refine xS_of (pc' := 80) (L' := [(0, xa 536), (1, xi 0)]) (st' := []) (m' := m12) (fun ex ns r q => ?_) ?_
                · refine xw_if_neF rfl (w32_cg (w32_of (xw_zr cv12))) h6 ?_
                  exact q
                exact xS_ret (v := 0) rfl rfl rfl rfl
              · refine xS_of (pc' := 91) (L' := [(0, xa 536), (1, xi 0)]) (st' := [xi 0, xa 536]) (m' := (xw_u m12 536 27 (xR m12 536 9))) (fun ex ns r q => ?_) ?_
                · refine xw_if_neT rfl (w32_cg (w32_of (xw_zr cv12))) h6 ?_
                  refine xw_aload_n rfl rfl rfl ?_
                  refine xw_aload_n rfl rfl rfl ?_
                  refine xw_gfIc (v := (m12 536 9)) (v' := (xR m12 536 9)) rfl (xw_obd (by decide +kernel)) xk12_9 (qi := 9) rfl rfl rfl ?_
                  refine xw_pfI rfl (xw_obd (by decide +kernel)) xk12_27 (qi := 27) rfl (xw_okI rfl) ?_
                  refine xw_aload_n rfl rfl rfl ?_
                  refine xw_iconst rfl ?_
                  refine xw_lo (L2 := [(0, xa 536), (1, xi 0)]) (List.forall_mem_cons.mpr ⟨rfl, List.forall_mem_cons.mpr ⟨rfl, fun _ h => absurd h List.not_mem_nil⟩⟩) ?_
                  exact q
                refine xS_call (q := 257) (n := 2) (kq := 4) (as := [xa 536, xi 0]) (st1 := []) rfl rfl rfl rfl rfl rfl rfl rfl rfl rfl (fun _ => xw_rcv1 (t := 12) (xw_obd (by decide +kernel)) rfl) rfl (List.forall_mem_cons.mpr ⟨rfl, List.forall_mem_cons.mpr ⟨rfl, fun _ h => absurd h List.not_mem_nil⟩⟩) (ygf257 hB _ _ rfl) (fun v13 m13 cv13 => ?_)
                refine xS_if (fun h7 => ?_) (fun h7 => ?_)
                · refine xS_of (pc' := 106) (L' := [(0, xa 536), (1, xi 0)]) (st' := [xi 1, xa 536]) (m' := m13) (fun ex ns r q => ?_) ?_
                  · refine xw_if_eqT rfl (w32_cg (w32_of (xw_zr cv13))) h7 ?_
                    refine xw_aload_n rfl rfl rfl ?_
                    refine xw_iconst rfl ?_
                    refine xw_lo (L2 := [(0, xa 536), (1, xi 0)]) (List.forall_mem_cons.mpr ⟨rfl, List.forall_mem_cons.mpr ⟨rfl, fun _ h => absurd h List.not_mem_nil⟩⟩) ?_
                    exact q
                  refine xS_call (q := 257) (n := 2) (kq := 4) (as := [xa 536, xi 1]) (st1 := []) rfl rfl rfl rfl rfl rfl rfl rfl rfl rfl (fun _ => xw_rcv1 (t := 12) (xw_obd (by decide +kernel)) rfl) rfl (List.forall_mem_cons.mpr ⟨rfl, List.forall_mem_cons.mpr ⟨rfl, fun _ h => absurd h List.not_mem_nil⟩⟩) (ygf257 hB _ _ rfl) (fun v14 m14 cv14 => ?_)
                  refine xS_if (fun h8 => ?_) (fun h8 => ?_)
                  · refine xS_of (pc' := 131) (L' := []) (st' := [xa 536]) (m' := m14) (fun ex ns r q => ?_) ?_
                    · refine xw_if_eqT rfl (w32_cg (w32_of (xw_zr cv14))) h8 ?_
                      refine xw_iload_n rfl rfl ?_
                      refine xw_if_eqT rfl (w32_cg rfl) (by decide) ?_
                      refine xw_aload_n rfl rfl rfl ?_
                      refine xw_lo (L2 := []) (fun _ h => absurd h List.not_mem_nil) ?_
                      exact q
                    refine xS_call (q := 270) (n := 1) (kq := 0) (as := [xa 536]) (st1 := []) rfl rfl rfl rfl rfl rfl rfl rfl rfl rfl (fun _ => xw_rcv1 (t := 12) (xw_obd (by decide +kernel)) rfl) rfl (List.forall_mem_cons.mpr ⟨rfl, fun _ h => absurd h List.not_mem_nil⟩) (ygf270 hB _) (fun v15 m15 cv15 => ?_)
                    exact xS_ret (v := 0) rfl rfl rfl rfl
                  · refine xS_of (pc' := 113) (L' := []) (st' := [xa 536]) (m' := m14) (fun ex ns r q => ?_) ?_
                    · refine xw_if_eqF rfl (w32_cg (w32_of (xw_zr cv14))) h8 ?_
                      refine xw_aload_n rfl rfl rfl ?_
                      refine xw_lo (L2 := []) (fun _ h => absurd h List.not_mem_nil) ?_
                      exact q
                    refine xS_call (q := 267) (n := 1) (kq := 0) (as := [xa 536]) (st1 := []) rfl rfl rfl rfl rfl rfl rfl rfl rfl rfl (fun _ => xw_rcv1 (t := 12) (xw_obd (by decide +kernel)) rfl) rfl (List.forall_mem_cons.mpr ⟨rfl, fun _ h => absurd h List.not_mem_nil⟩) (ygf267 hB _) (fun v16 m16 cv16 => ?_)
                    refine xS_of (pc' := 134) (L' := []) (st' := []) (m' := m16) (fun ex ns r q => ?_) ?_
                    · refine xw_goto rfl ?_
                      exact q
                    exact xS_ret (v := 0) rfl rfl rfl rfl
                · refine xS_of (pc' := 98) (L' := []) (st' := [xa 536]) (m' := m13) (fun ex ns r q => ?_) ?_
                  · refine xw_if_eqF rfl (w32_cg (w32_of (xw_zr cv13))) h7 ?_
                    refine xw_aload_n rfl rfl rfl ?_
                    refine xw_lo (L2 := []) (fun _ h => absurd h List.not_mem_nil) ?_
                    exact q
                  refine xS_call (q := 259) (n := 1) (kq := 0) (as := [xa 536]) (st1 := []) rfl rfl rfl rfl rfl rfl rfl rfl rfl rfl (fun _ => xw_rcv1 (t := 12) (xw_obd (by decide +kernel)) rfl) rfl (List.forall_mem_cons.mpr ⟨rfl, fun _ h => absurd h List.not_mem_nil⟩) (ygf259 hB _) (fun v17 m17 cv17 => ?_)
                  refine xS_of (pc' := 134) (L' := []) (st' := []) (m' := m17) (fun ex ns r q => ?_) ?_
                  · refine xw_goto rfl ?_
                    exact q
                  exact xS_ret (v := 0) rfl rfl rfl rfl
        · refine xS_of (pc' := 48) (L' := [(0, xa 536), (1, xi 0)]) (st' := [xi 1, xa 536]) (m' := m4) (fun ex ns r q => ?_) ?_
          · refine xw_if_eqF rfl (w32_cg (w32_of (xw_zr cv4))) h3 ?_
            refine xw_iconst rfl ?_
            refine xw_goto rfl ?_
            refine xw_lo (L2 := [(0, xa 536), (1, xi 0)]) (List.forall_mem_cons.mpr ⟨rfl, List.forall_mem_cons.mpr ⟨rfl, fun _ h => absurd h List.not_mem_nil⟩⟩) ?_
            exact q
          refine xS_call (q := 258) (n := 2) (kq := 4) (as := [xa 536, xi 1]) (st1 := []) rfl rfl rfl rfl rfl rfl rfl rfl rfl rfl (fun _ => xw_rcv1 (t := 12) (xw_obd (by decide +kernel)) rfl) rfl (List.forall_mem_cons.mpr ⟨rfl, List.forall_mem_cons.mpr ⟨rfl, fun _ h => absurd h List.not_mem_nil⟩⟩) (ygf258 hB _ _ rfl) (fun v18 m18 cv18 => ?_)
          refine xS_if (fun h4 => ?_) (fun h4 => ?_)
          · refine xS_of (pc' := 80) (L' := [(0, xa 536), (1, xi 0)]) (st' := []) (m' := m18) (fun ex ns r q => ?_) ?_
            · refine xw_if_eqT rfl (w32_cg (w32_of (xw_zr cv18))) h4 ?_
              exact q
            exact xS_ret (v := 0) rfl rfl rfl rfl
          · refine xS_of (pc' := 60) (L' := [(0, xa 536), (1, xi 0)]) (st' := [xi (xR m18 536 2), xi 0, xa 536]) (m' := m18) (fun ex ns r q => ?_) ?_
            · refine xw_if_eqF rfl (w32_cg (w32_of (xw_zr cv18))) h4 ?_
              refine xw_aload_n rfl rfl rfl ?_
              refine xw_iload_n rfl rfl ?_
              refine xw_aload_n rfl rfl rfl ?_
              refine xw_gfIc (v := (m18 536 2)) (v' := (xR m18 536 2)) rfl (xw_obd (by decide +kernel)) xk12_2 (qi := 2) rfl rfl rfl ?_
              exact q
            refine xS_if (fun h5 => ?_) (fun h5 => ?_)
            · refine xS_of (pc' := 74) (L' := [(0, xa 536), (1, xi 0)]) (st' := [xi (xR m18 536 9), xi 8, xi 0, xa 536]) (m' := m18) (fun ex ns r q => ?_) ?_
              · refine xw_ic_eqT rfl (w32_cg rfl) (w32_cg (w32_xR _ _ _)) h5 ?_
                refine xw_iconst rfl ?_
                refine xw_bipush (e := 8) rfl (by decide +kernel) ?_
                refine xw_aload_n rfl rfl rfl ?_
                refine xw_gfIc (v := (m18 536 9)) (v' := (xR m18 536 9)) rfl (xw_obd (by decide +kernel)) xk12_9 (qi := 9) rfl rfl rfl ?_
                refine xw_lo (L2 := [(0, xa 536), (1, xi 0)]) (List.forall_mem_cons.mpr ⟨rfl, List.forall_mem_cons.mpr ⟨rfl, fun _ h => absurd h List.not_mem_nil⟩⟩) ?_
                exact q
              refine xS_call (q := 254) (n := 4) (kq := 4) (as := [xa 536, xi 0, xi 8, xi (xR m18 536 9)]) (st1 := []) rfl rfl rfl rfl rfl rfl rfl rfl rfl rfl (fun _ => xw_rcv1 (t := 12) (xw_obd (by decide +kernel)) rfl) rfl (List.forall_mem_cons.mpr ⟨rfl, List.forall_mem_cons.mpr ⟨rfl, List.forall_mem_cons.mpr ⟨rfl, List.forall_mem_cons.mpr ⟨rfl, fun _ h => absurd h List.not_mem_nil⟩⟩⟩⟩) (ygf254 hB _ _ _ _ rfl rfl (w32_xR _ _ _)) (fun v19 m19 cv19 => ?_)
              refine xS_if (fun h6 => ?_) (fun h6 => ?_)
              · refine xS_of (pc' := 80) (L' := [(0, xa 536), (1, xi 0)]) (st' := []) (m' := m19) (fun ex ns r q => ?_) ?_
                · refine xw_if_neF rfl (w32_cg (w32_of (xw_zr cv19))) h6 ?_
                  exact q
                exact xS_ret (v := 0) rfl rfl rfl rfl
              · refine xS_of (pc' := 91) (L' := [(0, xa 536), (1, xi 0)]) (st' := [xi 0, xa 536]) (m' := (xw_u m19 536 27 (xR m19 536 9))) (fun ex ns r q => ?_) ?_
                · refine xw_if_neT rfl (w32_cg (w32_of (xw_zr cv19))) h6 ?_
                  refine xw_aload_n rfl rfl rfl ?_
                  refine xw_aload_n rfl rfl rfl ?_
                  refine xw_gfIc (v := (m19 536 9)) (v' := (xR m19 536 9)) rfl (xw_obd (by decide +kernel)) xk12_9 (qi := 9) rfl rfl rfl ?_
                  refine xw_pfI rfl (xw_obd (by decide +kernel)) xk12_27 (qi := 27) rfl (xw_okI rfl) ?_
                  refine xw_aload_n rfl rfl rfl ?_
                  refine xw_iconst rfl ?_
                  refine xw_lo (L2 := [(0, xa 536), (1, xi 0)]) (List.forall_mem_cons.mpr ⟨rfl, List.forall_mem_cons.mpr ⟨rfl, fun _ h => absurd h List.not_mem_nil⟩⟩) ?_
                  exact q
                refine xS_call (q := 257) (n := 2) (kq := 4) (as := [xa 536, xi 0]) (st1 := []) rfl rfl rfl rfl rfl rfl rfl rfl rfl rfl (fun _ => xw_rcv1 (t := 12) (xw_obd (by decide +kernel)) rfl) rfl (List.forall_mem_cons.mpr ⟨rfl, List.forall_mem_cons.mpr ⟨rfl, fun _ h => absurd h List.not_mem_nil⟩⟩) (ygf257 hB _ _ rfl) (fun v20 m20 cv20 => ?_)
                refine xS_if (fun h7 => ?_) (fun h7 => ?_)
                · refine xS_of (pc' := 106) (L' := [(0, xa 536), (1, xi 0)]) (st' := [xi 1, xa 536]) (m' := m20) (fun ex ns r q => ?_) ?_
                  · refine xw_if_eqT rfl (w32_cg (w32_of (xw_zr cv20))) h7 ?_
                    refine xw_aload_n rfl rfl rfl ?_
                    refine xw_iconst rfl ?_
                    refine xw_lo (L2 := [(0, xa 536), (1, xi 0)]) (List.forall_mem_cons.mpr ⟨rfl, List.forall_mem_cons.mpr ⟨rfl, fun _ h => absurd h List.not_mem_nil⟩⟩) ?_
                    exact q
                  refine xS_call (q := 257) (n := 2) (kq := 4) (as := [xa 536, xi 1]) (st1 := []) rfl rfl rfl rfl rfl rfl rfl rfl rfl rfl (fun _ => xw_rcv1 (t := 12) (xw_obd (by decide +kernel)) rfl) rfl (List.forall_mem_cons.mpr ⟨rfl, List.forall_mem_cons.mpr ⟨rfl, fun _ h => absurd h List.not_mem_nil⟩⟩) (ygf257 hB _ _ rfl) (fun v21 m21 cv21 => ?_)
                  refine xS_if (fun h8 => ?_) (fun h8 => ?_)
                  · refine xS_of (pc' := 131) (L' := []) (st' := [xa 536]) (m' := m21) (fun ex ns r q => ?_) ?_
                    · refine xw_if_eqT rfl (w32_cg (w32_of (xw_zr cv21))) h8 ?_
                      refine xw_iload_n rfl rfl ?_
                      refine xw_if_eqT rfl (w32_cg rfl) (by decide) ?_
                      refine xw_aload_n rfl rfl rfl ?_
                      refine xw_lo (L2 := []) (fun _ h => absurd h List.not_mem_nil) ?_
                      exact q
                    refine xS_call (q := 270) (n := 1) (kq := 0) (as := [xa 536]) (st1 := []) rfl rfl rfl rfl rfl rfl rfl rfl rfl rfl (fun _ => xw_rcv1 (t := 12) (xw_obd (by decide +kernel)) rfl) rfl (List.forall_mem_cons.mpr ⟨rfl, fun _ h => absurd h List.not_mem_nil⟩) (ygf270 hB _) (fun v22 m22 cv22 => ?_)
                    exact xS_ret (v := 0) rfl rfl rfl rfl
                  · refine xS_of (pc' := 113) (L' := []) (st' := [xa 536]) (m' := m21) (fun ex ns r q => ?_) ?_
                    · refine xw_if_eqF rfl (w32_cg (w32_of (xw_zr cv21))) h8 ?_
                      refine xw_aload_n rfl rfl rfl ?_
                      refine xw_lo (L2 := []) (fun _ h => absurd h List.not_mem_nil) ?_
                      exact q
                    refine xS_call (q := 267) (n := 1) (kq := 0) (as := [xa 536]) (st1 := []) rfl rfl rfl rfl rfl rfl rfl rfl rfl rfl (fun _ => xw_rcv1 (t := 12) (xw_obd (by decide +kernel)) rfl) rfl (List.forall_mem_cons.mpr ⟨rfl, fun _ h => absurd h List.not_mem_nil⟩) (ygf267 hB _) (fun v23 m23 cv23 => ?_)
                    refine xS_of (pc' := 134) (L' := []) (st' := []) (m' := m23) (fun ex ns r q => ?_) ?_
                    · refine xw_goto rfl ?_
                      exact q
                    exact xS_ret (v := 0) rfl rfl rfl rfl
                · refine xS_of (pc' := 98) (L' := []) (st' := [xa 536]) (m' := m20) (fun ex ns r q => ?_) ?_
                  · refine xw_if_eqF rfl (w32_cg (w32_of (xw_zr cv20))) h7 ?_
                    refine xw_aload_n rfl rfl rfl ?_
                    refine xw_lo (L2 := []) (fun _ h => absurd h List.not_mem_nil) ?_
                    exact q
                  refine xS_call (q := 259) (n := 1) (kq := 0) (as := [xa 536]) (st1 := []) rfl rfl rfl rfl rfl rfl rfl rfl rfl rfl (fun _ => xw_rcv1 (t := 12) (xw_obd (by decide +kernel)) rfl) rfl (List.forall_mem_cons.mpr ⟨rfl, fun _ h => absurd h List.not_mem_nil⟩) (ygf259 hB _) (fun v24 m24 cv24 => ?_)
                  refine xS_of (pc' := 134) (L' := []) (st' := []) (m' := m24) (fun ex ns r q => ?_) ?_
                  · refine xw_goto rfl ?_
                    exact q
                  exact xS_ret (v := 0) rfl rfl rfl rfl
            · refine xS_of (pc' := 74) (L' := [(0, xa 536), (1, xi 0)]) (st' := [xi (xR m18 536 9), xi 8, xi 1, xa 536]) (m' := m18) (fun ex ns r q => ?_) ?_
              · refine xw_ic_eqF rfl (w32_cg rfl) (w32_cg (w32_xR _ _ _)) h5 ?_
                refine xw_iconst rfl ?_
                refine xw_goto rfl ?_
                refine xw_bipush (e := 8) rfl (by decide +kernel) ?_
                refine xw_aload_n rfl rfl rfl ?_
                refine xw_gfIc (v := (m18 536 9)) (v' := (xR m18 536 9)) rfl (xw_obd (by decide +kernel)) xk12_9 (qi := 9) rfl rfl rfl ?_
                refine xw_lo (L2 := [(0, xa 536), (1, xi 0)]) (List.forall_mem_cons.mpr ⟨rfl, List.forall_mem_cons.mpr ⟨rfl, fun _ h => absurd h List.not_mem_nil⟩⟩) ?_
                exact q
              refine xS_call (q := 254) (n := 4) (kq := 4) (as := [xa 536, xi 1, xi 8, xi (xR m18 536 9)]) (st1 := []) rfl rfl rfl rfl rfl rfl rfl rfl rfl rfl (fun _ => xw_rcv1 (t := 12) (xw_obd (by decide +kernel)) rfl) rfl (List.forall_mem_cons.mpr ⟨rfl, List.forall_mem_cons.mpr ⟨rfl, List.forall_mem_cons.mpr ⟨rfl, List.forall_mem_cons.mpr ⟨rfl, fun _ h => absurd h List.not_mem_nil⟩⟩⟩⟩) (ygf254 hB _ _ _ _ rfl rfl (w32_xR _ _ _)) (fun v25 m25 cv25 => ?_)
              refine xS_if (fun h6 => ?_) (fun h6 => ?_)
              · refine xS_of (pc' := 80) (L' := [(0, xa 536), (1, xi 0)]) (st' := []) (m' := m25) (fun ex ns r q => ?_) ?_
                · refine xw_if_neF rfl (w32_cg (w32_of (xw_zr cv25))) h6 ?_
                  exact q
                exact xS_ret (v := 0) rfl rfl rfl rfl
              · refine xS_of (pc' := 91) (L' := [(0, xa 536), (1, xi 0)]) (st' := [xi 0, xa 536]) (m' := (xw_u m25 536 27 (xR m25 536 9))) (fun ex ns r q => ?_) ?_
                · refine xw_if_neT rfl (w32_cg (w32_of (xw_zr cv25))) h6 ?_
                  refine xw_aload_n rfl rfl rfl ?_
                  refine xw_aload_n rfl rfl rfl ?_
                  refine xw_gfIc (v := (m25 536 9)) (v' := (xR m25 536 9)) rfl (xw_obd (by decide +kernel)) xk12_9 (qi := 9) rfl rfl rfl ?_
                  refine xw_pfI rfl (xw_obd (by decide +kernel)) xk12_27 (qi := 27) rfl (xw_okI rfl) ?_
                  refine xw_aload_n rfl rfl rfl ?_
                  refine xw_iconst rfl ?_
                  refine xw_lo (L2 := [(0, xa 536), (1, xi 0)]) (List.forall_mem_cons.mpr ⟨rfl, List.forall_mem_cons.mpr ⟨rfl, fun _ h => absurd h List.not_mem_nil⟩⟩) ?_
                  exact q
                refine xS_call (q := 257) (n := 2) (kq := 4) (as := [xa 536, xi 0]) (st1 := []) rfl rfl rfl rfl rfl rfl rfl rfl rfl rfl (fun _ => xw_rcv1 (t := 12) (xw_obd (by decide +kernel)) rfl) rfl (List.forall_mem_cons.mpr ⟨rfl, List.forall_mem_cons.mpr ⟨rfl, fun _ h => absurd h List.not_mem_nil⟩⟩) (ygf257 hB _ _ rfl) (fun v26 m26 cv26 => ?_)
                refine xS_if (fun h7 => ?_) (fun h7 => ?_)
                · refine xS_of (pc' := 106) (L' := [(0, xa 536), (1, xi 0)]) (st' := [xi 1, xa 536]) (m' := m26) (fun ex ns r q => ?_) ?_
                  · refine xw_if_eqT rfl (w32_cg (w32_of (xw_zr cv26))) h7 ?_
                    refine xw_aload_n rfl rfl rfl ?_
                    refine xw_iconst rfl ?_
                    refine xw_lo (L2 := [(0, xa 536), (1, xi 0)]) (List.forall_mem_cons.mpr ⟨rfl, List.forall_mem_cons.mpr ⟨rfl, fun _ h => absurd h List.not_mem_nil⟩⟩) ?_
                    exact q
                  refine xS_call (q := 257) (n := 2) (kq := 4) (as := [xa 536, xi 1]) (st1 := []) rfl rfl rfl rfl rfl rfl rfl rfl rfl rfl (fun _ => xw_rcv1 (t := 12) (xw_obd (by decide +kernel)) rfl) rfl (List.forall_mem_cons.mpr ⟨rfl, List.forall_mem_cons.mpr ⟨rfl, fun _ h => absurd h List.not_mem_nil⟩⟩) (ygf257 hB _ _ rfl) (fun v27 m27 cv27 => ?_)
                  refine xS_if (fun h8 => ?_) (fun h8 => ?_)
                  · refine xS_of (pc' := 131) (L' := []) (st' := [xa 536]) (m' := m27) (fun ex ns r q => ?_) ?_
                    · refine xw_if_eqT rfl (w32_cg (w32_of (xw_zr cv27))) h8 ?_
                      refine xw_iload_n rfl rfl ?_
                      refine xw_if_eqT rfl (w32_cg rfl) (by decide) ?_
                      refine xw_aload_n rfl rfl rfl ?_
                      refine xw_lo (L2 := []) (fun _ h => absurd h List.not_mem_nil) ?_
                      exact q
                    refine xS_call (q := 270) (n := 1) (kq := 0) (as := [xa 536]) (st1 := []) rfl rfl rfl rfl rfl rfl rfl rfl rfl rfl (fun _ => xw_rcv1 (t := 12) (xw_obd (by decide +kernel)) rfl) rfl (List.forall_mem_cons.mpr ⟨rfl, fun _ h => absurd h List.not_mem_nil⟩) (ygf270 hB _) (fun v28 m28 cv28 => ?_)
                    exact xS_ret (v := 0) rfl rfl rfl rfl
                  · refine xS_of (pc' := 113) (L' := []) (st' := [xa 536]) (m' := m27) (fun ex ns r q => ?_) ?_
                    · refine xw_if_eqF rfl (w32_cg (w32_of (xw_zr cv27))) h8 ?_
                      refine xw_aload_n rfl rfl rfl ?_
                      refine xw_lo (L2 := []) (fun _ h => absurd h List.not_mem_nil) ?_
                      exact q
                    refine xS_call (q := 267) (n := 1) (kq := 0) (as := [xa 536]) (st1 := []) rfl rfl rfl rfl rfl rfl rfl rfl rfl rfl (fun _ => xw_rcv1 (t := 12) (xw_obd (by decide +kernel)) rfl) rfl (List.forall_mem_cons.mpr ⟨rfl, fun _ h => absurd h List.not_mem_nil⟩) (ygf267 hB _) (fun v29 m29 cv29 => ?_)
                    refine xS_of (pc' := 134) (L' := []) (st' := []) (m' := m29) (fun ex ns r q => ?_) ?_
                    · refine xw_goto rfl ?_
                      exact q
                    exact xS_ret (v := 0) rfl rfl rfl rfl
                · refine xS_of (pc' := 98) (L' := []) (st' := [xa 536]) (m' := m26) (fun ex ns r q => ?_) ?_
                  · refine xw_if_eqF rfl (w32_cg (w32_of (xw_zr cv26))) h7 ?_
                    refine xw_aload_n rfl rfl rfl ?_
                    refine xw_lo (L2 := []) (fun _ h => absurd h List.not_mem_nil) ?_
                    exact q
                  refine xS_call (q := 259) (n := 1) (kq := 0) (as := [xa 536]) (st1 := []) rfl rfl rfl rfl rfl rfl rfl rfl rfl rfl (fun _ => xw_rcv1 (t := 12) (xw_obd (by decide +kernel)) rfl) rfl (List.forall_mem_cons.mpr ⟨rfl, fun _ h => absurd h List.not_mem_nil⟩) (ygf259 hB _) (fun v30 m30 cv30 => ?_)
                  refine xS_of (pc' := 134) (L' := []) (st' := []) (m' := m30) (fun ex ns r q => ?_) ?_
                  · refine xw_goto rfl ?_
                    exact q
                  exact xS_ret (v := 0) rfl rfl rfl rfl
      · refine xS_of (pc' := 24) (L' := [(0, xa 536)]) (st' := []) (m' := m3) (fun ex ns r q => ?_) ?_
        · refine xw_if_eqF rfl (w32_cg (w32_of (xw_zr cv3))) h2 ?_
          refine xw_lo (L2 := [(0, xa 536)]) (List.forall_mem_cons.mpr ⟨rfl, fun _ h => absurd h List.not_mem_nil⟩) ?_
          exact q
        exact ygk256_24 hB _
    · refine xS_of (pc' := 24) (L' := [(0, xa 536)]) (st' := []) (m' := m2) (fun ex ns r q => ?_) ?_
      · refine xw_if_neT rfl (w32_cg (w32_of (xw_zr cv2))) h1 ?_
        refine xw_lo (L2 := [(0, xa 536)]) (List.forall_mem_cons.mpr ⟨rfl, fun _ h => absurd h List.not_mem_nil⟩) ?_
        exact q
      exact ygk256_24 hB _
  · refine xS_of (pc' := 24) (L' := [(0, xa 536)]) (st' := []) (m' := m1) (fun ex ns r q => ?_) ?_
    · refine xw_if_neT rfl (w32_cg (w32_of (xw_zr cv1))) h0 ?_
      refine xw_lo (L2 := [(0, xa 536)]) (List.forall_mem_cons.mpr ⟨rfl, fun _ h => absurd h List.not_mem_nil⟩) ?_
      exact q
    exact ygk256_24 hB _
theorem ysl247_51 {B : Nat} (hB : B ≤ 512) {xs : Nat → Int32} {SL d : Nat} {r51 : Int → xw_M → xP} (hr51 : ∀ x1 m, w32 x1 = x1 → xS B xs SL (d + 200) 247 (2, (some .int), [], 13) 1 51 [(0, xa 536), (1, xi x1)] [] m (r51 x1 m)) : ∀ x1 m, w32 x1 = x1 → xS B xs SL (d + 200) 247 (2, (some .int), [], 13) 1 51 [(0, xa 536), (1, xi x1)] [] m (yl247_51 B r51 x1 m) := by
  intro x1 m c1
  unfold yl247_51
  refine xS_of (pc' := 55) (L' := [(0, xa 536), (1, xi x1)]) (st' := [xi (xR m 536 6)]) (m' := m) (fun ex ns r q => ?_) ?_
  · refine xw_aload_n rfl rfl rfl ?_
    refine xw_gfIc (v := (m 536 6)) (v' := (xR m 536 6)) rfl (xw_obd (by decide +kernel)) xk12_6 (qi := 6) rfl rfl rfl ?_
    exact q
  refine xS_if (fun h0 => ?_) (fun h0 => ?_)
  · refine xS_of (pc' := 62) (L' := [(0, xa 536), (1, xi x1)]) (st' := [xi (xR m 536 10)]) (m' := m) (fun ex ns r q => ?_) ?_
    · refine xw_if_neF rfl (w32_cg (w32_xR _ _ _)) h0 ?_
      refine xw_aload_n rfl rfl rfl ?_
      refine xw_gfIc (v := (m 536 10)) (v' := (xR m 536 10)) rfl (xw_obd (by decide +kernel)) xk12_10 (qi := 10) rfl rfl rfl ?_
      exact q
    refine xS_if (fun h1 => ?_) (fun h1 => ?_)
    · refine xS_of (pc' := 97) (L' := [(0, xa 536), (1, xi x1)]) (st' := [xi x1]) (m' := (xw_u m 536 5 0)) (fun ex ns r q => ?_) ?_
      · refine xw_if_eqT rfl (w32_cg (w32_xR _ _ _)) h1 ?_
        refine xw_aload_n rfl rfl rfl ?_
        refine xw_iconst rfl ?_
        refine xw_pfI rfl (xw_obd (by decide +kernel)) xk12_5 (qi := 5) rfl (xw_okI rfl) ?_
        refine xw_iload_n rfl rfl ?_
        exact q
      exact xS_ret (v := x1) rfl rfl xw_rtI c1
    · refine xS_of (pc' := 66) (L' := [(0, xa 536), (1, xi x1)]) (st' := [xa 536]) (m' := m) (fun ex ns r q => ?_) ?_
      · refine xw_if_eqF rfl (w32_cg (w32_xR _ _ _)) h1 ?_
        refine xw_aload_n rfl rfl rfl ?_
        refine xw_lo (L2 := [(0, xa 536), (1, xi x1)]) (List.forall_mem_cons.mpr ⟨rfl, List.forall_mem_cons.mpr ⟨rfl, fun _ h => absurd h List.not_mem_nil⟩⟩) ?_
        exact q
      refine xS_call (q := 256) (n := 1) (kq := 0) (as := [xa 536]) (st1 := []) rfl rfl rfl rfl rfl rfl rfl rfl rfl rfl (fun _ => xw_rcv1 (t := 12) (xw_obd (by decide +kernel)) rfl) rfl (List.forall_mem_cons.mpr ⟨rfl, fun _ h => absurd h List.not_mem_nil⟩) (ygf256 hB _) (fun v1 m1 cv1 => ?_)
      refine xS_of (pc' := 74) (L' := [(0, xa 536), (1, xi x1)]) (st' := [xi (xR m1 536 6), xi x1]) (m' := m1) (fun ex ns r q => ?_) ?_
      · refine xw_iload_n rfl rfl ?_
        refine xw_aload_n rfl rfl rfl ?_
        refine xw_gfIc (v := (m1 536 6)) (v' := (xR m1 536 6)) rfl (xw_obd (by decide +kernel)) xk12_6 (qi := 6) rfl rfl rfl ?_
        exact q
      refine xS_if (fun h2 => ?_) (fun h2 => ?_)
      · refine xS_of (pc' := 85) (L' := [(0, xa 536), (1, xi (w32 (x1 + 1)))]) (st' := [xa 536]) (m' := m1) (fun ex ns r q => ?_) ?_
        · refine xw_if_neF rfl (w32_cg (w32_xR _ _ _)) h2 ?_
          refine xw_iconst rfl ?_
          refine xw_goto rfl ?_
          refine xw_iadd rfl ?_
          refine xw_cst (st' := [xi (w32 (x1 + 1))]) (xw_sc (xi_c rfl) rfl) ?_
          refine xw_istore_n (L' := [(1, xi (w32 (x1 + 1))), (0, xa 536)]) rfl (by decide) rfl ?_
          refine xw_aload_n rfl rfl rfl ?_
          refine xw_lo (L2 := [(0, xa 536), (1, xi (w32 (x1 + 1)))]) (List.forall_mem_cons.mpr ⟨rfl, List.forall_mem_cons.mpr ⟨rfl, fun _ h => absurd h List.not_mem_nil⟩⟩) ?_
          exact q
        refine xS_call (q := 248) (n := 1) (kq := 0) (as := [xa 536]) (st1 := []) rfl rfl rfl rfl rfl rfl rfl rfl rfl rfl (fun _ => xw_rcv1 (t := 12) (xw_obd (by decide +kernel)) rfl) rfl (List.forall_mem_cons.mpr ⟨rfl, fun _ h => absurd h List.not_mem_nil⟩) (ygf248 hB _) (fun v2 m2 cv2 => ?_)
        refine xS_of (pc' := 51) (L' := [(0, xa 536), (1, xi (w32 (x1 + 1)))]) (st' := []) (m' := m2) (fun ex ns r q => ?_) ?_
        · refine xw_goto rfl ?_
          refine xw_lo (L2 := [(0, xa 536), (1, xi (w32 (x1 + 1)))]) (List.forall_mem_cons.mpr ⟨rfl, List.forall_mem_cons.mpr ⟨rfl, fun _ h => absurd h List.not_mem_nil⟩⟩) ?_
          exact q
        exact hr51 _ _ (w32_w _)
      · refine xS_of (pc' := 85) (L' := [(0, xa 536), (1, xi (w32 (x1 + 0)))]) (st' := [xa 536]) (m' := m1) (fun ex ns r q => ?_) ?_
        · refine xw_if_neT rfl (w32_cg (w32_xR _ _ _)) h2 ?_
          refine xw_iconst rfl ?_
          refine xw_iadd rfl ?_
          refine xw_cst (st' := [xi (w32 (x1 + 0))]) (xw_sc (xi_c rfl) rfl) ?_
          refine xw_istore_n (L' := [(1, xi (w32 (x1 + 0))), (0, xa 536)]) rfl (by decide) rfl ?_
          refine xw_aload_n rfl rfl rfl ?_
          refine xw_lo (L2 := [(0, xa 536), (1, xi (w32 (x1 + 0)))]) (List.forall_mem_cons.mpr ⟨rfl, List.forall_mem_cons.mpr ⟨rfl, fun _ h => absurd h List.not_mem_nil⟩⟩) ?_
          exact q
        refine xS_call (q := 248) (n := 1) (kq := 0) (as := [xa 536]) (st1 := []) rfl rfl rfl rfl rfl rfl rfl rfl rfl rfl (fun _ => xw_rcv1 (t := 12) (xw_obd (by decide +kernel)) rfl) rfl (List.forall_mem_cons.mpr ⟨rfl, fun _ h => absurd h List.not_mem_nil⟩) (ygf248 hB _) (fun v3 m3 cv3 => ?_)
        refine xS_of (pc' := 51) (L' := [(0, xa 536), (1, xi (w32 (x1 + 0)))]) (st' := []) (m' := m3) (fun ex ns r q => ?_) ?_
        · refine xw_goto rfl ?_
          refine xw_lo (L2 := [(0, xa 536), (1, xi (w32 (x1 + 0)))]) (List.forall_mem_cons.mpr ⟨rfl, List.forall_mem_cons.mpr ⟨rfl, fun _ h => absurd h List.not_mem_nil⟩⟩) ?_
          exact q
        exact hr51 _ _ (w32_w _)
  · refine xS_of (pc' := 97) (L' := [(0, xa 536), (1, xi x1)]) (st' := [xi x1]) (m' := (xw_u m 536 5 0)) (fun ex ns r q => ?_) ?_
    · refine xw_if_neT rfl (w32_cg (w32_xR _ _ _)) h0 ?_
      refine xw_aload_n rfl rfl rfl ?_
      refine xw_iconst rfl ?_
      refine xw_pfI rfl (xw_obd (by decide +kernel)) xk12_5 (qi := 5) rfl (xw_okI rfl) ?_
      refine xw_iload_n rfl rfl ?_
      exact q
    exact xS_ret (v := x1) rfl rfl xw_rtI c1
theorem ygl247_51 {B : Nat} (hB : B ≤ 512) {xs : Nat → Int32} {SL d : Nat} : ∀ n x1 m, w32 x1 = x1 → xS B xs SL (d + 200) 247 (2, (some .int), [], 13) 1 51 [(0, xa 536), (1, xi x1)] [] m (xl1 (yl247_51 B) n x1 m) := by
  intro n
  induction n with
  | zero => intro x1 m c1; exact xS_none
  | succ n ih => exact ysl247_51 hB ih
theorem ygf247 {B : Nat} (hB : B ≤ 512) {xs : Nat → Int32} {SL d : Nat} : ∀ m, xS B xs SL (d + 200) 247 (2, (some .int), [], 13) 1 0 [(0, xa 536)] [] m (yf247 B m) := by
  intro m
  unfold yf247
  refine xS_of (pc' := 5) (L' := [(0, xa 536)]) (st' := [xi (xR m 536 3), xa 536]) (m' := m) (fun ex ns r q => ?_) ?_
  · refine xw_aload_n rfl rfl rfl ?_
    refine xw_aload_n rfl rfl rfl ?_
    refine xw_gfIc (v := (m 536 3)) (v' := (xR m 536 3)) rfl (xw_obd (by decide +kernel)) xk12_3 (qi := 3) rfl rfl rfl ?_
    exact q
  refine xS_if (fun h0 => ?_) (fun h0 => ?_)
  · refine xS_of (pc' := 48) (L' := [(0, xa 536), (1, xi 0)]) (st' := [xa 536]) (m' := (xw_u (xw_u (xw_u (xw_u (xw_u m 536 1 0) 536 6 0) 536 7 (-1)) 536 24 0) 536 8 0)) (fun ex ns r q => ?_) ?_
    · refine xw_if_eqT rfl (w32_cg (w32_xR _ _ _)) h0 ?_
      refine xw_iconst rfl ?_
      refine xw_pfI rfl (xw_obd (by decide +kernel)) xk12_1 (qi := 1) rfl (xw_okI rfl) ?_
      refine xw_aload_n rfl rfl rfl ?_
      refine xw_gfIc (v := 0) (v' := 0) rfl (xw_obd (by decide +kernel)) xk12_1 (qi := 1) rfl xw_us rfl ?_
      refine xw_if_leT rfl (w32_cg rfl) (Int.not_lt.mp (by decide)) ?_
      refine xw_aload_n rfl rfl rfl ?_
      refine xw_iconst rfl ?_
      refine xw_pfI rfl (xw_obd (by decide +kernel)) xk12_6 (qi := 6) rfl (xw_okI rfl) ?_
      refine xw_aload_n rfl rfl rfl ?_
      refine xw_iconst rfl ?_
      refine xw_pfI rfl (xw_obd (by decide +kernel)) xk12_7 (qi := 7) rfl (xw_okI rfl) ?_
      refine xw_aload_n rfl rfl rfl ?_
      refine xw_iconst rfl ?_
      refine xw_pfI rfl (xw_obd (by decide +kernel)) xk12_24 (qi := 24) rfl (xw_okZ rfl (Or.inl rfl)) ?_
      refine xw_aload_n rfl rfl rfl ?_
      refine xw_iconst rfl ?_
      refine xw_pfI rfl (xw_obd (by decide +kernel)) xk12_8 (qi := 8) rfl (xw_okI rfl) ?_
      refine xw_iconst rfl ?_
      refine xw_istore_n (L' := [(1, xi 0), (0, xa 536)]) rfl (by decide) rfl ?_
      refine xw_aload_n rfl rfl rfl ?_
      refine xw_lo (L2 := [(0, xa 536), (1, xi 0)]) (List.forall_mem_cons.mpr ⟨rfl, List.forall_mem_cons.mpr ⟨rfl, fun _ h => absurd h List.not_mem_nil⟩⟩) ?_
      exact q
    refine xS_call (q := 248) (n := 1) (kq := 0) (as := [xa 536]) (st1 := []) rfl rfl rfl rfl rfl rfl rfl rfl rfl rfl (fun _ => xw_rcv1 (t := 12) (xw_obd (by decide +kernel)) rfl) rfl (List.forall_mem_cons.mpr ⟨rfl, fun _ h => absurd h List.not_mem_nil⟩) (ygf248 hB _) (fun v1 m1 cv1 => ?_)
    refine xS_of (pc' := 51) (L' := [(0, xa 536), (1, xi 0)]) (st' := []) (m' := m1) (fun ex ns r q => ?_) ?_
    · refine xw_lo (L2 := [(0, xa 536), (1, xi 0)]) (List.forall_mem_cons.mpr ⟨rfl, List.forall_mem_cons.mpr ⟨rfl, fun _ h => absurd h List.not_mem_nil⟩⟩) ?_
      exact q
    exact ygl247_51 hB 1000000 _ _ rfl
  · refine xS_of (pc' := 24) (L' := [(0, xa 536)]) (st' := [xi 0]) (m' := (xw_u m 536 1 1)) (fun ex ns r q => ?_) ?_
    · refine xw_if_eqF rfl (w32_cg (w32_xR _ _ _)) h0 ?_
      refine xw_iconst rfl ?_
      refine xw_goto rfl ?_
      refine xw_pfI rfl (xw_obd (by decide +kernel)) xk12_1 (qi := 1) rfl (xw_okI rfl) ?_
      refine xw_aload_n rfl rfl rfl ?_
      refine xw_gfIc (v := 1) (v' := 1) rfl (xw_obd (by decide +kernel)) xk12_1 (qi := 1) rfl xw_us rfl ?_
      refine xw_if_leF rfl (w32_cg rfl) (Int.not_le.mpr (by decide)) ?_
      refine xw_iconst rfl ?_
      exact q
    exact xS_ret (v := 0) rfl rfl xw_rtI rfl
theorem ygf302 {B : Nat} (hB : B ≤ 512) {xs : Nat → Int32} {SL d : Nat} : ∀ p0 m, w32 p0 = p0 → xS B xs SL (d + 0) 302 (2, (some .int), [], 13) 1 0 [(0, xa 536), (1, xi p0)] [] m (yf302 B p0 m) := by
  intro p0 m cp0
  unfold yf302
  refine xS_of (pc' := 2) (L' := [(0, xa 536), (1, xi p0)]) (st' := [xi p0, xa 536]) (m' := m) (fun ex ns r q => ?_) ?_
  · refine xw_aload_n rfl rfl rfl ?_
    refine xw_iload_n rfl rfl ?_
    exact q
  refine xS_if (fun h0 => ?_) (fun h0 => ?_)
  · refine xS_of (pc' := 18) (L' := [(0, xa 536), (1, xi p0)]) (st' := [xi (xR m 536 3), xa 536]) (m' := m) (fun ex ns r q => ?_) ?_
    · refine xw_if_eqT rfl (w32_cg cp0) h0 ?_
      refine xw_aload_n rfl rfl rfl ?_
      refine xw_gfIc (v := (m 536 3)) (v' := (xR m 536 3)) rfl (xw_obd (by decide +kernel)) xk12_3 (qi := 3) rfl rfl rfl ?_
      exact q
    refine xS_if (fun h1 => ?_) (fun h1 => ?_)
    · refine xS_of (pc' := 55) (L' := [(0, xa 536), (1, xi p0)]) (st' := [xi (xR m 536 6)]) (m' := (xw_u m 536 1 0)) (fun ex ns r q => ?_) ?_
      · refine xw_if_eqT rfl (w32_cg (w32_xR _ _ _)) h1 ?_
        refine xw_iconst rfl ?_
        refine xw_pfI rfl (xw_obd (by decide +kernel)) xk12_1 (qi := 1) rfl (xw_okI rfl) ?_
        refine xw_aload_n rfl rfl rfl ?_
        refine xw_gfIc (v := 0) (v' := 0) rfl (xw_obd (by decide +kernel)) xk12_1 (qi := 1) rfl xw_us rfl ?_
        refine xw_if_leT rfl (w32_cg rfl) (Int.not_lt.mp (by decide)) ?_
        refine xw_iload_n rfl rfl ?_
        refine xw_if_neF rfl (w32_cg cp0) h0 ?_
        refine xw_aload_n rfl rfl rfl ?_
        refine xw_gfIc (v := (m 536 6)) (v' := (xR m 536 6)) rfl (xw_obd (by decide +kernel)) xk12_6 (qi := 6) rfl (xw_un (fun e => absurd e.2 (by decide)) rfl) rfl ?_
        refine xw_goto rfl ?_
        exact q
      exact xS_ret (v := (xR m 536 6)) rfl rfl xw_rtI (w32_xR _ _ _)
    · refine xS_of (pc' := 55) (L' := [(0, xa 536), (1, xi p0)]) (st' := [xi 0]) (m' := (xw_u m 536 1 2)) (fun ex ns r q => ?_) ?_
      · refine xw_if_eqF rfl (w32_cg (w32_xR _ _ _)) h1 ?_
        refine xw_iconst rfl ?_
        refine xw_goto rfl ?_
        refine xw_pfI rfl (xw_obd (by decide +kernel)) xk12_1 (qi := 1) rfl (xw_okI rfl) ?_
        refine xw_aload_n rfl rfl rfl ?_
        refine xw_gfIc (v := 2) (v' := 2) rfl (xw_obd (by decide +kernel)) xk12_1 (qi := 1) rfl xw_us rfl ?_
        refine xw_if_leF rfl (w32_cg rfl) (Int.not_le.mpr (by decide)) ?_
        refine xw_iconst rfl ?_
        refine xw_goto rfl ?_
        exact q
      exact xS_ret (v := 0) rfl rfl xw_rtI rfl
  · refine xS_of (pc' := 7) (L' := [(0, xa 536), (1, xi p0)]) (st' := [xi 1, xi p0, xa 536]) (m' := m) (fun ex ns r q => ?_) ?_
    · refine xw_if_eqF rfl (w32_cg cp0) h0 ?_
      refine xw_iload_n rfl rfl ?_
      refine xw_iconst rfl ?_
      exact q
    refine xS_if (fun h1 => ?_) (fun h1 => ?_)
    · refine xS_of (pc' := 18) (L' := [(0, xa 536), (1, xi p0)]) (st' := [xi (xR m 536 3), xa 536]) (m' := m) (fun ex ns r q => ?_) ?_
      · refine xw_ic_eqT rfl (w32_cg cp0) (w32_cg rfl) h1 ?_
        refine xw_aload_n rfl rfl rfl ?_
        refine xw_gfIc (v := (m 536 3)) (v' := (xR m 536 3)) rfl (xw_obd (by decide +kernel)) xk12_3 (qi := 3) rfl rfl rfl ?_
        exact q
      refine xS_if (fun h2 => ?_) (fun h2 => ?_)
      · refine xS_of (pc' := 55) (L' := [(0, xa 536), (1, xi p0)]) (st' := [xi (xR m 536 7)]) (m' := (xw_u m 536 1 0)) (fun ex ns r q => ?_) ?_
        · refine xw_if_eqT rfl (w32_cg (w32_xR _ _ _)) h2 ?_
          refine xw_iconst rfl ?_
          refine xw_pfI rfl (xw_obd (by decide +kernel)) xk12_1 (qi := 1) rfl (xw_okI rfl) ?_
          refine xw_aload_n rfl rfl rfl ?_
          refine xw_gfIc (v := 0) (v' := 0) rfl (xw_obd (by decide +kernel)) xk12_1 (qi := 1) rfl xw_us rfl ?_
          refine xw_if_leT rfl (w32_cg rfl) (Int.not_lt.mp (by decide)) ?_
          refine xw_iload_n rfl rfl ?_
          refine xw_if_neT rfl (w32_cg cp0) h0 ?_
          refine xw_aload_n rfl rfl rfl ?_
          refine xw_gfIc (v := (m 536 7)) (v' := (xR m 536 7)) rfl (xw_obd (by decide +kernel)) xk12_7 (qi := 7) rfl (xw_un (fun e => absurd e.2 (by decide)) rfl) rfl ?_
          exact q
        exact xS_ret (v := (xR m 536 7)) rfl rfl xw_rtI (w32_xR _ _ _)
      · refine xS_of (pc' := 55) (L' := [(0, xa 536), (1, xi p0)]) (st' := [xi 0]) (m' := (xw_u m 536 1 2)) (fun ex ns r q => ?_) ?_
        · refine xw_if_eqF rfl (w32_cg (w32_xR _ _ _)) h2 ?_
          refine xw_iconst rfl ?_
          refine xw_goto rfl ?_
          refine xw_pfI rfl (xw_obd (by decide +kernel)) xk12_1 (qi := 1) rfl (xw_okI rfl) ?_
          refine xw_aload_n rfl rfl rfl ?_
          refine xw_gfIc (v := 2) (v' := 2) rfl (xw_obd (by decide +kernel)) xk12_1 (qi := 1) rfl xw_us rfl ?_
          refine xw_if_leF rfl (w32_cg rfl) (Int.not_le.mpr (by decide)) ?_
          refine xw_iconst rfl ?_
          refine xw_goto rfl ?_
          exact q
        exact xS_ret (v := 0) rfl rfl xw_rtI rfl
    · refine xS_of (pc' := 55) (L' := [(0, xa 536), (1, xi p0)]) (st' := [xi 0]) (m' := (xw_u m 536 1 1)) (fun ex ns r q => ?_) ?_
      · refine xw_ic_eqF rfl (w32_cg cp0) (w32_cg rfl) h1 ?_
        refine xw_iconst rfl ?_
        refine xw_goto rfl ?_
        refine xw_pfI rfl (xw_obd (by decide +kernel)) xk12_1 (qi := 1) rfl (xw_okI rfl) ?_
        refine xw_aload_n rfl rfl rfl ?_
        refine xw_gfIc (v := 1) (v' := 1) rfl (xw_obd (by decide +kernel)) xk12_1 (qi := 1) rfl xw_us rfl ?_
        refine xw_if_leF rfl (w32_cg rfl) (Int.not_le.mpr (by decide)) ?_
        refine xw_iconst rfl ?_
        refine xw_goto rfl ?_
        exact q
      exact xS_ret (v := 0) rfl rfl xw_rtI rfl
theorem ysl304_26 {B : Nat} (hB : B ≤ 512) {xs : Nat → Int32} {SL d : Nat} {r5 : Int → Int → xw_M → xP} (hr5 : ∀ x1 x2 m, w32 x1 = x1 → w32 x2 = x2 → xS B xs SL (d + 0) 304 (4, (some .int), [], 13) 1 5 [(0, xa 536), (1, xi x1), (2, xi x2)] [] m (r5 x1 x2 m)) {r26 : Int → Int → Int → xw_M → xP} (hr26 : ∀ x1 x2 x3 m, w32 x1 = x1 → w32 x2 = x2 → w32 x3 = x3 → xS B xs SL (d + 0) 304 (4, (some .int), [], 13) 1 26 [(0, xa 536), (1, xi x1), (2, xi x2), (3, xi x3)] [] m (r26 x1 x2 x3 m)) : ∀ x1 x2 x3 m, w32 x1 = x1 → w32 x2 = x2 → w32 x3 = x3 → xS B xs SL (d + 0) 304 (4, (some .int), [], 13) 1 26 [(0, xa 536), (1, xi x1), (2, xi x2), (3, xi x3)] [] m (yl304_26 B r5 r26 x1 x2 x3 m) := by
  intro x1 x2 x3 m c1 c2 c3
  unfold yl304_26
  refine xS_g (fun g0 => ?_)
  refine xS_of (pc' := 33) (L' := [(0, xa 536), (1, xi x1), (2, xi x2), (3, xi x3)]) (st' := [xi (xR m 538 x2), xi x3]) (m' := m) (fun ex ns r q => ?_) ?_
  · refine xw_iload_n rfl rfl ?_
    refine xw_aload_n rfl rfl rfl ?_
    refine xw_gfR (n := 538) (e := 538) rfl (xw_obd (by decide +kernel)) (by decide +kernel) (by decide +kernel) rfl ?_
    refine xw_iload_n rfl rfl ?_
    refine xw_ialdc (n := 8) (v := (m 538 x2)) (v' := (xR m 538 x2)) rfl hB (xw_obd (by decide +kernel)) rfl g0 rfl rfl ?_
    exact q
  refine xS_if (fun h1 => ?_) (fun h1 => ?_)
  · refine xS_g (fun g2 => ?_)
    refine xS_of (pc' := 26) (L' := [(0, xa 536), (1, xi (w32 (x1 + ((1 + (xR m 543 ((8 + (4 * x2)) + x3))) + (4 * (xR m 539 x2)))))), (2, xi x2), (3, xi (w32 (x3 + 1)))]) (st' := []) (m' := m) (fun ex ns r q => ?_) ?_
    · refine xw_ic_geF rfl (w32_cg c3) (w32_cg (w32_xR _ _ _)) (Int.not_le.mpr h1) ?_
      refine xw_iload_n rfl rfl ?_
      refine xw_iconst rfl ?_
      refine xw_aload_n rfl rfl rfl ?_
      refine xw_gfR (n := 543) (e := 543) rfl (xw_obd (by decide +kernel)) (by decide +kernel) (by decide +kernel) rfl ?_
      refine xw_bipush (e := 8) rfl (by decide +kernel) ?_
      refine xw_iconst rfl ?_
      refine xw_iload_n rfl rfl ?_
      refine xw_imul rfl ?_
      refine xw_iadd rfl ?_
      refine xw_iload_n rfl rfl ?_
      refine xw_iadd rfl ?_
      refine xw_ialdc (n := 48) (v := (m 543 ((8 + (4 * x2)) + x3))) (v' := (xR m 543 ((8 + (4 * x2)) + x3))) rfl hB (xw_obd (by decide +kernel)) rfl g2 rfl rfl ?_
      refine xw_iadd rfl ?_
      refine xw_iconst rfl ?_
      refine xw_aload_n rfl rfl rfl ?_
      refine xw_gfR (n := 539) (e := 539) rfl (xw_obd (by decide +kernel)) (by decide +kernel) (by decide +kernel) rfl ?_
      refine xw_iload_n rfl rfl ?_
      refine xw_ialdc (n := 8) (v := (m 539 x2)) (v' := (xR m 539 x2)) rfl hB (xw_obd (by decide +kernel)) rfl g0 rfl rfl ?_
      refine xw_imul rfl ?_
      refine xw_iadd rfl ?_
      refine xw_iadd rfl ?_
      refine xw_cst (st' := [xi (w32 (x1 + ((1 + (xR m 543 ((8 + (4 * x2)) + x3))) + (4 * (xR m 539 x2)))))]) (xw_sc (xi_c rfl) rfl) ?_
      refine xw_istore_n (L' := [(1, xi (w32 (x1 + ((1 + (xR m 543 ((8 + (4 * x2)) + x3))) + (4 * (xR m 539 x2)))))), (0, xa 536), (2, xi x2), (3, xi x3)]) rfl (by decide) rfl ?_
      refine xw_iincc (z := (w32 (x3 + 1))) (L' := [(3, xi (w32 (x3 + 1))), (1, xi (w32 (x1 + ((1 + (xR m 543 ((8 + (4 * x2)) + x3))) + (4 * (xR m 539 x2)))))), (0, xa 536), (2, xi x2)]) rfl rfl (by decide) rfl rfl ?_
      refine xw_goto rfl ?_
      refine xw_lo (L2 := [(0, xa 536), (1, xi (w32 (x1 + ((1 + (xR m 543 ((8 + (4 * x2)) + x3))) + (4 * (xR m 539 x2)))))), (2, xi x2), (3, xi (w32 (x3 + 1)))]) (List.forall_mem_cons.mpr ⟨rfl, List.forall_mem_cons.mpr ⟨rfl, List.forall_mem_cons.mpr ⟨rfl, List.forall_mem_cons.mpr ⟨rfl, fun _ h => absurd h List.not_mem_nil⟩⟩⟩⟩) ?_
      exact q
    exact hr26 _ _ _ _ (w32_w _) c2 (w32_w _)
  · refine xS_of (pc' := 5) (L' := [(0, xa 536), (1, xi x1), (2, xi (w32 (x2 + 1)))]) (st' := []) (m' := m) (fun ex ns r q => ?_) ?_
    · refine xw_ic_geT rfl (w32_cg c3) (w32_cg (w32_xR _ _ _)) (Int.not_lt.mp h1) ?_
      refine xw_iincc (z := (w32 (x2 + 1))) (L' := [(2, xi (w32 (x2 + 1))), (0, xa 536), (1, xi x1), (3, xi x3)]) rfl rfl (by decide) rfl rfl ?_
      refine xw_goto rfl ?_
      refine xw_lo (L2 := [(0, xa 536), (1, xi x1), (2, xi (w32 (x2 + 1)))]) (List.forall_mem_cons.mpr ⟨rfl, List.forall_mem_cons.mpr ⟨rfl, List.forall_mem_cons.mpr ⟨rfl, fun _ h => absurd h List.not_mem_nil⟩⟩⟩) ?_
      exact q
    exact hr5 _ _ _ c1 (w32_w _)
theorem ygl304_26 {B : Nat} (hB : B ≤ 512) {xs : Nat → Int32} {SL d : Nat} {r5 : Int → Int → xw_M → xP} (hr5 : ∀ x1 x2 m, w32 x1 = x1 → w32 x2 = x2 → xS B xs SL (d + 0) 304 (4, (some .int), [], 13) 1 5 [(0, xa 536), (1, xi x1), (2, xi x2)] [] m (r5 x1 x2 m)) : ∀ n x1 x2 x3 m, w32 x1 = x1 → w32 x2 = x2 → w32 x3 = x3 → xS B xs SL (d + 0) 304 (4, (some .int), [], 13) 1 26 [(0, xa 536), (1, xi x1), (2, xi x2), (3, xi x3)] [] m (xl3 (yl304_26 B r5) n x1 x2 x3 m) := by
  intro n
  induction n with
  | zero => intro x1 x2 x3 m c1 c2 c3; exact xS_none
  | succ n ih => exact ysl304_26 hB hr5 ih
theorem ysl304_77 {B : Nat} (hB : B ≤ 512) {xs : Nat → Int32} {SL d : Nat} {r77 : Int → Int → xw_M → xP} (hr77 : ∀ x1 x2 m, w32 x1 = x1 → w32 x2 = x2 → xS B xs SL (d + 0) 304 (4, (some .int), [], 13) 1 77 [(0, xa 536), (1, xi x1), (2, xi x2)] [] m (r77 x1 x2 m)) : ∀ x1 x2 m, w32 x1 = x1 → w32 x2 = x2 → xS B xs SL (d + 0) 304 (4, (some .int), [], 13) 1 77 [(0, xa 536), (1, xi x1), (2, xi x2)] [] m (yl304_77 B r77 x1 x2 m) := by
  intro x1 x2 m c1 c2
  unfold yl304_77
  refine xS_of (pc' := 82) (L' := [(0, xa 536), (1, xi x1), (2, xi x2)]) (st' := [xi (xR m 536 19), xi x2]) (m' := m) (fun ex ns r q => ?_) ?_
  · refine xw_iload_n rfl rfl ?_
    refine xw_aload_n rfl rfl rfl ?_
    refine xw_gfIc (v := (m 536 19)) (v' := (xR m 536 19)) rfl (xw_obd (by decide +kernel)) xk12_19 (qi := 19) rfl rfl rfl ?_
    exact q
  refine xS_if (fun h0 => ?_) (fun h0 => ?_)
  · refine xS_g (fun g1 => ?_)
    refine xS_of (pc' := 77) (L' := [(0, xa 536), (1, xi (w32 (x1 + (1 + (xR m 543 (40 + x2)))))), (2, xi (w32 (x2 + 1)))]) (st' := []) (m' := m) (fun ex ns r q => ?_) ?_
    · refine xw_ic_geF rfl (w32_cg c2) (w32_cg (w32_xR _ _ _)) (Int.not_le.mpr h0) ?_
      refine xw_iload_n rfl rfl ?_
      refine xw_iconst rfl ?_
      refine xw_aload_n rfl rfl rfl ?_
      refine xw_gfR (n := 543) (e := 543) rfl (xw_obd (by decide +kernel)) (by decide +kernel) (by decide +kernel) rfl ?_
      refine xw_bipush (e := 40) rfl (by decide +kernel) ?_
      refine xw_iload_n rfl rfl ?_
      refine xw_iadd rfl ?_
      refine xw_ialdc (n := 48) (v := (m 543 (40 + x2))) (v' := (xR m 543 (40 + x2))) rfl hB (xw_obd (by decide +kernel)) rfl g1 rfl rfl ?_
      refine xw_iadd rfl ?_
      refine xw_iadd rfl ?_
      refine xw_cst (st' := [xi (w32 (x1 + (1 + (xR m 543 (40 + x2)))))]) (xw_sc (xi_c rfl) rfl) ?_
      refine xw_istore_n (L' := [(1, xi (w32 (x1 + (1 + (xR m 543 (40 + x2)))))), (0, xa 536), (2, xi x2)]) rfl (by decide) rfl ?_
      refine xw_iincc (z := (w32 (x2 + 1))) (L' := [(2, xi (w32 (x2 + 1))), (1, xi (w32 (x1 + (1 + (xR m 543 (40 + x2)))))), (0, xa 536)]) rfl rfl (by decide) rfl rfl ?_
      refine xw_goto rfl ?_
      refine xw_lo (L2 := [(0, xa 536), (1, xi (w32 (x1 + (1 + (xR m 543 (40 + x2)))))), (2, xi (w32 (x2 + 1)))]) (List.forall_mem_cons.mpr ⟨rfl, List.forall_mem_cons.mpr ⟨rfl, List.forall_mem_cons.mpr ⟨rfl, fun _ h => absurd h List.not_mem_nil⟩⟩⟩) ?_
      exact q
    exact hr77 _ _ _ (w32_w _) (w32_w _)
  · refine xS_of (pc' := 106) (L' := [(0, xa 536), (1, xi x1), (2, xi x2)]) (st' := [xi x1]) (m' := m) (fun ex ns r q => ?_) ?_
    · refine xw_ic_geT rfl (w32_cg c2) (w32_cg (w32_xR _ _ _)) (Int.not_lt.mp h0) ?_
      refine xw_iload_n rfl rfl ?_
      exact q
    exact xS_ret (v := x1) rfl rfl xw_rtI c1
theorem ygl304_77 {B : Nat} (hB : B ≤ 512) {xs : Nat → Int32} {SL d : Nat} : ∀ n x1 x2 m, w32 x1 = x1 → w32 x2 = x2 → xS B xs SL (d + 0) 304 (4, (some .int), [], 13) 1 77 [(0, xa 536), (1, xi x1), (2, xi x2)] [] m (xl2 (yl304_77 B) n x1 x2 m) := by
  intro n
  induction n with
  | zero => intro x1 x2 m c1 c2; exact xS_none
  | succ n ih => exact ysl304_77 hB ih
theorem ysl304_5 {B : Nat} (hB : B ≤ 512) {xs : Nat → Int32} {SL d : Nat} {r5 : Int → Int → xw_M → xP} (hr5 : ∀ x1 x2 m, w32 x1 = x1 → w32 x2 = x2 → xS B xs SL (d + 0) 304 (4, (some .int), [], 13) 1 5 [(0, xa 536), (1, xi x1), (2, xi x2)] [] m (r5 x1 x2 m)) : ∀ x1 x2 m, w32 x1 = x1 → w32 x2 = x2 → xS B xs SL (d + 0) 304 (4, (some .int), [], 13) 1 5 [(0, xa 536), (1, xi x1), (2, xi x2)] [] m (yl304_5 B r5 x1 x2 m) := by
  intro x1 x2 m c1 c2
  unfold yl304_5
  refine xS_of (pc' := 10) (L' := [(0, xa 536), (1, xi x1), (2, xi x2)]) (st' := [xi (xR m 536 14), xi x2]) (m' := m) (fun ex ns r q => ?_) ?_
  · refine xw_iload_n rfl rfl ?_
    refine xw_aload_n rfl rfl rfl ?_
    refine xw_gfIc (v := (m 536 14)) (v' := (xR m 536 14)) rfl (xw_obd (by decide +kernel)) xk12_14 (qi := 14) rfl rfl rfl ?_
    exact q
  refine xS_if (fun h0 => ?_) (fun h0 => ?_)
  · refine xS_g (fun g1 => ?_)
    refine xS_of (pc' := 26) (L' := [(0, xa 536), (1, xi (w32 (x1 + (4 + (xR m 543 x2))))), (2, xi x2), (3, xi 0)]) (st' := []) (m' := m) (fun ex ns r q => ?_) ?_
    · refine xw_ic_geF rfl (w32_cg c2) (w32_cg (w32_xR _ _ _)) (Int.not_le.mpr h0) ?_
      refine xw_iload_n rfl rfl ?_
      refine xw_iconst rfl ?_
      refine xw_aload_n rfl rfl rfl ?_
      refine xw_gfR (n := 543) (e := 543) rfl (xw_obd (by decide +kernel)) (by decide +kernel) (by decide +kernel) rfl ?_
      refine xw_iload_n rfl rfl ?_
      refine xw_ialdc (n := 48) (v := (m 543 x2)) (v' := (xR m 543 x2)) rfl hB (xw_obd (by decide +kernel)) rfl g1 rfl rfl ?_
      refine xw_iadd rfl ?_
      refine xw_iadd rfl ?_
      refine xw_cst (st' := [xi (w32 (x1 + (4 + (xR m 543 x2))))]) (xw_sc (xi_c rfl) rfl) ?_
      refine xw_istore_n (L' := [(1, xi (w32 (x1 + (4 + (xR m 543 x2))))), (0, xa 536), (2, xi x2)]) rfl (by decide) rfl ?_
      refine xw_iconst rfl ?_
      refine xw_istore_n (L' := [(3, xi 0), (1, xi (w32 (x1 + (4 + (xR m 543 x2))))), (0, xa 536), (2, xi x2)]) rfl (by decide) rfl ?_
      refine xw_lo (L2 := [(0, xa 536), (1, xi (w32 (x1 + (4 + (xR m 543 x2))))), (2, xi x2), (3, xi 0)]) (List.forall_mem_cons.mpr ⟨rfl, List.forall_mem_cons.mpr ⟨rfl, List.forall_mem_cons.mpr ⟨rfl, List.forall_mem_cons.mpr ⟨rfl, fun _ h => absurd h List.not_mem_nil⟩⟩⟩⟩) ?_
      exact q
    exact ygl304_26 hB hr5 1000000 _ _ _ _ (w32_w _) c2 rfl
  · refine xS_of (pc' := 77) (L' := [(0, xa 536), (1, xi x1), (2, xi 0)]) (st' := []) (m' := m) (fun ex ns r q => ?_) ?_
    · refine xw_ic_geT rfl (w32_cg c2) (w32_cg (w32_xR _ _ _)) (Int.not_lt.mp h0) ?_
      refine xw_iconst rfl ?_
      refine xw_istore_n (L' := [(2, xi 0), (0, xa 536), (1, xi x1)]) rfl (by decide) rfl ?_
      refine xw_lo (L2 := [(0, xa 536), (1, xi x1), (2, xi 0)]) (List.forall_mem_cons.mpr ⟨rfl, List.forall_mem_cons.mpr ⟨rfl, List.forall_mem_cons.mpr ⟨rfl, fun _ h => absurd h List.not_mem_nil⟩⟩⟩) ?_
      exact q
    exact ygl304_77 hB 1000000 _ _ _ c1 rfl
theorem ygl304_5 {B : Nat} (hB : B ≤ 512) {xs : Nat → Int32} {SL d : Nat} : ∀ n x1 x2 m, w32 x1 = x1 → w32 x2 = x2 → xS B xs SL (d + 0) 304 (4, (some .int), [], 13) 1 5 [(0, xa 536), (1, xi x1), (2, xi x2)] [] m (xl2 (yl304_5 B) n x1 x2 m) := by
  intro n
  induction n with
  | zero => intro x1 x2 m c1 c2; exact xS_none
  | succ n ih => exact ysl304_5 hB ih
theorem ygf304 {B : Nat} (hB : B ≤ 512) {xs : Nat → Int32} {SL d : Nat} : ∀ m, xS B xs SL (d + 0) 304 (4, (some .int), [], 13) 1 0 [(0, xa 536)] [] m (yf304 B m) := by
  intro m
  unfold yf304
  refine xS_of (pc' := 5) (L' := [(0, xa 536), (1, xi 8), (2, xi 0)]) (st' := []) (m' := m) (fun ex ns r q => ?_) ?_
  · refine xw_bipush (e := 8) rfl (by decide +kernel) ?_
    refine xw_istore_n (L' := [(1, xi 8), (0, xa 536)]) rfl (by decide) rfl ?_
    refine xw_iconst rfl ?_
    refine xw_istore_n (L' := [(2, xi 0), (1, xi 8), (0, xa 536)]) rfl (by decide) rfl ?_
    refine xw_lo (L2 := [(0, xa 536), (1, xi 8), (2, xi 0)]) (List.forall_mem_cons.mpr ⟨rfl, List.forall_mem_cons.mpr ⟨rfl, List.forall_mem_cons.mpr ⟨rfl, fun _ h => absurd h List.not_mem_nil⟩⟩⟩) ?_
    exact q
  exact ygl304_5 hB 1000000 _ _ _ rfl rfl
theorem ygk306_9 {B : Nat} (hB : B ≤ 512) {xs : Nat → Int32} {SL d : Nat} : ∀ x0 x2 m, w32 x0 = x0 → w32 x2 = x2 → xS B xs SL (d + 0) 306 (3, (some .boolean), [], 0) 4 9 [(0, xi x0), (2, xi x2)] [] m (yk306_9 B x0 x2 m) := by
  intro x0 x2 m c0 c2
  unfold yk306_9
  refine xS_of (pc' := 11) (L' := [(0, xi x0), (2, xi x2)]) (st' := [xi 2, xi x0]) (m' := m) (fun ex ns r q => ?_) ?_
  · refine xw_iload_n rfl rfl ?_
    refine xw_iconst rfl ?_
    exact q
  refine xS_if (fun h0 => ?_) (fun h0 => ?_)
  · refine xS_of (pc' := 15) (L' := [(0, xi x0), (2, xi x2)]) (st' := [xi x2]) (m' := m) (fun ex ns r q => ?_) ?_
    · refine xw_ic_neF rfl (w32_cg c0) (w32_cg rfl) h0 ?_
      refine xw_iload_n rfl rfl ?_
      exact q
    refine xS_if (fun h1 => ?_) (fun h1 => ?_)
    · refine xS_of (pc' := 23) (L' := [(0, xi x0), (2, xi x2)]) (st' := [xi 0]) (m' := m) (fun ex ns r q => ?_) ?_
      · refine xw_if_eqT rfl (w32_cg c2) h1 ?_
        refine xw_iconst rfl ?_
        exact q
      exact xS_ret (v := 0) rfl rfl (xw_rtZ (Or.inl rfl)) (Or.inl rfl)
    · refine xS_of (pc' := 23) (L' := [(0, xi x0), (2, xi x2)]) (st' := [xi 1]) (m' := m) (fun ex ns r q => ?_) ?_
      · refine xw_if_eqF rfl (w32_cg c2) h1 ?_
        refine xw_iconst rfl ?_
        refine xw_goto rfl ?_
        exact q
      exact xS_ret (v := 1) rfl rfl (xw_rtZ (Or.inr rfl)) (Or.inr rfl)
  · refine xS_of (pc' := 23) (L' := [(0, xi x0), (2, xi x2)]) (st' := [xi 0]) (m' := m) (fun ex ns r q => ?_) ?_
    · refine xw_ic_neT rfl (w32_cg c0) (w32_cg rfl) h0 ?_
      refine xw_iconst rfl ?_
      exact q
    exact xS_ret (v := 0) rfl rfl (xw_rtZ (Or.inl rfl)) (Or.inl rfl)
theorem ygf306 {B : Nat} (hB : B ≤ 512) {xs : Nat → Int32} {SL d : Nat} : ∀ p0 p1 p2 m, w32 p0 = p0 → w32 p1 = p1 → w32 p2 = p2 → xS B xs SL (d + 0) 306 (3, (some .boolean), [], 0) 4 0 [(0, xi p0), (1, xi p1), (2, xi p2)] [] m (yf306 B p0 p1 p2 m) := by
  intro p0 p1 p2 m cp0 cp1 cp2
  unfold yf306
  refine xS_of (pc' := 2) (L' := [(0, xi p0), (1, xi p1), (2, xi p2)]) (st' := [xi 1, xi p0]) (m' := m) (fun ex ns r q => ?_) ?_
  · refine xw_iload_n rfl rfl ?_
    refine xw_iconst rfl ?_
    exact q
  refine xS_if (fun h0 => ?_) (fun h0 => ?_)
  · refine xS_of (pc' := 6) (L' := [(0, xi p0), (1, xi p1), (2, xi p2)]) (st' := [xi p1]) (m' := m) (fun ex ns r q => ?_) ?_
    · refine xw_ic_neF rfl (w32_cg cp0) (w32_cg rfl) h0 ?_
      refine xw_iload_n rfl rfl ?_
      exact q
    refine xS_if (fun h1 => ?_) (fun h1 => ?_)
    · refine xS_of (pc' := 9) (L' := [(0, xi p0), (2, xi p2)]) (st' := []) (m' := m) (fun ex ns r q => ?_) ?_
      · refine xw_if_neF rfl (w32_cg cp1) h1 ?_
        refine xw_lo (L2 := [(0, xi p0), (2, xi p2)]) (List.forall_mem_cons.mpr ⟨rfl, List.forall_mem_cons.mpr ⟨rfl, fun _ h => absurd h List.not_mem_nil⟩⟩) ?_
        exact q
      exact ygk306_9 hB _ _ _ cp0 cp2
    · refine xS_of (pc' := 23) (L' := [(0, xi p0), (1, xi p1), (2, xi p2)]) (st' := [xi 1]) (m' := m) (fun ex ns r q => ?_) ?_
      · refine xw_if_neT rfl (w32_cg cp1) h1 ?_
        refine xw_iconst rfl ?_
        refine xw_goto rfl ?_
        exact q
      exact xS_ret (v := 1) rfl rfl (xw_rtZ (Or.inr rfl)) (Or.inr rfl)
  · refine xS_of (pc' := 9) (L' := [(0, xi p0), (2, xi p2)]) (st' := []) (m' := m) (fun ex ns r q => ?_) ?_
    · refine xw_ic_neT rfl (w32_cg cp0) (w32_cg rfl) h0 ?_
      refine xw_lo (L2 := [(0, xi p0), (2, xi p2)]) (List.forall_mem_cons.mpr ⟨rfl, List.forall_mem_cons.mpr ⟨rfl, fun _ h => absurd h List.not_mem_nil⟩⟩) ?_
      exact q
    exact ygk306_9 hB _ _ _ cp0 cp2
theorem ysl308_43 {B : Nat} (hB : B ≤ 512) {xs : Nat → Int32} {SL d : Nat} {r33 : Int → xw_M → xP} (hr33 : ∀ x1 m, w32 x1 = x1 → xS B xs SL (d + 0) 308 (3, none, [], 13) 0 33 [(0, xa 536), (1, xi x1)] [] m (r33 x1 m)) {r43 : Int → Int → xw_M → xP} (hr43 : ∀ x1 x2 m, w32 x1 = x1 → w32 x2 = x2 → xS B xs SL (d + 0) 308 (3, none, [], 13) 0 43 [(0, xa 536), (1, xi x1), (2, xi x2)] [] m (r43 x1 x2 m)) : ∀ x1 x2 m, w32 x1 = x1 → w32 x2 = x2 → xS B xs SL (d + 0) 308 (3, none, [], 13) 0 43 [(0, xa 536), (1, xi x1), (2, xi x2)] [] m (yl308_43 B r33 r43 x1 x2 m) := by
  intro x1 x2 m c1 c2
  unfold yl308_43
  refine xS_g (fun g0 => ?_)
  refine xS_of (pc' := 50) (L' := [(0, xa 536), (1, xi x1), (2, xi x2)]) (st' := [xi (xR m 588 x1), xi x2]) (m' := m) (fun ex ns r q => ?_) ?_
  · refine xw_iload_n rfl rfl ?_
    refine xw_aload_n rfl rfl rfl ?_
    refine xw_gfR (n := 588) (e := 588) rfl (xw_obd (by decide +kernel)) (by decide +kernel) (by decide +kernel) rfl ?_
    refine xw_iload_n rfl rfl ?_
    refine xw_ialdc (n := 200) (v := (m 588 x1)) (v' := (xR m 588 x1)) rfl hB (xw_obd (by decide +kernel)) rfl g0 rfl rfl ?_
    exact q
  refine xS_if (fun h1 => ?_) (fun h1 => ?_)
  · refine xS_g (fun g2 => ?_)
    refine xS_of (pc' := 43) (L' := [(0, xa 536), (1, xi x1), (2, xi (w32 (x2 + 1)))]) (st' := []) (m' := (xw_u m 589 ((xR m 587 x1) + x2) 1)) (fun ex ns r q => ?_) ?_
    · refine xw_ic_geF rfl (w32_cg c2) (w32_cg (w32_xR _ _ _)) (Int.not_le.mpr h1) ?_
      refine xw_aload_n rfl rfl rfl ?_
      refine xw_gfR (n := 589) (e := 589) rfl (xw_obd (by decide +kernel)) (by decide +kernel) (by decide +kernel) rfl ?_
      refine xw_aload_n rfl rfl rfl ?_
      refine xw_gfR (n := 587) (e := 587) rfl (xw_obd (by decide +kernel)) (by decide +kernel) (by decide +kernel) rfl ?_
      refine xw_iload_n rfl rfl ?_
      refine xw_ialdc (n := 200) (v := (m 587 x1)) (v' := (xR m 587 x1)) rfl hB (xw_obd (by decide +kernel)) rfl g0 rfl rfl ?_
      refine xw_iload_n rfl rfl ?_
      refine xw_iadd rfl ?_
      refine xw_iconst rfl ?_
      refine xw_zast (n := 512) rfl hB (xw_obd (by decide +kernel)) rfl g2 (Or.inr rfl) ?_
      refine xw_iincc (z := (w32 (x2 + 1))) (L' := [(2, xi (w32 (x2 + 1))), (0, xa 536), (1, xi x1)]) rfl rfl (by decide) rfl rfl ?_
      refine xw_goto rfl ?_
      refine xw_lo (L2 := [(0, xa 536), (1, xi x1), (2, xi (w32 (x2 + 1)))]) (List.forall_mem_cons.mpr ⟨rfl, List.forall_mem_cons.mpr ⟨rfl, List.forall_mem_cons.mpr ⟨rfl, fun _ h => absurd h List.not_mem_nil⟩⟩⟩) ?_
      exact q
    exact hr43 _ _ _ c1 (w32_w _)
  · refine xS_of (pc' := 33) (L' := [(0, xa 536), (1, xi (w32 (x1 + 1)))]) (st' := []) (m' := m) (fun ex ns r q => ?_) ?_
    · refine xw_ic_geT rfl (w32_cg c2) (w32_cg (w32_xR _ _ _)) (Int.not_lt.mp h1) ?_
      refine xw_iincc (z := (w32 (x1 + 1))) (L' := [(1, xi (w32 (x1 + 1))), (0, xa 536), (2, xi x2)]) rfl rfl (by decide) rfl rfl ?_
      refine xw_goto rfl ?_
      refine xw_lo (L2 := [(0, xa 536), (1, xi (w32 (x1 + 1)))]) (List.forall_mem_cons.mpr ⟨rfl, List.forall_mem_cons.mpr ⟨rfl, fun _ h => absurd h List.not_mem_nil⟩⟩) ?_
      exact q
    exact hr33 _ _ (w32_w _)
theorem ygl308_43 {B : Nat} (hB : B ≤ 512) {xs : Nat → Int32} {SL d : Nat} {r33 : Int → xw_M → xP} (hr33 : ∀ x1 m, w32 x1 = x1 → xS B xs SL (d + 0) 308 (3, none, [], 13) 0 33 [(0, xa 536), (1, xi x1)] [] m (r33 x1 m)) : ∀ n x1 x2 m, w32 x1 = x1 → w32 x2 = x2 → xS B xs SL (d + 0) 308 (3, none, [], 13) 0 43 [(0, xa 536), (1, xi x1), (2, xi x2)] [] m (xl2 (yl308_43 B r33) n x1 x2 m) := by
  intro n
  induction n with
  | zero => intro x1 x2 m c1 c2; exact xS_none
  | succ n ih => exact ysl308_43 hB hr33 ih
theorem ysl308_33 {B : Nat} (hB : B ≤ 512) {xs : Nat → Int32} {SL d : Nat} {r33 : Int → xw_M → xP} (hr33 : ∀ x1 m, w32 x1 = x1 → xS B xs SL (d + 0) 308 (3, none, [], 13) 0 33 [(0, xa 536), (1, xi x1)] [] m (r33 x1 m)) : ∀ x1 m, w32 x1 = x1 → xS B xs SL (d + 0) 308 (3, none, [], 13) 0 33 [(0, xa 536), (1, xi x1)] [] m (yl308_33 B r33 x1 m) := by
  intro x1 m c1
  unfold yl308_33
  refine xS_of (pc' := 38) (L' := [(0, xa 536), (1, xi x1)]) (st' := [xi (xR m 536 52), xi x1]) (m' := m) (fun ex ns r q => ?_) ?_
  · refine xw_iload_n rfl rfl ?_
    refine xw_aload_n rfl rfl rfl ?_
    refine xw_gfIc (v := (m 536 52)) (v' := (xR m 536 52)) rfl (xw_obd (by decide +kernel)) xk12_52 (qi := 52) rfl rfl rfl ?_
    exact q
  refine xS_if (fun h0 => ?_) (fun h0 => ?_)
  · refine xS_of (pc' := 43) (L' := [(0, xa 536), (1, xi x1), (2, xi 0)]) (st' := []) (m' := m) (fun ex ns r q => ?_) ?_
    · refine xw_ic_geF rfl (w32_cg c1) (w32_cg (w32_xR _ _ _)) (Int.not_le.mpr h0) ?_
      refine xw_iconst rfl ?_
      refine xw_istore_n (L' := [(2, xi 0), (0, xa 536), (1, xi x1)]) rfl (by decide) rfl ?_
      refine xw_lo (L2 := [(0, xa 536), (1, xi x1), (2, xi 0)]) (List.forall_mem_cons.mpr ⟨rfl, List.forall_mem_cons.mpr ⟨rfl, List.forall_mem_cons.mpr ⟨rfl, fun _ h => absurd h List.not_mem_nil⟩⟩⟩) ?_
      exact q
    exact ygl308_43 hB hr33 1000000 _ _ _ c1 rfl
  · refine xS_of (pc' := 79) (L' := [(0, xa 536), (1, xi x1)]) (st' := []) (m' := m) (fun ex ns r q => ?_) ?_
    · refine xw_ic_geT rfl (w32_cg c1) (w32_cg (w32_xR _ _ _)) (Int.not_lt.mp h0) ?_
      exact q
    exact xS_ret (v := 0) rfl rfl rfl rfl
theorem ygl308_33 {B : Nat} (hB : B ≤ 512) {xs : Nat → Int32} {SL d : Nat} : ∀ n x1 m, w32 x1 = x1 → xS B xs SL (d + 0) 308 (3, none, [], 13) 0 33 [(0, xa 536), (1, xi x1)] [] m (xl1 (yl308_33 B) n x1 m) := by
  intro n
  induction n with
  | zero => intro x1 m c1; exact xS_none
  | succ n ih => exact ysl308_33 hB ih
theorem ysl308_2 {B : Nat} (hB : B ≤ 512) {xs : Nat → Int32} {SL d : Nat} {r2 : Int → xw_M → xP} (hr2 : ∀ x1 m, w32 x1 = x1 → xS B xs SL (d + 0) 308 (3, none, [], 13) 0 2 [(0, xa 536), (1, xi x1)] [] m (r2 x1 m)) : ∀ x1 m, w32 x1 = x1 → xS B xs SL (d + 0) 308 (3, none, [], 13) 0 2 [(0, xa 536), (1, xi x1)] [] m (yl308_2 B r2 x1 m) := by
  intro x1 m c1
  unfold yl308_2
  refine xS_of (pc' := 6) (L' := [(0, xa 536), (1, xi x1)]) (st' := [xi 512, xi x1]) (m' := m) (fun ex ns r q => ?_) ?_
  · refine xw_iload_n rfl rfl ?_
    refine xw_sipush (e := 512) rfl (by decide +kernel) ?_
    exact q
  refine xS_if (fun h0 => ?_) (fun h0 => ?_)
  · refine xS_of (pc' := 16) (L' := [(0, xa 536), (1, xi x1)]) (st' := [xi 2, xi x1, xi x1, xa 589]) (m' := m) (fun ex ns r q => ?_) ?_
    · refine xw_ic_geF rfl (w32_cg c1) (w32_cg rfl) (Int.not_le.mpr h0) ?_
      refine xw_aload_n rfl rfl rfl ?_
      refine xw_gfR (n := 589) (e := 589) rfl (xw_obd (by decide +kernel)) (by decide +kernel) (by decide +kernel) rfl ?_
      refine xw_iload_n rfl rfl ?_
      refine xw_iload_n rfl rfl ?_
      refine xw_iconst rfl ?_
      exact q
    refine xS_if (fun h1 => ?_) (fun h1 => ?_)
    · refine xS_g (fun g2 => ?_)
      refine xS_of (pc' := 2) (L' := [(0, xa 536), (1, xi (w32 (x1 + 1)))]) (st' := []) (m' := (xw_u m 589 x1 1)) (fun ex ns r q => ?_) ?_
      · refine xw_ic_geF rfl (w32_cg c1) (w32_cg rfl) (Int.not_le.mpr h1) ?_
        refine xw_iconst rfl ?_
        refine xw_goto rfl ?_
        refine xw_zast (n := 512) rfl hB (xw_obd (by decide +kernel)) rfl g2 (Or.inr rfl) ?_
        refine xw_iincc (z := (w32 (x1 + 1))) (L' := [(1, xi (w32 (x1 + 1))), (0, xa 536)]) rfl rfl (by decide) rfl rfl ?_
        refine xw_goto rfl ?_
        refine xw_lo (L2 := [(0, xa 536), (1, xi (w32 (x1 + 1)))]) (List.forall_mem_cons.mpr ⟨rfl, List.forall_mem_cons.mpr ⟨rfl, fun _ h => absurd h List.not_mem_nil⟩⟩) ?_
        exact q
      exact hr2 _ _ (w32_w _)
    · refine xS_g (fun g2 => ?_)
      refine xS_of (pc' := 2) (L' := [(0, xa 536), (1, xi (w32 (x1 + 1)))]) (st' := []) (m' := (xw_u m 589 x1 0)) (fun ex ns r q => ?_) ?_
      · refine xw_ic_geT rfl (w32_cg c1) (w32_cg rfl) (Int.not_lt.mp h1) ?_
        refine xw_iconst rfl ?_
        refine xw_zast (n := 512) rfl hB (xw_obd (by decide +kernel)) rfl g2 (Or.inl rfl) ?_
        refine xw_iincc (z := (w32 (x1 + 1))) (L' := [(1, xi (w32 (x1 + 1))), (0, xa 536)]) rfl rfl (by decide) rfl rfl ?_
        refine xw_goto rfl ?_
        refine xw_lo (L2 := [(0, xa 536), (1, xi (w32 (x1 + 1)))]) (List.forall_mem_cons.mpr ⟨rfl, List.forall_mem_cons.mpr ⟨rfl, fun _ h => absurd h List.not_mem_nil⟩⟩) ?_
        exact q
      exact hr2 _ _ (w32_w _)
  · refine xS_of (pc' := 33) (L' := [(0, xa 536), (1, xi 0)]) (st' := []) (m' := m) (fun ex ns r q => ?_) ?_
    · refine xw_ic_geT rfl (w32_cg c1) (w32_cg rfl) (Int.not_lt.mp h0) ?_
      refine xw_iconst rfl ?_
      refine xw_istore_n (L' := [(1, xi 0), (0, xa 536)]) rfl (by decide) rfl ?_
      refine xw_lo (L2 := [(0, xa 536), (1, xi 0)]) (List.forall_mem_cons.mpr ⟨rfl, List.forall_mem_cons.mpr ⟨rfl, fun _ h => absurd h List.not_mem_nil⟩⟩) ?_
      exact q
    exact ygl308_33 hB 1000000 _ _ rfl
theorem ygl308_2 {B : Nat} (hB : B ≤ 512) {xs : Nat → Int32} {SL d : Nat} : ∀ n x1 m, w32 x1 = x1 → xS B xs SL (d + 0) 308 (3, none, [], 13) 0 2 [(0, xa 536), (1, xi x1)] [] m (xl1 (yl308_2 B) n x1 m) := by
  intro n
  induction n with
  | zero => intro x1 m c1; exact xS_none
  | succ n ih => exact ysl308_2 hB ih
theorem ygf308 {B : Nat} (hB : B ≤ 512) {xs : Nat → Int32} {SL d : Nat} : ∀ m, xS B xs SL (d + 0) 308 (3, none, [], 13) 0 0 [(0, xa 536)] [] m (yf308 B m) := by
  intro m
  unfold yf308
  refine xS_of (pc' := 2) (L' := [(0, xa 536), (1, xi 0)]) (st' := []) (m' := m) (fun ex ns r q => ?_) ?_
  · refine xw_iconst rfl ?_
    refine xw_istore_n (L' := [(1, xi 0), (0, xa 536)]) rfl (by decide) rfl ?_
    refine xw_lo (L2 := [(0, xa 536), (1, xi 0)]) (List.forall_mem_cons.mpr ⟨rfl, List.forall_mem_cons.mpr ⟨rfl, fun _ h => absurd h List.not_mem_nil⟩⟩) ?_
    exact q
  exact ygl308_2 hB 1000000 _ _ rfl
theorem ygk307_55 {B : Nat} (hB : B ≤ 512) {xs : Nat → Int32} {SL d : Nat} {r6 : Int → Int → xw_M → xP} (hr6 : ∀ x1 x2 m, w32 x1 = x1 → w32 x2 = x2 → xS B xs SL (d + 1) 307 (5, (some .int), [], 13) 1 6 [(0, xa 536), (1, xi x1), (2, xi x2)] [] m (r6 x1 x2 m)) : ∀ x1 x2 x3 m, w32 x1 = x1 → w32 x2 = x2 → w32 x3 = x3 → xS B xs SL (d + 1) 307 (5, (some .int), [], 13) 1 55 [(0, xa 536), (1, xi x1), (2, xi x2), (3, xi x3)] [] m (yk307_55 B r6 x1 x2 x3 m) := by
  intro x1 x2 x3 m c1 c2 c3
  unfold yk307_55
  refine xS_of (pc' := 56) (L' := [(0, xa 536), (1, xi x1), (2, xi x2), (3, xi x3)]) (st' := [xi x3]) (m' := m) (fun ex ns r q => ?_) ?_
  · refine xw_iload_n rfl rfl ?_
    exact q
  refine xS_if (fun h0 => ?_) (fun h0 => ?_)
  · refine xS_of (pc' := 6) (L' := [(0, xa 536), (1, xi x1), (2, xi (w32 (x2 + 1)))]) (st' := []) (m' := m) (fun ex ns r q => ?_) ?_
    · refine xw_if_eqT rfl (w32_cg c3) h0 ?_
      refine xw_iincc (z := (w32 (x2 + 1))) (L' := [(2, xi (w32 (x2 + 1))), (0, xa 536), (1, xi x1), (3, xi x3)]) rfl rfl (by decide) rfl rfl ?_
      refine xw_goto rfl ?_
      refine xw_lo (L2 := [(0, xa 536), (1, xi x1), (2, xi (w32 (x2 + 1)))]) (List.forall_mem_cons.mpr ⟨rfl, List.forall_mem_cons.mpr ⟨rfl, List.forall_mem_cons.mpr ⟨rfl, fun _ h => absurd h List.not_mem_nil⟩⟩⟩) ?_
      exact q
    exact hr6 _ _ _ c1 (w32_w _)
  · refine xS_of (pc' := 60) (L' := [(0, xa 536), (1, xi x1), (2, xi x2), (3, xi x3)]) (st' := [xi x2]) (m' := m) (fun ex ns r q => ?_) ?_
    · refine xw_if_eqF rfl (w32_cg c3) h0 ?_
      refine xw_iload_n rfl rfl ?_
      exact q
    exact xS_ret (v := x2) rfl rfl xw_rtI c2
theorem ysl307_21 {B : Nat} (hB : B ≤ 512) {xs : Nat → Int32} {SL d : Nat} {r6 : Int → Int → xw_M → xP} (hr6 : ∀ x1 x2 m, w32 x1 = x1 → w32 x2 = x2 → xS B xs SL (d + 1) 307 (5, (some .int), [], 13) 1 6 [(0, xa 536), (1, xi x1), (2, xi x2)] [] m (r6 x1 x2 m)) {r21 : Int → Int → Int → Int → xw_M → xP} (hr21 : ∀ x1 x2 x3 x4 m, w32 x1 = x1 → w32 x2 = x2 → w32 x3 = x3 → w32 x4 = x4 → xS B xs SL (d + 1) 307 (5, (some .int), [], 13) 1 21 [(0, xa 536), (1, xi x1), (2, xi x2), (3, xi x3), (4, xi x4)] [] m (r21 x1 x2 x3 x4 m)) : ∀ x1 x2 x3 x4 m, w32 x1 = x1 → w32 x2 = x2 → w32 x3 = x3 → w32 x4 = x4 → xS B xs SL (d + 1) 307 (5, (some .int), [], 13) 1 21 [(0, xa 536), (1, xi x1), (2, xi x2), (3, xi x3), (4, xi x4)] [] m (yl307_21 B r6 r21 x1 x2 x3 x4 m) := by
  intro x1 x2 x3 x4 m c1 c2 c3 c4
  unfold yl307_21
  refine xS_of (pc' := 26) (L' := [(0, xa 536), (1, xi x1), (2, xi x2), (3, xi x3), (4, xi x4)]) (st' := [xi (w32 (x2 + x1)), xi x4]) (m' := m) (fun ex ns r q => ?_) ?_
  · refine xw_iload rfl rfl ?_
    refine xw_iload_n rfl rfl ?_
    refine xw_iload_n rfl rfl ?_
    refine xw_iadd rfl ?_
    refine xw_cst (st' := [xi (w32 (x2 + x1)), xi x4]) (xw_sc (xi_c rfl) (xw_sc rfl rfl)) ?_
    exact q
  refine xS_if (fun h0 => ?_) (fun h0 => ?_)
  · refine xS_of (pc' := 30) (L' := [(0, xa 536), (1, xi x1), (2, xi x2), (3, xi x3), (4, xi x4)]) (st' := [xi x3]) (m' := m) (fun ex ns r q => ?_) ?_
    · refine xw_ic_geF rfl (w32_cg c4) (w32_cg (w32_w _)) (Int.not_le.mpr h0) ?_
      refine xw_iload_n rfl rfl ?_
      exact q
    refine xS_if (fun h1 => ?_) (fun h1 => ?_)
    · refine xS_of (pc' := 55) (L' := [(0, xa 536), (1, xi x1), (2, xi x2), (3, xi x3)]) (st' := []) (m' := m) (fun ex ns r q => ?_) ?_
      · refine xw_if_eqT rfl (w32_cg c3) h1 ?_
        refine xw_lo (L2 := [(0, xa 536), (1, xi x1), (2, xi x2), (3, xi x3)]) (List.forall_mem_cons.mpr ⟨rfl, List.forall_mem_cons.mpr ⟨rfl, List.forall_mem_cons.mpr ⟨rfl, List.forall_mem_cons.mpr ⟨rfl, fun _ h => absurd h List.not_mem_nil⟩⟩⟩⟩) ?_
        exact q
      exact ygk307_55 hB hr6 _ _ _ _ c1 c2 c3
    · refine xS_g (fun g2 => ?_)
      refine xS_of (pc' := 40) (L' := [(0, xa 536), (1, xi x1), (2, xi x2), (3, xi x3), (4, xi x4)]) (st' := [xi (xR m 589 x4)]) (m' := m) (fun ex ns r q => ?_) ?_
      · refine xw_if_eqF rfl (w32_cg c3) h1 ?_
        refine xw_aload_n rfl rfl rfl ?_
        refine xw_gfR (n := 589) (e := 589) rfl (xw_obd (by decide +kernel)) (by decide +kernel) (by decide +kernel) rfl ?_
        refine xw_iload rfl rfl ?_
        refine xw_zaldc (n := 512) (v := (m 589 x4)) (v' := (xR m 589 x4)) rfl hB (xw_obd (by decide +kernel)) rfl g2 rfl rfl ?_
        exact q
      refine xS_if (fun h3 => ?_) (fun h3 => ?_)
      · refine xS_of (pc' := 21) (L' := [(0, xa 536), (1, xi x1), (2, xi x2), (3, xi 1), (4, xi (w32 (x4 + 1)))]) (st' := []) (m' := m) (fun ex ns r q => ?_) ?_
        · refine xw_if_neF rfl (w32_cg (w32_xR _ _ _)) h3 ?_
          refine xw_iconst rfl ?_
          refine xw_goto rfl ?_
          refine xw_istore_n (L' := [(3, xi 1), (0, xa 536), (1, xi x1), (2, xi x2), (4, xi x4)]) rfl (by decide) rfl ?_
          refine xw_iincc (z := (w32 (x4 + 1))) (L' := [(4, xi (w32 (x4 + 1))), (3, xi 1), (0, xa 536), (1, xi x1), (2, xi x2)]) rfl rfl (by decide) rfl rfl ?_
          refine xw_goto rfl ?_
          refine xw_lo (L2 := [(0, xa 536), (1, xi x1), (2, xi x2), (3, xi 1), (4, xi (w32 (x4 + 1)))]) (List.forall_mem_cons.mpr ⟨rfl, List.forall_mem_cons.mpr ⟨rfl, List.forall_mem_cons.mpr ⟨rfl, List.forall_mem_cons.mpr ⟨rfl, List.forall_mem_cons.mpr ⟨rfl, fun _ h => absurd h List.not_mem_nil⟩⟩⟩⟩⟩) ?_
          exact q
        exact hr21 _ _ _ _ _ c1 c2 rfl (w32_w _)
      · refine xS_of (pc' := 21) (L' := [(0, xa 536), (1, xi x1), (2, xi x2), (3, xi 0), (4, xi (w32 (x4 + 1)))]) (st' := []) (m' := m) (fun ex ns r q => ?_) ?_
        · refine xw_if_neT rfl (w32_cg (w32_xR _ _ _)) h3 ?_
          refine xw_iconst rfl ?_
          refine xw_istore_n (L' := [(3, xi 0), (0, xa 536), (1, xi x1), (2, xi x2), (4, xi x4)]) rfl (by decide) rfl ?_
          refine xw_iincc (z := (w32 (x4 + 1))) (L' := [(4, xi (w32 (x4 + 1))), (3, xi 0), (0, xa 536), (1, xi x1), (2, xi x2)]) rfl rfl (by decide) rfl rfl ?_
          refine xw_goto rfl ?_
          refine xw_lo (L2 := [(0, xa 536), (1, xi x1), (2, xi x2), (3, xi 0), (4, xi (w32 (x4 + 1)))]) (List.forall_mem_cons.mpr ⟨rfl, List.forall_mem_cons.mpr ⟨rfl, List.forall_mem_cons.mpr ⟨rfl, List.forall_mem_cons.mpr ⟨rfl, List.forall_mem_cons.mpr ⟨rfl, fun _ h => absurd h List.not_mem_nil⟩⟩⟩⟩⟩) ?_
          exact q
        exact hr21 _ _ _ _ _ c1 c2 rfl (w32_w _)
  · refine xS_of (pc' := 55) (L' := [(0, xa 536), (1, xi x1), (2, xi x2), (3, xi x3)]) (st' := []) (m' := m) (fun ex ns r q => ?_) ?_
    · refine xw_ic_geT rfl (w32_cg c4) (w32_cg (w32_w _)) (Int.not_lt.mp h0) ?_
      refine xw_lo (L2 := [(0, xa 536), (1, xi x1), (2, xi x2), (3, xi x3)]) (List.forall_mem_cons.mpr ⟨rfl, List.forall_mem_cons.mpr ⟨rfl, List.forall_mem_cons.mpr ⟨rfl, List.forall_mem_cons.mpr ⟨rfl, fun _ h => absurd h List.not_mem_nil⟩⟩⟩⟩) ?_
      exact q
    exact ygk307_55 hB hr6 _ _ _ _ c1 c2 c3
theorem ygl307_21 {B : Nat} (hB : B ≤ 512) {xs : Nat → Int32} {SL d : Nat} {r6 : Int → Int → xw_M → xP} (hr6 : ∀ x1 x2 m, w32 x1 = x1 → w32 x2 = x2 → xS B xs SL (d + 1) 307 (5, (some .int), [], 13) 1 6 [(0, xa 536), (1, xi x1), (2, xi x2)] [] m (r6 x1 x2 m)) : ∀ n x1 x2 x3 x4 m, w32 x1 = x1 → w32 x2 = x2 → w32 x3 = x3 → w32 x4 = x4 → xS B xs SL (d + 1) 307 (5, (some .int), [], 13) 1 21 [(0, xa 536), (1, xi x1), (2, xi x2), (3, xi x3), (4, xi x4)] [] m (xl4 (yl307_21 B r6) n x1 x2 x3 x4 m) := by
  intro n
  induction n with
  | zero => intro x1 x2 x3 x4 m c1 c2 c3 c4; exact xS_none
  | succ n ih => exact ysl307_21 hB hr6 ih
theorem ysl307_6 {B : Nat} (hB : B ≤ 512) {xs : Nat → Int32} {SL d : Nat} {r6 : Int → Int → xw_M → xP} (hr6 : ∀ x1 x2 m, w32 x1 = x1 → w32 x2 = x2 → xS B xs SL (d + 1) 307 (5, (some .int), [], 13) 1 6 [(0, xa 536), (1, xi x1), (2, xi x2)] [] m (r6 x1 x2 m)) : ∀ x1 x2 m, w32 x1 = x1 → w32 x2 = x2 → xS B xs SL (d + 1) 307 (5, (some .int), [], 13) 1 6 [(0, xa 536), (1, xi x1), (2, xi x2)] [] m (yl307_6 B r6 x1 x2 m) := by
  intro x1 x2 m c1 c2
  unfold yl307_6
  refine xS_of (pc' := 13) (L' := [(0, xa 536), (1, xi x1), (2, xi x2)]) (st' := [xi (xR m 536 49), xi (w32 (x2 + x1))]) (m' := m) (fun ex ns r q => ?_) ?_
  · refine xw_iload_n rfl rfl ?_
    refine xw_iload_n rfl rfl ?_
    refine xw_iadd rfl ?_
    refine xw_aload_n rfl rfl rfl ?_
    refine xw_gfIc (v := (m 536 49)) (v' := (xR m 536 49)) rfl (xw_obd (by decide +kernel)) xk12_49 (qi := 49) rfl rfl rfl ?_
    refine xw_cst (st' := [xi (xR m 536 49), xi (w32 (x2 + x1))]) (xw_sc rfl (xw_sc (xi_c rfl) rfl)) ?_
    exact q
  refine xS_if (fun h0 => ?_) (fun h0 => ?_)
  · refine xS_of (pc' := 68) (L' := [(0, xa 536), (1, xi x1), (2, xi x2)]) (st' := [xi (-1)]) (m' := m) (fun ex ns r q => ?_) ?_
    · refine xw_ic_gtT rfl (w32_cg (w32_w _)) (w32_cg (w32_xR _ _ _)) h0 ?_
      refine xw_iconst rfl ?_
      exact q
    exact xS_ret (v := (-1)) rfl rfl xw_rtI rfl
  · refine xS_of (pc' := 21) (L' := [(0, xa 536), (1, xi x1), (2, xi x2), (3, xi 1), (4, xi x2)]) (st' := []) (m' := m) (fun ex ns r q => ?_) ?_
    · refine xw_ic_gtF rfl (w32_cg (w32_w _)) (w32_cg (w32_xR _ _ _)) h0 ?_
      refine xw_iconst rfl ?_
      refine xw_istore_n (L' := [(3, xi 1), (0, xa 536), (1, xi x1), (2, xi x2)]) rfl (by decide) rfl ?_
      refine xw_iload_n rfl rfl ?_
      refine xw_istore (L' := [(4, xi x2), (3, xi 1), (0, xa 536), (1, xi x1), (2, xi x2)]) rfl (by decide) rfl ?_
      refine xw_lo (L2 := [(0, xa 536), (1, xi x1), (2, xi x2), (3, xi 1), (4, xi x2)]) (List.forall_mem_cons.mpr ⟨rfl, List.forall_mem_cons.mpr ⟨rfl, List.forall_mem_cons.mpr ⟨rfl, List.forall_mem_cons.mpr ⟨rfl, List.forall_mem_cons.mpr ⟨rfl, fun _ h => absurd h List.not_mem_nil⟩⟩⟩⟩⟩) ?_
      exact q
    exact ygl307_21 hB hr6 1000000 _ _ _ _ _ c1 c2 rfl c2
theorem ygl307_6 {B : Nat} (hB : B ≤ 512) {xs : Nat → Int32} {SL d : Nat} : ∀ n x1 x2 m, w32 x1 = x1 → w32 x2 = x2 → xS B xs SL (d + 1) 307 (5, (some .int), [], 13) 1 6 [(0, xa 536), (1, xi x1), (2, xi x2)] [] m (xl2 (yl307_6 B) n x1 x2 m) := by
  intro n
  induction n with
  | zero => intro x1 x2 m c1 c2; exact xS_none
  | succ n ih => exact ysl307_6 hB ih
theorem ygf307 {B : Nat} (hB : B ≤ 512) {xs : Nat → Int32} {SL d : Nat} : ∀ p0 m, w32 p0 = p0 → xS B xs SL (d + 1) 307 (5, (some .int), [], 13) 1 0 [(0, xa 536), (1, xi p0)] [] m (yf307 B p0 m) := by
  intro p0 m cp0
  unfold yf307
  refine xS_of (pc' := 1) (L' := [(0, xa 536), (1, xi p0)]) (st' := [xa 536]) (m' := m) (fun ex ns r q => ?_) ?_
  · refine xw_aload_n rfl rfl rfl ?_
    refine xw_lo (L2 := [(0, xa 536), (1, xi p0)]) (List.forall_mem_cons.mpr ⟨rfl, List.forall_mem_cons.mpr ⟨rfl, fun _ h => absurd h List.not_mem_nil⟩⟩) ?_
    exact q
  refine xS_call (q := 308) (n := 1) (kq := 0) (as := [xa 536]) (st1 := []) rfl rfl rfl rfl rfl rfl rfl rfl rfl rfl (fun _ => xw_rcv1 (t := 12) (xw_obd (by decide +kernel)) rfl) rfl (List.forall_mem_cons.mpr ⟨rfl, fun _ h => absurd h List.not_mem_nil⟩) (ygf308 hB _) (fun v1 m1 cv1 => ?_)
  refine xS_of (pc' := 6) (L' := [(0, xa 536), (1, xi p0), (2, xi 2)]) (st' := []) (m' := m1) (fun ex ns r q => ?_) ?_
  · refine xw_iconst rfl ?_
    refine xw_istore_n (L' := [(2, xi 2), (0, xa 536), (1, xi p0)]) rfl (by decide) rfl ?_
    refine xw_lo (L2 := [(0, xa 536), (1, xi p0), (2, xi 2)]) (List.forall_mem_cons.mpr ⟨rfl, List.forall_mem_cons.mpr ⟨rfl, List.forall_mem_cons.mpr ⟨rfl, fun _ h => absurd h List.not_mem_nil⟩⟩⟩) ?_
    exact q
  exact ygl307_6 hB 1000000 _ _ _ cp0 rfl
theorem ygk305_337 {B : Nat} (hB : B ≤ 512) {xs : Nat → Int32} {SL d : Nat} : ∀ x5 x8 m, w32 x5 = x5 → w32 x8 = x8 → xS B xs SL (d + 2) 305 (12, (some .int), [], 13) 1 337 [(0, xa 536), (5, xi x5), (8, xi x8)] [] m (yk305_337 B x5 x8 m) := by
  intro x5 x8 m c5 c8
  unfold yk305_337
  refine xS_g (fun g0 => ?_)
  refine xS_of (pc' := 345) (L' := [(0, xa 536), (5, xi x5), (8, xi x8)]) (st' := [xi x8]) (m' := (xw_u m 536 3 x8)) (fun ex ns r q => ?_) ?_
  · refine xw_aload_n rfl rfl rfl ?_
    refine xw_iload rfl rfl ?_
    refine xw_pfI rfl (xw_obd (by decide +kernel)) xk12_3 (qi := 3) rfl (xw_okZ rfl g0) ?_
    refine xw_iload rfl rfl ?_
    exact q
  refine xS_if (fun h1 => ?_) (fun h1 => ?_)
  · refine xS_of (pc' := 357) (L' := [(0, xa 536), (5, xi x5), (8, xi x8)]) (st' := [xi (w32 (x5 + 1))]) (m' := (xw_u m 536 3 x8)) (fun ex ns r q => ?_) ?_
    · refine xw_if_eqT rfl (w32_cg c8) h1 ?_
      refine xw_iload rfl rfl ?_
      refine xw_iconst rfl ?_
      refine xw_iadd rfl ?_
      refine xw_cst (st' := [xi (w32 (x5 + 1))]) (xw_sc (xi_c rfl) rfl) ?_
      exact q
    exact xS_ret (v := (w32 (x5 + 1))) rfl rfl xw_rtI (w32_w _)
  · refine xS_of (pc' := 357) (L' := [(0, xa 536), (5, xi x5), (8, xi x8)]) (st' := [xi (-3)]) (m' := (xw_u m 536 3 x8)) (fun ex ns r q => ?_) ?_
    · refine xw_if_eqF rfl (w32_cg c8) h1 ?_
      refine xw_bipush (e := (-3)) rfl (by decide +kernel) ?_
      refine xw_goto rfl ?_
      exact q
    exact xS_ret (v := (-3)) rfl rfl xw_rtI rfl
theorem ysl305_208 {B : Nat} (hB : B ≤ 512) {xs : Nat → Int32} {SL d : Nat} {r208 : Int → Int → Int → Int → Int → Int → Int → Int → xw_M → xP} (hr208 : ∀ x2 x3 x4 x5 x7 x8 x10 x11 m, w32 x2 = x2 → w32 x3 = x3 → w32 x4 = x4 → w32 x5 = x5 → w32 x7 = x7 → w32 x8 = x8 → w32 x10 = x10 → w32 x11 = x11 → xS B xs SL (d + 2) 305 (12, (some .int), [], 13) 1 208 [(0, xa 536), (2, xi x2), (3, xi x3), (4, xi x4), (5, xi x5), (7, xi x7), (8, xi x8), (10, xi x10), (11, xi x11)] [] m (r208 x2 x3 x4 x5 x7 x8 x10 x11 m)) : ∀ x2 x3 x4 x5 x7 x8 x10 x11 m, w32 x2 = x2 → w32 x3 = x3 → w32 x4 = x4 → w32 x5 = x5 → w32 x7 = x7 → w32 x8 = x8 → w32 x10 = x10 → w32 x11 = x11 → xS B xs SL (d + 2) 305 (12, (some .int), [], 13) 1 208 [(0, xa 536), (2, xi x2), (3, xi x3), (4, xi x4), (5, xi x5), (7, xi x7), (8, xi x8), (10, xi x10), (11, xi x11)] [] m (yl305_208 B r208 x2 x3 x4 x5 x7 x8 x10 x11 m) := by
  intro x2 x3 x4 x5 x7 x8 x10 x11 m c2 c3 c4 c5 c7 c8 c10 c11
  unfold yl305_208
  refine xS_of (pc' := 214) (L' := [(0, xa 536), (2, xi x2), (3, xi x3), (4, xi x4), (5, xi x5), (7, xi x7), (8, xi x8), (10, xi x10), (11, xi x11)]) (st' := [xi (xR m 536 52), xi x11]) (m' := m) (fun ex ns r q => ?_) ?_
  · refine xw_iload rfl rfl ?_
    refine xw_aload_n rfl rfl rfl ?_
    refine xw_gfIc (v := (m 536 52)) (v' := (xR m 536 52)) rfl (xw_obd (by decide +kernel)) xk12_52 (qi := 52) rfl rfl rfl ?_
    exact q
  refine xS_if (fun h0 => ?_) (fun h0 => ?_)
  · refine xS_g (fun g1 => ?_)
    refine xS_of (pc' := 227) (L' := [(0, xa 536), (2, xi x2), (3, xi x3), (4, xi x4), (5, xi x5), (7, xi x7), (8, xi x8), (10, xi x10), (11, xi x11)]) (st' := [xi x4, xi x3, xi (xR m 586 x11)]) (m' := m) (fun ex ns r q => ?_) ?_
    · refine xw_ic_geF rfl (w32_cg c11) (w32_cg (w32_xR _ _ _)) (Int.not_le.mpr h0) ?_
      refine xw_aload_n rfl rfl rfl ?_
      refine xw_gfR (n := 586) (e := 586) rfl (xw_obd (by decide +kernel)) (by decide +kernel) (by decide +kernel) rfl ?_
      refine xw_iload rfl rfl ?_
      refine xw_ialdc (n := 200) (v := (m 586 x11)) (v' := (xR m 586 x11)) rfl hB (xw_obd (by decide +kernel)) rfl g1 rfl rfl ?_
      refine xw_iload_n rfl rfl ?_
      refine xw_iload rfl rfl ?_
      refine xw_lo (L2 := [(0, xa 536), (2, xi x2), (3, xi x3), (4, xi x4), (5, xi x5), (7, xi x7), (8, xi x8), (10, xi x10), (11, xi x11)]) (List.forall_mem_cons.mpr ⟨rfl, List.forall_mem_cons.mpr ⟨rfl, List.forall_mem_cons.mpr ⟨rfl, List.forall_mem_cons.mpr ⟨rfl, List.forall_mem_cons.mpr ⟨rfl, List.forall_mem_cons.mpr ⟨rfl, List.forall_mem_cons.mpr ⟨rfl, List.forall_mem_cons.mpr ⟨rfl, List.forall_mem_cons.mpr ⟨rfl, fun _ h => absurd h List.not_mem_nil⟩⟩⟩⟩⟩⟩⟩⟩⟩) ?_
      exact q
    refine xS_call (q := 306) (n := 3) (kq := 4) (as := [xi (xR m 586 x11), xi x3, xi x4]) (st1 := []) rfl rfl rfl rfl rfl rfl rfl rfl rfl rfl (fun _ => xw_rcv0 rfl) rfl (List.forall_mem_cons.mpr ⟨rfl, List.forall_mem_cons.mpr ⟨rfl, List.forall_mem_cons.mpr ⟨rfl, fun _ h => absurd h List.not_mem_nil⟩⟩⟩) (ygf306 hB _ _ _ _ (w32_xR _ _ _) c3 c4) (fun v1 m1 cv1 => ?_)
    refine xS_if (fun h2 => ?_) (fun h2 => ?_)
    · refine xS_g (fun g3 => ?_)
      refine xS_of (pc' := 208) (L' := [(0, xa 536), (2, xi x2), (3, xi x3), (4, xi x4), (5, xi x5), (7, xi x7), (8, xi x8), (10, xi (w32 (x10 + 1))), (11, xi (w32 (x11 + 1)))]) (st' := []) (m' := (xw_u (xw_u (xw_u m1 586 x10 (xR m1 586 x11)) 587 x10 (xR m1 587 x11)) 588 x10 (xR m1 588 x11))) (fun ex ns r q => ?_) ?_
      · refine xw_if_neF rfl (w32_cg (w32_of (xw_zr cv1))) h2 ?_
        refine xw_aload_n rfl rfl rfl ?_
        refine xw_gfR (n := 586) (e := 586) rfl (xw_obd (by decide +kernel)) (by decide +kernel) (by decide +kernel) rfl ?_
        refine xw_iload rfl rfl ?_
        refine xw_aload_n rfl rfl rfl ?_
        refine xw_gfR (n := 586) (e := 586) rfl (xw_obd (by decide +kernel)) (by decide +kernel) (by decide +kernel) rfl ?_
        refine xw_iload rfl rfl ?_
        refine xw_ialdc (n := 200) (v := (m1 586 x11)) (v' := (xR m1 586 x11)) rfl hB (xw_obd (by decide +kernel)) rfl g1 rfl rfl ?_
        refine xw_iast (n := 200) rfl hB (xw_obd (by decide +kernel)) rfl g3 ?_
        refine xw_aload_n rfl rfl rfl ?_
        refine xw_gfR (n := 587) (e := 587) rfl (xw_obd (by decide +kernel)) (by decide +kernel) (by decide +kernel) rfl ?_
        refine xw_iload rfl rfl ?_
        refine xw_aload_n rfl rfl rfl ?_
        refine xw_gfR (n := 587) (e := 587) rfl (xw_obd (by decide +kernel)) (by decide +kernel) (by decide +kernel) rfl ?_
        refine xw_iload rfl rfl ?_
        refine xw_ialdc (n := 200) (v := (m1 587 x11)) (v' := (xR m1 587 x11)) rfl hB (xw_obd (by decide +kernel)) rfl g1 (xw_un (fun e => absurd e.1 (by decide)) rfl) rfl ?_
        refine xw_iast (n := 200) rfl hB (xw_obd (by decide +kernel)) rfl g3 ?_
        refine xw_aload_n rfl rfl rfl ?_
        refine xw_gfR (n := 588) (e := 588) rfl (xw_obd (by decide +kernel)) (by decide +kernel) (by decide +kernel) rfl ?_
        refine xw_iload rfl rfl ?_
        refine xw_aload_n rfl rfl rfl ?_
        refine xw_gfR (n := 588) (e := 588) rfl (xw_obd (by decide +kernel)) (by decide +kernel) (by decide +kernel) rfl ?_
        refine xw_iload rfl rfl ?_
        refine xw_ialdc (n := 200) (v := (m1 588 x11)) (v' := (xR m1 588 x11)) rfl hB (xw_obd (by decide +kernel)) rfl g1 (xw_un (fun e => absurd e.1 (by decide)) (xw_un (fun e => absurd e.1 (by decide)) rfl)) rfl ?_
        refine xw_iast (n := 200) rfl hB (xw_obd (by decide +kernel)) rfl g3 ?_
        refine xw_iincc (z := (w32 (x10 + 1))) (L' := [(10, xi (w32 (x10 + 1))), (0, xa 536), (2, xi x2), (3, xi x3), (4, xi x4), (5, xi x5), (7, xi x7), (8, xi x8), (11, xi x11)]) rfl rfl (by decide) rfl rfl ?_
        refine xw_iincc (z := (w32 (x11 + 1))) (L' := [(11, xi (w32 (x11 + 1))), (10, xi (w32 (x10 + 1))), (0, xa 536), (2, xi x2), (3, xi x3), (4, xi x4), (5, xi x5), (7, xi x7), (8, xi x8)]) rfl rfl (by decide) rfl rfl ?_
        refine xw_goto rfl ?_
        refine xw_lo (L2 := [(0, xa 536), (2, xi x2), (3, xi x3), (4, xi x4), (5, xi x5), (7, xi x7), (8, xi x8), (10, xi (w32 (x10 + 1))), (11, xi (w32 (x11 + 1)))]) (List.forall_mem_cons.mpr ⟨rfl, List.forall_mem_cons.mpr ⟨rfl, List.forall_mem_cons.mpr ⟨rfl, List.forall_mem_cons.mpr ⟨rfl, List.forall_mem_cons.mpr ⟨rfl, List.forall_mem_cons.mpr ⟨rfl, List.forall_mem_cons.mpr ⟨rfl, List.forall_mem_cons.mpr ⟨rfl, List.forall_mem_cons.mpr ⟨rfl, fun _ h => absurd h List.not_mem_nil⟩⟩⟩⟩⟩⟩⟩⟩⟩) ?_
        exact q
      exact hr208 _ _ _ _ _ _ _ _ _ c2 c3 c4 c5 c7 c8 (w32_w _) (w32_w _)
    · refine xS_of (pc' := 208) (L' := [(0, xa 536), (2, xi x2), (3, xi x3), (4, xi x4), (5, xi x5), (7, xi x7), (8, xi x8), (10, xi x10), (11, xi (w32 (x11 + 1)))]) (st' := []) (m' := m1) (fun ex ns r q => ?_) ?_
      · refine xw_if_neT rfl (w32_cg (w32_of (xw_zr cv1))) h2 ?_
        refine xw_iincc (z := (w32 (x11 + 1))) (L' := [(11, xi (w32 (x11 + 1))), (0, xa 536), (2, xi x2), (3, xi x3), (4, xi x4), (5, xi x5), (7, xi x7), (8, xi x8), (10, xi x10)]) rfl rfl (by decide) rfl rfl ?_
        refine xw_goto rfl ?_
        refine xw_lo (L2 := [(0, xa 536), (2, xi x2), (3, xi x3), (4, xi x4), (5, xi x5), (7, xi x7), (8, xi x8), (10, xi x10), (11, xi (w32 (x11 + 1)))]) (List.forall_mem_cons.mpr ⟨rfl, List.forall_mem_cons.mpr ⟨rfl, List.forall_mem_cons.mpr ⟨rfl, List.forall_mem_cons.mpr ⟨rfl, List.forall_mem_cons.mpr ⟨rfl, List.forall_mem_cons.mpr ⟨rfl, List.forall_mem_cons.mpr ⟨rfl, List.forall_mem_cons.mpr ⟨rfl, List.forall_mem_cons.mpr ⟨rfl, fun _ h => absurd h List.not_mem_nil⟩⟩⟩⟩⟩⟩⟩⟩⟩) ?_
        exact q
      exact hr208 _ _ _ _ _ _ _ _ _ c2 c3 c4 c5 c7 c8 c10 (w32_w _)
  · refine xS_of (pc' := 292) (L' := [(0, xa 536), (2, xi x2), (3, xi x3), (4, xi x4), (5, xi x5), (7, xi x7), (8, xi x8), (10, xi x10), (11, xi x11)]) (st' := [xi x5]) (m' := (xw_u m 536 52 x10)) (fun ex ns r q => ?_) ?_
    · refine xw_ic_geT rfl (w32_cg c11) (w32_cg (w32_xR _ _ _)) (Int.not_lt.mp h0) ?_
      refine xw_aload_n rfl rfl rfl ?_
      refine xw_iload rfl rfl ?_
      refine xw_pfI rfl (xw_obd (by decide +kernel)) xk12_52 (qi := 52) rfl (xw_okI rfl) ?_
      refine xw_iload rfl rfl ?_
      exact q
    refine xS_if (fun h1 => ?_) (fun h1 => ?_)
    · refine xS_g (fun g2 => ?_)
      refine xS_of (pc' := 337) (L' := [(0, xa 536), (5, xi x5), (8, xi x8)]) (st' := []) (m' := (xw_u (xw_u (xw_u (xw_u (xw_u m 536 52 x10) 586 x10 x2) 587 x10 x7) 588 x10 x5) 536 52 (x10 + 1))) (fun ex ns r q => ?_) ?_
      · refine xw_if_leF rfl (w32_cg c5) (Int.not_le.mpr h1) ?_
        refine xw_aload_n rfl rfl rfl ?_
        refine xw_gfR (n := 586) (e := 586) rfl (xw_obd (by decide +kernel)) (by decide +kernel) (by decide +kernel) rfl ?_
        refine xw_aload_n rfl rfl rfl ?_
        refine xw_gfIc (v := x10) (v' := x10) rfl (xw_obd (by decide +kernel)) xk12_52 (qi := 52) rfl xw_us c10 ?_
        refine xw_iload_n rfl rfl ?_
        refine xw_iast (n := 200) rfl hB (xw_obd (by decide +kernel)) rfl g2 ?_
        refine xw_aload_n rfl rfl rfl ?_
        refine xw_gfR (n := 587) (e := 587) rfl (xw_obd (by decide +kernel)) (by decide +kernel) (by decide +kernel) rfl ?_
        refine xw_aload_n rfl rfl rfl ?_
        refine xw_gfIc (v := x10) (v' := x10) rfl (xw_obd (by decide +kernel)) xk12_52 (qi := 52) rfl (xw_un (fun e => absurd e.1 (by decide)) xw_us) c10 ?_
        refine xw_iload rfl rfl ?_
        refine xw_iast (n := 200) rfl hB (xw_obd (by decide +kernel)) rfl g2 ?_
        refine xw_aload_n rfl rfl rfl ?_
        refine xw_gfR (n := 588) (e := 588) rfl (xw_obd (by decide +kernel)) (by decide +kernel) (by decide +kernel) rfl ?_
        refine xw_aload_n rfl rfl rfl ?_
        refine xw_gfIc (v := x10) (v' := x10) rfl (xw_obd (by decide +kernel)) xk12_52 (qi := 52) rfl (xw_un (fun e => absurd e.1 (by decide)) (xw_un (fun e => absurd e.1 (by decide)) xw_us)) c10 ?_
        refine xw_iload rfl rfl ?_
        refine xw_iast (n := 200) rfl hB (xw_obd (by decide +kernel)) rfl g2 ?_
        refine xw_aload_n rfl rfl rfl ?_
        refine xw_dup rfl rfl ?_
        refine xw_gfIc (v := x10) (v' := x10) rfl (xw_obd (by decide +kernel)) xk12_52 (qi := 52) rfl (xw_un (fun e => absurd e.1 (by decide)) (xw_un (fun e => absurd e.1 (by decide)) (xw_un (fun e => absurd e.1 (by decide)) xw_us))) c10 ?_
        refine xw_iconst rfl ?_
        refine xw_iadd rfl ?_
        refine xw_pfI rfl (xw_obd (by decide +kernel)) xk12_52 (qi := 52) rfl (xw_okI rfl) ?_
        refine xw_lo (L2 := [(0, xa 536), (5, xi x5), (8, xi x8)]) (List.forall_mem_cons.mpr ⟨rfl, List.forall_mem_cons.mpr ⟨rfl, List.forall_mem_cons.mpr ⟨rfl, fun _ h => absurd h List.not_mem_nil⟩⟩⟩) ?_
        exact q
      exact ygk305_337 hB _ _ _ c5 c8
    · refine xS_of (pc' := 337) (L' := [(0, xa 536), (5, xi x5), (8, xi x8)]) (st' := []) (m' := (xw_u m 536 52 x10)) (fun ex ns r q => ?_) ?_
      · refine xw_if_leT rfl (w32_cg c5) (Int.not_lt.mp h1) ?_
        refine xw_lo (L2 := [(0, xa 536), (5, xi x5), (8, xi x8)]) (List.forall_mem_cons.mpr ⟨rfl, List.forall_mem_cons.mpr ⟨rfl, List.forall_mem_cons.mpr ⟨rfl, fun _ h => absurd h List.not_mem_nil⟩⟩⟩) ?_
        exact q
      exact ygk305_337 hB _ _ _ c5 c8
theorem ygl305_208 {B : Nat} (hB : B ≤ 512) {xs : Nat → Int32} {SL d : Nat} : ∀ n x2 x3 x4 x5 x7 x8 x10 x11 m, w32 x2 = x2 → w32 x3 = x3 → w32 x4 = x4 → w32 x5 = x5 → w32 x7 = x7 → w32 x8 = x8 → w32 x10 = x10 → w32 x11 = x11 → xS B xs SL (d + 2) 305 (12, (some .int), [], 13) 1 208 [(0, xa 536), (2, xi x2), (3, xi x3), (4, xi x4), (5, xi x5), (7, xi x7), (8, xi x8), (10, xi x10), (11, xi x11)] [] m (xl8 (yl305_208 B) n x2 x3 x4 x5 x7 x8 x10 x11 m) := by
  intro n
  induction n with
  | zero => intro x2 x3 x4 x5 x7 x8 x10 x11 m c2 c3 c4 c5 c7 c8 c10 c11; exact xS_none
  | succ n ih => exact ysl305_208 hB ih
theorem ygk305_123 {B : Nat} (hB : B ≤ 512) {xs : Nat → Int32} {SL d : Nat} : ∀ x2 x3 x4 x5 x7 m, w32 x2 = x2 → w32 x3 = x3 → w32 x4 = x4 → w32 x5 = x5 → w32 x7 = x7 → xS B xs SL (d + 2) 305 (12, (some .int), [], 13) 1 123 [(0, xa 536), (2, xi x2), (3, xi x3), (4, xi x4), (5, xi x5), (7, xi x7)] [] m (yk305_123 B x2 x3 x4 x5 x7 m) := by
  intro x2 x3 x4 x5 x7 m c2 c3 c4 c5 c7
  unfold yk305_123
  refine xS_of (pc' := 160) (L' := [(9, xi (w32 (x5 + 1))), (8, xi 0), (0, xa 536), (2, xi x2), (3, xi x3), (4, xi x4), (5, xi x5), (7, xi x7)]) (st' := [xi (xR m 536 51), xa 536]) (m' := (xw_u m 536 50 ((xR m 536 50) + (w32 (x5 + 1))))) (fun ex ns r q => ?_) ?_
  · refine xw_iconst rfl ?_
    refine xw_istore (L' := [(8, xi 0), (0, xa 536), (2, xi x2), (3, xi x3), (4, xi x4), (5, xi x5), (7, xi x7)]) rfl (by decide) rfl ?_
    refine xw_iload rfl rfl ?_
    refine xw_if_eqT rfl (w32_cg rfl) (by decide) ?_
    refine xw_iload rfl rfl ?_
    refine xw_iconst rfl ?_
    refine xw_iadd rfl ?_
    refine xw_cst (st' := [xi (w32 (x5 + 1))]) (xw_sc (xi_c rfl) rfl) ?_
    refine xw_istore (L' := [(9, xi (w32 (x5 + 1))), (8, xi 0), (0, xa 536), (2, xi x2), (3, xi x3), (4, xi x4), (5, xi x5), (7, xi x7)]) rfl (by decide) rfl ?_
    refine xw_aload_n rfl rfl rfl ?_
    refine xw_dup rfl rfl ?_
    refine xw_gfIc (v := (m 536 50)) (v' := (xR m 536 50)) rfl (xw_obd (by decide +kernel)) xk12_50 (qi := 50) rfl rfl rfl ?_
    refine xw_iload rfl rfl ?_
    refine xw_iadd rfl ?_
    refine xw_pfI rfl (xw_obd (by decide +kernel)) xk12_50 (qi := 50) rfl (xw_okI rfl) ?_
    refine xw_aload_n rfl rfl rfl ?_
    refine xw_aload_n rfl rfl rfl ?_
    refine xw_gfIc (v := (m 536 51)) (v' := (xR m 536 51)) rfl (xw_obd (by decide +kernel)) xk12_51 (qi := 51) rfl (xw_un (fun e => absurd e.2 (by decide)) rfl) rfl ?_
    exact q
  refine xS_if (fun h0 => ?_) (fun h0 => ?_)
  · refine xS_of (pc' := 184) (L' := [(9, xi (w32 (x5 + 1))), (8, xi 0), (0, xa 536), (2, xi x2), (3, xi x3), (4, xi x4), (5, xi x5), (7, xi x7)]) (st' := [xi (w32 (x5 + 1)), xi (w32 (x5 + 1)), xa 536]) (m' := (xw_u (xw_u m 536 50 ((xR m 536 50) + (w32 (x5 + 1)))) 536 51 (-1))) (fun ex ns r q => ?_) ?_
    · refine xw_if_geF rfl (w32_cg (w32_xR _ _ _)) (Int.not_le.mpr h0) ?_
      refine xw_iconst rfl ?_
      refine xw_goto rfl ?_
      refine xw_pfI rfl (xw_obd (by decide +kernel)) xk12_51 (qi := 51) rfl (xw_okI rfl) ?_
      refine xw_aload_n rfl rfl rfl ?_
      refine xw_iload rfl rfl ?_
      refine xw_iload rfl rfl ?_
      refine xw_iconst rfl ?_
      refine xw_iadd rfl ?_
      refine xw_cst (st' := [xi (w32 (x5 + 1)), xi (w32 (x5 + 1)), xa 536]) (xw_sc (xi_c rfl) (xw_sc rfl rfl)) ?_
      exact q
    refine xS_if (fun h1 => ?_) (fun h1 => ?_)
    · refine xS_of (pc' := 208) (L' := [(0, xa 536), (2, xi x2), (3, xi x3), (4, xi x4), (5, xi x5), (7, xi x7), (8, xi 0), (10, xi 0), (11, xi 0)]) (st' := []) (m' := (xw_u (xw_u (xw_u m 536 50 ((xR m 536 50) + (w32 (x5 + 1)))) 536 51 (-1)) 536 57 1)) (fun ex ns r q => ?_) ?_
      · refine xw_ic_neF rfl (w32_cg (w32_w _)) (w32_cg (w32_w _)) h1 ?_
        refine xw_iconst rfl ?_
        refine xw_goto rfl ?_
        refine xw_pfI rfl (xw_obd (by decide +kernel)) xk12_57 (qi := 57) rfl (xw_okZ rfl (Or.inr rfl)) ?_
        refine xw_aload_n rfl rfl rfl ?_
        refine xw_gfIc (v := 1) (v' := 1) rfl (xw_obd (by decide +kernel)) xk12_57 (qi := 57) rfl xw_us rfl ?_
        refine xw_if_eqF rfl (w32_cg rfl) (by decide) ?_
        refine xw_iconst rfl ?_
        refine xw_istore (L' := [(10, xi 0), (9, xi (w32 (x5 + 1))), (8, xi 0), (0, xa 536), (2, xi x2), (3, xi x3), (4, xi x4), (5, xi x5), (7, xi x7)]) rfl (by decide) rfl ?_
        refine xw_iconst rfl ?_
        refine xw_istore (L' := [(11, xi 0), (10, xi 0), (9, xi (w32 (x5 + 1))), (8, xi 0), (0, xa 536), (2, xi x2), (3, xi x3), (4, xi x4), (5, xi x5), (7, xi x7)]) rfl (by decide) rfl ?_
        refine xw_lo (L2 := [(0, xa 536), (2, xi x2), (3, xi x3), (4, xi x4), (5, xi x5), (7, xi x7), (8, xi 0), (10, xi 0), (11, xi 0)]) (List.forall_mem_cons.mpr ⟨rfl, List.forall_mem_cons.mpr ⟨rfl, List.forall_mem_cons.mpr ⟨rfl, List.forall_mem_cons.mpr ⟨rfl, List.forall_mem_cons.mpr ⟨rfl, List.forall_mem_cons.mpr ⟨rfl, List.forall_mem_cons.mpr ⟨rfl, List.forall_mem_cons.mpr ⟨rfl, List.forall_mem_cons.mpr ⟨rfl, fun _ h => absurd h List.not_mem_nil⟩⟩⟩⟩⟩⟩⟩⟩⟩) ?_
        exact q
      exact ygl305_208 hB 1000000 _ _ _ _ _ _ _ _ _ c2 c3 c4 c5 c7 rfl rfl rfl
    · refine xS_of (pc' := 337) (L' := [(0, xa 536), (5, xi x5), (8, xi 0)]) (st' := []) (m' := (xw_u (xw_u (xw_u m 536 50 ((xR m 536 50) + (w32 (x5 + 1)))) 536 51 (-1)) 536 57 0)) (fun ex ns r q => ?_) ?_
      · refine xw_ic_neT rfl (w32_cg (w32_w _)) (w32_cg (w32_w _)) h1 ?_
        refine xw_iconst rfl ?_
        refine xw_pfI rfl (xw_obd (by decide +kernel)) xk12_57 (qi := 57) rfl (xw_okZ rfl (Or.inl rfl)) ?_
        refine xw_aload_n rfl rfl rfl ?_
        refine xw_gfIc (v := 0) (v' := 0) rfl (xw_obd (by decide +kernel)) xk12_57 (qi := 57) rfl xw_us rfl ?_
        refine xw_if_eqT rfl (w32_cg rfl) (by decide) ?_
        refine xw_lo (L2 := [(0, xa 536), (5, xi x5), (8, xi 0)]) (List.forall_mem_cons.mpr ⟨rfl, List.forall_mem_cons.mpr ⟨rfl, List.forall_mem_cons.mpr ⟨rfl, fun _ h => absurd h List.not_mem_nil⟩⟩⟩) ?_
        exact q
      exact ygk305_337 hB _ _ _ c5 rfl
  · refine xS_of (pc' := 184) (L' := [(9, xi (w32 (x5 + 1))), (8, xi 0), (0, xa 536), (2, xi x2), (3, xi x3), (4, xi x4), (5, xi x5), (7, xi x7)]) (st' := [xi (w32 (x5 + 1)), xi (w32 (x5 + 1)), xa 536]) (m' := (xw_u (xw_u m 536 50 ((xR m 536 50) + (w32 (x5 + 1)))) 536 51 ((xR m 536 51) - (w32 (x5 + 1))))) (fun ex ns r q => ?_) ?_
    · refine xw_if_geT rfl (w32_cg (w32_xR _ _ _)) (Int.not_lt.mp h0) ?_
      refine xw_aload_n rfl rfl rfl ?_
      refine xw_gfIc (v := (m 536 51)) (v' := (xR m 536 51)) rfl (xw_obd (by decide +kernel)) xk12_51 (qi := 51) rfl (xw_un (fun e => absurd e.2 (by decide)) rfl) rfl ?_
      refine xw_iload rfl rfl ?_
      refine xw_isub rfl ?_
      refine xw_pfI rfl (xw_obd (by decide +kernel)) xk12_51 (qi := 51) rfl (xw_okI rfl) ?_
      refine xw_aload_n rfl rfl rfl ?_
      refine xw_iload rfl rfl ?_
      refine xw_iload rfl rfl ?_
      refine xw_iconst rfl ?_
      refine xw_iadd rfl ?_
      refine xw_cst (st' := [xi (w32 (x5 + 1)), xi (w32 (x5 + 1)), xa 536]) (xw_sc (xi_c rfl) (xw_sc rfl rfl)) ?_
      exact q
    refine xS_if (fun h1 => ?_) (fun h1 => ?_)
    · refine xS_of (pc' := 208) (L' := [(0, xa 536), (2, xi x2), (3, xi x3), (4, xi x4), (5, xi x5), (7, xi x7), (8, xi 0), (10, xi 0), (11, xi 0)]) (st' := []) (m' := (xw_u (xw_u (xw_u m 536 50 ((xR m 536 50) + (w32 (x5 + 1)))) 536 51 ((xR m 536 51) - (w32 (x5 + 1)))) 536 57 1)) (fun ex ns r q => ?_) ?_
      · refine xw_ic_neF rfl (w32_cg (w32_w _)) (w32_cg (w32_w _)) h1 ?_
        refine xw_iconst rfl ?_
        refine xw_goto rfl ?_
        refine xw_pfI rfl (xw_obd (by decide +kernel)) xk12_57 (qi := 57) rfl (xw_okZ rfl (Or.inr rfl)) ?_
        refine xw_aload_n rfl rfl rfl ?_
        refine xw_gfIc (v := 1) (v' := 1) rfl (xw_obd (by decide +kernel)) xk12_57 (qi := 57) rfl xw_us rfl ?_
        refine xw_if_eqF rfl (w32_cg rfl) (by decide) ?_
        refine xw_iconst rfl ?_
        refine xw_istore (L' := [(10, xi 0), (9, xi (w32 (x5 + 1))), (8, xi 0), (0, xa 536), (2, xi x2), (3, xi x3), (4, xi x4), (5, xi x5), (7, xi x7)]) rfl (by decide) rfl ?_
        refine xw_iconst rfl ?_
        refine xw_istore (L' := [(11, xi 0), (10, xi 0), (9, xi (w32 (x5 + 1))), (8, xi 0), (0, xa 536), (2, xi x2), (3, xi x3), (4, xi x4), (5, xi x5), (7, xi x7)]) rfl (by decide) rfl ?_
        refine xw_lo (L2 := [(0, xa 536), (2, xi x2), (3, xi x3), (4, xi x4), (5, xi x5), (7, xi x7), (8, xi 0), (10, xi 0), (11, xi 0)]) (List.forall_mem_cons.mpr ⟨rfl, List.forall_mem_cons.mpr ⟨rfl, List.forall_mem_cons.mpr ⟨rfl, List.forall_mem_cons.mpr ⟨rfl, List.forall_mem_cons.mpr ⟨rfl, List.forall_mem_cons.mpr ⟨rfl, List.forall_mem_cons.mpr ⟨rfl, List.forall_mem_cons.mpr ⟨rfl, List.forall_mem_cons.mpr ⟨rfl, fun _ h => absurd h List.not_mem_nil⟩⟩⟩⟩⟩⟩⟩⟩⟩) ?_
        exact q
      exact ygl305_208 hB 1000000 _ _ _ _ _ _ _ _ _ c2 c3 c4 c5 c7 rfl rfl rfl
    · refine xS_of (pc' := 337) (L' := [(0, xa 536), (5, xi x5), (8, xi 0)]) (st' := []) (m' := (xw_u (xw_u (xw_u m 536 50 ((xR m 536 50) + (w32 (x5 + 1)))) 536 51 ((xR m 536 51) - (w32 (x5 + 1)))) 536 57 0)) (fun ex ns r q => ?_) ?_
      · refine xw_ic_neT rfl (w32_cg (w32_w _)) (w32_cg (w32_w _)) h1 ?_
        refine xw_iconst rfl ?_
        refine xw_pfI rfl (xw_obd (by decide +kernel)) xk12_57 (qi := 57) rfl (xw_okZ rfl (Or.inl rfl)) ?_
        refine xw_aload_n rfl rfl rfl ?_
        refine xw_gfIc (v := 0) (v' := 0) rfl (xw_obd (by decide +kernel)) xk12_57 (qi := 57) rfl xw_us rfl ?_
        refine xw_if_eqT rfl (w32_cg rfl) (by decide) ?_
        refine xw_lo (L2 := [(0, xa 536), (5, xi x5), (8, xi 0)]) (List.forall_mem_cons.mpr ⟨rfl, List.forall_mem_cons.mpr ⟨rfl, List.forall_mem_cons.mpr ⟨rfl, fun _ h => absurd h List.not_mem_nil⟩⟩⟩) ?_
        exact q
      exact ygk305_337 hB _ _ _ c5 rfl
theorem ygk305_93 {B : Nat} (hB : B ≤ 512) {xs : Nat → Int32} {SL d : Nat} : ∀ x2 x3 x4 x5 x7 m, w32 x2 = x2 → w32 x3 = x3 → w32 x4 = x4 → w32 x5 = x5 → w32 x7 = x7 → xS B xs SL (d + 2) 305 (12, (some .int), [], 13) 1 93 [(0, xa 536), (2, xi x2), (3, xi x3), (4, xi x4), (5, xi x5), (7, xi x7)] [] m (yk305_93 B x2 x3 x4 x5 x7 m) := by
  intro x2 x3 x4 x5 x7 m c2 c3 c4 c5 c7
  unfold yk305_93
  refine xS_of (pc' := 95) (L' := [(0, xa 536), (2, xi x2), (3, xi x3), (4, xi x4), (5, xi x5), (7, xi x7)]) (st' := [xi x7]) (m' := m) (fun ex ns r q => ?_) ?_
  · refine xw_iload rfl rfl ?_
    exact q
  refine xS_if (fun h0 => ?_) (fun h0 => ?_)
  · refine xS_of (pc' := 100) (L' := [(0, xa 536), (2, xi x2), (3, xi x3), (4, xi x4), (5, xi x5), (7, xi x7)]) (st' := [xi (-2)]) (m' := m) (fun ex ns r q => ?_) ?_
    · refine xw_if_geF rfl (w32_cg c7) (Int.not_le.mpr h0) ?_
      refine xw_bipush (e := (-2)) rfl (by decide +kernel) ?_
      exact q
    exact xS_ret (v := (-2)) rfl rfl xw_rtI rfl
  · refine xS_of (pc' := 105) (L' := [(0, xa 536), (2, xi x2), (3, xi x3), (4, xi x4), (5, xi x5), (7, xi x7)]) (st' := [xi (xR m 536 51)]) (m' := m) (fun ex ns r q => ?_) ?_
    · refine xw_if_geT rfl (w32_cg c7) (Int.not_lt.mp h0) ?_
      refine xw_aload_n rfl rfl rfl ?_
      refine xw_gfIc (v := (m 536 51)) (v' := (xR m 536 51)) rfl (xw_obd (by decide +kernel)) xk12_51 (qi := 51) rfl rfl rfl ?_
      exact q
    refine xS_if (fun h1 => ?_) (fun h1 => ?_)
    · refine xS_of (pc' := 123) (L' := [(0, xa 536), (2, xi x2), (3, xi x3), (4, xi x4), (5, xi x5), (7, xi x7)]) (st' := []) (m' := m) (fun ex ns r q => ?_) ?_
      · refine xw_if_ltT rfl (w32_cg (w32_xR _ _ _)) h1 ?_
        refine xw_lo (L2 := [(0, xa 536), (2, xi x2), (3, xi x3), (4, xi x4), (5, xi x5), (7, xi x7)]) (List.forall_mem_cons.mpr ⟨rfl, List.forall_mem_cons.mpr ⟨rfl, List.forall_mem_cons.mpr ⟨rfl, List.forall_mem_cons.mpr ⟨rfl, List.forall_mem_cons.mpr ⟨rfl, List.forall_mem_cons.mpr ⟨rfl, fun _ h => absurd h List.not_mem_nil⟩⟩⟩⟩⟩⟩) ?_
        exact q
      exact ygk305_123 hB _ _ _ _ _ _ c2 c3 c4 c5 c7
    · refine xS_of (pc' := 116) (L' := [(0, xa 536), (2, xi x2), (3, xi x3), (4, xi x4), (5, xi x5), (7, xi x7)]) (st' := [xi (w32 (x5 + 1)), xi (xR m 536 51)]) (m' := m) (fun ex ns r q => ?_) ?_
      · refine xw_if_ltF rfl (w32_cg (w32_xR _ _ _)) h1 ?_
        refine xw_aload_n rfl rfl rfl ?_
        refine xw_gfIc (v := (m 536 51)) (v' := (xR m 536 51)) rfl (xw_obd (by decide +kernel)) xk12_51 (qi := 51) rfl rfl rfl ?_
        refine xw_iload rfl rfl ?_
        refine xw_iconst rfl ?_
        refine xw_iadd rfl ?_
        refine xw_cst (st' := [xi (w32 (x5 + 1)), xi (xR m 536 51)]) (xw_sc (xi_c rfl) (xw_sc rfl rfl)) ?_
        exact q
      refine xS_if (fun h2 => ?_) (fun h2 => ?_)
      · refine xS_of (pc' := 123) (L' := [(0, xa 536), (2, xi x2), (3, xi x3), (4, xi x4), (5, xi x5), (7, xi x7)]) (st' := []) (m' := m) (fun ex ns r q => ?_) ?_
        · refine xw_ic_gtT rfl (w32_cg (w32_xR _ _ _)) (w32_cg (w32_w _)) h2 ?_
          refine xw_lo (L2 := [(0, xa 536), (2, xi x2), (3, xi x3), (4, xi x4), (5, xi x5), (7, xi x7)]) (List.forall_mem_cons.mpr ⟨rfl, List.forall_mem_cons.mpr ⟨rfl, List.forall_mem_cons.mpr ⟨rfl, List.forall_mem_cons.mpr ⟨rfl, List.forall_mem_cons.mpr ⟨rfl, List.forall_mem_cons.mpr ⟨rfl, fun _ h => absurd h List.not_mem_nil⟩⟩⟩⟩⟩⟩) ?_
          exact q
        exact ygk305_123 hB _ _ _ _ _ _ c2 c3 c4 c5 c7
      · refine xS_of (pc' := 184) (L' := [(9, xi (xR m 536 51)), (8, xi 1), (0, xa 536), (2, xi x2), (3, xi x3), (4, xi x4), (5, xi x5), (7, xi x7)]) (st' := [xi (w32 (x5 + 1)), xi (xR m 536 51), xa 536]) (m' := (xw_u (xw_u m 536 50 ((xR m 536 50) + (xR m 536 51))) 536 51 ((xR m 536 51) - (xR m 536 51)))) (fun ex ns r q => ?_) ?_
        · refine xw_ic_gtF rfl (w32_cg (w32_xR _ _ _)) (w32_cg (w32_w _)) h2 ?_
          refine xw_iconst rfl ?_
          refine xw_goto rfl ?_
          refine xw_istore (L' := [(8, xi 1), (0, xa 536), (2, xi x2), (3, xi x3), (4, xi x4), (5, xi x5), (7, xi x7)]) rfl (by decide) rfl ?_
          refine xw_iload rfl rfl ?_
          refine xw_if_eqF rfl (w32_cg rfl) (by decide) ?_
          refine xw_aload_n rfl rfl rfl ?_
          refine xw_gfIc (v := (m 536 51)) (v' := (xR m 536 51)) rfl (xw_obd (by decide +kernel)) xk12_51 (qi := 51) rfl rfl rfl ?_
          refine xw_goto rfl ?_
          refine xw_istore (L' := [(9, xi (xR m 536 51)), (8, xi 1), (0, xa 536), (2, xi x2), (3, xi x3), (4, xi x4), (5, xi x5), (7, xi x7)]) rfl (by decide) rfl ?_
          refine xw_aload_n rfl rfl rfl ?_
          refine xw_dup rfl rfl ?_
          refine xw_gfIc (v := (m 536 50)) (v' := (xR m 536 50)) rfl (xw_obd (by decide +kernel)) xk12_50 (qi := 50) rfl rfl rfl ?_
          refine xw_iload rfl rfl ?_
          refine xw_iadd rfl ?_
          refine xw_pfI rfl (xw_obd (by decide +kernel)) xk12_50 (qi := 50) rfl (xw_okI rfl) ?_
          refine xw_aload_n rfl rfl rfl ?_
          refine xw_aload_n rfl rfl rfl ?_
          refine xw_gfIc (v := (m 536 51)) (v' := (xR m 536 51)) rfl (xw_obd (by decide +kernel)) xk12_51 (qi := 51) rfl (xw_un (fun e => absurd e.2 (by decide)) rfl) rfl ?_
          refine xw_if_geT rfl (w32_cg (w32_xR _ _ _)) (Int.not_lt.mp h1) ?_
          refine xw_aload_n rfl rfl rfl ?_
          refine xw_gfIc (v := (m 536 51)) (v' := (xR m 536 51)) rfl (xw_obd (by decide +kernel)) xk12_51 (qi := 51) rfl (xw_un (fun e => absurd e.2 (by decide)) rfl) rfl ?_
          refine xw_iload rfl rfl ?_
          refine xw_isub rfl ?_
          refine xw_pfI rfl (xw_obd (by decide +kernel)) xk12_51 (qi := 51) rfl (xw_okI rfl) ?_
          refine xw_aload_n rfl rfl rfl ?_
          refine xw_iload rfl rfl ?_
          refine xw_iload rfl rfl ?_
          refine xw_iconst rfl ?_
          refine xw_iadd rfl ?_
          refine xw_cst (st' := [xi (w32 (x5 + 1)), xi (xR m 536 51), xa 536]) (xw_sc (xi_c rfl) (xw_sc rfl rfl)) ?_
          exact q
        refine xS_if (fun h3 => ?_) (fun h3 => ?_)
        · refine xS_of (pc' := 208) (L' := [(0, xa 536), (2, xi x2), (3, xi x3), (4, xi x4), (5, xi x5), (7, xi x7), (8, xi 1), (10, xi 0), (11, xi 0)]) (st' := []) (m' := (xw_u (xw_u (xw_u m 536 50 ((xR m 536 50) + (xR m 536 51))) 536 51 ((xR m 536 51) - (xR m 536 51))) 536 57 1)) (fun ex ns r q => ?_) ?_
          · refine xw_ic_neF rfl (w32_cg (w32_xR _ _ _)) (w32_cg (w32_w _)) h3 ?_
            refine xw_iconst rfl ?_
            refine xw_goto rfl ?_
            refine xw_pfI rfl (xw_obd (by decide +kernel)) xk12_57 (qi := 57) rfl (xw_okZ rfl (Or.inr rfl)) ?_
            refine xw_aload_n rfl rfl rfl ?_
            refine xw_gfIc (v := 1) (v' := 1) rfl (xw_obd (by decide +kernel)) xk12_57 (qi := 57) rfl xw_us rfl ?_
            refine xw_if_eqF rfl (w32_cg rfl) (by decide) ?_
            refine xw_iconst rfl ?_
            refine xw_istore (L' := [(10, xi 0), (9, xi (xR m 536 51)), (8, xi 1), (0, xa 536), (2, xi x2), (3, xi x3), (4, xi x4), (5, xi x5), (7, xi x7)]) rfl (by decide) rfl ?_
            refine xw_iconst rfl ?_
            refine xw_istore (L' := [(11, xi 0), (10, xi 0), (9, xi (xR m 536 51)), (8, xi 1), (0, xa 536), (2, xi x2), (3, xi x3), (4, xi x4), (5, xi x5), (7, xi x7)]) rfl (by decide) rfl ?_
            refine xw_lo (L2 := [(0, xa 536), (2, xi x2), (3, xi x3), (4, xi x4), (5, xi x5), (7, xi x7), (8, xi 1), (10, xi 0), (11, xi 0)]) (List.forall_mem_cons.mpr ⟨rfl, List.forall_mem_cons.mpr ⟨rfl, List.forall_mem_cons.mpr ⟨rfl, List.forall_mem_cons.mpr ⟨rfl, List.forall_mem_cons.mpr ⟨rfl, List.forall_mem_cons.mpr ⟨rfl, List.forall_mem_cons.mpr ⟨rfl, List.forall_mem_cons.mpr ⟨rfl, List.forall_mem_cons.mpr ⟨rfl, fun _ h => absurd h List.not_mem_nil⟩⟩⟩⟩⟩⟩⟩⟩⟩) ?_
            exact q
          exact ygl305_208 hB 1000000 _ _ _ _ _ _ _ _ _ c2 c3 c4 c5 c7 rfl rfl rfl
        · refine xS_of (pc' := 337) (L' := [(0, xa 536), (5, xi x5), (8, xi 1)]) (st' := []) (m' := (xw_u (xw_u (xw_u m 536 50 ((xR m 536 50) + (xR m 536 51))) 536 51 ((xR m 536 51) - (xR m 536 51))) 536 57 0)) (fun ex ns r q => ?_) ?_
          · refine xw_ic_neT rfl (w32_cg (w32_xR _ _ _)) (w32_cg (w32_w _)) h3 ?_
            refine xw_iconst rfl ?_
            refine xw_pfI rfl (xw_obd (by decide +kernel)) xk12_57 (qi := 57) rfl (xw_okZ rfl (Or.inl rfl)) ?_
            refine xw_aload_n rfl rfl rfl ?_
            refine xw_gfIc (v := 0) (v' := 0) rfl (xw_obd (by decide +kernel)) xk12_57 (qi := 57) rfl xw_us rfl ?_
            refine xw_if_eqT rfl (w32_cg rfl) (by decide) ?_
            refine xw_lo (L2 := [(0, xa 536), (5, xi x5), (8, xi 1)]) (List.forall_mem_cons.mpr ⟨rfl, List.forall_mem_cons.mpr ⟨rfl, List.forall_mem_cons.mpr ⟨rfl, fun _ h => absurd h List.not_mem_nil⟩⟩⟩) ?_
            exact q
          exact ygk305_337 hB _ _ _ c5 rfl
theorem ysl305_22 {B : Nat} (hB : B ≤ 512) {xs : Nat → Int32} {SL d : Nat} {r22 : Int → Int → Int → Int → Int → Int → xw_M → xP} (hr22 : ∀ x2 x3 x4 x5 x6 x7 m, w32 x2 = x2 → w32 x3 = x3 → w32 x4 = x4 → w32 x5 = x5 → w32 x6 = x6 → w32 x7 = x7 → xS B xs SL (d + 2) 305 (12, (some .int), [], 13) 1 22 [(0, xa 536), (2, xi x2), (3, xi x3), (4, xi x4), (5, xi x5), (6, xi x6), (7, xi x7)] [] m (r22 x2 x3 x4 x5 x6 x7 m)) : ∀ x2 x3 x4 x5 x6 x7 m, w32 x2 = x2 → w32 x3 = x3 → w32 x4 = x4 → w32 x5 = x5 → w32 x6 = x6 → w32 x7 = x7 → xS B xs SL (d + 2) 305 (12, (some .int), [], 13) 1 22 [(0, xa 536), (2, xi x2), (3, xi x3), (4, xi x4), (5, xi x5), (6, xi x6), (7, xi x7)] [] m (yl305_22 B r22 x2 x3 x4 x5 x6 x7 m) := by
  intro x2 x3 x4 x5 x6 x7 m c2 c3 c4 c5 c6 c7
  unfold yl305_22
  refine xS_of (pc' := 28) (L' := [(0, xa 536), (2, xi x2), (3, xi x3), (4, xi x4), (5, xi x5), (6, xi x6), (7, xi x7)]) (st' := [xi (xR m 536 52), xi x7]) (m' := m) (fun ex ns r q => ?_) ?_
  · refine xw_iload rfl rfl ?_
    refine xw_aload_n rfl rfl rfl ?_
    refine xw_gfIc (v := (m 536 52)) (v' := (xR m 536 52)) rfl (xw_obd (by decide +kernel)) xk12_52 (qi := 52) rfl rfl rfl ?_
    exact q
  refine xS_if (fun h0 => ?_) (fun h0 => ?_)
  · refine xS_g (fun g1 => ?_)
    refine xS_of (pc' := 43) (L' := [(0, xa 536), (2, xi x2), (3, xi x3), (4, xi x4), (5, xi x5), (7, xi x7)]) (st' := [xi x4, xi x3, xi (xR m 586 x7), xi x6]) (m' := m) (fun ex ns r q => ?_) ?_
    · refine xw_ic_geF rfl (w32_cg c7) (w32_cg (w32_xR _ _ _)) (Int.not_le.mpr h0) ?_
      refine xw_iload rfl rfl ?_
      refine xw_aload_n rfl rfl rfl ?_
      refine xw_gfR (n := 586) (e := 586) rfl (xw_obd (by decide +kernel)) (by decide +kernel) (by decide +kernel) rfl ?_
      refine xw_iload rfl rfl ?_
      refine xw_ialdc (n := 200) (v := (m 586 x7)) (v' := (xR m 586 x7)) rfl hB (xw_obd (by decide +kernel)) rfl g1 rfl rfl ?_
      refine xw_iload_n rfl rfl ?_
      refine xw_iload rfl rfl ?_
      refine xw_lo (L2 := [(0, xa 536), (2, xi x2), (3, xi x3), (4, xi x4), (5, xi x5), (7, xi x7)]) (List.forall_mem_cons.mpr ⟨rfl, List.forall_mem_cons.mpr ⟨rfl, List.forall_mem_cons.mpr ⟨rfl, List.forall_mem_cons.mpr ⟨rfl, List.forall_mem_cons.mpr ⟨rfl, List.forall_mem_cons.mpr ⟨rfl, fun _ h => absurd h List.not_mem_nil⟩⟩⟩⟩⟩⟩) ?_
      exact q
    refine xS_call (q := 306) (n := 3) (kq := 4) (as := [xi (xR m 586 x7), xi x3, xi x4]) (st1 := [xi x6]) rfl rfl rfl rfl rfl rfl rfl rfl rfl rfl (fun _ => xw_rcv0 rfl) rfl (List.forall_mem_cons.mpr ⟨rfl, List.forall_mem_cons.mpr ⟨rfl, List.forall_mem_cons.mpr ⟨rfl, fun _ h => absurd h List.not_mem_nil⟩⟩⟩) (ygf306 hB _ _ _ _ (w32_xR _ _ _) c3 c4) (fun v1 m1 cv1 => ?_)
    refine xS_if (fun h2 => ?_) (fun h2 => ?_)
    · refine xS_of (pc' := 22) (L' := [(0, xa 536), (2, xi x2), (3, xi x3), (4, xi x4), (5, xi x5), (6, xi (w32 (x6 + 1))), (7, xi (w32 (x7 + 1)))]) (st' := []) (m' := m1) (fun ex ns r q => ?_) ?_
      · refine xw_if_eqT rfl (w32_cg (w32_of (xw_zr cv1))) h2 ?_
        refine xw_iconst rfl ?_
        refine xw_iadd rfl ?_
        refine xw_cst (st' := [xi (w32 (x6 + 1))]) (xw_sc (xi_c rfl) rfl) ?_
        refine xw_istore (L' := [(6, xi (w32 (x6 + 1))), (0, xa 536), (2, xi x2), (3, xi x3), (4, xi x4), (5, xi x5), (7, xi x7)]) rfl (by decide) rfl ?_
        refine xw_iincc (z := (w32 (x7 + 1))) (L' := [(7, xi (w32 (x7 + 1))), (6, xi (w32 (x6 + 1))), (0, xa 536), (2, xi x2), (3, xi x3), (4, xi x4), (5, xi x5)]) rfl rfl (by decide) rfl rfl ?_
        refine xw_goto rfl ?_
        refine xw_lo (L2 := [(0, xa 536), (2, xi x2), (3, xi x3), (4, xi x4), (5, xi x5), (6, xi (w32 (x6 + 1))), (7, xi (w32 (x7 + 1)))]) (List.forall_mem_cons.mpr ⟨rfl, List.forall_mem_cons.mpr ⟨rfl, List.forall_mem_cons.mpr ⟨rfl, List.forall_mem_cons.mpr ⟨rfl, List.forall_mem_cons.mpr ⟨rfl, List.forall_mem_cons.mpr ⟨rfl, List.forall_mem_cons.mpr ⟨rfl, fun _ h => absurd h List.not_mem_nil⟩⟩⟩⟩⟩⟩⟩) ?_
        exact q
      exact hr22 _ _ _ _ _ _ _ c2 c3 c4 c5 (w32_w _) (w32_w _)
    · refine xS_of (pc' := 22) (L' := [(0, xa 536), (2, xi x2), (3, xi x3), (4, xi x4), (5, xi x5), (6, xi (w32 (x6 + 0))), (7, xi (w32 (x7 + 1)))]) (st' := []) (m' := m1) (fun ex ns r q => ?_) ?_
      · refine xw_if_eqF rfl (w32_cg (w32_of (xw_zr cv1))) h2 ?_
        refine xw_iconst rfl ?_
        refine xw_goto rfl ?_
        refine xw_iadd rfl ?_
        refine xw_cst (st' := [xi (w32 (x6 + 0))]) (xw_sc (xi_c rfl) rfl) ?_
        refine xw_istore (L' := [(6, xi (w32 (x6 + 0))), (0, xa 536), (2, xi x2), (3, xi x3), (4, xi x4), (5, xi x5), (7, xi x7)]) rfl (by decide) rfl ?_
        refine xw_iincc (z := (w32 (x7 + 1))) (L' := [(7, xi (w32 (x7 + 1))), (6, xi (w32 (x6 + 0))), (0, xa 536), (2, xi x2), (3, xi x3), (4, xi x4), (5, xi x5)]) rfl rfl (by decide) rfl rfl ?_
        refine xw_goto rfl ?_
        refine xw_lo (L2 := [(0, xa 536), (2, xi x2), (3, xi x3), (4, xi x4), (5, xi x5), (6, xi (w32 (x6 + 0))), (7, xi (w32 (x7 + 1)))]) (List.forall_mem_cons.mpr ⟨rfl, List.forall_mem_cons.mpr ⟨rfl, List.forall_mem_cons.mpr ⟨rfl, List.forall_mem_cons.mpr ⟨rfl, List.forall_mem_cons.mpr ⟨rfl, List.forall_mem_cons.mpr ⟨rfl, List.forall_mem_cons.mpr ⟨rfl, fun _ h => absurd h List.not_mem_nil⟩⟩⟩⟩⟩⟩⟩) ?_
        exact q
      exact hr22 _ _ _ _ _ _ _ c2 c3 c4 c5 (w32_w _) (w32_w _)
  · refine xS_of (pc' := 65) (L' := [(0, xa 536), (2, xi x2), (3, xi x3), (4, xi x4), (5, xi x5), (6, xi x6), (7, xi x7)]) (st' := [xi x5]) (m' := m) (fun ex ns r q => ?_) ?_
    · refine xw_ic_geT rfl (w32_cg c7) (w32_cg (w32_xR _ _ _)) (Int.not_lt.mp h0) ?_
      refine xw_iload rfl rfl ?_
      exact q
    refine xS_if (fun h1 => ?_) (fun h1 => ?_)
    · refine xS_of (pc' := 82) (L' := [(7, xi 2), (0, xa 536), (2, xi x2), (3, xi x3), (4, xi x4), (5, xi x5), (6, xi x6)]) (st' := [xi x5]) (m' := m) (fun ex ns r q => ?_) ?_
      · refine xw_if_neF rfl (w32_cg c5) h1 ?_
        refine xw_iconst rfl ?_
        refine xw_goto rfl ?_
        refine xw_istore (L' := [(7, xi 2), (0, xa 536), (2, xi x2), (3, xi x3), (4, xi x4), (5, xi x5), (6, xi x6)]) rfl (by decide) rfl ?_
        refine xw_iload rfl rfl ?_
        exact q
      refine xS_if (fun h2 => ?_) (fun h2 => ?_)
      · refine xS_of (pc' := 90) (L' := [(7, xi 2), (0, xa 536), (2, xi x2), (3, xi x3), (4, xi x4), (5, xi x5), (6, xi x6)]) (st' := [xi 200, xi x6]) (m' := m) (fun ex ns r q => ?_) ?_
        · refine xw_if_leF rfl (w32_cg c5) (Int.not_le.mpr h2) ?_
          refine xw_iload rfl rfl ?_
          refine xw_sipush (e := 200) rfl (by decide +kernel) ?_
          exact q
        refine xS_if (fun h3 => ?_) (fun h3 => ?_)
        · refine xS_of (pc' := 100) (L' := [(7, xi 2), (0, xa 536), (2, xi x2), (3, xi x3), (4, xi x4), (5, xi x5), (6, xi x6)]) (st' := [xi (-2)]) (m' := m) (fun ex ns r q => ?_) ?_
          · refine xw_ic_eqT rfl (w32_cg c6) (w32_cg rfl) h3 ?_
            refine xw_bipush (e := (-2)) rfl (by decide +kernel) ?_
            exact q
          exact xS_ret (v := (-2)) rfl rfl xw_rtI rfl
        · refine xS_of (pc' := 93) (L' := [(0, xa 536), (2, xi x2), (3, xi x3), (4, xi x4), (5, xi x5), (7, xi 2)]) (st' := []) (m' := m) (fun ex ns r q => ?_) ?_
          · refine xw_ic_eqF rfl (w32_cg c6) (w32_cg rfl) h3 ?_
            refine xw_lo (L2 := [(0, xa 536), (2, xi x2), (3, xi x3), (4, xi x4), (5, xi x5), (7, xi 2)]) (List.forall_mem_cons.mpr ⟨rfl, List.forall_mem_cons.mpr ⟨rfl, List.forall_mem_cons.mpr ⟨rfl, List.forall_mem_cons.mpr ⟨rfl, List.forall_mem_cons.mpr ⟨rfl, List.forall_mem_cons.mpr ⟨rfl, fun _ h => absurd h List.not_mem_nil⟩⟩⟩⟩⟩⟩) ?_
            exact q
          exact ygk305_93 hB _ _ _ _ _ _ c2 c3 c4 c5 rfl
      · refine xS_of (pc' := 93) (L' := [(0, xa 536), (2, xi x2), (3, xi x3), (4, xi x4), (5, xi x5), (7, xi 2)]) (st' := []) (m' := m) (fun ex ns r q => ?_) ?_
        · refine xw_if_leT rfl (w32_cg c5) (Int.not_lt.mp h2) ?_
          refine xw_lo (L2 := [(0, xa 536), (2, xi x2), (3, xi x3), (4, xi x4), (5, xi x5), (7, xi 2)]) (List.forall_mem_cons.mpr ⟨rfl, List.forall_mem_cons.mpr ⟨rfl, List.forall_mem_cons.mpr ⟨rfl, List.forall_mem_cons.mpr ⟨rfl, List.forall_mem_cons.mpr ⟨rfl, List.forall_mem_cons.mpr ⟨rfl, fun _ h => absurd h List.not_mem_nil⟩⟩⟩⟩⟩⟩) ?_
          exact q
        exact ygk305_93 hB _ _ _ _ _ _ c2 c3 c4 c5 rfl
    · refine xS_of (pc' := 75) (L' := [(0, xa 536), (2, xi x2), (3, xi x3), (4, xi x4), (5, xi x5), (6, xi x6)]) (st' := [xi x5, xa 536]) (m' := m) (fun ex ns r q => ?_) ?_
      · refine xw_if_neT rfl (w32_cg c5) h1 ?_
        refine xw_aload_n rfl rfl rfl ?_
        refine xw_iload rfl rfl ?_
        refine xw_lo (L2 := [(0, xa 536), (2, xi x2), (3, xi x3), (4, xi x4), (5, xi x5), (6, xi x6)]) (List.forall_mem_cons.mpr ⟨rfl, List.forall_mem_cons.mpr ⟨rfl, List.forall_mem_cons.mpr ⟨rfl, List.forall_mem_cons.mpr ⟨rfl, List.forall_mem_cons.mpr ⟨rfl, List.forall_mem_cons.mpr ⟨rfl, fun _ h => absurd h List.not_mem_nil⟩⟩⟩⟩⟩⟩) ?_
        exact q
      refine xS_call (q := 307) (n := 2) (kq := 1) (as := [xa 536, xi x5]) (st1 := []) rfl rfl rfl rfl rfl rfl rfl rfl rfl rfl (fun _ => xw_rcv1 (t := 12) (xw_obd (by decide +kernel)) rfl) rfl (List.forall_mem_cons.mpr ⟨rfl, List.forall_mem_cons.mpr ⟨rfl, fun _ h => absurd h List.not_mem_nil⟩⟩) (ygf307 hB _ _ c5) (fun v2 m2 cv2 => ?_)
      refine xS_of (pc' := 82) (L' := [(7, xi v2), (0, xa 536), (2, xi x2), (3, xi x3), (4, xi x4), (5, xi x5), (6, xi x6)]) (st' := [xi x5]) (m' := m2) (fun ex ns r q => ?_) ?_
      · refine xw_istore (L' := [(7, xi v2), (0, xa 536), (2, xi x2), (3, xi x3), (4, xi x4), (5, xi x5), (6, xi x6)]) rfl (by decide) rfl ?_
        refine xw_iload rfl rfl ?_
        exact q
      refine xS_if (fun h2 => ?_) (fun h2 => ?_)
      · refine xS_of (pc' := 90) (L' := [(7, xi v2), (0, xa 536), (2, xi x2), (3, xi x3), (4, xi x4), (5, xi x5), (6, xi x6)]) (st' := [xi 200, xi x6]) (m' := m2) (fun ex ns r q => ?_) ?_
        · refine xw_if_leF rfl (w32_cg c5) (Int.not_le.mpr h2) ?_
          refine xw_iload rfl rfl ?_
          refine xw_sipush (e := 200) rfl (by decide +kernel) ?_
          exact q
        refine xS_if (fun h3 => ?_) (fun h3 => ?_)
        · refine xS_of (pc' := 100) (L' := [(7, xi v2), (0, xa 536), (2, xi x2), (3, xi x3), (4, xi x4), (5, xi x5), (6, xi x6)]) (st' := [xi (-2)]) (m' := m2) (fun ex ns r q => ?_) ?_
          · refine xw_ic_eqT rfl (w32_cg c6) (w32_cg rfl) h3 ?_
            refine xw_bipush (e := (-2)) rfl (by decide +kernel) ?_
            exact q
          exact xS_ret (v := (-2)) rfl rfl xw_rtI rfl
        · refine xS_of (pc' := 93) (L' := [(0, xa 536), (2, xi x2), (3, xi x3), (4, xi x4), (5, xi x5), (7, xi v2)]) (st' := []) (m' := m2) (fun ex ns r q => ?_) ?_
          · refine xw_ic_eqF rfl (w32_cg c6) (w32_cg rfl) h3 ?_
            refine xw_lo (L2 := [(0, xa 536), (2, xi x2), (3, xi x3), (4, xi x4), (5, xi x5), (7, xi v2)]) (List.forall_mem_cons.mpr ⟨rfl, List.forall_mem_cons.mpr ⟨rfl, List.forall_mem_cons.mpr ⟨rfl, List.forall_mem_cons.mpr ⟨rfl, List.forall_mem_cons.mpr ⟨rfl, List.forall_mem_cons.mpr ⟨rfl, fun _ h => absurd h List.not_mem_nil⟩⟩⟩⟩⟩⟩) ?_
            exact q
          exact ygk305_93 hB _ _ _ _ _ _ c2 c3 c4 c5 cv2
      · refine xS_of (pc' := 93) (L' := [(0, xa 536), (2, xi x2), (3, xi x3), (4, xi x4), (5, xi x5), (7, xi v2)]) (st' := []) (m' := m2) (fun ex ns r q => ?_) ?_
        · refine xw_if_leT rfl (w32_cg c5) (Int.not_lt.mp h2) ?_
          refine xw_lo (L2 := [(0, xa 536), (2, xi x2), (3, xi x3), (4, xi x4), (5, xi x5), (7, xi v2)]) (List.forall_mem_cons.mpr ⟨rfl, List.forall_mem_cons.mpr ⟨rfl, List.forall_mem_cons.mpr ⟨rfl, List.forall_mem_cons.mpr ⟨rfl, List.forall_mem_cons.mpr ⟨rfl, List.forall_mem_cons.mpr ⟨rfl, fun _ h => absurd h List.not_mem_nil⟩⟩⟩⟩⟩⟩) ?_
          exact q
        exact ygk305_93 hB _ _ _ _ _ _ c2 c3 c4 c5 cv2
theorem ygl305_22 {B : Nat} (hB : B ≤ 512) {xs : Nat → Int32} {SL d : Nat} : ∀ n x2 x3 x4 x5 x6 x7 m, w32 x2 = x2 → w32 x3 = x3 → w32 x4 = x4 → w32 x5 = x5 → w32 x6 = x6 → w32 x7 = x7 → xS B xs SL (d + 2) 305 (12, (some .int), [], 13) 1 22 [(0, xa 536), (2, xi x2), (3, xi x3), (4, xi x4), (5, xi x5), (6, xi x6), (7, xi x7)] [] m (xl6 (yl305_22 B) n x2 x3 x4 x5 x6 x7 m) := by
  intro n
  induction n with
  | zero => intro x2 x3 x4 x5 x6 x7 m c2 c3 c4 c5 c6 c7; exact xS_none
  | succ n ih => exact ysl305_22 hB ih
theorem ygf305 {B : Nat} (hB : B ≤ 512) {xs : Nat → Int32} {SL d : Nat} : ∀ p0 p1 p2 p3 m, w32 p0 = p0 → w32 p1 = p1 → w32 p2 = p2 → w32 p3 = p3 → xS B xs SL (d + 2) 305 (12, (some .int), [], 13) 1 0 [(0, xa 536), (1, xi p0), (2, xi p1), (3, xi p2), (4, xi p3)] [] m (yf305 B p0 p1 p2 p3 m) := by
  intro p0 p1 p2 p3 m cp0 cp1 cp2 cp3
  unfold yf305
  refine xS_g (fun g0 => ?_)
  refine xS_of (pc' := 22) (L' := [(0, xa 536), (2, xi p1), (3, xi p2), (4, xi p3), (5, xi ((w32 (p0 + 4095)) / 4096)), (6, xi 0), (7, xi 0)]) (st' := []) (m' := (xw_u m 536 57 0)) (fun ex ns r q => ?_) ?_
  · refine xw_aload_n rfl rfl rfl ?_
    refine xw_iconst rfl ?_
    refine xw_pfI rfl (xw_obd (by decide +kernel)) xk12_57 (qi := 57) rfl (xw_okZ rfl (Or.inl rfl)) ?_
    refine xw_iload_n rfl rfl ?_
    refine xw_sipush (e := 4095) rfl (by decide +kernel) ?_
    refine xw_iadd rfl ?_
    refine xw_sipush (e := 4096) rfl (by decide +kernel) ?_
    refine xw_cst (st' := [xi 4096, xi (w32 (p0 + 4095))]) (xw_sc rfl (xw_sc (xi_c rfl) rfl)) ?_
    refine xw_idiv (z := ((w32 (p0 + 4095)) / 4096)) rfl (xw_idivn ⟨(by decide), (w32_cg rfl).2⟩) (xw_idive ⟨g0, (w32_cg (w32_w _)).2⟩ ⟨(by decide), (w32_cg rfl).2⟩) ?_
    refine xw_istore (L' := [(5, xi ((w32 (p0 + 4095)) / 4096)), (0, xa 536), (1, xi p0), (2, xi p1), (3, xi p2), (4, xi p3)]) rfl (by decide) rfl ?_
    refine xw_iconst rfl ?_
    refine xw_istore (L' := [(6, xi 0), (5, xi ((w32 (p0 + 4095)) / 4096)), (0, xa 536), (1, xi p0), (2, xi p1), (3, xi p2), (4, xi p3)]) rfl (by decide) rfl ?_
    refine xw_iconst rfl ?_
    refine xw_istore (L' := [(7, xi 0), (6, xi 0), (5, xi ((w32 (p0 + 4095)) / 4096)), (0, xa 536), (1, xi p0), (2, xi p1), (3, xi p2), (4, xi p3)]) rfl (by decide) rfl ?_
    refine xw_lo (L2 := [(0, xa 536), (2, xi p1), (3, xi p2), (4, xi p3), (5, xi ((w32 (p0 + 4095)) / 4096)), (6, xi 0), (7, xi 0)]) (List.forall_mem_cons.mpr ⟨rfl, List.forall_mem_cons.mpr ⟨rfl, List.forall_mem_cons.mpr ⟨rfl, List.forall_mem_cons.mpr ⟨rfl, List.forall_mem_cons.mpr ⟨rfl, List.forall_mem_cons.mpr ⟨rfl, List.forall_mem_cons.mpr ⟨rfl, fun _ h => absurd h List.not_mem_nil⟩⟩⟩⟩⟩⟩⟩) ?_
    exact q
  exact ygl305_22 hB 1000000 _ _ _ _ _ _ _ cp1 cp2 cp3 (w32_dv (w32_w _) ⟨g0, (by decide)⟩) rfl rfl
theorem ysl311_2 {B : Nat} (hB : B ≤ 512) {xs : Nat → Int32} {SL d : Nat} {r2 : Int → Int → Int → xw_M → xP} (hr2 : ∀ x1 x2 x3 m, w32 x1 = x1 → w32 x2 = x2 → w32 x3 = x3 → xS B xs SL (d + 0) 311 (4, (some .int), [], 13) 1 2 [(0, xa 536), (1, xi x1), (2, xi x2), (3, xi x3)] [] m (r2 x1 x2 x3 m)) : ∀ x1 x2 x3 m, w32 x1 = x1 → w32 x2 = x2 → w32 x3 = x3 → xS B xs SL (d + 0) 311 (4, (some .int), [], 13) 1 2 [(0, xa 536), (1, xi x1), (2, xi x2), (3, xi x3)] [] m (yl311_2 B r2 x1 x2 x3 m) := by
  intro x1 x2 x3 m c1 c2 c3
  unfold yl311_2
  refine xS_of (pc' := 4) (L' := [(0, xa 536), (1, xi x1), (2, xi x2), (3, xi x3)]) (st' := [xi x2, xi x3]) (m' := m) (fun ex ns r q => ?_) ?_
  · refine xw_iload_n rfl rfl ?_
    refine xw_iload_n rfl rfl ?_
    exact q
  refine xS_if (fun h0 => ?_) (fun h0 => ?_)
  · refine xS_g (fun g1 => ?_)
    refine xS_of (pc' := 15) (L' := [(0, xa 536), (1, xi x1), (2, xi x2), (3, xi x3)]) (st' := [xj x1, xj (xJ m 594 x3)]) (m' := m) (fun ex ns r q => ?_) ?_
    · refine xw_ic_geF rfl (w32_cg c3) (w32_cg c2) (Int.not_le.mpr h0) ?_
      refine xw_aload_n rfl rfl rfl ?_
      refine xw_gfR (n := 594) (e := 594) rfl (xw_obd (by decide +kernel)) (by decide +kernel) (by decide +kernel) rfl ?_
      refine xw_iload_n rfl rfl ?_
      refine xw_laldc (n := 1024) (v := (m 594 x3)) (v' := (xJ m 594 x3)) rfl hB (xw_obd (by decide +kernel)) rfl g1 rfl rfl ?_
      refine xw_iload_n rfl rfl ?_
      refine xw_i2l rfl (w32_cg c1) ?_
      exact q
    refine xS_if (fun h2 => ?_) (fun h2 => ?_)
    · refine xS_of (pc' := 2) (L' := [(0, xa 536), (1, xi x1), (2, xi x2), (3, xi (w32 (x3 + 1)))]) (st' := []) (m' := m) (fun ex ns r q => ?_) ?_
      · refine xw_jc_geF rfl rfl (w64_cg (w64_xJ _ _ _)) (w64_cg (w64_32 c1)) (Int.not_le.mpr h2) ?_
        refine xw_iincc (z := (w32 (x3 + 1))) (L' := [(3, xi (w32 (x3 + 1))), (0, xa 536), (1, xi x1), (2, xi x2)]) rfl rfl (by decide) rfl rfl ?_
        refine xw_goto rfl ?_
        refine xw_lo (L2 := [(0, xa 536), (1, xi x1), (2, xi x2), (3, xi (w32 (x3 + 1)))]) (List.forall_mem_cons.mpr ⟨rfl, List.forall_mem_cons.mpr ⟨rfl, List.forall_mem_cons.mpr ⟨rfl, List.forall_mem_cons.mpr ⟨rfl, fun _ h => absurd h List.not_mem_nil⟩⟩⟩⟩) ?_
        exact q
      exact hr2 _ _ _ _ c1 c2 (w32_w _)
    · refine xS_of (pc' := 26) (L' := [(0, xa 536), (1, xi x1), (2, xi x2), (3, xi x3)]) (st' := [xi x3]) (m' := m) (fun ex ns r q => ?_) ?_
      · refine xw_jc_geT rfl rfl (w64_cg (w64_xJ _ _ _)) (w64_cg (w64_32 c1)) (Int.not_lt.mp h2) ?_
        refine xw_iload_n rfl rfl ?_
        exact q
      exact xS_ret (v := x3) rfl rfl xw_rtI c3
  · refine xS_of (pc' := 26) (L' := [(0, xa 536), (1, xi x1), (2, xi x2), (3, xi x3)]) (st' := [xi x3]) (m' := m) (fun ex ns r q => ?_) ?_
    · refine xw_ic_geT rfl (w32_cg c3) (w32_cg c2) (Int.not_lt.mp h0) ?_
      refine xw_iload_n rfl rfl ?_
      exact q
    exact xS_ret (v := x3) rfl rfl xw_rtI c3
theorem ygl311_2 {B : Nat} (hB : B ≤ 512) {xs : Nat → Int32} {SL d : Nat} : ∀ n x1 x2 x3 m, w32 x1 = x1 → w32 x2 = x2 → w32 x3 = x3 → xS B xs SL (d + 0) 311 (4, (some .int), [], 13) 1 2 [(0, xa 536), (1, xi x1), (2, xi x2), (3, xi x3)] [] m (xl3 (yl311_2 B) n x1 x2 x3 m) := by
  intro n
  induction n with
  | zero => intro x1 x2 x3 m c1 c2 c3; exact xS_none
  | succ n ih => exact ysl311_2 hB ih
theorem ygf311 {B : Nat} (hB : B ≤ 512) {xs : Nat → Int32} {SL d : Nat} : ∀ p0 p1 m, w32 p0 = p0 → w32 p1 = p1 → xS B xs SL (d + 0) 311 (4, (some .int), [], 13) 1 0 [(0, xa 536), (1, xi p0), (2, xi p1)] [] m (yf311 B p0 p1 m) := by
  intro p0 p1 m cp0 cp1
  unfold yf311
  refine xS_of (pc' := 2) (L' := [(0, xa 536), (1, xi p0), (2, xi p1), (3, xi 0)]) (st' := []) (m' := m) (fun ex ns r q => ?_) ?_
  · refine xw_iconst rfl ?_
    refine xw_istore_n (L' := [(3, xi 0), (0, xa 536), (1, xi p0), (2, xi p1)]) rfl (by decide) rfl ?_
    refine xw_lo (L2 := [(0, xa 536), (1, xi p0), (2, xi p1), (3, xi 0)]) (List.forall_mem_cons.mpr ⟨rfl, List.forall_mem_cons.mpr ⟨rfl, List.forall_mem_cons.mpr ⟨rfl, List.forall_mem_cons.mpr ⟨rfl, fun _ h => absurd h List.not_mem_nil⟩⟩⟩⟩) ?_
    exact q
  exact ygl311_2 hB 1000000 _ _ _ _ cp0 cp1 rfl
theorem ysl310_58 {B : Nat} (hB : B ≤ 512) {xs : Nat → Int32} {SL d : Nat} {r5 : Int → Int → Int → Int → xw_M → xP} (hr5 : ∀ x1 x2 x3 x4 m, w32 x1 = x1 → w32 x2 = x2 → w32 x3 = x3 → w32 x4 = x4 → xS B xs SL (d + 1) 310 (8, none, [], 13) 0 5 [(0, xa 536), (1, xi x1), (2, xi x2), (3, xi x3), (4, xi x4)] [] m (r5 x1 x2 x3 x4 m)) {r58 : Int → Int → Int → Int → Int → Int → Int → xw_M → xP} (hr58 : ∀ x1 x2 x3 x4 x5 x6 x7 m, w32 x1 = x1 → w32 x2 = x2 → w32 x3 = x3 → w32 x4 = x4 → w32 x5 = x5 → w32 x6 = x6 → w32 x7 = x7 → xS B xs SL (d + 1) 310 (8, none, [], 13) 0 58 [(0, xa 536), (1, xi x1), (2, xi x2), (3, xi x3), (4, xi x4), (5, xi x5), (6, xi x6), (7, xi x7)] [] m (r58 x1 x2 x3 x4 x5 x6 x7 m)) : ∀ x1 x2 x3 x4 x5 x6 x7 m, w32 x1 = x1 → w32 x2 = x2 → w32 x3 = x3 → w32 x4 = x4 → w32 x5 = x5 → w32 x6 = x6 → w32 x7 = x7 → xS B xs SL (d + 1) 310 (8, none, [], 13) 0 58 [(0, xa 536), (1, xi x1), (2, xi x2), (3, xi x3), (4, xi x4), (5, xi x5), (6, xi x6), (7, xi x7)] [] m (yl310_58 B r5 r58 x1 x2 x3 x4 x5 x6 x7 m) := by
  intro x1 x2 x3 x4 x5 x6 x7 m c1 c2 c3 c4 c5 c6 c7
  unfold yl310_58
  refine xS_of (pc' := 62) (L' := [(0, xa 536), (1, xi x1), (2, xi x2), (3, xi x3), (4, xi x4), (5, xi x5), (6, xi x6), (7, xi x7)]) (st' := [xi x6, xi x7]) (m' := m) (fun ex ns r q => ?_) ?_
  · refine xw_iload rfl rfl ?_
    refine xw_iload rfl rfl ?_
    exact q
  refine xS_if (fun h0 => ?_) (fun h0 => ?_)
  · refine xS_g (fun g1 => ?_)
    refine xS_g (fun g2 => ?_)
    refine xS_of (pc' := 58) (L' := [(0, xa 536), (1, xi x1), (2, xi x2), (3, xi x3), (4, xi x4), (5, xi x5), (6, xi x6), (7, xi (w32 (x7 + (-1))))]) (st' := []) (m' := (xw_u m 594 x7 (xJ m 594 (x7 - 1)))) (fun ex ns r q => ?_) ?_
    · refine xw_ic_leF rfl (w32_cg c7) (w32_cg c6) (Int.not_le.mpr h0) ?_
      refine xw_aload_n rfl rfl rfl ?_
      refine xw_gfR (n := 594) (e := 594) rfl (xw_obd (by decide +kernel)) (by decide +kernel) (by decide +kernel) rfl ?_
      refine xw_iload rfl rfl ?_
      refine xw_aload_n rfl rfl rfl ?_
      refine xw_gfR (n := 594) (e := 594) rfl (xw_obd (by decide +kernel)) (by decide +kernel) (by decide +kernel) rfl ?_
      refine xw_iload rfl rfl ?_
      refine xw_iconst rfl ?_
      refine xw_isub rfl ?_
      refine xw_laldc (n := 1024) (v := (m 594 (x7 - 1))) (v' := (xJ m 594 (x7 - 1))) rfl hB (xw_obd (by decide +kernel)) rfl g1 rfl rfl ?_
      refine xw_last (n := 1024) rfl hB (xw_obd (by decide +kernel)) rfl g2 ?_
      refine xw_iincc (z := (w32 (x7 + (-1)))) (L' := [(7, xi (w32 (x7 + (-1)))), (0, xa 536), (1, xi x1), (2, xi x2), (3, xi x3), (4, xi x4), (5, xi x5), (6, xi x6)]) rfl rfl (by decide) rfl rfl ?_
      refine xw_goto rfl ?_
      refine xw_lo (L2 := [(0, xa 536), (1, xi x1), (2, xi x2), (3, xi x3), (4, xi x4), (5, xi x5), (6, xi x6), (7, xi (w32 (x7 + (-1))))]) (List.forall_mem_cons.mpr ⟨rfl, List.forall_mem_cons.mpr ⟨rfl, List.forall_mem_cons.mpr ⟨rfl, List.forall_mem_cons.mpr ⟨rfl, List.forall_mem_cons.mpr ⟨rfl, List.forall_mem_cons.mpr ⟨rfl, List.forall_mem_cons.mpr ⟨rfl, List.forall_mem_cons.mpr ⟨rfl, fun _ h => absurd h List.not_mem_nil⟩⟩⟩⟩⟩⟩⟩⟩) ?_
      exact q
    exact hr58 _ _ _ _ _ _ _ _ c1 c2 c3 c4 c5 c6 (w32_w _)
  · refine xS_g (fun g1 => ?_)
    refine xS_of (pc' := 5) (L' := [(0, xa 536), (1, xi x1), (2, xi x2), (3, xi (w32 (x3 + 1))), (4, xi (w32 (x4 + 1)))]) (st' := []) (m' := (xw_u m 594 x6 x5)) (fun ex ns r q => ?_) ?_
    · refine xw_ic_leT rfl (w32_cg c7) (w32_cg c6) (Int.not_lt.mp h0) ?_
      refine xw_aload_n rfl rfl rfl ?_
      refine xw_gfR (n := 594) (e := 594) rfl (xw_obd (by decide +kernel)) (by decide +kernel) (by decide +kernel) rfl ?_
      refine xw_iload rfl rfl ?_
      refine xw_iload rfl rfl ?_
      refine xw_i2l rfl (w32_cg c5) ?_
      refine xw_last (n := 1024) rfl hB (xw_obd (by decide +kernel)) rfl g1 ?_
      refine xw_iincc (z := (w32 (x3 + 1))) (L' := [(3, xi (w32 (x3 + 1))), (0, xa 536), (1, xi x1), (2, xi x2), (4, xi x4), (5, xi x5), (6, xi x6), (7, xi x7)]) rfl rfl (by decide) rfl rfl ?_
      refine xw_iincc (z := (w32 (x4 + 1))) (L' := [(4, xi (w32 (x4 + 1))), (3, xi (w32 (x3 + 1))), (0, xa 536), (1, xi x1), (2, xi x2), (5, xi x5), (6, xi x6), (7, xi x7)]) rfl rfl (by decide) rfl rfl ?_
      refine xw_goto rfl ?_
      refine xw_lo (L2 := [(0, xa 536), (1, xi x1), (2, xi x2), (3, xi (w32 (x3 + 1))), (4, xi (w32 (x4 + 1)))]) (List.forall_mem_cons.mpr ⟨rfl, List.forall_mem_cons.mpr ⟨rfl, List.forall_mem_cons.mpr ⟨rfl, List.forall_mem_cons.mpr ⟨rfl, List.forall_mem_cons.mpr ⟨rfl, fun _ h => absurd h List.not_mem_nil⟩⟩⟩⟩⟩) ?_
      exact q
    exact hr5 _ _ _ _ _ c1 c2 (w32_w _) (w32_w _)
theorem ygl310_58 {B : Nat} (hB : B ≤ 512) {xs : Nat → Int32} {SL d : Nat} {r5 : Int → Int → Int → Int → xw_M → xP} (hr5 : ∀ x1 x2 x3 x4 m, w32 x1 = x1 → w32 x2 = x2 → w32 x3 = x3 → w32 x4 = x4 → xS B xs SL (d + 1) 310 (8, none, [], 13) 0 5 [(0, xa 536), (1, xi x1), (2, xi x2), (3, xi x3), (4, xi x4)] [] m (r5 x1 x2 x3 x4 m)) : ∀ n x1 x2 x3 x4 x5 x6 x7 m, w32 x1 = x1 → w32 x2 = x2 → w32 x3 = x3 → w32 x4 = x4 → w32 x5 = x5 → w32 x6 = x6 → w32 x7 = x7 → xS B xs SL (d + 1) 310 (8, none, [], 13) 0 58 [(0, xa 536), (1, xi x1), (2, xi x2), (3, xi x3), (4, xi x4), (5, xi x5), (6, xi x6), (7, xi x7)] [] m (xl7 (yl310_58 B r5) n x1 x2 x3 x4 x5 x6 x7 m) := by
  intro n
  induction n with
  | zero => intro x1 x2 x3 x4 x5 x6 x7 m c1 c2 c3 c4 c5 c6 c7; exact xS_none
  | succ n ih => exact ysl310_58 hB hr5 ih
theorem ysl310_109 {B : Nat} (hB : B ≤ 512) {xs : Nat → Int32} {SL d : Nat} {r109 : Int → Int → Int → Int → xw_M → xP} (hr109 : ∀ x1 x2 x3 x4 m, w32 x1 = x1 → w32 x2 = x2 → w32 x3 = x3 → w32 x4 = x4 → xS B xs SL (d + 1) 310 (8, none, [], 13) 0 109 [(0, xa 536), (1, xi x1), (2, xi x2), (3, xi x3), (4, xi x4)] [] m (r109 x1 x2 x3 x4 m)) : ∀ x1 x2 x3 x4 m, w32 x1 = x1 → w32 x2 = x2 → w32 x3 = x3 → w32 x4 = x4 → xS B xs SL (d + 1) 310 (8, none, [], 13) 0 109 [(0, xa 536), (1, xi x1), (2, xi x2), (3, xi x3), (4, xi x4)] [] m (yl310_109 B r109 x1 x2 x3 x4 m) := by
  intro x1 x2 x3 x4 m c1 c2 c3 c4
  unfold yl310_109
  refine xS_g (fun g0 => ?_)
  refine xS_of (pc' := 117) (L' := [(0, xa 536), (1, xi x1), (2, xi x2), (3, xi x3), (4, xi x4)]) (st' := [xi (xR m 539 x1), xi x4]) (m' := m) (fun ex ns r q => ?_) ?_
  · refine xw_iload rfl rfl ?_
    refine xw_aload_n rfl rfl rfl ?_
    refine xw_gfR (n := 539) (e := 539) rfl (xw_obd (by decide +kernel)) (by decide +kernel) (by decide +kernel) rfl ?_
    refine xw_iload_n rfl rfl ?_
    refine xw_ialdc (n := 8) (v := (m 539 x1)) (v' := (xR m 539 x1)) rfl hB (xw_obd (by decide +kernel)) rfl g0 rfl rfl ?_
    exact q
  refine xS_if (fun h1 => ?_) (fun h1 => ?_)
  · refine xS_of (pc' := 142) (L' := [(0, xa 536), (1, xi x1), (2, xi x2), (3, xi x3), (4, xi x4)]) (st' := [xi x4, xi x2, xi x1, xa 536, xa 536, xi (((4000 * x1) + (4 * x4)) + x2), xa 573]) (m' := m) (fun ex ns r q => ?_) ?_
    · refine xw_ic_geF rfl (w32_cg c4) (w32_cg (w32_xR _ _ _)) (Int.not_le.mpr h1) ?_
      refine xw_aload_n rfl rfl rfl ?_
      refine xw_gfR (n := 573) (e := 573) rfl (xw_obd (by decide +kernel)) (by decide +kernel) (by decide +kernel) rfl ?_
      refine xw_sipush (e := 4000) rfl (by decide +kernel) ?_
      refine xw_iload_n rfl rfl ?_
      refine xw_imul rfl ?_
      refine xw_iconst rfl ?_
      refine xw_iload rfl rfl ?_
      refine xw_imul rfl ?_
      refine xw_iadd rfl ?_
      refine xw_iload_n rfl rfl ?_
      refine xw_iadd rfl ?_
      refine xw_aload_n rfl rfl rfl ?_
      refine xw_aload_n rfl rfl rfl ?_
      refine xw_iload_n rfl rfl ?_
      refine xw_iload_n rfl rfl ?_
      refine xw_iload rfl rfl ?_
      refine xw_lo (L2 := [(0, xa 536), (1, xi x1), (2, xi x2), (3, xi x3), (4, xi x4)]) (List.forall_mem_cons.mpr ⟨rfl, List.forall_mem_cons.mpr ⟨rfl, List.forall_mem_cons.mpr ⟨rfl, List.forall_mem_cons.mpr ⟨rfl, List.forall_mem_cons.mpr ⟨rfl, fun _ h => absurd h List.not_mem_nil⟩⟩⟩⟩⟩) ?_
      exact q
    refine xS_call (q := 289) (n := 4) (kq := 1) (as := [xa 536, xi x1, xi x2, xi x4]) (st1 := [xa 536, xi (((4000 * x1) + (4 * x4)) + x2), xa 573]) rfl rfl rfl rfl rfl rfl rfl rfl rfl rfl (fun _ => xw_rcv1 (t := 12) (xw_obd (by decide +kernel)) rfl) rfl (List.forall_mem_cons.mpr ⟨rfl, List.forall_mem_cons.mpr ⟨rfl, List.forall_mem_cons.mpr ⟨rfl, List.forall_mem_cons.mpr ⟨rfl, fun _ h => absurd h List.not_mem_nil⟩⟩⟩⟩) (ygf289 hB _ _ _ _ c1 c2 c4) (fun v1 m1 cv1 => ?_)
    refine xS_of (pc' := 146) (L' := [(0, xa 536), (1, xi x1), (2, xi x2), (3, xi x3), (4, xi x4)]) (st' := [xi x3, xi v1, xa 536, xi (((4000 * x1) + (4 * x4)) + x2), xa 573]) (m' := m1) (fun ex ns r q => ?_) ?_
    · refine xw_iload_n rfl rfl ?_
      refine xw_lo (L2 := [(0, xa 536), (1, xi x1), (2, xi x2), (3, xi x3), (4, xi x4)]) (List.forall_mem_cons.mpr ⟨rfl, List.forall_mem_cons.mpr ⟨rfl, List.forall_mem_cons.mpr ⟨rfl, List.forall_mem_cons.mpr ⟨rfl, List.forall_mem_cons.mpr ⟨rfl, fun _ h => absurd h List.not_mem_nil⟩⟩⟩⟩⟩) ?_
      exact q
    refine xS_call (q := 311) (n := 3) (kq := 1) (as := [xa 536, xi v1, xi x3]) (st1 := [xi (((4000 * x1) + (4 * x4)) + x2), xa 573]) rfl rfl rfl rfl rfl rfl rfl rfl rfl rfl (fun _ => xw_rcv1 (t := 12) (xw_obd (by decide +kernel)) rfl) rfl (List.forall_mem_cons.mpr ⟨rfl, List.forall_mem_cons.mpr ⟨rfl, List.forall_mem_cons.mpr ⟨rfl, fun _ h => absurd h List.not_mem_nil⟩⟩⟩) (ygf311 hB _ _ _ cv1 c3) (fun v2 m2 cv2 => ?_)
    refine xS_g (fun g2 => ?_)
    refine xS_of (pc' := 109) (L' := [(0, xa 536), (1, xi x1), (2, xi x2), (3, xi x3), (4, xi (w32 (x4 + 1)))]) (st' := []) (m' := (xw_u m2 573 (((4000 * x1) + (4 * x4)) + x2) v2)) (fun ex ns r q => ?_) ?_
    · refine xw_iast (n := 32000) rfl hB (xw_obd (by decide +kernel)) rfl g2 ?_
      refine xw_iincc (z := (w32 (x4 + 1))) (L' := [(4, xi (w32 (x4 + 1))), (0, xa 536), (1, xi x1), (2, xi x2), (3, xi x3)]) rfl rfl (by decide) rfl rfl ?_
      refine xw_goto rfl ?_
      refine xw_lo (L2 := [(0, xa 536), (1, xi x1), (2, xi x2), (3, xi x3), (4, xi (w32 (x4 + 1)))]) (List.forall_mem_cons.mpr ⟨rfl, List.forall_mem_cons.mpr ⟨rfl, List.forall_mem_cons.mpr ⟨rfl, List.forall_mem_cons.mpr ⟨rfl, List.forall_mem_cons.mpr ⟨rfl, fun _ h => absurd h List.not_mem_nil⟩⟩⟩⟩⟩) ?_
      exact q
    exact hr109 _ _ _ _ _ c1 c2 c3 (w32_w _)
  · refine xS_g (fun g2 => ?_)
    refine xS_of (pc' := 167) (L' := [(0, xa 536), (1, xi x1), (2, xi x2), (3, xi x3), (4, xi x4)]) (st' := []) (m' := (xw_u m 574 ((4 * x1) + x2) x3)) (fun ex ns r q => ?_) ?_
    · refine xw_ic_geT rfl (w32_cg c4) (w32_cg (w32_xR _ _ _)) (Int.not_lt.mp h1) ?_
      refine xw_aload_n rfl rfl rfl ?_
      refine xw_gfR (n := 574) (e := 574) rfl (xw_obd (by decide +kernel)) (by decide +kernel) (by decide +kernel) rfl ?_
      refine xw_iconst rfl ?_
      refine xw_iload_n rfl rfl ?_
      refine xw_imul rfl ?_
      refine xw_iload_n rfl rfl ?_
      refine xw_iadd rfl ?_
      refine xw_iload_n rfl rfl ?_
      refine xw_iast (n := 32) rfl hB (xw_obd (by decide +kernel)) rfl g2 ?_
      exact q
    exact xS_ret (v := 0) rfl rfl rfl rfl
theorem ygl310_109 {B : Nat} (hB : B ≤ 512) {xs : Nat → Int32} {SL d : Nat} : ∀ n x1 x2 x3 x4 m, w32 x1 = x1 → w32 x2 = x2 → w32 x3 = x3 → w32 x4 = x4 → xS B xs SL (d + 1) 310 (8, none, [], 13) 0 109 [(0, xa 536), (1, xi x1), (2, xi x2), (3, xi x3), (4, xi x4)] [] m (xl4 (yl310_109 B) n x1 x2 x3 x4 m) := by
  intro n
  induction n with
  | zero => intro x1 x2 x3 x4 m c1 c2 c3 c4; exact xS_none
  | succ n ih => exact ysl310_109 hB ih
theorem ysl310_5 {B : Nat} (hB : B ≤ 512) {xs : Nat → Int32} {SL d : Nat} {r5 : Int → Int → Int → Int → xw_M → xP} (hr5 : ∀ x1 x2 x3 x4 m, w32 x1 = x1 → w32 x2 = x2 → w32 x3 = x3 → w32 x4 = x4 → xS B xs SL (d + 1) 310 (8, none, [], 13) 0 5 [(0, xa 536), (1, xi x1), (2, xi x2), (3, xi x3), (4, xi x4)] [] m (r5 x1 x2 x3 x4 m)) : ∀ x1 x2 x3 x4 m, w32 x1 = x1 → w32 x2 = x2 → w32 x3 = x3 → w32 x4 = x4 → xS B xs SL (d + 1) 310 (8, none, [], 13) 0 5 [(0, xa 536), (1, xi x1), (2, xi x2), (3, xi x3), (4, xi x4)] [] m (yl310_5 B r5 x1 x2 x3 x4 m) := by
  intro x1 x2 x3 x4 m c1 c2 c3 c4
  unfold yl310_5
  refine xS_g (fun g0 => ?_)
  refine xS_of (pc' := 13) (L' := [(0, xa 536), (1, xi x1), (2, xi x2), (3, xi x3), (4, xi x4)]) (st' := [xi (xR m 539 x1), xi x4]) (m' := m) (fun ex ns r q => ?_) ?_
  · refine xw_iload rfl rfl ?_
    refine xw_aload_n rfl rfl rfl ?_
    refine xw_gfR (n := 539) (e := 539) rfl (xw_obd (by decide +kernel)) (by decide +kernel) (by decide +kernel) rfl ?_
    refine xw_iload_n rfl rfl ?_
    refine xw_ialdc (n := 8) (v := (m 539 x1)) (v' := (xR m 539 x1)) rfl hB (xw_obd (by decide +kernel)) rfl g0 rfl rfl ?_
    exact q
  refine xS_if (fun h1 => ?_) (fun h1 => ?_)
  · refine xS_of (pc' := 21) (L' := [(0, xa 536), (1, xi x1), (2, xi x2), (3, xi x3), (4, xi x4)]) (st' := [xi x4, xi x2, xi x1, xa 536]) (m' := m) (fun ex ns r q => ?_) ?_
    · refine xw_ic_geF rfl (w32_cg c4) (w32_cg (w32_xR _ _ _)) (Int.not_le.mpr h1) ?_
      refine xw_aload_n rfl rfl rfl ?_
      refine xw_iload_n rfl rfl ?_
      refine xw_iload_n rfl rfl ?_
      refine xw_iload rfl rfl ?_
      refine xw_lo (L2 := [(0, xa 536), (1, xi x1), (2, xi x2), (3, xi x3), (4, xi x4)]) (List.forall_mem_cons.mpr ⟨rfl, List.forall_mem_cons.mpr ⟨rfl, List.forall_mem_cons.mpr ⟨rfl, List.forall_mem_cons.mpr ⟨rfl, List.forall_mem_cons.mpr ⟨rfl, fun _ h => absurd h List.not_mem_nil⟩⟩⟩⟩⟩) ?_
      exact q
    refine xS_call (q := 289) (n := 4) (kq := 1) (as := [xa 536, xi x1, xi x2, xi x4]) (st1 := []) rfl rfl rfl rfl rfl rfl rfl rfl rfl rfl (fun _ => xw_rcv1 (t := 12) (xw_obd (by decide +kernel)) rfl) rfl (List.forall_mem_cons.mpr ⟨rfl, List.forall_mem_cons.mpr ⟨rfl, List.forall_mem_cons.mpr ⟨rfl, List.forall_mem_cons.mpr ⟨rfl, fun _ h => absurd h List.not_mem_nil⟩⟩⟩⟩) (ygf289 hB _ _ _ _ c1 c2 c4) (fun v1 m1 cv1 => ?_)
    refine xS_of (pc' := 30) (L' := [(0, xa 536), (1, xi x1), (2, xi x2), (3, xi x3), (4, xi x4), (5, xi v1)]) (st' := [xi x3, xi v1, xa 536]) (m' := m1) (fun ex ns r q => ?_) ?_
    · refine xw_istore (L' := [(5, xi v1), (0, xa 536), (1, xi x1), (2, xi x2), (3, xi x3), (4, xi x4)]) rfl (by decide) rfl ?_
      refine xw_aload_n rfl rfl rfl ?_
      refine xw_iload rfl rfl ?_
      refine xw_iload_n rfl rfl ?_
      refine xw_lo (L2 := [(0, xa 536), (1, xi x1), (2, xi x2), (3, xi x3), (4, xi x4), (5, xi v1)]) (List.forall_mem_cons.mpr ⟨rfl, List.forall_mem_cons.mpr ⟨rfl, List.forall_mem_cons.mpr ⟨rfl, List.forall_mem_cons.mpr ⟨rfl, List.forall_mem_cons.mpr ⟨rfl, List.forall_mem_cons.mpr ⟨rfl, fun _ h => absurd h List.not_mem_nil⟩⟩⟩⟩⟩⟩) ?_
      exact q
    refine xS_call (q := 311) (n := 3) (kq := 1) (as := [xa 536, xi v1, xi x3]) (st1 := []) rfl rfl rfl rfl rfl rfl rfl rfl rfl rfl (fun _ => xw_rcv1 (t := 12) (xw_obd (by decide +kernel)) rfl) rfl (List.forall_mem_cons.mpr ⟨rfl, List.forall_mem_cons.mpr ⟨rfl, List.forall_mem_cons.mpr ⟨rfl, fun _ h => absurd h List.not_mem_nil⟩⟩⟩) (ygf311 hB _ _ _ cv1 c3) (fun v2 m2 cv2 => ?_)
    refine xS_of (pc' := 38) (L' := [(6, xi v2), (0, xa 536), (1, xi x1), (2, xi x2), (3, xi x3), (4, xi x4), (5, xi v1)]) (st' := [xi x3, xi v2]) (m' := m2) (fun ex ns r q => ?_) ?_
    · refine xw_istore (L' := [(6, xi v2), (0, xa 536), (1, xi x1), (2, xi x2), (3, xi x3), (4, xi x4), (5, xi v1)]) rfl (by decide) rfl ?_
      refine xw_iload rfl rfl ?_
      refine xw_iload_n rfl rfl ?_
      exact q
    refine xS_if (fun h2 => ?_) (fun h2 => ?_)
    · refine xS_of (pc' := 58) (L' := [(0, xa 536), (1, xi x1), (2, xi x2), (3, xi x3), (4, xi x4), (5, xi v1), (6, xi v2), (7, xi x3)]) (st' := []) (m' := m2) (fun ex ns r q => ?_) ?_
      · refine xw_ic_eqT rfl (w32_cg cv2) (w32_cg c3) h2 ?_
        refine xw_iload_n rfl rfl ?_
        refine xw_istore (L' := [(7, xi x3), (6, xi v2), (0, xa 536), (1, xi x1), (2, xi x2), (3, xi x3), (4, xi x4), (5, xi v1)]) rfl (by decide) rfl ?_
        refine xw_lo (L2 := [(0, xa 536), (1, xi x1), (2, xi x2), (3, xi x3), (4, xi x4), (5, xi v1), (6, xi v2), (7, xi x3)]) (List.forall_mem_cons.mpr ⟨rfl, List.forall_mem_cons.mpr ⟨rfl, List.forall_mem_cons.mpr ⟨rfl, List.forall_mem_cons.mpr ⟨rfl, List.forall_mem_cons.mpr ⟨rfl, List.forall_mem_cons.mpr ⟨rfl, List.forall_mem_cons.mpr ⟨rfl, List.forall_mem_cons.mpr ⟨rfl, fun _ h => absurd h List.not_mem_nil⟩⟩⟩⟩⟩⟩⟩⟩) ?_
        exact q
      exact ygl310_58 hB hr5 1000000 _ _ _ _ _ _ _ _ c1 c2 c3 c4 cv1 cv2 c3
    · refine xS_g (fun g3 => ?_)
      refine xS_of (pc' := 51) (L' := [(6, xi v2), (0, xa 536), (1, xi x1), (2, xi x2), (3, xi x3), (4, xi x4), (5, xi v1)]) (st' := [xj v1, xj (xJ m2 594 v2)]) (m' := m2) (fun ex ns r q => ?_) ?_
      · refine xw_ic_eqF rfl (w32_cg cv2) (w32_cg c3) h2 ?_
        refine xw_aload_n rfl rfl rfl ?_
        refine xw_gfR (n := 594) (e := 594) rfl (xw_obd (by decide +kernel)) (by decide +kernel) (by decide +kernel) rfl ?_
        refine xw_iload rfl rfl ?_
        refine xw_laldc (n := 1024) (v := (m2 594 v2)) (v' := (xJ m2 594 v2)) rfl hB (xw_obd (by decide +kernel)) rfl g3 rfl rfl ?_
        refine xw_iload rfl rfl ?_
        refine xw_i2l rfl (w32_cg cv1) ?_
        exact q
      refine xS_if (fun h4 => ?_) (fun h4 => ?_)
      · refine xS_of (pc' := 5) (L' := [(0, xa 536), (1, xi x1), (2, xi x2), (3, xi x3), (4, xi (w32 (x4 + 1)))]) (st' := []) (m' := m2) (fun ex ns r q => ?_) ?_
        · refine xw_jc_eqT rfl rfl (w64_cg (w64_xJ _ _ _)) (w64_cg (w64_32 cv1)) h4 ?_
          refine xw_iincc (z := (w32 (x4 + 1))) (L' := [(4, xi (w32 (x4 + 1))), (6, xi v2), (0, xa 536), (1, xi x1), (2, xi x2), (3, xi x3), (5, xi v1)]) rfl rfl (by decide) rfl rfl ?_
          refine xw_goto rfl ?_
          refine xw_lo (L2 := [(0, xa 536), (1, xi x1), (2, xi x2), (3, xi x3), (4, xi (w32 (x4 + 1)))]) (List.forall_mem_cons.mpr ⟨rfl, List.forall_mem_cons.mpr ⟨rfl, List.forall_mem_cons.mpr ⟨rfl, List.forall_mem_cons.mpr ⟨rfl, List.forall_mem_cons.mpr ⟨rfl, fun _ h => absurd h List.not_mem_nil⟩⟩⟩⟩⟩) ?_
          exact q
        exact hr5 _ _ _ _ _ c1 c2 c3 (w32_w _)
      · refine xS_of (pc' := 58) (L' := [(0, xa 536), (1, xi x1), (2, xi x2), (3, xi x3), (4, xi x4), (5, xi v1), (6, xi v2), (7, xi x3)]) (st' := []) (m' := m2) (fun ex ns r q => ?_) ?_
        · refine xw_jc_eqF rfl rfl (w64_cg (w64_xJ _ _ _)) (w64_cg (w64_32 cv1)) h4 ?_
          refine xw_iload_n rfl rfl ?_
          refine xw_istore (L' := [(7, xi x3), (6, xi v2), (0, xa 536), (1, xi x1), (2, xi x2), (3, xi x3), (4, xi x4), (5, xi v1)]) rfl (by decide) rfl ?_
          refine xw_lo (L2 := [(0, xa 536), (1, xi x1), (2, xi x2), (3, xi x3), (4, xi x4), (5, xi v1), (6, xi v2), (7, xi x3)]) (List.forall_mem_cons.mpr ⟨rfl, List.forall_mem_cons.mpr ⟨rfl, List.forall_mem_cons.mpr ⟨rfl, List.forall_mem_cons.mpr ⟨rfl, List.forall_mem_cons.mpr ⟨rfl, List.forall_mem_cons.mpr ⟨rfl, List.forall_mem_cons.mpr ⟨rfl, List.forall_mem_cons.mpr ⟨rfl, fun _ h => absurd h List.not_mem_nil⟩⟩⟩⟩⟩⟩⟩⟩) ?_
          exact q
        exact ygl310_58 hB hr5 1000000 _ _ _ _ _ _ _ _ c1 c2 c3 c4 cv1 cv2 c3
  · refine xS_of (pc' := 109) (L' := [(0, xa 536), (1, xi x1), (2, xi x2), (3, xi x3), (4, xi 0)]) (st' := []) (m' := m) (fun ex ns r q => ?_) ?_
    · refine xw_ic_geT rfl (w32_cg c4) (w32_cg (w32_xR _ _ _)) (Int.not_lt.mp h1) ?_
      refine xw_iconst rfl ?_
      refine xw_istore (L' := [(4, xi 0), (0, xa 536), (1, xi x1), (2, xi x2), (3, xi x3)]) rfl (by decide) rfl ?_
      refine xw_lo (L2 := [(0, xa 536), (1, xi x1), (2, xi x2), (3, xi x3), (4, xi 0)]) (List.forall_mem_cons.mpr ⟨rfl, List.forall_mem_cons.mpr ⟨rfl, List.forall_mem_cons.mpr ⟨rfl, List.forall_mem_cons.mpr ⟨rfl, List.forall_mem_cons.mpr ⟨rfl, fun _ h => absurd h List.not_mem_nil⟩⟩⟩⟩⟩) ?_
      exact q
    exact ygl310_109 hB 1000000 _ _ _ _ _ c1 c2 c3 rfl
theorem ygl310_5 {B : Nat} (hB : B ≤ 512) {xs : Nat → Int32} {SL d : Nat} : ∀ n x1 x2 x3 x4 m, w32 x1 = x1 → w32 x2 = x2 → w32 x3 = x3 → w32 x4 = x4 → xS B xs SL (d + 1) 310 (8, none, [], 13) 0 5 [(0, xa 536), (1, xi x1), (2, xi x2), (3, xi x3), (4, xi x4)] [] m (xl4 (yl310_5 B) n x1 x2 x3 x4 m) := by
  intro n
  induction n with
  | zero => intro x1 x2 x3 x4 m c1 c2 c3 c4; exact xS_none
  | succ n ih => exact ysl310_5 hB ih
theorem ygf310 {B : Nat} (hB : B ≤ 512) {xs : Nat → Int32} {SL d : Nat} : ∀ p0 p1 m, w32 p0 = p0 → w32 p1 = p1 → xS B xs SL (d + 1) 310 (8, none, [], 13) 0 0 [(0, xa 536), (1, xi p0), (2, xi p1)] [] m (yf310 B p0 p1 m) := by
  intro p0 p1 m cp0 cp1
  unfold yf310
  refine xS_of (pc' := 5) (L' := [(0, xa 536), (1, xi p0), (2, xi p1), (3, xi 0), (4, xi 0)]) (st' := []) (m' := m) (fun ex ns r q => ?_) ?_
  · refine xw_iconst rfl ?_
    refine xw_istore_n (L' := [(3, xi 0), (0, xa 536), (1, xi p0), (2, xi p1)]) rfl (by decide) rfl ?_
    refine xw_iconst rfl ?_
    refine xw_istore (L' := [(4, xi 0), (3, xi 0), (0, xa 536), (1, xi p0), (2, xi p1)]) rfl (by decide) rfl ?_
    refine xw_lo (L2 := [(0, xa 536), (1, xi p0), (2, xi p1), (3, xi 0), (4, xi 0)]) (List.forall_mem_cons.mpr ⟨rfl, List.forall_mem_cons.mpr ⟨rfl, List.forall_mem_cons.mpr ⟨rfl, List.forall_mem_cons.mpr ⟨rfl, List.forall_mem_cons.mpr ⟨rfl, fun _ h => absurd h List.not_mem_nil⟩⟩⟩⟩⟩) ?_
    exact q
  exact ygl310_5 hB 1000000 _ _ _ _ _ cp0 cp1 rfl rfl
theorem ysl309_78 {B : Nat} (hB : B ≤ 512) {xs : Nat → Int32} {SL d : Nat} {r2 : Int → Int → xw_M → xP} (hr2 : ∀ x1 x2 m, w32 x1 = x1 → w32 x2 = x2 → xS B xs SL (d + 2) 309 (8, none, [], 13) 0 2 [(0, xa 536), (1, xi x1), (2, xi x2)] [] m (r2 x1 x2 m)) {r78 : Int → Int → Int → Int → xw_M → xP} (hr78 : ∀ x1 x2 x3 x4 m, w32 x1 = x1 → w32 x2 = x2 → w32 x3 = x3 → w32 x4 = x4 → xS B xs SL (d + 2) 309 (8, none, [], 13) 0 78 [(0, xa 536), (1, xi x1), (2, xi x2), (3, xi x3), (4, xi x4)] [] m (r78 x1 x2 x3 x4 m)) : ∀ x1 x2 x3 x4 m, w32 x1 = x1 → w32 x2 = x2 → w32 x3 = x3 → w32 x4 = x4 → xS B xs SL (d + 2) 309 (8, none, [], 13) 0 78 [(0, xa 536), (1, xi x1), (2, xi x2), (3, xi x3), (4, xi x4)] [] m (yl309_78 B r2 r78 x1 x2 x3 x4 m) := by
  intro x1 x2 x3 x4 m c1 c2 c3 c4
  unfold yl309_78
  refine xS_of (pc' := 81) (L' := [(0, xa 536), (1, xi x1), (2, xi x2), (3, xi x3), (4, xi x4)]) (st' := [xi 4, xi x4]) (m' := m) (fun ex ns r q => ?_) ?_
  · refine xw_iload rfl rfl ?_
    refine xw_iconst rfl ?_
    exact q
  refine xS_if (fun h0 => ?_) (fun h0 => ?_)
  · refine xS_g (fun g1 => ?_)
    refine xS_g (fun g2 => ?_)
    refine xS_of (pc' := 78) (L' := [(0, xa 536), (1, xi x1), (2, xi x2), (3, xi x3), (4, xi (w32 (x4 + 1)))]) (st' := []) (m' := (xw_u (xw_u m 540 (w32 (((4000 * x1) + (4 * x2)) + x4)) (xR m 540 (w32 (((4000 * x1) + (4 * x3)) + x4)))) 540 (w32 (((4000 * x1) + (4 * x3)) + x4)) (xR m 540 (w32 (((4000 * x1) + (4 * x2)) + x4))))) (fun ex ns r q => ?_) ?_
    · refine xw_ic_geF rfl (w32_cg c4) (w32_cg rfl) (Int.not_le.mpr h0) ?_
      refine xw_sipush (e := 4000) rfl (by decide +kernel) ?_
      refine xw_iload_n rfl rfl ?_
      refine xw_imul rfl ?_
      refine xw_iconst rfl ?_
      refine xw_iload_n rfl rfl ?_
      refine xw_imul rfl ?_
      refine xw_iadd rfl ?_
      refine xw_iload rfl rfl ?_
      refine xw_iadd rfl ?_
      refine xw_cst (st' := [xi (w32 (((4000 * x1) + (4 * x2)) + x4))]) (xw_sc (xi_c rfl) rfl) ?_
      refine xw_istore (L' := [(5, xi (w32 (((4000 * x1) + (4 * x2)) + x4))), (0, xa 536), (1, xi x1), (2, xi x2), (3, xi x3), (4, xi x4)]) rfl (by decide) rfl ?_
      refine xw_sipush (e := 4000) rfl (by decide +kernel) ?_
      refine xw_iload_n rfl rfl ?_
      refine xw_imul rfl ?_
      refine xw_iconst rfl ?_
      refine xw_iload_n rfl rfl ?_
      refine xw_imul rfl ?_
      refine xw_iadd rfl ?_
      refine xw_iload rfl rfl ?_
      refine xw_iadd rfl ?_
      refine xw_cst (st' := [xi (w32 (((4000 * x1) + (4 * x3)) + x4))]) (xw_sc (xi_c rfl) rfl) ?_
      refine xw_istore (L' := [(6, xi (w32 (((4000 * x1) + (4 * x3)) + x4))), (5, xi (w32 (((4000 * x1) + (4 * x2)) + x4))), (0, xa 536), (1, xi x1), (2, xi x2), (3, xi x3), (4, xi x4)]) rfl (by decide) rfl ?_
      refine xw_aload_n rfl rfl rfl ?_
      refine xw_gfR (n := 540) (e := 540) rfl (xw_obd (by decide +kernel)) (by decide +kernel) (by decide +kernel) rfl ?_
      refine xw_iload rfl rfl ?_
      refine xw_ialdc (n := 32000) (v := (m 540 (w32 (((4000 * x1) + (4 * x2)) + x4)))) (v' := (xR m 540 (w32 (((4000 * x1) + (4 * x2)) + x4)))) rfl hB (xw_obd (by decide +kernel)) rfl g1 rfl rfl ?_
      refine xw_istore (L' := [(7, xi (xR m 540 (w32 (((4000 * x1) + (4 * x2)) + x4)))), (6, xi (w32 (((4000 * x1) + (4 * x3)) + x4))), (5, xi (w32 (((4000 * x1) + (4 * x2)) + x4))), (0, xa 536), (1, xi x1), (2, xi x2), (3, xi x3), (4, xi x4)]) rfl (by decide) rfl ?_
      refine xw_aload_n rfl rfl rfl ?_
      refine xw_gfR (n := 540) (e := 540) rfl (xw_obd (by decide +kernel)) (by decide +kernel) (by decide +kernel) rfl ?_
      refine xw_iload rfl rfl ?_
      refine xw_aload_n rfl rfl rfl ?_
      refine xw_gfR (n := 540) (e := 540) rfl (xw_obd (by decide +kernel)) (by decide +kernel) (by decide +kernel) rfl ?_
      refine xw_iload rfl rfl ?_
      refine xw_ialdc (n := 32000) (v := (m 540 (w32 (((4000 * x1) + (4 * x3)) + x4)))) (v' := (xR m 540 (w32 (((4000 * x1) + (4 * x3)) + x4)))) rfl hB (xw_obd (by decide +kernel)) rfl g2 rfl rfl ?_
      refine xw_iast (n := 32000) rfl hB (xw_obd (by decide +kernel)) rfl g1 ?_
      refine xw_aload_n rfl rfl rfl ?_
      refine xw_gfR (n := 540) (e := 540) rfl (xw_obd (by decide +kernel)) (by decide +kernel) (by decide +kernel) rfl ?_
      refine xw_iload rfl rfl ?_
      refine xw_iload rfl rfl ?_
      refine xw_iast (n := 32000) rfl hB (xw_obd (by decide +kernel)) rfl g2 ?_
      refine xw_iincc (z := (w32 (x4 + 1))) (L' := [(4, xi (w32 (x4 + 1))), (7, xi (xR m 540 (w32 (((4000 * x1) + (4 * x2)) + x4)))), (6, xi (w32 (((4000 * x1) + (4 * x3)) + x4))), (5, xi (w32 (((4000 * x1) + (4 * x2)) + x4))), (0, xa 536), (1, xi x1), (2, xi x2), (3, xi x3)]) rfl rfl (by decide) rfl rfl ?_
      refine xw_goto rfl ?_
      refine xw_lo (L2 := [(0, xa 536), (1, xi x1), (2, xi x2), (3, xi x3), (4, xi (w32 (x4 + 1)))]) (List.forall_mem_cons.mpr ⟨rfl, List.forall_mem_cons.mpr ⟨rfl, List.forall_mem_cons.mpr ⟨rfl, List.forall_mem_cons.mpr ⟨rfl, List.forall_mem_cons.mpr ⟨rfl, fun _ h => absurd h List.not_mem_nil⟩⟩⟩⟩⟩) ?_
      exact q
    exact hr78 _ _ _ _ _ c1 c2 c3 (w32_w _)
  · refine xS_of (pc' := 2) (L' := [(0, xa 536), (1, xi x1), (2, xi (w32 (x2 + 1)))]) (st' := []) (m' := m) (fun ex ns r q => ?_) ?_
    · refine xw_ic_geT rfl (w32_cg c4) (w32_cg rfl) (Int.not_lt.mp h0) ?_
      refine xw_iincc (z := (w32 (x2 + 1))) (L' := [(2, xi (w32 (x2 + 1))), (0, xa 536), (1, xi x1), (3, xi x3), (4, xi x4)]) rfl rfl (by decide) rfl rfl ?_
      refine xw_goto rfl ?_
      refine xw_lo (L2 := [(0, xa 536), (1, xi x1), (2, xi (w32 (x2 + 1)))]) (List.forall_mem_cons.mpr ⟨rfl, List.forall_mem_cons.mpr ⟨rfl, List.forall_mem_cons.mpr ⟨rfl, fun _ h => absurd h List.not_mem_nil⟩⟩⟩) ?_
      exact q
    exact hr2 _ _ _ c1 (w32_w _)
theorem ygl309_78 {B : Nat} (hB : B ≤ 512) {xs : Nat → Int32} {SL d : Nat} {r2 : Int → Int → xw_M → xP} (hr2 : ∀ x1 x2 m, w32 x1 = x1 → w32 x2 = x2 → xS B xs SL (d + 2) 309 (8, none, [], 13) 0 2 [(0, xa 536), (1, xi x1), (2, xi x2)] [] m (r2 x1 x2 m)) : ∀ n x1 x2 x3 x4 m, w32 x1 = x1 → w32 x2 = x2 → w32 x3 = x3 → w32 x4 = x4 → xS B xs SL (d + 2) 309 (8, none, [], 13) 0 78 [(0, xa 536), (1, xi x1), (2, xi x2), (3, xi x3), (4, xi x4)] [] m (xl4 (yl309_78 B r2) n x1 x2 x3 x4 m) := by
  intro n
  induction n with
  | zero => intro x1 x2 x3 x4 m c1 c2 c3 c4; exact xS_none
  | succ n ih => exact ysl309_78 hB hr2 ih
theorem ysl309_19 {B : Nat} (hB : B ≤ 512) {xs : Nat → Int32} {SL d : Nat} {r2 : Int → Int → xw_M → xP} (hr2 : ∀ x1 x2 m, w32 x1 = x1 → w32 x2 = x2 → xS B xs SL (d + 2) 309 (8, none, [], 13) 0 2 [(0, xa 536), (1, xi x1), (2, xi x2)] [] m (r2 x1 x2 m)) {r19 : Int → Int → Int → Int → xw_M → xP} (hr19 : ∀ x1 x2 x3 x4 m, w32 x1 = x1 → w32 x2 = x2 → w32 x3 = x3 → w32 x4 = x4 → xS B xs SL (d + 2) 309 (8, none, [], 13) 0 19 [(0, xa 536), (1, xi x1), (2, xi x2), (3, xi x3), (4, xi x4)] [] m (r19 x1 x2 x3 x4 m)) : ∀ x1 x2 x3 x4 m, w32 x1 = x1 → w32 x2 = x2 → w32 x3 = x3 → w32 x4 = x4 → xS B xs SL (d + 2) 309 (8, none, [], 13) 0 19 [(0, xa 536), (1, xi x1), (2, xi x2), (3, xi x3), (4, xi x4)] [] m (yl309_19 B r2 r19 x1 x2 x3 x4 m) := by
  intro x1 x2 x3 x4 m c1 c2 c3 c4
  unfold yl309_19
  refine xS_g (fun g0 => ?_)
  refine xS_of (pc' := 27) (L' := [(0, xa 536), (1, xi x1), (2, xi x2), (3, xi x3), (4, xi x4)]) (st' := [xi (xR m 539 x1), xi x4]) (m' := m) (fun ex ns r q => ?_) ?_
  · refine xw_iload rfl rfl ?_
    refine xw_aload_n rfl rfl rfl ?_
    refine xw_gfR (n := 539) (e := 539) rfl (xw_obd (by decide +kernel)) (by decide +kernel) (by decide +kernel) rfl ?_
    refine xw_iload_n rfl rfl ?_
    refine xw_ialdc (n := 8) (v := (m 539 x1)) (v' := (xR m 539 x1)) rfl hB (xw_obd (by decide +kernel)) rfl g0 rfl rfl ?_
    exact q
  refine xS_if (fun h1 => ?_) (fun h1 => ?_)
  · refine xS_g (fun g2 => ?_)
    refine xS_g (fun g3 => ?_)
    refine xS_of (pc' := 59) (L' := [(0, xa 536), (1, xi x1), (2, xi x2), (3, xi x3), (4, xi x4)]) (st' := [xi (xR m 540 ((4000 * x1) + (4 * x3))), xi (xR m 540 ((4000 * x1) + (4 * x4)))]) (m' := m) (fun ex ns r q => ?_) ?_
    · refine xw_ic_geF rfl (w32_cg c4) (w32_cg (w32_xR _ _ _)) (Int.not_le.mpr h1) ?_
      refine xw_aload_n rfl rfl rfl ?_
      refine xw_gfR (n := 540) (e := 540) rfl (xw_obd (by decide +kernel)) (by decide +kernel) (by decide +kernel) rfl ?_
      refine xw_sipush (e := 4000) rfl (by decide +kernel) ?_
      refine xw_iload_n rfl rfl ?_
      refine xw_imul rfl ?_
      refine xw_iconst rfl ?_
      refine xw_iload rfl rfl ?_
      refine xw_imul rfl ?_
      refine xw_iadd rfl ?_
      refine xw_ialdc (n := 32000) (v := (m 540 ((4000 * x1) + (4 * x4)))) (v' := (xR m 540 ((4000 * x1) + (4 * x4)))) rfl hB (xw_obd (by decide +kernel)) rfl g2 rfl rfl ?_
      refine xw_aload_n rfl rfl rfl ?_
      refine xw_gfR (n := 540) (e := 540) rfl (xw_obd (by decide +kernel)) (by decide +kernel) (by decide +kernel) rfl ?_
      refine xw_sipush (e := 4000) rfl (by decide +kernel) ?_
      refine xw_iload_n rfl rfl ?_
      refine xw_imul rfl ?_
      refine xw_iconst rfl ?_
      refine xw_iload_n rfl rfl ?_
      refine xw_imul rfl ?_
      refine xw_iadd rfl ?_
      refine xw_ialdc (n := 32000) (v := (m 540 ((4000 * x1) + (4 * x3)))) (v' := (xR m 540 ((4000 * x1) + (4 * x3)))) rfl hB (xw_obd (by decide +kernel)) rfl g3 rfl rfl ?_
      exact q
    refine xS_if (fun h4 => ?_) (fun h4 => ?_)
    · refine xS_of (pc' := 19) (L' := [(0, xa 536), (1, xi x1), (2, xi x2), (3, xi x4), (4, xi (w32 (x4 + 1)))]) (st' := []) (m' := m) (fun ex ns r q => ?_) ?_
      · refine xw_ic_geF rfl (w32_cg (w32_xR _ _ _)) (w32_cg (w32_xR _ _ _)) (Int.not_le.mpr h4) ?_
        refine xw_iload rfl rfl ?_
        refine xw_goto rfl ?_
        refine xw_istore_n (L' := [(3, xi x4), (0, xa 536), (1, xi x1), (2, xi x2), (4, xi x4)]) rfl (by decide) rfl ?_
        refine xw_iincc (z := (w32 (x4 + 1))) (L' := [(4, xi (w32 (x4 + 1))), (3, xi x4), (0, xa 536), (1, xi x1), (2, xi x2)]) rfl rfl (by decide) rfl rfl ?_
        refine xw_goto rfl ?_
        refine xw_lo (L2 := [(0, xa 536), (1, xi x1), (2, xi x2), (3, xi x4), (4, xi (w32 (x4 + 1)))]) (List.forall_mem_cons.mpr ⟨rfl, List.forall_mem_cons.mpr ⟨rfl, List.forall_mem_cons.mpr ⟨rfl, List.forall_mem_cons.mpr ⟨rfl, List.forall_mem_cons.mpr ⟨rfl, fun _ h => absurd h List.not_mem_nil⟩⟩⟩⟩⟩) ?_
        exact q
      exact hr19 _ _ _ _ _ c1 c2 c4 (w32_w _)
    · refine xS_of (pc' := 19) (L' := [(0, xa 536), (1, xi x1), (2, xi x2), (3, xi x3), (4, xi (w32 (x4 + 1)))]) (st' := []) (m' := m) (fun ex ns r q => ?_) ?_
      · refine xw_ic_geT rfl (w32_cg (w32_xR _ _ _)) (w32_cg (w32_xR _ _ _)) (Int.not_lt.mp h4) ?_
        refine xw_iload_n rfl rfl ?_
        refine xw_istore_n (L' := [(3, xi x3), (0, xa 536), (1, xi x1), (2, xi x2), (4, xi x4)]) rfl (by decide) rfl ?_
        refine xw_iincc (z := (w32 (x4 + 1))) (L' := [(4, xi (w32 (x4 + 1))), (3, xi x3), (0, xa 536), (1, xi x1), (2, xi x2)]) rfl rfl (by decide) rfl rfl ?_
        refine xw_goto rfl ?_
        refine xw_lo (L2 := [(0, xa 536), (1, xi x1), (2, xi x2), (3, xi x3), (4, xi (w32 (x4 + 1)))]) (List.forall_mem_cons.mpr ⟨rfl, List.forall_mem_cons.mpr ⟨rfl, List.forall_mem_cons.mpr ⟨rfl, List.forall_mem_cons.mpr ⟨rfl, List.forall_mem_cons.mpr ⟨rfl, fun _ h => absurd h List.not_mem_nil⟩⟩⟩⟩⟩) ?_
        exact q
      exact hr19 _ _ _ _ _ c1 c2 c3 (w32_w _)
  · refine xS_of (pc' := 78) (L' := [(0, xa 536), (1, xi x1), (2, xi x2), (3, xi x3), (4, xi 0)]) (st' := []) (m' := m) (fun ex ns r q => ?_) ?_
    · refine xw_ic_geT rfl (w32_cg c4) (w32_cg (w32_xR _ _ _)) (Int.not_lt.mp h1) ?_
      refine xw_iconst rfl ?_
      refine xw_istore (L' := [(4, xi 0), (0, xa 536), (1, xi x1), (2, xi x2), (3, xi x3)]) rfl (by decide) rfl ?_
      refine xw_lo (L2 := [(0, xa 536), (1, xi x1), (2, xi x2), (3, xi x3), (4, xi 0)]) (List.forall_mem_cons.mpr ⟨rfl, List.forall_mem_cons.mpr ⟨rfl, List.forall_mem_cons.mpr ⟨rfl, List.forall_mem_cons.mpr ⟨rfl, List.forall_mem_cons.mpr ⟨rfl, fun _ h => absurd h List.not_mem_nil⟩⟩⟩⟩⟩) ?_
      exact q
    exact ygl309_78 hB hr2 1000000 _ _ _ _ _ c1 c2 c3 rfl
theorem ygl309_19 {B : Nat} (hB : B ≤ 512) {xs : Nat → Int32} {SL d : Nat} {r2 : Int → Int → xw_M → xP} (hr2 : ∀ x1 x2 m, w32 x1 = x1 → w32 x2 = x2 → xS B xs SL (d + 2) 309 (8, none, [], 13) 0 2 [(0, xa 536), (1, xi x1), (2, xi x2)] [] m (r2 x1 x2 m)) : ∀ n x1 x2 x3 x4 m, w32 x1 = x1 → w32 x2 = x2 → w32 x3 = x3 → w32 x4 = x4 → xS B xs SL (d + 2) 309 (8, none, [], 13) 0 19 [(0, xa 536), (1, xi x1), (2, xi x2), (3, xi x3), (4, xi x4)] [] m (xl4 (yl309_19 B r2) n x1 x2 x3 x4 m) := by
  intro n
  induction n with
  | zero => intro x1 x2 x3 x4 m c1 c2 c3 c4; exact xS_none
  | succ n ih => exact ysl309_19 hB hr2 ih
theorem ysl309_158 {B : Nat} (hB : B ≤ 512) {xs : Nat → Int32} {SL d : Nat} {r158 : Int → Int → xw_M → xP} (hr158 : ∀ x1 x2 m, w32 x1 = x1 → w32 x2 = x2 → xS B xs SL (d + 2) 309 (8, none, [], 13) 0 158 [(0, xa 536), (1, xi x1), (2, xi x2)] [] m (r158 x1 x2 m)) : ∀ x1 x2 m, w32 x1 = x1 → w32 x2 = x2 → xS B xs SL (d + 2) 309 (8, none, [], 13) 0 158 [(0, xa 536), (1, xi x1), (2, xi x2)] [] m (yl309_158 B r158 x1 x2 m) := by
  intro x1 x2 m c1 c2
  unfold yl309_158
  refine xS_g (fun g0 => ?_)
  refine xS_of (pc' := 165) (L' := [(0, xa 536), (1, xi x1), (2, xi x2)]) (st' := [xi (xR m 538 x1), xi x2]) (m' := m) (fun ex ns r q => ?_) ?_
  · refine xw_iload_n rfl rfl ?_
    refine xw_aload_n rfl rfl rfl ?_
    refine xw_gfR (n := 538) (e := 538) rfl (xw_obd (by decide +kernel)) (by decide +kernel) (by decide +kernel) rfl ?_
    refine xw_iload_n rfl rfl ?_
    refine xw_ialdc (n := 8) (v := (m 538 x1)) (v' := (xR m 538 x1)) rfl hB (xw_obd (by decide +kernel)) rfl g0 rfl rfl ?_
    exact q
  refine xS_if (fun h1 => ?_) (fun h1 => ?_)
  · refine xS_of (pc' := 171) (L' := [(0, xa 536), (1, xi x1), (2, xi x2)]) (st' := [xi x2, xi x1, xa 536]) (m' := m) (fun ex ns r q => ?_) ?_
    · refine xw_ic_geF rfl (w32_cg c2) (w32_cg (w32_xR _ _ _)) (Int.not_le.mpr h1) ?_
      refine xw_aload_n rfl rfl rfl ?_
      refine xw_iload_n rfl rfl ?_
      refine xw_iload_n rfl rfl ?_
      refine xw_lo (L2 := [(0, xa 536), (1, xi x1), (2, xi x2)]) (List.forall_mem_cons.mpr ⟨rfl, List.forall_mem_cons.mpr ⟨rfl, List.forall_mem_cons.mpr ⟨rfl, fun _ h => absurd h List.not_mem_nil⟩⟩⟩) ?_
      exact q
    refine xS_call (q := 310) (n := 3) (kq := 0) (as := [xa 536, xi x1, xi x2]) (st1 := []) rfl rfl rfl rfl rfl rfl rfl rfl rfl rfl (fun _ => xw_rcv1 (t := 12) (xw_obd (by decide +kernel)) rfl) rfl (List.forall_mem_cons.mpr ⟨rfl, List.forall_mem_cons.mpr ⟨rfl, List.forall_mem_cons.mpr ⟨rfl, fun _ h => absurd h List.not_mem_nil⟩⟩⟩) (ygf310 hB _ _ _ c1 c2) (fun v1 m1 cv1 => ?_)
    refine xS_of (pc' := 158) (L' := [(0, xa 536), (1, xi x1), (2, xi (w32 (x2 + 1)))]) (st' := []) (m' := m1) (fun ex ns r q => ?_) ?_
    · refine xw_iincc (z := (w32 (x2 + 1))) (L' := [(2, xi (w32 (x2 + 1))), (0, xa 536), (1, xi x1)]) rfl rfl (by decide) rfl rfl ?_
      refine xw_goto rfl ?_
      refine xw_lo (L2 := [(0, xa 536), (1, xi x1), (2, xi (w32 (x2 + 1)))]) (List.forall_mem_cons.mpr ⟨rfl, List.forall_mem_cons.mpr ⟨rfl, List.forall_mem_cons.mpr ⟨rfl, fun _ h => absurd h List.not_mem_nil⟩⟩⟩) ?_
      exact q
    exact hr158 _ _ _ c1 (w32_w _)
  · refine xS_of (pc' := 180) (L' := [(0, xa 536), (1, xi x1), (2, xi x2)]) (st' := []) (m' := m) (fun ex ns r q => ?_) ?_
    · refine xw_ic_geT rfl (w32_cg c2) (w32_cg (w32_xR _ _ _)) (Int.not_lt.mp h1) ?_
      exact q
    exact xS_ret (v := 0) rfl rfl rfl rfl
theorem ygl309_158 {B : Nat} (hB : B ≤ 512) {xs : Nat → Int32} {SL d : Nat} : ∀ n x1 x2 m, w32 x1 = x1 → w32 x2 = x2 → xS B xs SL (d + 2) 309 (8, none, [], 13) 0 158 [(0, xa 536), (1, xi x1), (2, xi x2)] [] m (xl2 (yl309_158 B) n x1 x2 m) := by
  intro n
  induction n with
  | zero => intro x1 x2 m c1 c2; exact xS_none
  | succ n ih => exact ysl309_158 hB ih
theorem ysl309_2 {B : Nat} (hB : B ≤ 512) {xs : Nat → Int32} {SL d : Nat} {r2 : Int → Int → xw_M → xP} (hr2 : ∀ x1 x2 m, w32 x1 = x1 → w32 x2 = x2 → xS B xs SL (d + 2) 309 (8, none, [], 13) 0 2 [(0, xa 536), (1, xi x1), (2, xi x2)] [] m (r2 x1 x2 m)) : ∀ x1 x2 m, w32 x1 = x1 → w32 x2 = x2 → xS B xs SL (d + 2) 309 (8, none, [], 13) 0 2 [(0, xa 536), (1, xi x1), (2, xi x2)] [] m (yl309_2 B r2 x1 x2 m) := by
  intro x1 x2 m c1 c2
  unfold yl309_2
  refine xS_g (fun g0 => ?_)
  refine xS_of (pc' := 9) (L' := [(0, xa 536), (1, xi x1), (2, xi x2)]) (st' := [xi (xR m 539 x1), xi x2]) (m' := m) (fun ex ns r q => ?_) ?_
  · refine xw_iload_n rfl rfl ?_
    refine xw_aload_n rfl rfl rfl ?_
    refine xw_gfR (n := 539) (e := 539) rfl (xw_obd (by decide +kernel)) (by decide +kernel) (by decide +kernel) rfl ?_
    refine xw_iload_n rfl rfl ?_
    refine xw_ialdc (n := 8) (v := (m 539 x1)) (v' := (xR m 539 x1)) rfl hB (xw_obd (by decide +kernel)) rfl g0 rfl rfl ?_
    exact q
  refine xS_if (fun h1 => ?_) (fun h1 => ?_)
  · refine xS_of (pc' := 19) (L' := [(0, xa 536), (1, xi x1), (2, xi x2), (3, xi x2), (4, xi (w32 (x2 + 1)))]) (st' := []) (m' := m) (fun ex ns r q => ?_) ?_
    · refine xw_ic_geF rfl (w32_cg c2) (w32_cg (w32_xR _ _ _)) (Int.not_le.mpr h1) ?_
      refine xw_iload_n rfl rfl ?_
      refine xw_istore_n (L' := [(3, xi x2), (0, xa 536), (1, xi x1), (2, xi x2)]) rfl (by decide) rfl ?_
      refine xw_iload_n rfl rfl ?_
      refine xw_iconst rfl ?_
      refine xw_iadd rfl ?_
      refine xw_cst (st' := [xi (w32 (x2 + 1))]) (xw_sc (xi_c rfl) rfl) ?_
      refine xw_istore (L' := [(4, xi (w32 (x2 + 1))), (3, xi x2), (0, xa 536), (1, xi x1), (2, xi x2)]) rfl (by decide) rfl ?_
      refine xw_lo (L2 := [(0, xa 536), (1, xi x1), (2, xi x2), (3, xi x2), (4, xi (w32 (x2 + 1)))]) (List.forall_mem_cons.mpr ⟨rfl, List.forall_mem_cons.mpr ⟨rfl, List.forall_mem_cons.mpr ⟨rfl, List.forall_mem_cons.mpr ⟨rfl, List.forall_mem_cons.mpr ⟨rfl, fun _ h => absurd h List.not_mem_nil⟩⟩⟩⟩⟩) ?_
      exact q
    exact ygl309_19 hB hr2 1000000 _ _ _ _ _ c1 c2 c2 (w32_w _)
  · refine xS_of (pc' := 158) (L' := [(0, xa 536), (1, xi x1), (2, xi 0)]) (st' := []) (m' := m) (fun ex ns r q => ?_) ?_
    · refine xw_ic_geT rfl (w32_cg c2) (w32_cg (w32_xR _ _ _)) (Int.not_lt.mp h1) ?_
      refine xw_iconst rfl ?_
      refine xw_istore_n (L' := [(2, xi 0), (0, xa 536), (1, xi x1)]) rfl (by decide) rfl ?_
      refine xw_lo (L2 := [(0, xa 536), (1, xi x1), (2, xi 0)]) (List.forall_mem_cons.mpr ⟨rfl, List.forall_mem_cons.mpr ⟨rfl, List.forall_mem_cons.mpr ⟨rfl, fun _ h => absurd h List.not_mem_nil⟩⟩⟩) ?_
      exact q
    exact ygl309_158 hB 1000000 _ _ _ c1 rfl
theorem ygl309_2 {B : Nat} (hB : B ≤ 512) {xs : Nat → Int32} {SL d : Nat} : ∀ n x1 x2 m, w32 x1 = x1 → w32 x2 = x2 → xS B xs SL (d + 2) 309 (8, none, [], 13) 0 2 [(0, xa 536), (1, xi x1), (2, xi x2)] [] m (xl2 (yl309_2 B) n x1 x2 m) := by
  intro n
  induction n with
  | zero => intro x1 x2 m c1 c2; exact xS_none
  | succ n ih => exact ysl309_2 hB ih
theorem ygf309 {B : Nat} (hB : B ≤ 512) {xs : Nat → Int32} {SL d : Nat} : ∀ p0 m, w32 p0 = p0 → xS B xs SL (d + 2) 309 (8, none, [], 13) 0 0 [(0, xa 536), (1, xi p0)] [] m (yf309 B p0 m) := by
  intro p0 m cp0
  unfold yf309
  refine xS_of (pc' := 2) (L' := [(0, xa 536), (1, xi p0), (2, xi 0)]) (st' := []) (m' := m) (fun ex ns r q => ?_) ?_
  · refine xw_iconst rfl ?_
    refine xw_istore_n (L' := [(2, xi 0), (0, xa 536), (1, xi p0)]) rfl (by decide) rfl ?_
    refine xw_lo (L2 := [(0, xa 536), (1, xi p0), (2, xi 0)]) (List.forall_mem_cons.mpr ⟨rfl, List.forall_mem_cons.mpr ⟨rfl, List.forall_mem_cons.mpr ⟨rfl, fun _ h => absurd h List.not_mem_nil⟩⟩⟩) ?_
    exact q
  exact ygl309_2 hB 1000000 _ _ _ cp0 rfl
theorem ysl313_32 {B : Nat} (hB : B ≤ 512) {xs : Nat → Int32} {SL d : Nat} {r32 : Int → xw_M → xP} (hr32 : ∀ x1 m, w32 x1 = x1 → xS B xs SL (d + 0) 313 (2, none, [], 13) 0 32 [(0, xa 536), (1, xi x1)] [] m (r32 x1 m)) : ∀ x1 m, w32 x1 = x1 → xS B xs SL (d + 0) 313 (2, none, [], 13) 0 32 [(0, xa 536), (1, xi x1)] [] m (yl313_32 B r32 x1 m) := by
  intro x1 m c1
  unfold yl313_32
  refine xS_of (pc' := 35) (L' := [(0, xa 536), (1, xi x1)]) (st' := [xi 8, xi x1]) (m' := m) (fun ex ns r q => ?_) ?_
  · refine xw_iload_n rfl rfl ?_
    refine xw_bipush (e := 8) rfl (by decide +kernel) ?_
    exact q
  refine xS_if (fun h0 => ?_) (fun h0 => ?_)
  · refine xS_g (fun g1 => ?_)
    refine xS_of (pc' := 32) (L' := [(0, xa 536), (1, xi (w32 (x1 + 1)))]) (st' := []) (m' := (xw_u (xw_u m 577 x1 0) 578 x1 0)) (fun ex ns r q => ?_) ?_
    · refine xw_ic_geF rfl (w32_cg c1) (w32_cg rfl) (Int.not_le.mpr h0) ?_
      refine xw_aload_n rfl rfl rfl ?_
      refine xw_gfR (n := 577) (e := 577) rfl (xw_obd (by decide +kernel)) (by decide +kernel) (by decide +kernel) rfl ?_
      refine xw_iload_n rfl rfl ?_
      refine xw_iconst rfl ?_
      refine xw_iast (n := 8) rfl hB (xw_obd (by decide +kernel)) rfl g1 ?_
      refine xw_aload_n rfl rfl rfl ?_
      refine xw_gfR (n := 578) (e := 578) rfl (xw_obd (by decide +kernel)) (by decide +kernel) (by decide +kernel) rfl ?_
      refine xw_iload_n rfl rfl ?_
      refine xw_lconst (e := 0) rfl rfl ?_
      refine xw_last (n := 8) rfl hB (xw_obd (by decide +kernel)) rfl g1 ?_
      refine xw_iincc (z := (w32 (x1 + 1))) (L' := [(1, xi (w32 (x1 + 1))), (0, xa 536)]) rfl rfl (by decide) rfl rfl ?_
      refine xw_goto rfl ?_
      refine xw_lo (L2 := [(0, xa 536), (1, xi (w32 (x1 + 1)))]) (List.forall_mem_cons.mpr ⟨rfl, List.forall_mem_cons.mpr ⟨rfl, fun _ h => absurd h List.not_mem_nil⟩⟩) ?_
      exact q
    exact hr32 _ _ (w32_w _)
  · refine xS_of (pc' := 58) (L' := [(0, xa 536), (1, xi x1)]) (st' := []) (m' := m) (fun ex ns r q => ?_) ?_
    · refine xw_ic_geT rfl (w32_cg c1) (w32_cg rfl) (Int.not_lt.mp h0) ?_
      exact q
    exact xS_ret (v := 0) rfl rfl rfl rfl
theorem ygl313_32 {B : Nat} (hB : B ≤ 512) {xs : Nat → Int32} {SL d : Nat} : ∀ n x1 m, w32 x1 = x1 → xS B xs SL (d + 0) 313 (2, none, [], 13) 0 32 [(0, xa 536), (1, xi x1)] [] m (xl1 (yl313_32 B) n x1 m) := by
  intro n
  induction n with
  | zero => intro x1 m c1; exact xS_none
  | succ n ih => exact ysl313_32 hB ih
theorem ygf313 {B : Nat} (hB : B ≤ 512) {xs : Nat → Int32} {SL d : Nat} : ∀ m, xS B xs SL (d + 0) 313 (2, none, [], 13) 0 0 [(0, xa 536)] [] m (yf313 B m) := by
  intro m
  unfold yf313
  refine xS_of (pc' := 32) (L' := [(0, xa 536), (1, xi 0)]) (st' := []) (m' := (xw_u (xw_u (xw_u (xw_u (xw_u (xw_u m 536 51 (-1)) 536 5 0) 536 6 0) 536 7 (-1)) 536 32 0) 536 24 0)) (fun ex ns r q => ?_) ?_
  · refine xw_aload_n rfl rfl rfl ?_
    refine xw_iconst rfl ?_
    refine xw_pfI rfl (xw_obd (by decide +kernel)) xk12_51 (qi := 51) rfl (xw_okI rfl) ?_
    refine xw_aload_n rfl rfl rfl ?_
    refine xw_iconst rfl ?_
    refine xw_pfI rfl (xw_obd (by decide +kernel)) xk12_5 (qi := 5) rfl (xw_okI rfl) ?_
    refine xw_aload_n rfl rfl rfl ?_
    refine xw_iconst rfl ?_
    refine xw_pfI rfl (xw_obd (by decide +kernel)) xk12_6 (qi := 6) rfl (xw_okI rfl) ?_
    refine xw_aload_n rfl rfl rfl ?_
    refine xw_iconst rfl ?_
    refine xw_pfI rfl (xw_obd (by decide +kernel)) xk12_7 (qi := 7) rfl (xw_okI rfl) ?_
    refine xw_aload_n rfl rfl rfl ?_
    refine xw_iconst rfl ?_
    refine xw_pfI rfl (xw_obd (by decide +kernel)) xk12_32 (qi := 32) rfl (xw_okI rfl) ?_
    refine xw_aload_n rfl rfl rfl ?_
    refine xw_iconst rfl ?_
    refine xw_pfI rfl (xw_obd (by decide +kernel)) xk12_24 (qi := 24) rfl (xw_okZ rfl (Or.inl rfl)) ?_
    refine xw_iconst rfl ?_
    refine xw_istore_n (L' := [(1, xi 0), (0, xa 536)]) rfl (by decide) rfl ?_
    refine xw_lo (L2 := [(0, xa 536), (1, xi 0)]) (List.forall_mem_cons.mpr ⟨rfl, List.forall_mem_cons.mpr ⟨rfl, fun _ h => absurd h List.not_mem_nil⟩⟩) ?_
    exact q
  exact ygl313_32 hB 1000000 _ _ rfl
theorem ygf312 {B : Nat} (hB : B ≤ 512) {xs : Nat → Int32} {SL d : Nat} : ∀ p0 m, w32 p0 = p0 → xS B xs SL (d + 1) 312 (2, (some .int), [], 13) 1 0 [(0, xa 536), (1, xi p0)] [] m (yf312 B p0 m) := by
  intro p0 m cp0
  unfold yf312
  refine xS_of (pc' := 4) (L' := [(0, xa 536), (1, xi p0)]) (st' := [xi (xR m 536 3)]) (m' := m) (fun ex ns r q => ?_) ?_
  · refine xw_aload_n rfl rfl rfl ?_
    refine xw_gfIc (v := (m 536 3)) (v' := (xR m 536 3)) rfl (xw_obd (by decide +kernel)) xk12_3 (qi := 3) rfl rfl rfl ?_
    exact q
  refine xS_if (fun h0 => ?_) (fun h0 => ?_)
  · refine xS_of (pc' := 12) (L' := [(0, xa 536), (1, xi p0)]) (st' := [xi p0]) (m' := m) (fun ex ns r q => ?_) ?_
    · refine xw_if_eqT rfl (w32_cg (w32_xR _ _ _)) h0 ?_
      refine xw_iload_n rfl rfl ?_
      exact q
    exact xS_ret (v := p0) rfl rfl xw_rtI cp0
  · refine xS_of (pc' := 8) (L' := [(1, xi p0)]) (st' := [xa 536]) (m' := m) (fun ex ns r q => ?_) ?_
    · refine xw_if_eqF rfl (w32_cg (w32_xR _ _ _)) h0 ?_
      refine xw_aload_n rfl rfl rfl ?_
      refine xw_lo (L2 := [(1, xi p0)]) (List.forall_mem_cons.mpr ⟨rfl, fun _ h => absurd h List.not_mem_nil⟩) ?_
      exact q
    refine xS_call (q := 313) (n := 1) (kq := 0) (as := [xa 536]) (st1 := []) rfl rfl rfl rfl rfl rfl rfl rfl rfl rfl (fun _ => xw_rcv1 (t := 12) (xw_obd (by decide +kernel)) rfl) rfl (List.forall_mem_cons.mpr ⟨rfl, fun _ h => absurd h List.not_mem_nil⟩) (ygf313 hB _) (fun v1 m1 cv1 => ?_)
    refine xS_of (pc' := 12) (L' := [(1, xi p0)]) (st' := [xi p0]) (m' := m1) (fun ex ns r q => ?_) ?_
    · refine xw_iload_n rfl rfl ?_
      exact q
    exact xS_ret (v := p0) rfl rfl xw_rtI cp0
