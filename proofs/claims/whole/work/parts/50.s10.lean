/-! the machine does what the functions say, 10 -/
theorem ygk277_306 {B : Nat} (hB : B ≤ 512) {xs : Nat → Int32} {SL d : Nat} : ∀ x3 m, w32 x3 = x3 → xS B xs SL (d + 5) 277 (6, none, [], 13) 0 306 [(0, xa 536), (3, xi x3)] [] m (yk277_306 B x3 m) := by
  intro x3 m c3
  unfold yk277_306
  refine xS_g (fun g0 => ?_)
  refine xS_of (pc' := 321) (L' := [(0, xa 536)]) (st' := [xi x3, xa 536]) (m' := (xw_u m (m 536 23) 13 ((xR m (m 536 23) 13) + 1))) (fun ex ns r q => ?_) ?_
  · refine xw_aload_n rfl rfl rfl ?_
    refine xw_gfM (v := (m 536 23)) rfl (xw_obd (by decide +kernel)) xk12_23 (qi := 23) rfl rfl ?_
    refine xw_dup rfl rfl ?_
    refine xw_gfIc (v := (m (m 536 23) 13)) (v' := (xR m (m 536 23) 13)) rfl (xw_obd g0) xk13_13 (qi := 13) rfl rfl rfl ?_
    refine xw_iconst rfl ?_
    refine xw_iadd rfl ?_
    refine xw_pfI rfl (xw_obd g0) xk13_13 (qi := 13) rfl (xw_okI rfl) ?_
    refine xw_aload_n rfl rfl rfl ?_
    refine xw_iload_n rfl rfl ?_
    refine xw_lo (L2 := [(0, xa 536)]) (List.forall_mem_cons.mpr ⟨rfl, fun _ h => absurd h List.not_mem_nil⟩) ?_
    exact q
  refine xS_call (q := 280) (n := 2) (kq := 0) (as := [xa 536, xi x3]) (st1 := []) rfl rfl rfl rfl rfl rfl rfl rfl rfl rfl (fun _ => xw_rcv1 (t := 12) (xw_obd (by decide +kernel)) rfl) rfl (List.forall_mem_cons.mpr ⟨rfl, List.forall_mem_cons.mpr ⟨rfl, fun _ h => absurd h List.not_mem_nil⟩⟩) (ygf280 hB _ _ c3) (fun v1 m1 cv1 => ?_)
  refine xS_of (pc' := 325) (L' := []) (st' := [xa 536]) (m' := m1) (fun ex ns r q => ?_) ?_
  · refine xw_aload_n rfl rfl rfl ?_
    refine xw_lo (L2 := []) (fun _ h => absurd h List.not_mem_nil) ?_
    exact q
  refine xS_call (q := 248) (n := 1) (kq := 0) (as := [xa 536]) (st1 := []) rfl rfl rfl rfl rfl rfl rfl rfl rfl rfl (fun _ => xw_rcv1 (t := 12) (xw_obd (by decide +kernel)) rfl) rfl (List.forall_mem_cons.mpr ⟨rfl, fun _ h => absurd h List.not_mem_nil⟩) (ygf248 hB _) (fun v2 m2 cv2 => ?_)
  exact xS_ret (v := 0) rfl rfl rfl rfl
theorem ygk277_270 {B : Nat} (hB : B ≤ 512) {xs : Nat → Int32} {SL d : Nat} : ∀ x3 x4 m, w32 x3 = x3 → w32 x4 = x4 → xS B xs SL (d + 5) 277 (6, none, [], 13) 0 270 [(0, xa 536), (3, xi x3), (4, xi x4)] [] m (yk277_270 B x3 x4 m) := by
  intro x3 x4 m c3 c4
  unfold yk277_270
  refine xS_of (pc' := 274) (L' := [(0, xa 536), (3, xi x3), (4, xi x4)]) (st' := [xi 6, xi x4]) (m' := m) (fun ex ns r q => ?_) ?_
  · refine xw_iload rfl rfl ?_
    refine xw_bipush (e := 6) rfl (by decide +kernel) ?_
    exact q
  refine xS_if (fun h0 => ?_) (fun h0 => ?_)
  · refine xS_of (pc' := 278) (L' := [(0, xa 536), (3, xi x3)]) (st' := [xa 536]) (m' := m) (fun ex ns r q => ?_) ?_
    · refine xw_ic_neF rfl (w32_cg c4) (w32_cg rfl) h0 ?_
      refine xw_aload_n rfl rfl rfl ?_
      refine xw_lo (L2 := [(0, xa 536), (3, xi x3)]) (List.forall_mem_cons.mpr ⟨rfl, List.forall_mem_cons.mpr ⟨rfl, fun _ h => absurd h List.not_mem_nil⟩⟩) ?_
      exact q
    refine xS_call (q := 248) (n := 1) (kq := 0) (as := [xa 536]) (st1 := []) rfl rfl rfl rfl rfl rfl rfl rfl rfl rfl (fun _ => xw_rcv1 (t := 12) (xw_obd (by decide +kernel)) rfl) rfl (List.forall_mem_cons.mpr ⟨rfl, fun _ h => absurd h List.not_mem_nil⟩) (ygf248 hB _) (fun v1 m1 cv1 => ?_)
    refine xS_of (pc' := 285) (L' := [(0, xa 536), (3, xi x3)]) (st' := [xi 14, xa 536, xa 536]) (m' := m1) (fun ex ns r q => ?_) ?_
    · refine xw_aload_n rfl rfl rfl ?_
      refine xw_aload_n rfl rfl rfl ?_
      refine xw_bipush (e := 14) rfl (by decide +kernel) ?_
      refine xw_lo (L2 := [(0, xa 536), (3, xi x3)]) (List.forall_mem_cons.mpr ⟨rfl, List.forall_mem_cons.mpr ⟨rfl, fun _ h => absurd h List.not_mem_nil⟩⟩) ?_
      exact q
    refine xS_call (q := 257) (n := 2) (kq := 4) (as := [xa 536, xi 14]) (st1 := [xa 536]) rfl rfl rfl rfl rfl rfl rfl rfl rfl rfl (fun _ => xw_rcv1 (t := 12) (xw_obd (by decide +kernel)) rfl) rfl (List.forall_mem_cons.mpr ⟨rfl, List.forall_mem_cons.mpr ⟨rfl, fun _ h => absurd h List.not_mem_nil⟩⟩) (ygf257 hB _ _ rfl) (fun v2 m2 cv2 => ?_)
    refine xS_of (pc' := 288) (L' := [(0, xa 536), (3, xi x3)]) (st' := [xi v2, xa 536]) (m' := m2) (fun ex ns r q => ?_) ?_
    · refine xw_lo (L2 := [(0, xa 536), (3, xi x3)]) (List.forall_mem_cons.mpr ⟨rfl, List.forall_mem_cons.mpr ⟨rfl, fun _ h => absurd h List.not_mem_nil⟩⟩) ?_
      exact q
    refine xS_call (q := 258) (n := 2) (kq := 4) (as := [xa 536, xi v2]) (st1 := []) rfl rfl rfl rfl rfl rfl rfl rfl rfl rfl (fun _ => xw_rcv1 (t := 12) (xw_obd (by decide +kernel)) rfl) rfl (List.forall_mem_cons.mpr ⟨rfl, List.forall_mem_cons.mpr ⟨rfl, fun _ h => absurd h List.not_mem_nil⟩⟩) (ygf258 hB _ _ (w32_of (xw_zr cv2))) (fun v3 m3 cv3 => ?_)
    refine xS_g (fun g1 => ?_)
    refine xS_of (pc' := 302) (L' := [(0, xa 536), (3, xi x3)]) (st' := [xa 536, xi x3, xa (xw_rf (m3 536 23) 17)]) (m' := m3) (fun ex ns r q => ?_) ?_
    · refine xw_istore (L' := [(5, xi v3), (0, xa 536), (3, xi x3)]) rfl (by decide) rfl ?_
      refine xw_aload_n rfl rfl rfl ?_
      refine xw_gfM (v := (m3 536 23)) rfl (xw_obd (by decide +kernel)) xk12_23 (qi := 23) rfl rfl ?_
      refine xw_gfV (qi := 17) rfl (xw_obd g1) xk13_17 rfl ?_
      refine xw_iload_n rfl rfl ?_
      refine xw_aload_n rfl rfl rfl ?_
      refine xw_lo (L2 := [(0, xa 536), (3, xi x3)]) (List.forall_mem_cons.mpr ⟨rfl, List.forall_mem_cons.mpr ⟨rfl, fun _ h => absurd h List.not_mem_nil⟩⟩) ?_
      exact q
    refine xS_call (q := 278) (n := 1) (kq := 1) (as := [xa 536]) (st1 := [xi x3, xa (xw_rf (m3 536 23) 17)]) rfl rfl rfl rfl rfl rfl rfl rfl rfl rfl (fun _ => xw_rcv1 (t := 12) (xw_obd (by decide +kernel)) rfl) rfl (List.forall_mem_cons.mpr ⟨rfl, fun _ h => absurd h List.not_mem_nil⟩) (ygf278 hB _) (fun v4 m4 cv4 => ?_)
    refine xS_g (fun g2 => ?_)
    refine xS_g (fun g3 => ?_)
    refine xS_of (pc' := 306) (L' := [(0, xa 536), (3, xi x3)]) (st' := []) (m' := (xw_u m4 (xw_rf (m3 536 23) 17) x3 v4)) (fun ex ns r q => ?_) ?_
    · refine xw_iast (n := (xw_le B (xw_rf (m3 536 23) 17))) rfl hB (xw_obd g3) rfl g2 ?_
      refine xw_lo (L2 := [(0, xa 536), (3, xi x3)]) (List.forall_mem_cons.mpr ⟨rfl, List.forall_mem_cons.mpr ⟨rfl, fun _ h => absurd h List.not_mem_nil⟩⟩) ?_
      exact q
    exact ygk277_306 hB _ _ c3
  · refine xS_of (pc' := 306) (L' := [(0, xa 536), (3, xi x3)]) (st' := []) (m' := m) (fun ex ns r q => ?_) ?_
    · refine xw_ic_neT rfl (w32_cg c4) (w32_cg rfl) h0 ?_
      refine xw_lo (L2 := [(0, xa 536), (3, xi x3)]) (List.forall_mem_cons.mpr ⟨rfl, List.forall_mem_cons.mpr ⟨rfl, fun _ h => absurd h List.not_mem_nil⟩⟩) ?_
      exact q
    exact ygk277_306 hB _ _ c3
theorem ygk277_242 {B : Nat} (hB : B ≤ 512) {xs : Nat → Int32} {SL d : Nat} : ∀ x3 x4 m, w32 x3 = x3 → w32 x4 = x4 → xS B xs SL (d + 5) 277 (6, none, [], 13) 0 242 [(0, xa 536), (3, xi x3), (4, xi x4)] [] m (yk277_242 B x3 x4 m) := by
  intro x3 x4 m c3 c4
  unfold yk277_242
  refine xS_of (pc' := 246) (L' := [(0, xa 536), (3, xi x3), (4, xi x4)]) (st' := [xi 7, xi x4]) (m' := m) (fun ex ns r q => ?_) ?_
  · refine xw_iload rfl rfl ?_
    refine xw_bipush (e := 7) rfl (by decide +kernel) ?_
    exact q
  refine xS_if (fun h0 => ?_) (fun h0 => ?_)
  · refine xS_g (fun g1 => ?_)
    refine xS_of (pc' := 258) (L' := [(0, xa 536), (3, xi x3), (4, xi x4)]) (st' := [xa 536, xi x3, xa (xw_rf (m 536 23) 16)]) (m' := m) (fun ex ns r q => ?_) ?_
    · refine xw_ic_geF rfl (w32_cg c4) (w32_cg rfl) (Int.not_le.mpr h0) ?_
      refine xw_aload_n rfl rfl rfl ?_
      refine xw_gfM (v := (m 536 23)) rfl (xw_obd (by decide +kernel)) xk12_23 (qi := 23) rfl rfl ?_
      refine xw_gfV (qi := 16) rfl (xw_obd g1) xk13_16 rfl ?_
      refine xw_iload_n rfl rfl ?_
      refine xw_aload_n rfl rfl rfl ?_
      refine xw_lo (L2 := [(0, xa 536), (3, xi x3), (4, xi x4)]) (List.forall_mem_cons.mpr ⟨rfl, List.forall_mem_cons.mpr ⟨rfl, List.forall_mem_cons.mpr ⟨rfl, fun _ h => absurd h List.not_mem_nil⟩⟩⟩) ?_
      exact q
    refine xS_call (q := 278) (n := 1) (kq := 1) (as := [xa 536]) (st1 := [xi x3, xa (xw_rf (m 536 23) 16)]) rfl rfl rfl rfl rfl rfl rfl rfl rfl rfl (fun _ => xw_rcv1 (t := 12) (xw_obd (by decide +kernel)) rfl) rfl (List.forall_mem_cons.mpr ⟨rfl, fun _ h => absurd h List.not_mem_nil⟩) (ygf278 hB _) (fun v1 m1 cv1 => ?_)
    refine xS_g (fun g2 => ?_)
    refine xS_g (fun g3 => ?_)
    refine xS_of (pc' := 270) (L' := [(0, xa 536), (3, xi x3), (4, xi x4)]) (st' := []) (m' := (xw_u m1 (xw_rf (m 536 23) 16) x3 v1)) (fun ex ns r q => ?_) ?_
    · refine xw_iast (n := (xw_le B (xw_rf (m 536 23) 16))) rfl hB (xw_obd g3) rfl g2 ?_
      refine xw_goto rfl ?_
      refine xw_lo (L2 := [(0, xa 536), (3, xi x3), (4, xi x4)]) (List.forall_mem_cons.mpr ⟨rfl, List.forall_mem_cons.mpr ⟨rfl, List.forall_mem_cons.mpr ⟨rfl, fun _ h => absurd h List.not_mem_nil⟩⟩⟩) ?_
      exact q
    exact ygk277_270 hB _ _ _ c3 c4
  · refine xS_of (pc' := 267) (L' := [(0, xa 536), (3, xi x3), (4, xi x4)]) (st' := [xi x3, xa 536]) (m' := m) (fun ex ns r q => ?_) ?_
    · refine xw_ic_geT rfl (w32_cg c4) (w32_cg rfl) (Int.not_lt.mp h0) ?_
      refine xw_aload_n rfl rfl rfl ?_
      refine xw_iload_n rfl rfl ?_
      refine xw_lo (L2 := [(0, xa 536), (3, xi x3), (4, xi x4)]) (List.forall_mem_cons.mpr ⟨rfl, List.forall_mem_cons.mpr ⟨rfl, List.forall_mem_cons.mpr ⟨rfl, fun _ h => absurd h List.not_mem_nil⟩⟩⟩) ?_
      exact q
    refine xS_call (q := 279) (n := 2) (kq := 0) (as := [xa 536, xi x3]) (st1 := []) rfl rfl rfl rfl rfl rfl rfl rfl rfl rfl (fun _ => xw_rcv1 (t := 12) (xw_obd (by decide +kernel)) rfl) rfl (List.forall_mem_cons.mpr ⟨rfl, List.forall_mem_cons.mpr ⟨rfl, fun _ h => absurd h List.not_mem_nil⟩⟩) (ygf279 hB _ _ c3) (fun v2 m2 cv2 => ?_)
    refine xS_of (pc' := 270) (L' := [(0, xa 536), (3, xi x3), (4, xi x4)]) (st' := []) (m' := m2) (fun ex ns r q => ?_) ?_
    · refine xw_lo (L2 := [(0, xa 536), (3, xi x3), (4, xi x4)]) (List.forall_mem_cons.mpr ⟨rfl, List.forall_mem_cons.mpr ⟨rfl, List.forall_mem_cons.mpr ⟨rfl, fun _ h => absurd h List.not_mem_nil⟩⟩⟩) ?_
      exact q
    exact ygk277_270 hB _ _ _ c3 c4
theorem ygf277 {B : Nat} (hB : B ≤ 512) {xs : Nat → Int32} {SL d : Nat} : ∀ m, xS B xs SL (d + 5) 277 (6, none, [], 13) 0 0 [(0, xa 536)] [] m (yf277 B m) := by
  intro m
  unfold yf277
  refine xS_of (pc' := 6) (L' := [(0, xa 536), (1, xi (xR m 536 9))]) (st' := [xa 536]) (m' := m) (fun ex ns r q => ?_) ?_
  · refine xw_aload_n rfl rfl rfl ?_
    refine xw_gfIc (v := (m 536 9)) (v' := (xR m 536 9)) rfl (xw_obd (by decide +kernel)) xk12_9 (qi := 9) rfl rfl rfl ?_
    refine xw_istore_n (L' := [(1, xi (xR m 536 9)), (0, xa 536)]) rfl (by decide) rfl ?_
    refine xw_aload_n rfl rfl rfl ?_
    refine xw_lo (L2 := [(0, xa 536), (1, xi (xR m 536 9))]) (List.forall_mem_cons.mpr ⟨rfl, List.forall_mem_cons.mpr ⟨rfl, fun _ h => absurd h List.not_mem_nil⟩⟩) ?_
    exact q
  refine xS_call (q := 272) (n := 1) (kq := 1) (as := [xa 536]) (st1 := []) rfl rfl rfl rfl rfl rfl rfl rfl rfl rfl (fun _ => xw_rcv1 (t := 12) (xw_obd (by decide +kernel)) rfl) rfl (List.forall_mem_cons.mpr ⟨rfl, fun _ h => absurd h List.not_mem_nil⟩) (ygf272 hB _) (fun v1 m1 cv1 => ?_)
  refine xS_g (fun g0 => ?_)
  refine xS_of (pc' := 20) (L' := [(2, xi v1), (0, xa 536), (1, xi (xR m 536 9))]) (st' := [xi 60, xi (xR m1 (m1 536 23) 13), xa 536]) (m' := m1) (fun ex ns r q => ?_) ?_
  · refine xw_istore_n (L' := [(2, xi v1), (0, xa 536), (1, xi (xR m 536 9))]) rfl (by decide) rfl ?_
    refine xw_aload_n rfl rfl rfl ?_
    refine xw_aload_n rfl rfl rfl ?_
    refine xw_gfM (v := (m1 536 23)) rfl (xw_obd (by decide +kernel)) xk12_23 (qi := 23) rfl rfl ?_
    refine xw_gfIc (v := (m1 (m1 536 23) 13)) (v' := (xR m1 (m1 536 23) 13)) rfl (xw_obd g0) xk13_13 (qi := 13) rfl rfl rfl ?_
    refine xw_bipush (e := 60) rfl (by decide +kernel) ?_
    exact q
  refine xS_if (fun h1 => ?_) (fun h1 => ?_)
  · refine xS_of (pc' := 31) (L' := [(0, xa 536), (2, xi v1)]) (st' := [xi (xR m 536 9), xi 7, xi 1, xa 536]) (m' := m1) (fun ex ns r q => ?_) ?_
    · refine xw_ic_geF rfl (w32_cg (w32_xR _ _ _)) (w32_cg rfl) (Int.not_le.mpr h1) ?_
      refine xw_iconst rfl ?_
      refine xw_goto rfl ?_
      refine xw_bipush (e := 7) rfl (by decide +kernel) ?_
      refine xw_iload_n rfl rfl ?_
      refine xw_lo (L2 := [(0, xa 536), (2, xi v1)]) (List.forall_mem_cons.mpr ⟨rfl, List.forall_mem_cons.mpr ⟨rfl, fun _ h => absurd h List.not_mem_nil⟩⟩) ?_
      exact q
    refine xS_call (q := 254) (n := 4) (kq := 4) (as := [xa 536, xi 1, xi 7, xi (xR m 536 9)]) (st1 := []) rfl rfl rfl rfl rfl rfl rfl rfl rfl rfl (fun _ => xw_rcv1 (t := 12) (xw_obd (by decide +kernel)) rfl) rfl (List.forall_mem_cons.mpr ⟨rfl, List.forall_mem_cons.mpr ⟨rfl, List.forall_mem_cons.mpr ⟨rfl, List.forall_mem_cons.mpr ⟨rfl, fun _ h => absurd h List.not_mem_nil⟩⟩⟩⟩) (ygf254 hB _ _ _ _ rfl rfl (w32_xR _ _ _)) (fun v2 m2 cv2 => ?_)
    refine xS_if (fun h2 => ?_) (fun h2 => ?_)
    · refine xS_of (pc' := 37) (L' := [(0, xa 536), (2, xi v1)]) (st' := []) (m' := m2) (fun ex ns r q => ?_) ?_
      · refine xw_if_neF rfl (w32_cg (w32_of (xw_zr cv2))) h2 ?_
        exact q
      exact xS_ret (v := 0) rfl rfl rfl rfl
    · refine xS_g (fun g3 => ?_)
      refine xS_of (pc' := 56) (L' := [(0, xa 536), (3, xi (xR m2 (m2 536 23) 13))]) (st' := [xi v1, xa 536, xi (xR m2 (m2 536 23) 13), xa (xw_rf (m2 536 23) 14)]) (m' := m2) (fun ex ns r q => ?_) ?_
      · refine xw_if_neT rfl (w32_cg (w32_of (xw_zr cv2))) h2 ?_
        refine xw_aload_n rfl rfl rfl ?_
        refine xw_gfM (v := (m2 536 23)) rfl (xw_obd (by decide +kernel)) xk12_23 (qi := 23) rfl rfl ?_
        refine xw_gfIc (v := (m2 (m2 536 23) 13)) (v' := (xR m2 (m2 536 23) 13)) rfl (xw_obd g3) xk13_13 (qi := 13) rfl rfl rfl ?_
        refine xw_istore_n (L' := [(3, xi (xR m2 (m2 536 23) 13)), (0, xa 536), (2, xi v1)]) rfl (by decide) rfl ?_
        refine xw_aload_n rfl rfl rfl ?_
        refine xw_gfM (v := (m2 536 23)) rfl (xw_obd (by decide +kernel)) xk12_23 (qi := 23) rfl rfl ?_
        refine xw_gfV (qi := 14) rfl (xw_obd g3) xk13_14 rfl ?_
        refine xw_iload_n rfl rfl ?_
        refine xw_aload_n rfl rfl rfl ?_
        refine xw_iload_n rfl rfl ?_
        refine xw_lo (L2 := [(0, xa 536), (3, xi (xR m2 (m2 536 23) 13))]) (List.forall_mem_cons.mpr ⟨rfl, List.forall_mem_cons.mpr ⟨rfl, fun _ h => absurd h List.not_mem_nil⟩⟩) ?_
        exact q
      refine xS_call (q := 273) (n := 2) (kq := 1) (as := [xa 536, xi v1]) (st1 := [xi (xR m2 (m2 536 23) 13), xa (xw_rf (m2 536 23) 14)]) rfl rfl rfl rfl rfl rfl rfl rfl rfl rfl (fun _ => xw_rcv1 (t := 12) (xw_obd (by decide +kernel)) rfl) rfl (List.forall_mem_cons.mpr ⟨rfl, List.forall_mem_cons.mpr ⟨rfl, fun _ h => absurd h List.not_mem_nil⟩⟩) (ygf273 hB _ _ cv1) (fun v3 m3 cv3 => ?_)
      refine xS_g (fun g4 => ?_)
      refine xS_g (fun g5 => ?_)
      refine xS_of (pc' := 61) (L' := [(0, xa 536), (3, xi (xR m2 (m2 536 23) 13))]) (st' := [xa 536]) (m' := (xw_u m3 (xw_rf (m2 536 23) 14) (xR m2 (m2 536 23) 13) v3)) (fun ex ns r q => ?_) ?_
      · refine xw_iast (n := (xw_le B (xw_rf (m2 536 23) 14))) rfl hB (xw_obd g5) rfl g4 ?_
        refine xw_aload_n rfl rfl rfl ?_
        refine xw_lo (L2 := [(0, xa 536), (3, xi (xR m2 (m2 536 23) 13))]) (List.forall_mem_cons.mpr ⟨rfl, List.forall_mem_cons.mpr ⟨rfl, fun _ h => absurd h List.not_mem_nil⟩⟩) ?_
        exact q
      refine xS_call (q := 248) (n := 1) (kq := 0) (as := [xa 536]) (st1 := []) rfl rfl rfl rfl rfl rfl rfl rfl rfl rfl (fun _ => xw_rcv1 (t := 12) (xw_obd (by decide +kernel)) rfl) rfl (List.forall_mem_cons.mpr ⟨rfl, fun _ h => absurd h List.not_mem_nil⟩) (ygf248 hB _) (fun v4 m4 cv4 => ?_)
      refine xS_of (pc' := 67) (L' := [(0, xa 536), (3, xi (xR m2 (m2 536 23) 13))]) (st' := [xi 61, xa 536]) (m' := m4) (fun ex ns r q => ?_) ?_
      · refine xw_aload_n rfl rfl rfl ?_
        refine xw_bipush (e := 61) rfl (by decide +kernel) ?_
        refine xw_lo (L2 := [(0, xa 536), (3, xi (xR m2 (m2 536 23) 13))]) (List.forall_mem_cons.mpr ⟨rfl, List.forall_mem_cons.mpr ⟨rfl, fun _ h => absurd h List.not_mem_nil⟩⟩) ?_
        exact q
      refine xS_call (q := 266) (n := 2) (kq := 4) (as := [xa 536, xi 61]) (st1 := []) rfl rfl rfl rfl rfl rfl rfl rfl rfl rfl (fun _ => xw_rcv1 (t := 12) (xw_obd (by decide +kernel)) rfl) rfl (List.forall_mem_cons.mpr ⟨rfl, List.forall_mem_cons.mpr ⟨rfl, fun _ h => absurd h List.not_mem_nil⟩⟩) (ygf266 hB _ _ rfl) (fun v5 m5 cv5 => ?_)
      refine xS_if (fun h6 => ?_) (fun h6 => ?_)
      · refine xS_of (pc' := 81) (L' := [(0, xa 536), (3, xi (xR m2 (m2 536 23) 13))]) (st' := [xi 15422, xa 536]) (m' := m5) (fun ex ns r q => ?_) ?_
        · refine xw_if_eqT rfl (w32_cg (w32_of (xw_zr cv5))) h6 ?_
          refine xw_aload_n rfl rfl rfl ?_
          refine xw_sipush (e := 15422) rfl (by decide +kernel) ?_
          refine xw_lo (L2 := [(0, xa 536), (3, xi (xR m2 (m2 536 23) 13))]) (List.forall_mem_cons.mpr ⟨rfl, List.forall_mem_cons.mpr ⟨rfl, fun _ h => absurd h List.not_mem_nil⟩⟩) ?_
          exact q
        refine xS_call (q := 266) (n := 2) (kq := 4) (as := [xa 536, xi 15422]) (st1 := []) rfl rfl rfl rfl rfl rfl rfl rfl rfl rfl (fun _ => xw_rcv1 (t := 12) (xw_obd (by decide +kernel)) rfl) rfl (List.forall_mem_cons.mpr ⟨rfl, List.forall_mem_cons.mpr ⟨rfl, fun _ h => absurd h List.not_mem_nil⟩⟩) (ygf266 hB _ _ rfl) (fun v6 m6 cv6 => ?_)
        refine xS_if (fun h7 => ?_) (fun h7 => ?_)
        · refine xS_of (pc' := 94) (L' := [(0, xa 536), (3, xi (xR m2 (m2 536 23) 13))]) (st' := [xi 60, xa 536]) (m' := m6) (fun ex ns r q => ?_) ?_
          · refine xw_if_eqT rfl (w32_cg (w32_of (xw_zr cv6))) h7 ?_
            refine xw_aload_n rfl rfl rfl ?_
            refine xw_bipush (e := 60) rfl (by decide +kernel) ?_
            refine xw_lo (L2 := [(0, xa 536), (3, xi (xR m2 (m2 536 23) 13))]) (List.forall_mem_cons.mpr ⟨rfl, List.forall_mem_cons.mpr ⟨rfl, fun _ h => absurd h List.not_mem_nil⟩⟩) ?_
            exact q
          refine xS_call (q := 266) (n := 2) (kq := 4) (as := [xa 536, xi 60]) (st1 := []) rfl rfl rfl rfl rfl rfl rfl rfl rfl rfl (fun _ => xw_rcv1 (t := 12) (xw_obd (by decide +kernel)) rfl) rfl (List.forall_mem_cons.mpr ⟨rfl, List.forall_mem_cons.mpr ⟨rfl, fun _ h => absurd h List.not_mem_nil⟩⟩) (ygf266 hB _ _ rfl) (fun v7 m7 cv7 => ?_)
          refine xS_if (fun h8 => ?_) (fun h8 => ?_)
          · refine xS_of (pc' := 108) (L' := [(0, xa 536), (3, xi (xR m2 (m2 536 23) 13))]) (st' := [xi 15421, xa 536]) (m' := m7) (fun ex ns r q => ?_) ?_
            · refine xw_if_eqT rfl (w32_cg (w32_of (xw_zr cv7))) h8 ?_
              refine xw_aload_n rfl rfl rfl ?_
              refine xw_sipush (e := 15421) rfl (by decide +kernel) ?_
              refine xw_lo (L2 := [(0, xa 536), (3, xi (xR m2 (m2 536 23) 13))]) (List.forall_mem_cons.mpr ⟨rfl, List.forall_mem_cons.mpr ⟨rfl, fun _ h => absurd h List.not_mem_nil⟩⟩) ?_
              exact q
            refine xS_call (q := 266) (n := 2) (kq := 4) (as := [xa 536, xi 15421]) (st1 := []) rfl rfl rfl rfl rfl rfl rfl rfl rfl rfl (fun _ => xw_rcv1 (t := 12) (xw_obd (by decide +kernel)) rfl) rfl (List.forall_mem_cons.mpr ⟨rfl, List.forall_mem_cons.mpr ⟨rfl, fun _ h => absurd h List.not_mem_nil⟩⟩) (ygf266 hB _ _ rfl) (fun v8 m8 cv8 => ?_)
            refine xS_if (fun h9 => ?_) (fun h9 => ?_)
            · refine xS_of (pc' := 121) (L' := [(0, xa 536), (3, xi (xR m2 (m2 536 23) 13))]) (st' := [xi 62, xa 536]) (m' := m8) (fun ex ns r q => ?_) ?_
              · refine xw_if_eqT rfl (w32_cg (w32_of (xw_zr cv8))) h9 ?_
                refine xw_aload_n rfl rfl rfl ?_
                refine xw_bipush (e := 62) rfl (by decide +kernel) ?_
                refine xw_lo (L2 := [(0, xa 536), (3, xi (xR m2 (m2 536 23) 13))]) (List.forall_mem_cons.mpr ⟨rfl, List.forall_mem_cons.mpr ⟨rfl, fun _ h => absurd h List.not_mem_nil⟩⟩) ?_
                exact q
              refine xS_call (q := 266) (n := 2) (kq := 4) (as := [xa 536, xi 62]) (st1 := []) rfl rfl rfl rfl rfl rfl rfl rfl rfl rfl (fun _ => xw_rcv1 (t := 12) (xw_obd (by decide +kernel)) rfl) rfl (List.forall_mem_cons.mpr ⟨rfl, List.forall_mem_cons.mpr ⟨rfl, fun _ h => absurd h List.not_mem_nil⟩⟩) (ygf266 hB _ _ rfl) (fun v9 m9 cv9 => ?_)
              refine xS_if (fun h10 => ?_) (fun h10 => ?_)
              · refine xS_of (pc' := 135) (L' := [(0, xa 536), (3, xi (xR m2 (m2 536 23) 13))]) (st' := [xi 15933, xa 536]) (m' := m9) (fun ex ns r q => ?_) ?_
                · refine xw_if_eqT rfl (w32_cg (w32_of (xw_zr cv9))) h10 ?_
                  refine xw_aload_n rfl rfl rfl ?_
                  refine xw_sipush (e := 15933) rfl (by decide +kernel) ?_
                  refine xw_lo (L2 := [(0, xa 536), (3, xi (xR m2 (m2 536 23) 13))]) (List.forall_mem_cons.mpr ⟨rfl, List.forall_mem_cons.mpr ⟨rfl, fun _ h => absurd h List.not_mem_nil⟩⟩) ?_
                  exact q
                refine xS_call (q := 266) (n := 2) (kq := 4) (as := [xa 536, xi 15933]) (st1 := []) rfl rfl rfl rfl rfl rfl rfl rfl rfl rfl (fun _ => xw_rcv1 (t := 12) (xw_obd (by decide +kernel)) rfl) rfl (List.forall_mem_cons.mpr ⟨rfl, List.forall_mem_cons.mpr ⟨rfl, fun _ h => absurd h List.not_mem_nil⟩⟩) (ygf266 hB _ _ rfl) (fun v10 m10 cv10 => ?_)
                refine xS_if (fun h11 => ?_) (fun h11 => ?_)
                · refine xS_of (pc' := 148) (L' := [(0, xa 536), (3, xi (xR m2 (m2 536 23) 13))]) (st' := [xi 17, xa 536]) (m' := m10) (fun ex ns r q => ?_) ?_
                  · refine xw_if_eqT rfl (w32_cg (w32_of (xw_zr cv10))) h11 ?_
                    refine xw_aload_n rfl rfl rfl ?_
                    refine xw_bipush (e := 17) rfl (by decide +kernel) ?_
                    refine xw_lo (L2 := [(0, xa 536), (3, xi (xR m2 (m2 536 23) 13))]) (List.forall_mem_cons.mpr ⟨rfl, List.forall_mem_cons.mpr ⟨rfl, fun _ h => absurd h List.not_mem_nil⟩⟩) ?_
                    exact q
                  refine xS_call (q := 257) (n := 2) (kq := 4) (as := [xa 536, xi 17]) (st1 := []) rfl rfl rfl rfl rfl rfl rfl rfl rfl rfl (fun _ => xw_rcv1 (t := 12) (xw_obd (by decide +kernel)) rfl) rfl (List.forall_mem_cons.mpr ⟨rfl, List.forall_mem_cons.mpr ⟨rfl, fun _ h => absurd h List.not_mem_nil⟩⟩) (ygf257 hB _ _ rfl) (fun v11 m11 cv11 => ?_)
                  refine xS_if (fun h12 => ?_) (fun h12 => ?_)
                  · refine xS_of (pc' := 162) (L' := [(0, xa 536), (3, xi (xR m2 (m2 536 23) 13))]) (st' := [xi 18, xa 536]) (m' := m11) (fun ex ns r q => ?_) ?_
                    · refine xw_if_eqT rfl (w32_cg (w32_of (xw_zr cv11))) h12 ?_
                      refine xw_aload_n rfl rfl rfl ?_
                      refine xw_bipush (e := 18) rfl (by decide +kernel) ?_
                      refine xw_lo (L2 := [(0, xa 536), (3, xi (xR m2 (m2 536 23) 13))]) (List.forall_mem_cons.mpr ⟨rfl, List.forall_mem_cons.mpr ⟨rfl, fun _ h => absurd h List.not_mem_nil⟩⟩) ?_
                      exact q
                    refine xS_call (q := 257) (n := 2) (kq := 4) (as := [xa 536, xi 18]) (st1 := []) rfl rfl rfl rfl rfl rfl rfl rfl rfl rfl (fun _ => xw_rcv1 (t := 12) (xw_obd (by decide +kernel)) rfl) rfl (List.forall_mem_cons.mpr ⟨rfl, List.forall_mem_cons.mpr ⟨rfl, fun _ h => absurd h List.not_mem_nil⟩⟩) (ygf257 hB _ _ rfl) (fun v12 m12 cv12 => ?_)
                    refine xS_if (fun h13 => ?_) (fun h13 => ?_)
                    · refine xS_of (pc' := 176) (L' := [(0, xa 536), (3, xi (xR m2 (m2 536 23) 13))]) (st' := [xi 16, xa 536]) (m' := m12) (fun ex ns r q => ?_) ?_
                      · refine xw_if_eqT rfl (w32_cg (w32_of (xw_zr cv12))) h13 ?_
                        refine xw_aload_n rfl rfl rfl ?_
                        refine xw_bipush (e := 16) rfl (by decide +kernel) ?_
                        refine xw_lo (L2 := [(0, xa 536), (3, xi (xR m2 (m2 536 23) 13))]) (List.forall_mem_cons.mpr ⟨rfl, List.forall_mem_cons.mpr ⟨rfl, fun _ h => absurd h List.not_mem_nil⟩⟩) ?_
                        exact q
                      refine xS_call (q := 257) (n := 2) (kq := 4) (as := [xa 536, xi 16]) (st1 := []) rfl rfl rfl rfl rfl rfl rfl rfl rfl rfl (fun _ => xw_rcv1 (t := 12) (xw_obd (by decide +kernel)) rfl) rfl (List.forall_mem_cons.mpr ⟨rfl, List.forall_mem_cons.mpr ⟨rfl, fun _ h => absurd h List.not_mem_nil⟩⟩) (ygf257 hB _ _ rfl) (fun v13 m13 cv13 => ?_)
                      refine xS_if (fun h14 => ?_) (fun h14 => ?_)
                      · refine xS_of (pc' := 201) (L' := [(0, xa 536), (3, xi (xR m2 (m2 536 23) 13)), (4, xi (-1))]) (st' := [xi 0, xa 536]) (m' := m13) (fun ex ns r q => ?_) ?_
                        · refine xw_if_eqT rfl (w32_cg (w32_of (xw_zr cv13))) h14 ?_
                          refine xw_iconst rfl ?_
                          refine xw_istore (L' := [(4, xi (-1)), (0, xa 536), (3, xi (xR m2 (m2 536 23) 13))]) rfl (by decide) rfl ?_
                          refine xw_aload_n rfl rfl rfl ?_
                          refine xw_iload rfl rfl ?_
                          refine xw_if_ltT rfl (w32_cg rfl) (by decide) ?_
                          refine xw_iconst rfl ?_
                          refine xw_lo (L2 := [(0, xa 536), (3, xi (xR m2 (m2 536 23) 13)), (4, xi (-1))]) (List.forall_mem_cons.mpr ⟨rfl, List.forall_mem_cons.mpr ⟨rfl, List.forall_mem_cons.mpr ⟨rfl, fun _ h => absurd h List.not_mem_nil⟩⟩⟩) ?_
                          exact q
                        refine xS_call (q := 258) (n := 2) (kq := 4) (as := [xa 536, xi 0]) (st1 := []) rfl rfl rfl rfl rfl rfl rfl rfl rfl rfl (fun _ => xw_rcv1 (t := 12) (xw_obd (by decide +kernel)) rfl) rfl (List.forall_mem_cons.mpr ⟨rfl, List.forall_mem_cons.mpr ⟨rfl, fun _ h => absurd h List.not_mem_nil⟩⟩) (ygf258 hB _ _ rfl) (fun v14 m14 cv14 => ?_)
                        refine xS_if (fun h15 => ?_) (fun h15 => ?_)
                        · refine xS_of (pc' := 207) (L' := [(0, xa 536), (3, xi (xR m2 (m2 536 23) 13)), (4, xi (-1))]) (st' := []) (m' := m14) (fun ex ns r q => ?_) ?_
                          · refine xw_if_neF rfl (w32_cg (w32_of (xw_zr cv14))) h15 ?_
                            exact q
                          exact xS_ret (v := 0) rfl rfl rfl rfl
                        · refine xS_g (fun g16 => ?_)
                          refine xS_g (fun g17 => ?_)
                          refine xS_g (fun g18 => ?_)
                          refine xS_of (pc' := 242) (L' := [(0, xa 536), (3, xi (xR m2 (m2 536 23) 13)), (4, xi (-1))]) (st' := []) (m' := (xw_u m14 (xw_rf (m14 536 23) 15) (xR m2 (m2 536 23) 13) (-1))) (fun ex ns r q => ?_) ?_
                          · refine xw_if_neT rfl (w32_cg (w32_of (xw_zr cv14))) h15 ?_
                            refine xw_aload_n rfl rfl rfl ?_
                            refine xw_gfM (v := (m14 536 23)) rfl (xw_obd (by decide +kernel)) xk12_23 (qi := 23) rfl rfl ?_
                            refine xw_gfV (qi := 15) rfl (xw_obd g16) xk13_15 rfl ?_
                            refine xw_iload_n rfl rfl ?_
                            refine xw_iload rfl rfl ?_
                            refine xw_iast (n := (xw_le B (xw_rf (m14 536 23) 15))) rfl hB (xw_obd g18) rfl g17 ?_
                            refine xw_iload rfl rfl ?_
                            refine xw_bipush (e := 8) rfl (by decide +kernel) ?_
                            refine xw_ic_neT rfl (w32_cg rfl) (w32_cg rfl) (by decide) ?_
                            refine xw_lo (L2 := [(0, xa 536), (3, xi (xR m2 (m2 536 23) 13)), (4, xi (-1))]) (List.forall_mem_cons.mpr ⟨rfl, List.forall_mem_cons.mpr ⟨rfl, List.forall_mem_cons.mpr ⟨rfl, fun _ h => absurd h List.not_mem_nil⟩⟩⟩) ?_
                            exact q
                          exact ygk277_242 hB _ _ _ (w32_xR _ _ _) rfl
                      · refine xS_of (pc' := 201) (L' := [(0, xa 536), (3, xi (xR m2 (m2 536 23) 13)), (4, xi 8)]) (st' := [xi 1, xa 536]) (m' := m13) (fun ex ns r q => ?_) ?_
                        · refine xw_if_eqF rfl (w32_cg (w32_of (xw_zr cv13))) h14 ?_
                          refine xw_bipush (e := 8) rfl (by decide +kernel) ?_
                          refine xw_goto rfl ?_
                          refine xw_istore (L' := [(4, xi 8), (0, xa 536), (3, xi (xR m2 (m2 536 23) 13))]) rfl (by decide) rfl ?_
                          refine xw_aload_n rfl rfl rfl ?_
                          refine xw_iload rfl rfl ?_
                          refine xw_if_ltF rfl (w32_cg rfl) (by decide) ?_
                          refine xw_iconst rfl ?_
                          refine xw_goto rfl ?_
                          refine xw_lo (L2 := [(0, xa 536), (3, xi (xR m2 (m2 536 23) 13)), (4, xi 8)]) (List.forall_mem_cons.mpr ⟨rfl, List.forall_mem_cons.mpr ⟨rfl, List.forall_mem_cons.mpr ⟨rfl, fun _ h => absurd h List.not_mem_nil⟩⟩⟩) ?_
                          exact q
                        refine xS_call (q := 258) (n := 2) (kq := 4) (as := [xa 536, xi 1]) (st1 := []) rfl rfl rfl rfl rfl rfl rfl rfl rfl rfl (fun _ => xw_rcv1 (t := 12) (xw_obd (by decide +kernel)) rfl) rfl (List.forall_mem_cons.mpr ⟨rfl, List.forall_mem_cons.mpr ⟨rfl, fun _ h => absurd h List.not_mem_nil⟩⟩) (ygf258 hB _ _ rfl) (fun v15 m15 cv15 => ?_)
                        refine xS_if (fun h15 => ?_) (fun h15 => ?_)
                        · refine xS_of (pc' := 207) (L' := [(0, xa 536), (3, xi (xR m2 (m2 536 23) 13)), (4, xi 8)]) (st' := []) (m' := m15) (fun ex ns r q => ?_) ?_
                          · refine xw_if_neF rfl (w32_cg (w32_of (xw_zr cv15))) h15 ?_
                            exact q
                          exact xS_ret (v := 0) rfl rfl rfl rfl
                        · refine xS_g (fun g16 => ?_)
                          refine xS_g (fun g17 => ?_)
                          refine xS_g (fun g18 => ?_)
                          refine xS_of (pc' := 227) (L' := [(0, xa 536), (3, xi (xR m2 (m2 536 23) 13)), (4, xi 8)]) (st' := [xa 536]) (m' := (xw_u m15 (xw_rf (m15 536 23) 15) (xR m2 (m2 536 23) 13) 8)) (fun ex ns r q => ?_) ?_
                          · refine xw_if_neT rfl (w32_cg (w32_of (xw_zr cv15))) h15 ?_
                            refine xw_aload_n rfl rfl rfl ?_
                            refine xw_gfM (v := (m15 536 23)) rfl (xw_obd (by decide +kernel)) xk12_23 (qi := 23) rfl rfl ?_
                            refine xw_gfV (qi := 15) rfl (xw_obd g16) xk13_15 rfl ?_
                            refine xw_iload_n rfl rfl ?_
                            refine xw_iload rfl rfl ?_
                            refine xw_iast (n := (xw_le B (xw_rf (m15 536 23) 15))) rfl hB (xw_obd g18) rfl g17 ?_
                            refine xw_iload rfl rfl ?_
                            refine xw_bipush (e := 8) rfl (by decide +kernel) ?_
                            refine xw_ic_neF rfl (w32_cg rfl) (w32_cg rfl) (by decide) ?_
                            refine xw_aload_n rfl rfl rfl ?_
                            refine xw_lo (L2 := [(0, xa 536), (3, xi (xR m2 (m2 536 23) 13)), (4, xi 8)]) (List.forall_mem_cons.mpr ⟨rfl, List.forall_mem_cons.mpr ⟨rfl, List.forall_mem_cons.mpr ⟨rfl, fun _ h => absurd h List.not_mem_nil⟩⟩⟩) ?_
                            exact q
                          refine xS_call (q := 248) (n := 1) (kq := 0) (as := [xa 536]) (st1 := []) rfl rfl rfl rfl rfl rfl rfl rfl rfl rfl (fun _ => xw_rcv1 (t := 12) (xw_obd (by decide +kernel)) rfl) rfl (List.forall_mem_cons.mpr ⟨rfl, fun _ h => absurd h List.not_mem_nil⟩) (ygf248 hB _) (fun v16 m16 cv16 => ?_)
                          refine xS_of (pc' := 234) (L' := [(0, xa 536), (3, xi (xR m2 (m2 536 23) 13)), (4, xi 8)]) (st' := [xi 18, xa 536, xa 536]) (m' := m16) (fun ex ns r q => ?_) ?_
                          · refine xw_aload_n rfl rfl rfl ?_
                            refine xw_aload_n rfl rfl rfl ?_
                            refine xw_bipush (e := 18) rfl (by decide +kernel) ?_
                            refine xw_lo (L2 := [(0, xa 536), (3, xi (xR m2 (m2 536 23) 13)), (4, xi 8)]) (List.forall_mem_cons.mpr ⟨rfl, List.forall_mem_cons.mpr ⟨rfl, List.forall_mem_cons.mpr ⟨rfl, fun _ h => absurd h List.not_mem_nil⟩⟩⟩) ?_
                            exact q
                          refine xS_call (q := 257) (n := 2) (kq := 4) (as := [xa 536, xi 18]) (st1 := [xa 536]) rfl rfl rfl rfl rfl rfl rfl rfl rfl rfl (fun _ => xw_rcv1 (t := 12) (xw_obd (by decide +kernel)) rfl) rfl (List.forall_mem_cons.mpr ⟨rfl, List.forall_mem_cons.mpr ⟨rfl, fun _ h => absurd h List.not_mem_nil⟩⟩) (ygf257 hB _ _ rfl) (fun v17 m17 cv17 => ?_)
                          refine xS_of (pc' := 237) (L' := [(0, xa 536), (3, xi (xR m2 (m2 536 23) 13)), (4, xi 8)]) (st' := [xi v17, xa 536]) (m' := m17) (fun ex ns r q => ?_) ?_
                          · refine xw_lo (L2 := [(0, xa 536), (3, xi (xR m2 (m2 536 23) 13)), (4, xi 8)]) (List.forall_mem_cons.mpr ⟨rfl, List.forall_mem_cons.mpr ⟨rfl, List.forall_mem_cons.mpr ⟨rfl, fun _ h => absurd h List.not_mem_nil⟩⟩⟩) ?_
                            exact q
                          refine xS_call (q := 258) (n := 2) (kq := 4) (as := [xa 536, xi v17]) (st1 := []) rfl rfl rfl rfl rfl rfl rfl rfl rfl rfl (fun _ => xw_rcv1 (t := 12) (xw_obd (by decide +kernel)) rfl) rfl (List.forall_mem_cons.mpr ⟨rfl, List.forall_mem_cons.mpr ⟨rfl, fun _ h => absurd h List.not_mem_nil⟩⟩) (ygf258 hB _ _ (w32_of (xw_zr cv17))) (fun v18 m18 cv18 => ?_)
                          refine xS_of (pc' := 242) (L' := [(0, xa 536), (3, xi (xR m2 (m2 536 23) 13)), (4, xi 8)]) (st' := []) (m' := m18) (fun ex ns r q => ?_) ?_
                          · refine xw_istore (L' := [(5, xi v18), (0, xa 536), (3, xi (xR m2 (m2 536 23) 13)), (4, xi 8)]) rfl (by decide) rfl ?_
                            refine xw_lo (L2 := [(0, xa 536), (3, xi (xR m2 (m2 536 23) 13)), (4, xi 8)]) (List.forall_mem_cons.mpr ⟨rfl, List.forall_mem_cons.mpr ⟨rfl, List.forall_mem_cons.mpr ⟨rfl, fun _ h => absurd h List.not_mem_nil⟩⟩⟩) ?_
                            exact q
                          exact ygk277_242 hB _ _ _ (w32_xR _ _ _) rfl
                    · refine xS_of (pc' := 201) (L' := [(0, xa 536), (3, xi (xR m2 (m2 536 23) 13)), (4, xi 7)]) (st' := [xi 1, xa 536]) (m' := m12) (fun ex ns r q => ?_) ?_
                      · refine xw_if_eqF rfl (w32_cg (w32_of (xw_zr cv12))) h13 ?_
                        refine xw_bipush (e := 7) rfl (by decide +kernel) ?_
                        refine xw_goto rfl ?_
                        refine xw_istore (L' := [(4, xi 7), (0, xa 536), (3, xi (xR m2 (m2 536 23) 13))]) rfl (by decide) rfl ?_
                        refine xw_aload_n rfl rfl rfl ?_
                        refine xw_iload rfl rfl ?_
                        refine xw_if_ltF rfl (w32_cg rfl) (by decide) ?_
                        refine xw_iconst rfl ?_
                        refine xw_goto rfl ?_
                        refine xw_lo (L2 := [(0, xa 536), (3, xi (xR m2 (m2 536 23) 13)), (4, xi 7)]) (List.forall_mem_cons.mpr ⟨rfl, List.forall_mem_cons.mpr ⟨rfl, List.forall_mem_cons.mpr ⟨rfl, fun _ h => absurd h List.not_mem_nil⟩⟩⟩) ?_
                        exact q
                      refine xS_call (q := 258) (n := 2) (kq := 4) (as := [xa 536, xi 1]) (st1 := []) rfl rfl rfl rfl rfl rfl rfl rfl rfl rfl (fun _ => xw_rcv1 (t := 12) (xw_obd (by decide +kernel)) rfl) rfl (List.forall_mem_cons.mpr ⟨rfl, List.forall_mem_cons.mpr ⟨rfl, fun _ h => absurd h List.not_mem_nil⟩⟩) (ygf258 hB _ _ rfl) (fun v19 m19 cv19 => ?_)
                      refine xS_if (fun h14 => ?_) (fun h14 => ?_)
                      · refine xS_of (pc' := 207) (L' := [(0, xa 536), (3, xi (xR m2 (m2 536 23) 13)), (4, xi 7)]) (st' := []) (m' := m19) (fun ex ns r q => ?_) ?_
                        · refine xw_if_neF rfl (w32_cg (w32_of (xw_zr cv19))) h14 ?_
                          exact q
                        exact xS_ret (v := 0) rfl rfl rfl rfl
                      · refine xS_g (fun g15 => ?_)
                        refine xS_g (fun g16 => ?_)
                        refine xS_g (fun g17 => ?_)
                        refine xS_of (pc' := 242) (L' := [(0, xa 536), (3, xi (xR m2 (m2 536 23) 13)), (4, xi 7)]) (st' := []) (m' := (xw_u m19 (xw_rf (m19 536 23) 15) (xR m2 (m2 536 23) 13) 7)) (fun ex ns r q => ?_) ?_
                        · refine xw_if_neT rfl (w32_cg (w32_of (xw_zr cv19))) h14 ?_
                          refine xw_aload_n rfl rfl rfl ?_
                          refine xw_gfM (v := (m19 536 23)) rfl (xw_obd (by decide +kernel)) xk12_23 (qi := 23) rfl rfl ?_
                          refine xw_gfV (qi := 15) rfl (xw_obd g15) xk13_15 rfl ?_
                          refine xw_iload_n rfl rfl ?_
                          refine xw_iload rfl rfl ?_
                          refine xw_iast (n := (xw_le B (xw_rf (m19 536 23) 15))) rfl hB (xw_obd g17) rfl g16 ?_
                          refine xw_iload rfl rfl ?_
                          refine xw_bipush (e := 8) rfl (by decide +kernel) ?_
                          refine xw_ic_neT rfl (w32_cg rfl) (w32_cg rfl) (by decide) ?_
                          refine xw_lo (L2 := [(0, xa 536), (3, xi (xR m2 (m2 536 23) 13)), (4, xi 7)]) (List.forall_mem_cons.mpr ⟨rfl, List.forall_mem_cons.mpr ⟨rfl, List.forall_mem_cons.mpr ⟨rfl, fun _ h => absurd h List.not_mem_nil⟩⟩⟩) ?_
                          exact q
                        exact ygk277_242 hB _ _ _ (w32_xR _ _ _) rfl
                  · refine xS_of (pc' := 201) (L' := [(0, xa 536), (3, xi (xR m2 (m2 536 23) 13)), (4, xi 6)]) (st' := [xi 1, xa 536]) (m' := m11) (fun ex ns r q => ?_) ?_
                    · refine xw_if_eqF rfl (w32_cg (w32_of (xw_zr cv11))) h12 ?_
                      refine xw_bipush (e := 6) rfl (by decide +kernel) ?_
                      refine xw_goto rfl ?_
                      refine xw_istore (L' := [(4, xi 6), (0, xa 536), (3, xi (xR m2 (m2 536 23) 13))]) rfl (by decide) rfl ?_
                      refine xw_aload_n rfl rfl rfl ?_
                      refine xw_iload rfl rfl ?_
                      refine xw_if_ltF rfl (w32_cg rfl) (by decide) ?_
                      refine xw_iconst rfl ?_
                      refine xw_goto rfl ?_
                      refine xw_lo (L2 := [(0, xa 536), (3, xi (xR m2 (m2 536 23) 13)), (4, xi 6)]) (List.forall_mem_cons.mpr ⟨rfl, List.forall_mem_cons.mpr ⟨rfl, List.forall_mem_cons.mpr ⟨rfl, fun _ h => absurd h List.not_mem_nil⟩⟩⟩) ?_
                      exact q
                    refine xS_call (q := 258) (n := 2) (kq := 4) (as := [xa 536, xi 1]) (st1 := []) rfl rfl rfl rfl rfl rfl rfl rfl rfl rfl (fun _ => xw_rcv1 (t := 12) (xw_obd (by decide +kernel)) rfl) rfl (List.forall_mem_cons.mpr ⟨rfl, List.forall_mem_cons.mpr ⟨rfl, fun _ h => absurd h List.not_mem_nil⟩⟩) (ygf258 hB _ _ rfl) (fun v20 m20 cv20 => ?_)
                    refine xS_if (fun h13 => ?_) (fun h13 => ?_)
                    · refine xS_of (pc' := 207) (L' := [(0, xa 536), (3, xi (xR m2 (m2 536 23) 13)), (4, xi 6)]) (st' := []) (m' := m20) (fun ex ns r q => ?_) ?_
                      · refine xw_if_neF rfl (w32_cg (w32_of (xw_zr cv20))) h13 ?_
                        exact q
                      exact xS_ret (v := 0) rfl rfl rfl rfl
                    · refine xS_g (fun g14 => ?_)
                      refine xS_g (fun g15 => ?_)
                      refine xS_g (fun g16 => ?_)
                      refine xS_of (pc' := 242) (L' := [(0, xa 536), (3, xi (xR m2 (m2 536 23) 13)), (4, xi 6)]) (st' := []) (m' := (xw_u m20 (xw_rf (m20 536 23) 15) (xR m2 (m2 536 23) 13) 6)) (fun ex ns r q => ?_) ?_
                      · refine xw_if_neT rfl (w32_cg (w32_of (xw_zr cv20))) h13 ?_
                        refine xw_aload_n rfl rfl rfl ?_
                        refine xw_gfM (v := (m20 536 23)) rfl (xw_obd (by decide +kernel)) xk12_23 (qi := 23) rfl rfl ?_
                        refine xw_gfV (qi := 15) rfl (xw_obd g14) xk13_15 rfl ?_
                        refine xw_iload_n rfl rfl ?_
                        refine xw_iload rfl rfl ?_
                        refine xw_iast (n := (xw_le B (xw_rf (m20 536 23) 15))) rfl hB (xw_obd g16) rfl g15 ?_
                        refine xw_iload rfl rfl ?_
                        refine xw_bipush (e := 8) rfl (by decide +kernel) ?_
                        refine xw_ic_neT rfl (w32_cg rfl) (w32_cg rfl) (by decide) ?_
                        refine xw_lo (L2 := [(0, xa 536), (3, xi (xR m2 (m2 536 23) 13)), (4, xi 6)]) (List.forall_mem_cons.mpr ⟨rfl, List.forall_mem_cons.mpr ⟨rfl, List.forall_mem_cons.mpr ⟨rfl, fun _ h => absurd h List.not_mem_nil⟩⟩⟩) ?_
                        exact q
                      exact ygk277_242 hB _ _ _ (w32_xR _ _ _) rfl
                · refine xS_of (pc' := 201) (L' := [(0, xa 536), (3, xi (xR m2 (m2 536 23) 13)), (4, xi 5)]) (st' := [xi 1, xa 536]) (m' := m10) (fun ex ns r q => ?_) ?_
                  · refine xw_if_eqF rfl (w32_cg (w32_of (xw_zr cv10))) h11 ?_
                    refine xw_iconst rfl ?_
                    refine xw_goto rfl ?_
                    refine xw_istore (L' := [(4, xi 5), (0, xa 536), (3, xi (xR m2 (m2 536 23) 13))]) rfl (by decide) rfl ?_
                    refine xw_aload_n rfl rfl rfl ?_
                    refine xw_iload rfl rfl ?_
                    refine xw_if_ltF rfl (w32_cg rfl) (by decide) ?_
                    refine xw_iconst rfl ?_
                    refine xw_goto rfl ?_
                    refine xw_lo (L2 := [(0, xa 536), (3, xi (xR m2 (m2 536 23) 13)), (4, xi 5)]) (List.forall_mem_cons.mpr ⟨rfl, List.forall_mem_cons.mpr ⟨rfl, List.forall_mem_cons.mpr ⟨rfl, fun _ h => absurd h List.not_mem_nil⟩⟩⟩) ?_
                    exact q
                  refine xS_call (q := 258) (n := 2) (kq := 4) (as := [xa 536, xi 1]) (st1 := []) rfl rfl rfl rfl rfl rfl rfl rfl rfl rfl (fun _ => xw_rcv1 (t := 12) (xw_obd (by decide +kernel)) rfl) rfl (List.forall_mem_cons.mpr ⟨rfl, List.forall_mem_cons.mpr ⟨rfl, fun _ h => absurd h List.not_mem_nil⟩⟩) (ygf258 hB _ _ rfl) (fun v21 m21 cv21 => ?_)
                  refine xS_if (fun h12 => ?_) (fun h12 => ?_)
                  · refine xS_of (pc' := 207) (L' := [(0, xa 536), (3, xi (xR m2 (m2 536 23) 13)), (4, xi 5)]) (st' := []) (m' := m21) (fun ex ns r q => ?_) ?_
                    · refine xw_if_neF rfl (w32_cg (w32_of (xw_zr cv21))) h12 ?_
                      exact q
                    exact xS_ret (v := 0) rfl rfl rfl rfl
                  · refine xS_g (fun g13 => ?_)
                    refine xS_g (fun g14 => ?_)
                    refine xS_g (fun g15 => ?_)
                    refine xS_of (pc' := 242) (L' := [(0, xa 536), (3, xi (xR m2 (m2 536 23) 13)), (4, xi 5)]) (st' := []) (m' := (xw_u m21 (xw_rf (m21 536 23) 15) (xR m2 (m2 536 23) 13) 5)) (fun ex ns r q => ?_) ?_
                    · refine xw_if_neT rfl (w32_cg (w32_of (xw_zr cv21))) h12 ?_
                      refine xw_aload_n rfl rfl rfl ?_
                      refine xw_gfM (v := (m21 536 23)) rfl (xw_obd (by decide +kernel)) xk12_23 (qi := 23) rfl rfl ?_
                      refine xw_gfV (qi := 15) rfl (xw_obd g13) xk13_15 rfl ?_
                      refine xw_iload_n rfl rfl ?_
                      refine xw_iload rfl rfl ?_
                      refine xw_iast (n := (xw_le B (xw_rf (m21 536 23) 15))) rfl hB (xw_obd g15) rfl g14 ?_
                      refine xw_iload rfl rfl ?_
                      refine xw_bipush (e := 8) rfl (by decide +kernel) ?_
                      refine xw_ic_neT rfl (w32_cg rfl) (w32_cg rfl) (by decide) ?_
                      refine xw_lo (L2 := [(0, xa 536), (3, xi (xR m2 (m2 536 23) 13)), (4, xi 5)]) (List.forall_mem_cons.mpr ⟨rfl, List.forall_mem_cons.mpr ⟨rfl, List.forall_mem_cons.mpr ⟨rfl, fun _ h => absurd h List.not_mem_nil⟩⟩⟩) ?_
                      exact q
                    exact ygk277_242 hB _ _ _ (w32_xR _ _ _) rfl
              · refine xS_of (pc' := 201) (L' := [(0, xa 536), (3, xi (xR m2 (m2 536 23) 13)), (4, xi 4)]) (st' := [xi 1, xa 536]) (m' := m9) (fun ex ns r q => ?_) ?_
                · refine xw_if_eqF rfl (w32_cg (w32_of (xw_zr cv9))) h10 ?_
                  refine xw_iconst rfl ?_
                  refine xw_goto rfl ?_
                  refine xw_istore (L' := [(4, xi 4), (0, xa 536), (3, xi (xR m2 (m2 536 23) 13))]) rfl (by decide) rfl ?_
                  refine xw_aload_n rfl rfl rfl ?_
                  refine xw_iload rfl rfl ?_
                  refine xw_if_ltF rfl (w32_cg rfl) (by decide) ?_
                  refine xw_iconst rfl ?_
                  refine xw_goto rfl ?_
                  refine xw_lo (L2 := [(0, xa 536), (3, xi (xR m2 (m2 536 23) 13)), (4, xi 4)]) (List.forall_mem_cons.mpr ⟨rfl, List.forall_mem_cons.mpr ⟨rfl, List.forall_mem_cons.mpr ⟨rfl, fun _ h => absurd h List.not_mem_nil⟩⟩⟩) ?_
                  exact q
                refine xS_call (q := 258) (n := 2) (kq := 4) (as := [xa 536, xi 1]) (st1 := []) rfl rfl rfl rfl rfl rfl rfl rfl rfl rfl (fun _ => xw_rcv1 (t := 12) (xw_obd (by decide +kernel)) rfl) rfl (List.forall_mem_cons.mpr ⟨rfl, List.forall_mem_cons.mpr ⟨rfl, fun _ h => absurd h List.not_mem_nil⟩⟩) (ygf258 hB _ _ rfl) (fun v22 m22 cv22 => ?_)
                refine xS_if (fun h11 => ?_) (fun h11 => ?_)
                · refine xS_of (pc' := 207) (L' := [(0, xa 536), (3, xi (xR m2 (m2 536 23) 13)), (4, xi 4)]) (st' := []) (m' := m22) (fun ex ns r q => ?_) ?_
                  · refine xw_if_neF rfl (w32_cg (w32_of (xw_zr cv22))) h11 ?_
                    exact q
                  exact xS_ret (v := 0) rfl rfl rfl rfl
                · refine xS_g (fun g12 => ?_)
                  refine xS_g (fun g13 => ?_)
                  refine xS_g (fun g14 => ?_)
                  refine xS_of (pc' := 242) (L' := [(0, xa 536), (3, xi (xR m2 (m2 536 23) 13)), (4, xi 4)]) (st' := []) (m' := (xw_u m22 (xw_rf (m22 536 23) 15) (xR m2 (m2 536 23) 13) 4)) (fun ex ns r q => ?_) ?_
                  · refine xw_if_neT rfl (w32_cg (w32_of (xw_zr cv22))) h11 ?_
                    refine xw_aload_n rfl rfl rfl ?_
                    refine xw_gfM (v := (m22 536 23)) rfl (xw_obd (by decide +kernel)) xk12_23 (qi := 23) rfl rfl ?_
                    refine xw_gfV (qi := 15) rfl (xw_obd g12) xk13_15 rfl ?_
                    refine xw_iload_n rfl rfl ?_
                    refine xw_iload rfl rfl ?_
                    refine xw_iast (n := (xw_le B (xw_rf (m22 536 23) 15))) rfl hB (xw_obd g14) rfl g13 ?_
                    refine xw_iload rfl rfl ?_
                    refine xw_bipush (e := 8) rfl (by decide +kernel) ?_
                    refine xw_ic_neT rfl (w32_cg rfl) (w32_cg rfl) (by decide) ?_
                    refine xw_lo (L2 := [(0, xa 536), (3, xi (xR m2 (m2 536 23) 13)), (4, xi 4)]) (List.forall_mem_cons.mpr ⟨rfl, List.forall_mem_cons.mpr ⟨rfl, List.forall_mem_cons.mpr ⟨rfl, fun _ h => absurd h List.not_mem_nil⟩⟩⟩) ?_
                    exact q
                  exact ygk277_242 hB _ _ _ (w32_xR _ _ _) rfl
            · refine xS_of (pc' := 201) (L' := [(0, xa 536), (3, xi (xR m2 (m2 536 23) 13)), (4, xi 3)]) (st' := [xi 1, xa 536]) (m' := m8) (fun ex ns r q => ?_) ?_
              · refine xw_if_eqF rfl (w32_cg (w32_of (xw_zr cv8))) h9 ?_
                refine xw_iconst rfl ?_
                refine xw_goto rfl ?_
                refine xw_istore (L' := [(4, xi 3), (0, xa 536), (3, xi (xR m2 (m2 536 23) 13))]) rfl (by decide) rfl ?_
                refine xw_aload_n rfl rfl rfl ?_
                refine xw_iload rfl rfl ?_
                refine xw_if_ltF rfl (w32_cg rfl) (by decide) ?_
                refine xw_iconst rfl ?_
                refine xw_goto rfl ?_
                refine xw_lo (L2 := [(0, xa 536), (3, xi (xR m2 (m2 536 23) 13)), (4, xi 3)]) (List.forall_mem_cons.mpr ⟨rfl, List.forall_mem_cons.mpr ⟨rfl, List.forall_mem_cons.mpr ⟨rfl, fun _ h => absurd h List.not_mem_nil⟩⟩⟩) ?_
                exact q
              refine xS_call (q := 258) (n := 2) (kq := 4) (as := [xa 536, xi 1]) (st1 := []) rfl rfl rfl rfl rfl rfl rfl rfl rfl rfl (fun _ => xw_rcv1 (t := 12) (xw_obd (by decide +kernel)) rfl) rfl (List.forall_mem_cons.mpr ⟨rfl, List.forall_mem_cons.mpr ⟨rfl, fun _ h => absurd h List.not_mem_nil⟩⟩) (ygf258 hB _ _ rfl) (fun v23 m23 cv23 => ?_)
              refine xS_if (fun h10 => ?_) (fun h10 => ?_)
              · refine xS_of (pc' := 207) (L' := [(0, xa 536), (3, xi (xR m2 (m2 536 23) 13)), (4, xi 3)]) (st' := []) (m' := m23) (fun ex ns r q => ?_) ?_
                · refine xw_if_neF rfl (w32_cg (w32_of (xw_zr cv23))) h10 ?_
                  exact q
                exact xS_ret (v := 0) rfl rfl rfl rfl
              · refine xS_g (fun g11 => ?_)
                refine xS_g (fun g12 => ?_)
                refine xS_g (fun g13 => ?_)
                refine xS_of (pc' := 242) (L' := [(0, xa 536), (3, xi (xR m2 (m2 536 23) 13)), (4, xi 3)]) (st' := []) (m' := (xw_u m23 (xw_rf (m23 536 23) 15) (xR m2 (m2 536 23) 13) 3)) (fun ex ns r q => ?_) ?_
                · refine xw_if_neT rfl (w32_cg (w32_of (xw_zr cv23))) h10 ?_
                  refine xw_aload_n rfl rfl rfl ?_
                  refine xw_gfM (v := (m23 536 23)) rfl (xw_obd (by decide +kernel)) xk12_23 (qi := 23) rfl rfl ?_
                  refine xw_gfV (qi := 15) rfl (xw_obd g11) xk13_15 rfl ?_
                  refine xw_iload_n rfl rfl ?_
                  refine xw_iload rfl rfl ?_
                  refine xw_iast (n := (xw_le B (xw_rf (m23 536 23) 15))) rfl hB (xw_obd g13) rfl g12 ?_
                  refine xw_iload rfl rfl ?_
                  refine xw_bipush (e := 8) rfl (by decide +kernel) ?_
                  refine xw_ic_neT rfl (w32_cg rfl) (w32_cg rfl) (by decide) ?_
                  refine xw_lo (L2 := [(0, xa 536), (3, xi (xR m2 (m2 536 23) 13)), (4, xi 3)]) (List.forall_mem_cons.mpr ⟨rfl, List.forall_mem_cons.mpr ⟨rfl, List.forall_mem_cons.mpr ⟨rfl, fun _ h => absurd h List.not_mem_nil⟩⟩⟩) ?_
                  exact q
                exact ygk277_242 hB _ _ _ (w32_xR _ _ _) rfl
          · refine xS_of (pc' := 201) (L' := [(0, xa 536), (3, xi (xR m2 (m2 536 23) 13)), (4, xi 2)]) (st' := [xi 1, xa 536]) (m' := m7) (fun ex ns r q => ?_) ?_
            · refine xw_if_eqF rfl (w32_cg (w32_of (xw_zr cv7))) h8 ?_
              refine xw_iconst rfl ?_
              refine xw_goto rfl ?_
              refine xw_istore (L' := [(4, xi 2), (0, xa 536), (3, xi (xR m2 (m2 536 23) 13))]) rfl (by decide) rfl ?_
              refine xw_aload_n rfl rfl rfl ?_
              refine xw_iload rfl rfl ?_
              refine xw_if_ltF rfl (w32_cg rfl) (by decide) ?_
              refine xw_iconst rfl ?_
              refine xw_goto rfl ?_
              refine xw_lo (L2 := [(0, xa 536), (3, xi (xR m2 (m2 536 23) 13)), (4, xi 2)]) (List.forall_mem_cons.mpr ⟨rfl, List.forall_mem_cons.mpr ⟨rfl, List.forall_mem_cons.mpr ⟨rfl, fun _ h => absurd h List.not_mem_nil⟩⟩⟩) ?_
              exact q
            refine xS_call (q := 258) (n := 2) (kq := 4) (as := [xa 536, xi 1]) (st1 := []) rfl rfl rfl rfl rfl rfl rfl rfl rfl rfl (fun _ => xw_rcv1 (t := 12) (xw_obd (by decide +kernel)) rfl) rfl (List.forall_mem_cons.mpr ⟨rfl, List.forall_mem_cons.mpr ⟨rfl, fun _ h => absurd h List.not_mem_nil⟩⟩) (ygf258 hB _ _ rfl) (fun v24 m24 cv24 => ?_)
            refine xS_if (fun h9 => ?_) (fun h9 => ?_)
            · refine xS_of (pc' := 207) (L' := [(0, xa 536), (3, xi (xR m2 (m2 536 23) 13)), (4, xi 2)]) (st' := []) (m' := m24) (fun ex ns r q => ?_) ?_
              · refine xw_if_neF rfl (w32_cg (w32_of (xw_zr cv24))) h9 ?_
                exact q
              exact xS_ret (v := 0) rfl rfl rfl rfl
            · refine xS_g (fun g10 => ?_)
              refine xS_g (fun g11 => ?_)
              refine xS_g (fun g12 => ?_)
              refine xS_of (pc' := 242) (L' := [(0, xa 536), (3, xi (xR m2 (m2 536 23) 13)), (4, xi 2)]) (st' := []) (m' := (xw_u m24 (xw_rf (m24 536 23) 15) (xR m2 (m2 536 23) 13) 2)) (fun ex ns r q => ?_) ?_
              · refine xw_if_neT rfl (w32_cg (w32_of (xw_zr cv24))) h9 ?_
                refine xw_aload_n rfl rfl rfl ?_
                refine xw_gfM (v := (m24 536 23)) rfl (xw_obd (by decide +kernel)) xk12_23 (qi := 23) rfl rfl ?_
                refine xw_gfV (qi := 15) rfl (xw_obd g10) xk13_15 rfl ?_
                refine xw_iload_n rfl rfl ?_
                refine xw_iload rfl rfl ?_
                refine xw_iast (n := (xw_le B (xw_rf (m24 536 23) 15))) rfl hB (xw_obd g12) rfl g11 ?_
                refine xw_iload rfl rfl ?_
                refine xw_bipush (e := 8) rfl (by decide +kernel) ?_
                refine xw_ic_neT rfl (w32_cg rfl) (w32_cg rfl) (by decide) ?_
                refine xw_lo (L2 := [(0, xa 536), (3, xi (xR m2 (m2 536 23) 13)), (4, xi 2)]) (List.forall_mem_cons.mpr ⟨rfl, List.forall_mem_cons.mpr ⟨rfl, List.forall_mem_cons.mpr ⟨rfl, fun _ h => absurd h List.not_mem_nil⟩⟩⟩) ?_
                exact q
              exact ygk277_242 hB _ _ _ (w32_xR _ _ _) rfl
        · refine xS_of (pc' := 201) (L' := [(0, xa 536), (3, xi (xR m2 (m2 536 23) 13)), (4, xi 1)]) (st' := [xi 1, xa 536]) (m' := m6) (fun ex ns r q => ?_) ?_
          · refine xw_if_eqF rfl (w32_cg (w32_of (xw_zr cv6))) h7 ?_
            refine xw_iconst rfl ?_
            refine xw_goto rfl ?_
            refine xw_istore (L' := [(4, xi 1), (0, xa 536), (3, xi (xR m2 (m2 536 23) 13))]) rfl (by decide) rfl ?_
            refine xw_aload_n rfl rfl rfl ?_
            refine xw_iload rfl rfl ?_
            refine xw_if_ltF rfl (w32_cg rfl) (by decide) ?_
            refine xw_iconst rfl ?_
            refine xw_goto rfl ?_
            refine xw_lo (L2 := [(0, xa 536), (3, xi (xR m2 (m2 536 23) 13)), (4, xi 1)]) (List.forall_mem_cons.mpr ⟨rfl, List.forall_mem_cons.mpr ⟨rfl, List.forall_mem_cons.mpr ⟨rfl, fun _ h => absurd h List.not_mem_nil⟩⟩⟩) ?_
            exact q
          refine xS_call (q := 258) (n := 2) (kq := 4) (as := [xa 536, xi 1]) (st1 := []) rfl rfl rfl rfl rfl rfl rfl rfl rfl rfl (fun _ => xw_rcv1 (t := 12) (xw_obd (by decide +kernel)) rfl) rfl (List.forall_mem_cons.mpr ⟨rfl, List.forall_mem_cons.mpr ⟨rfl, fun _ h => absurd h List.not_mem_nil⟩⟩) (ygf258 hB _ _ rfl) (fun v25 m25 cv25 => ?_)
          refine xS_if (fun h8 => ?_) (fun h8 => ?_)
          · refine xS_of (pc' := 207) (L' := [(0, xa 536), (3, xi (xR m2 (m2 536 23) 13)), (4, xi 1)]) (st' := []) (m' := m25) (fun ex ns r q => ?_) ?_
            · refine xw_if_neF rfl (w32_cg (w32_of (xw_zr cv25))) h8 ?_
              exact q
            exact xS_ret (v := 0) rfl rfl rfl rfl
          · refine xS_g (fun g9 => ?_)
            refine xS_g (fun g10 => ?_)
            refine xS_g (fun g11 => ?_)
            refine xS_of (pc' := 242) (L' := [(0, xa 536), (3, xi (xR m2 (m2 536 23) 13)), (4, xi 1)]) (st' := []) (m' := (xw_u m25 (xw_rf (m25 536 23) 15) (xR m2 (m2 536 23) 13) 1)) (fun ex ns r q => ?_) ?_
            · refine xw_if_neT rfl (w32_cg (w32_of (xw_zr cv25))) h8 ?_
              refine xw_aload_n rfl rfl rfl ?_
              refine xw_gfM (v := (m25 536 23)) rfl (xw_obd (by decide +kernel)) xk12_23 (qi := 23) rfl rfl ?_
              refine xw_gfV (qi := 15) rfl (xw_obd g9) xk13_15 rfl ?_
              refine xw_iload_n rfl rfl ?_
              refine xw_iload rfl rfl ?_
              refine xw_iast (n := (xw_le B (xw_rf (m25 536 23) 15))) rfl hB (xw_obd g11) rfl g10 ?_
              refine xw_iload rfl rfl ?_
              refine xw_bipush (e := 8) rfl (by decide +kernel) ?_
              refine xw_ic_neT rfl (w32_cg rfl) (w32_cg rfl) (by decide) ?_
              refine xw_lo (L2 := [(0, xa 536), (3, xi (xR m2 (m2 536 23) 13)), (4, xi 1)]) (List.forall_mem_cons.mpr ⟨rfl, List.forall_mem_cons.mpr ⟨rfl, List.forall_mem_cons.mpr ⟨rfl, fun _ h => absurd h List.not_mem_nil⟩⟩⟩) ?_
              exact q
            exact ygk277_242 hB _ _ _ (w32_xR _ _ _) rfl
      · refine xS_of (pc' := 201) (L' := [(0, xa 536), (3, xi (xR m2 (m2 536 23) 13)), (4, xi 0)]) (st' := [xi 1, xa 536]) (m' := m5) (fun ex ns r q => ?_) ?_
        · refine xw_if_eqF rfl (w32_cg (w32_of (xw_zr cv5))) h6 ?_
          refine xw_iconst rfl ?_
          refine xw_goto rfl ?_
          refine xw_istore (L' := [(4, xi 0), (0, xa 536), (3, xi (xR m2 (m2 536 23) 13))]) rfl (by decide) rfl ?_
          refine xw_aload_n rfl rfl rfl ?_
          refine xw_iload rfl rfl ?_
          refine xw_if_ltF rfl (w32_cg rfl) (by decide) ?_
          refine xw_iconst rfl ?_
          refine xw_goto rfl ?_
          refine xw_lo (L2 := [(0, xa 536), (3, xi (xR m2 (m2 536 23) 13)), (4, xi 0)]) (List.forall_mem_cons.mpr ⟨rfl, List.forall_mem_cons.mpr ⟨rfl, List.forall_mem_cons.mpr ⟨rfl, fun _ h => absurd h List.not_mem_nil⟩⟩⟩) ?_
          exact q
        refine xS_call (q := 258) (n := 2) (kq := 4) (as := [xa 536, xi 1]) (st1 := []) rfl rfl rfl rfl rfl rfl rfl rfl rfl rfl (fun _ => xw_rcv1 (t := 12) (xw_obd (by decide +kernel)) rfl) rfl (List.forall_mem_cons.mpr ⟨rfl, List.forall_mem_cons.mpr ⟨rfl, fun _ h => absurd h List.not_mem_nil⟩⟩) (ygf258 hB _ _ rfl) (fun v26 m26 cv26 => ?_)
        refine xS_if (fun h7 => ?_) (fun h7 => ?_)
        · refine xS_of (pc' := 207) (L' := [(0, xa 536), (3, xi (xR m2 (m2 536 23) 13)), (4, xi 0)]) (st' := []) (m' := m26) (fun ex ns r q => ?_) ?_
          · refine xw_if_neF rfl (w32_cg (w32_of (xw_zr cv26))) h7 ?_
            exact q
          exact xS_ret (v := 0) rfl rfl rfl rfl
        · refine xS_g (fun g8 => ?_)
          refine xS_g (fun g9 => ?_)
          refine xS_g (fun g10 => ?_)
          refine xS_of (pc' := 242) (L' := [(0, xa 536), (3, xi (xR m2 (m2 536 23) 13)), (4, xi 0)]) (st' := []) (m' := (xw_u m26 (xw_rf (m26 536 23) 15) (xR m2 (m2 536 23) 13) 0)) (fun ex ns r q => ?_) ?_
          · refine xw_if_neT rfl (w32_cg (w32_of (xw_zr cv26))) h7 ?_
            refine xw_aload_n rfl rfl rfl ?_
            refine xw_gfM (v := (m26 536 23)) rfl (xw_obd (by decide +kernel)) xk12_23 (qi := 23) rfl rfl ?_
            refine xw_gfV (qi := 15) rfl (xw_obd g8) xk13_15 rfl ?_
            refine xw_iload_n rfl rfl ?_
            refine xw_iload rfl rfl ?_
            refine xw_iast (n := (xw_le B (xw_rf (m26 536 23) 15))) rfl hB (xw_obd g10) rfl g9 ?_
            refine xw_iload rfl rfl ?_
            refine xw_bipush (e := 8) rfl (by decide +kernel) ?_
            refine xw_ic_neT rfl (w32_cg rfl) (w32_cg rfl) (by decide) ?_
            refine xw_lo (L2 := [(0, xa 536), (3, xi (xR m2 (m2 536 23) 13)), (4, xi 0)]) (List.forall_mem_cons.mpr ⟨rfl, List.forall_mem_cons.mpr ⟨rfl, List.forall_mem_cons.mpr ⟨rfl, fun _ h => absurd h List.not_mem_nil⟩⟩⟩) ?_
            exact q
          exact ygk277_242 hB _ _ _ (w32_xR _ _ _) rfl
  · refine xS_of (pc' := 31) (L' := [(0, xa 536), (2, xi v1)]) (st' := [xi (xR m 536 9), xi 7, xi 0, xa 536]) (m' := m1) (fun ex ns r q => ?_) ?_
    · refine xw_ic_geT rfl (w32_cg (w32_xR _ _ _)) (w32_cg rfl) (Int.not_lt.mp h1) ?_
      refine xw_iconst rfl ?_
      refine xw_bipush (e := 7) rfl (by decide +kernel) ?_
      refine xw_iload_n rfl rfl ?_
      refine xw_lo (L2 := [(0, xa 536), (2, xi v1)]) (List.forall_mem_cons.mpr ⟨rfl, List.forall_mem_cons.mpr ⟨rfl, fun _ h => absurd h List.not_mem_nil⟩⟩) ?_
      exact q
    refine xS_call (q := 254) (n := 4) (kq := 4) (as := [xa 536, xi 0, xi 7, xi (xR m 536 9)]) (st1 := []) rfl rfl rfl rfl rfl rfl rfl rfl rfl rfl (fun _ => xw_rcv1 (t := 12) (xw_obd (by decide +kernel)) rfl) rfl (List.forall_mem_cons.mpr ⟨rfl, List.forall_mem_cons.mpr ⟨rfl, List.forall_mem_cons.mpr ⟨rfl, List.forall_mem_cons.mpr ⟨rfl, fun _ h => absurd h List.not_mem_nil⟩⟩⟩⟩) (ygf254 hB _ _ _ _ rfl rfl (w32_xR _ _ _)) (fun v27 m27 cv27 => ?_)
    refine xS_if (fun h2 => ?_) (fun h2 => ?_)
    · refine xS_of (pc' := 37) (L' := [(0, xa 536), (2, xi v1)]) (st' := []) (m' := m27) (fun ex ns r q => ?_) ?_
      · refine xw_if_neF rfl (w32_cg (w32_of (xw_zr cv27))) h2 ?_
        exact q
      exact xS_ret (v := 0) rfl rfl rfl rfl
    · refine xS_g (fun g3 => ?_)
      refine xS_of (pc' := 56) (L' := [(0, xa 536), (3, xi (xR m27 (m27 536 23) 13))]) (st' := [xi v1, xa 536, xi (xR m27 (m27 536 23) 13), xa (xw_rf (m27 536 23) 14)]) (m' := m27) (fun ex ns r q => ?_) ?_
      · refine xw_if_neT rfl (w32_cg (w32_of (xw_zr cv27))) h2 ?_
        refine xw_aload_n rfl rfl rfl ?_
        refine xw_gfM (v := (m27 536 23)) rfl (xw_obd (by decide +kernel)) xk12_23 (qi := 23) rfl rfl ?_
        refine xw_gfIc (v := (m27 (m27 536 23) 13)) (v' := (xR m27 (m27 536 23) 13)) rfl (xw_obd g3) xk13_13 (qi := 13) rfl rfl rfl ?_
        refine xw_istore_n (L' := [(3, xi (xR m27 (m27 536 23) 13)), (0, xa 536), (2, xi v1)]) rfl (by decide) rfl ?_
        refine xw_aload_n rfl rfl rfl ?_
        refine xw_gfM (v := (m27 536 23)) rfl (xw_obd (by decide +kernel)) xk12_23 (qi := 23) rfl rfl ?_
        refine xw_gfV (qi := 14) rfl (xw_obd g3) xk13_14 rfl ?_
        refine xw_iload_n rfl rfl ?_
        refine xw_aload_n rfl rfl rfl ?_
        refine xw_iload_n rfl rfl ?_
        refine xw_lo (L2 := [(0, xa 536), (3, xi (xR m27 (m27 536 23) 13))]) (List.forall_mem_cons.mpr ⟨rfl, List.forall_mem_cons.mpr ⟨rfl, fun _ h => absurd h List.not_mem_nil⟩⟩) ?_
        exact q
      refine xS_call (q := 273) (n := 2) (kq := 1) (as := [xa 536, xi v1]) (st1 := [xi (xR m27 (m27 536 23) 13), xa (xw_rf (m27 536 23) 14)]) rfl rfl rfl rfl rfl rfl rfl rfl rfl rfl (fun _ => xw_rcv1 (t := 12) (xw_obd (by decide +kernel)) rfl) rfl (List.forall_mem_cons.mpr ⟨rfl, List.forall_mem_cons.mpr ⟨rfl, fun _ h => absurd h List.not_mem_nil⟩⟩) (ygf273 hB _ _ cv1) (fun v28 m28 cv28 => ?_)
      refine xS_g (fun g4 => ?_)
      refine xS_g (fun g5 => ?_)
      refine xS_of (pc' := 61) (L' := [(0, xa 536), (3, xi (xR m27 (m27 536 23) 13))]) (st' := [xa 536]) (m' := (xw_u m28 (xw_rf (m27 536 23) 14) (xR m27 (m27 536 23) 13) v28)) (fun ex ns r q => ?_) ?_
      · refine xw_iast (n := (xw_le B (xw_rf (m27 536 23) 14))) rfl hB (xw_obd g5) rfl g4 ?_
        refine xw_aload_n rfl rfl rfl ?_
        refine xw_lo (L2 := [(0, xa 536), (3, xi (xR m27 (m27 536 23) 13))]) (List.forall_mem_cons.mpr ⟨rfl, List.forall_mem_cons.mpr ⟨rfl, fun _ h => absurd h List.not_mem_nil⟩⟩) ?_
        exact q
      refine xS_call (q := 248) (n := 1) (kq := 0) (as := [xa 536]) (st1 := []) rfl rfl rfl rfl rfl rfl rfl rfl rfl rfl (fun _ => xw_rcv1 (t := 12) (xw_obd (by decide +kernel)) rfl) rfl (List.forall_mem_cons.mpr ⟨rfl, fun _ h => absurd h List.not_mem_nil⟩) (ygf248 hB _) (fun v29 m29 cv29 => ?_)
      refine xS_of (pc' := 67) (L' := [(0, xa 536), (3, xi (xR m27 (m27 536 23) 13))]) (st' := [xi 61, xa 536]) (m' := m29) (fun ex ns r q => ?_) ?_
      · refine xw_aload_n rfl rfl rfl ?_
        refine xw_bipush (e := 61) rfl (by decide +kernel) ?_
        refine xw_lo (L2 := [(0, xa 536), (3, xi (xR m27 (m27 536 23) 13))]) (List.forall_mem_cons.mpr ⟨rfl, List.forall_mem_cons.mpr ⟨rfl, fun _ h => absurd h List.not_mem_nil⟩⟩) ?_
        exact q
      refine xS_call (q := 266) (n := 2) (kq := 4) (as := [xa 536, xi 61]) (st1 := []) rfl rfl rfl rfl rfl rfl rfl rfl rfl rfl (fun _ => xw_rcv1 (t := 12) (xw_obd (by decide +kernel)) rfl) rfl (List.forall_mem_cons.mpr ⟨rfl, List.forall_mem_cons.mpr ⟨rfl, fun _ h => absurd h List.not_mem_nil⟩⟩) (ygf266 hB _ _ rfl) (fun v30 m30 cv30 => ?_)
      refine xS_if (fun h6 => ?_) (fun h6 => ?_)
      · refine xS_of (pc' := 81) (L' := [(0, xa 536), (3, xi (xR m27 (m27 536 23) 13))]) (st' := [xi 15422, xa 536]) (m' := m30) (fun ex ns r q => ?_) ?_
        · refine xw_if_eqT rfl (w32_cg (w32_of (xw_zr cv30))) h6 ?_
          refine xw_aload_n rfl rfl rfl ?_
          refine xw_sipush (e := 15422) rfl (by decide +kernel) ?_
          refine xw_lo (L2 := [(0, xa 536), (3, xi (xR m27 (m27 536 23) 13))]) (List.forall_mem_cons.mpr ⟨rfl, List.forall_mem_cons.mpr ⟨rfl, fun _ h => absurd h List.not_mem_nil⟩⟩) ?_
          exact q
        refine xS_call (q := 266) (n := 2) (kq := 4) (as := [xa 536, xi 15422]) (st1 := []) rfl rfl rfl rfl rfl rfl rfl rfl rfl rfl (fun _ => xw_rcv1 (t := 12) (xw_obd (by decide +kernel)) rfl) rfl (List.forall_mem_cons.mpr ⟨rfl, List.forall_mem_cons.mpr ⟨rfl, fun _ h => absurd h List.not_mem_nil⟩⟩) (ygf266 hB _ _ rfl) (fun v31 m31 cv31 => ?_)
        refine xS_if (fun h7 => ?_) (fun h7 => ?_)
        · refine xS_of (pc' := 94) (L' := [(0, xa 536), (3, xi (xR m27 (m27 536 23) 13))]) (st' := [xi 60, xa 536]) (m' := m31) (fun ex ns r q => ?_) ?_
          · refine xw_if_eqT rfl (w32_cg (w32_of (xw_zr cv31))) h7 ?_
            refine xw_aload_n rfl rfl rfl ?_
            refine xw_bipush (e := 60) rfl (by decide +kernel) ?_
            refine xw_lo (L2 := [(0, xa 536), (3, xi (xR m27 (m27 536 23) 13))]) (List.forall_mem_cons.mpr ⟨rfl, List.forall_mem_cons.mpr ⟨rfl, fun _ h => absurd h List.not_mem_nil⟩⟩) ?_
            exact q
          refine xS_call (q := 266) (n := 2) (kq := 4) (as := [xa 536, xi 60]) (st1 := []) rfl rfl rfl rfl rfl rfl rfl rfl rfl rfl (fun _ => xw_rcv1 (t := 12) (xw_obd (by decide +kernel)) rfl) rfl (List.forall_mem_cons.mpr ⟨rfl, List.forall_mem_cons.mpr ⟨rfl, fun _ h => absurd h List.not_mem_nil⟩⟩) (ygf266 hB _ _ rfl) (fun v32 m32 cv32 => ?_)
          refine xS_if (fun h8 => ?_) (fun h8 => ?_)
          · refine xS_of (pc' := 108) (L' := [(0, xa 536), (3, xi (xR m27 (m27 536 23) 13))]) (st' := [xi 15421, xa 536]) (m' := m32) (fun ex ns r q => ?_) ?_
            · refine xw_if_eqT rfl (w32_cg (w32_of (xw_zr cv32))) h8 ?_
              refine xw_aload_n rfl rfl rfl ?_
              refine xw_sipush (e := 15421) rfl (by decide +kernel) ?_
              refine xw_lo (L2 := [(0, xa 536), (3, xi (xR m27 (m27 536 23) 13))]) (List.forall_mem_cons.mpr ⟨rfl, List.forall_mem_cons.mpr ⟨rfl, fun _ h => absurd h List.not_mem_nil⟩⟩) ?_
              exact q
            refine xS_call (q := 266) (n := 2) (kq := 4) (as := [xa 536, xi 15421]) (st1 := []) rfl rfl rfl rfl rfl rfl rfl rfl rfl rfl (fun _ => xw_rcv1 (t := 12) (xw_obd (by decide +kernel)) rfl) rfl (List.forall_mem_cons.mpr ⟨rfl, List.forall_mem_cons.mpr ⟨rfl, fun _ h => absurd h List.not_mem_nil⟩⟩) (ygf266 hB _ _ rfl) (fun v33 m33 cv33 => ?_)
            refine xS_if (fun h9 => ?_) (fun h9 => ?_)
            · refine xS_of (pc' := 121) (L' := [(0, xa 536), (3, xi (xR m27 (m27 536 23) 13))]) (st' := [xi 62, xa 536]) (m' := m33) (fun ex ns r q => ?_) ?_
              · refine xw_if_eqT rfl (w32_cg (w32_of (xw_zr cv33))) h9 ?_
                refine xw_aload_n rfl rfl rfl ?_
                refine xw_bipush (e := 62) rfl (by decide +kernel) ?_
                refine xw_lo (L2 := [(0, xa 536), (3, xi (xR m27 (m27 536 23) 13))]) (List.forall_mem_cons.mpr ⟨rfl, List.forall_mem_cons.mpr ⟨rfl, fun _ h => absurd h List.not_mem_nil⟩⟩) ?_
                exact q
              refine xS_call (q := 266) (n := 2) (kq := 4) (as := [xa 536, xi 62]) (st1 := []) rfl rfl rfl rfl rfl rfl rfl rfl rfl rfl (fun _ => xw_rcv1 (t := 12) (xw_obd (by decide +kernel)) rfl) rfl (List.forall_mem_cons.mpr ⟨rfl, List.forall_mem_cons.mpr ⟨rfl, fun _ h => absurd h List.not_mem_nil⟩⟩) (ygf266 hB _ _ rfl) (fun v34 m34 cv34 => ?_)
              refine xS_if (fun h10 => ?_) (fun h10 => ?_)
              · refine xS_of (pc' := 135) (L' := [(0, xa 536), (3, xi (xR m27 (m27 536 23) 13))]) (st' := [xi 15933, xa 536]) (m' := m34) (fun ex ns r q => ?_) ?_
                · refine xw_if_eqT rfl (w32_cg (w32_of (xw_zr cv34))) h10 ?_
                  refine xw_aload_n rfl rfl rfl ?_
                  refine xw_sipush (e := 15933) rfl (by decide +kernel) ?_
                  refine xw_lo (L2 := [(0, xa 536), (3, xi (xR m27 (m27 536 23) 13))]) (List.forall_mem_cons.mpr ⟨rfl, List.forall_mem_cons.mpr ⟨rfl, fun _ h => absurd h List.not_mem_nil⟩⟩) ?_
                  exact q
                refine xS_call (q := 266) (n := 2) (kq := 4) (as := [xa 536, xi 15933]) (st1 := []) rfl rfl rfl rfl rfl rfl rfl rfl rfl rfl (fun _ => xw_rcv1 (t := 12) (xw_obd (by decide +kernel)) rfl) rfl (List.forall_mem_cons.mpr ⟨rfl, List.forall_mem_cons.mpr ⟨rfl, fun _ h => absurd h List.not_mem_nil⟩⟩) (ygf266 hB _ _ rfl) (fun v35 m35 cv35 => ?_)
                refine xS_if (fun h11 => ?_) (fun h11 => ?_)
                · refine xS_of (pc' := 148) (L' := [(0, xa 536), (3, xi (xR m27 (m27 536 23) 13))]) (st' := [xi 17, xa 536]) (m' := m35) (fun ex ns r q => ?_) ?_
                  · refine xw_if_eqT rfl (w32_cg (w32_of (xw_zr cv35))) h11 ?_
                    refine xw_aload_n rfl rfl rfl ?_
                    refine xw_bipush (e := 17) rfl (by decide +kernel) ?_
                    refine xw_lo (L2 := [(0, xa 536), (3, xi (xR m27 (m27 536 23) 13))]) (List.forall_mem_cons.mpr ⟨rfl, List.forall_mem_cons.mpr ⟨rfl, fun _ h => absurd h List.not_mem_nil⟩⟩) ?_
                    exact q
                  refine xS_call (q := 257) (n := 2) (kq := 4) (as := [xa 536, xi 17]) (st1 := []) rfl rfl rfl rfl rfl rfl rfl rfl rfl rfl (fun _ => xw_rcv1 (t := 12) (xw_obd (by decide +kernel)) rfl) rfl (List.forall_mem_cons.mpr ⟨rfl, List.forall_mem_cons.mpr ⟨rfl, fun _ h => absurd h List.not_mem_nil⟩⟩) (ygf257 hB _ _ rfl) (fun v36 m36 cv36 => ?_)
                  refine xS_if (fun h12 => ?_) (fun h12 => ?_)
                  · refine xS_of (pc' := 162) (L' := [(0, xa 536), (3, xi (xR m27 (m27 536 23) 13))]) (st' := [xi 18, xa 536]) (m' := m36) (fun ex ns r q => ?_) ?_
                    · refine xw_if_eqT rfl (w32_cg (w32_of (xw_zr cv36))) h12 ?_
                      refine xw_aload_n rfl rfl rfl ?_
                      refine xw_bipush (e := 18) rfl (by decide +kernel) ?_
                      refine xw_lo (L2 := [(0, xa 536), (3, xi (xR m27 (m27 536 23) 13))]) (List.forall_mem_cons.mpr ⟨rfl, List.forall_mem_cons.mpr ⟨rfl, fun _ h => absurd h List.not_mem_nil⟩⟩) ?_
                      exact q
                    refine xS_call (q := 257) (n := 2) (kq := 4) (as := [xa 536, xi 18]) (st1 := []) rfl rfl rfl rfl rfl rfl rfl rfl rfl rfl (fun _ => xw_rcv1 (t := 12) (xw_obd (by decide +kernel)) rfl) rfl (List.forall_mem_cons.mpr ⟨rfl, List.forall_mem_cons.mpr ⟨rfl, fun _ h => absurd h List.not_mem_nil⟩⟩) (ygf257 hB _ _ rfl) (fun v37 m37 cv37 => ?_)
                    refine xS_if (fun h13 => ?_) (fun h13 => ?_)
                    · refine xS_of (pc' := 176) (L' := [(0, xa 536), (3, xi (xR m27 (m27 536 23) 13))]) (st' := [xi 16, xa 536]) (m' := m37) (fun ex ns r q => ?_) ?_
                      · refine xw_if_eqT rfl (w32_cg (w32_of (xw_zr cv37))) h13 ?_
                        refine xw_aload_n rfl rfl rfl ?_
                        refine xw_bipush (e := 16) rfl (by decide +kernel) ?_
                        refine xw_lo (L2 := [(0, xa 536), (3, xi (xR m27 (m27 536 23) 13))]) (List.forall_mem_cons.mpr ⟨rfl, List.forall_mem_cons.mpr ⟨rfl, fun _ h => absurd h List.not_mem_nil⟩⟩) ?_
                        exact q
                      refine xS_call (q := 257) (n := 2) (kq := 4) (as := [xa 536, xi 16]) (st1 := []) rfl rfl rfl rfl rfl rfl rfl rfl rfl rfl (fun _ => xw_rcv1 (t := 12) (xw_obd (by decide +kernel)) rfl) rfl (List.forall_mem_cons.mpr ⟨rfl, List.forall_mem_cons.mpr ⟨rfl, fun _ h => absurd h List.not_mem_nil⟩⟩) (ygf257 hB _ _ rfl) (fun v38 m38 cv38 => ?_)
                      refine xS_if (fun h14 => ?_) (fun h14 => ?_)
                      · refine xS_of (pc' := 201) (L' := [(0, xa 536), (3, xi (xR m27 (m27 536 23) 13)), (4, xi (-1))]) (st' := [xi 0, xa 536]) (m' := m38) (fun ex ns r q => ?_) ?_
                        · refine xw_if_eqT rfl (w32_cg (w32_of (xw_zr cv38))) h14 ?_
                          refine xw_iconst rfl ?_
                          refine xw_istore (L' := [(4, xi (-1)), (0, xa 536), (3, xi (xR m27 (m27 536 23) 13))]) rfl (by decide) rfl ?_
                          refine xw_aload_n rfl rfl rfl ?_
                          refine xw_iload rfl rfl ?_
                          refine xw_if_ltT rfl (w32_cg rfl) (by decide) ?_
                          refine xw_iconst rfl ?_
                          refine xw_lo (L2 := [(0, xa 536), (3, xi (xR m27 (m27 536 23) 13)), (4, xi (-1))]) (List.forall_mem_cons.mpr ⟨rfl, List.forall_mem_cons.mpr ⟨rfl, List.forall_mem_cons.mpr ⟨rfl, fun _ h => absurd h List.not_mem_nil⟩⟩⟩) ?_
                          exact q
                        refine xS_call (q := 258) (n := 2) (kq := 4) (as := [xa 536, xi 0]) (st1 := []) rfl rfl rfl rfl rfl rfl rfl rfl rfl rfl (fun _ => xw_rcv1 (t := 12) (xw_obd (by decide +kernel)) rfl) rfl (List.forall_mem_cons.mpr ⟨rfl, List.forall_mem_cons.mpr ⟨rfl, fun _ h => absurd h List.not_mem_nil⟩⟩) (ygf258 hB _ _ rfl) (fun v39 m39 cv39 => ?_)
                        refine xS_if (fun h15 => ?_) (fun h15 => ?_)
                        · refine xS_of (pc' := 207) (L' := [(0, xa 536), (3, xi (xR m27 (m27 536 23) 13)), (4, xi (-1))]) (st' := []) (m' := m39) (fun ex ns r q => ?_) ?_
                          · refine xw_if_neF rfl (w32_cg (w32_of (xw_zr cv39))) h15 ?_
                            exact q
                          exact xS_ret (v := 0) rfl rfl rfl rfl
                        · refine xS_g (fun g16 => ?_)
                          refine xS_g (fun g17 => ?_)
                          refine xS_g (fun g18 => ?_)
                          refine xS_of (pc' := 242) (L' := [(0, xa 536), (3, xi (xR m27 (m27 536 23) 13)), (4, xi (-1))]) (st' := []) (m' := (xw_u m39 (xw_rf (m39 536 23) 15) (xR m27 (m27 536 23) 13) (-1))) (fun ex ns r q => ?_) ?_
                          · refine xw_if_neT rfl (w32_cg (w32_of (xw_zr cv39))) h15 ?_
                            refine xw_aload_n rfl rfl rfl ?_
                            refine xw_gfM (v := (m39 536 23)) rfl (xw_obd (by decide +kernel)) xk12_23 (qi := 23) rfl rfl ?_
                            refine xw_gfV (qi := 15) rfl (xw_obd g16) xk13_15 rfl ?_
                            refine xw_iload_n rfl rfl ?_
                            refine xw_iload rfl rfl ?_
                            refine xw_iast (n := (xw_le B (xw_rf (m39 536 23) 15))) rfl hB (xw_obd g18) rfl g17 ?_
                            refine xw_iload rfl rfl ?_
                            refine xw_bipush (e := 8) rfl (by decide +kernel) ?_
                            refine xw_ic_neT rfl (w32_cg rfl) (w32_cg rfl) (by decide) ?_
                            refine xw_lo (L2 := [(0, xa 536), (3, xi (xR m27 (m27 536 23) 13)), (4, xi (-1))]) (List.forall_mem_cons.mpr ⟨rfl, List.forall_mem_cons.mpr ⟨rfl, List.forall_mem_cons.mpr ⟨rfl, fun _ h => absurd h List.not_mem_nil⟩⟩⟩) ?_
                            exact q
                          exact ygk277_242 hB _ _ _ (w32_xR _ _ _) rfl
                      · refine xS_of (pc' := 201) (L' := [(0, xa 536), (3, xi (xR m27 (m27 536 23) 13)), (4, xi 8)]) (st' := [xi 1, xa 536]) (m' := m38) (fun ex ns r q => ?_) ?_
                        · refine xw_if_eqF rfl (w32_cg (w32_of (xw_zr cv38))) h14 ?_
                          refine xw_bipush (e := 8) rfl (by decide +kernel) ?_
                          refine xw_goto rfl ?_
                          refine xw_istore (L' := [(4, xi 8), (0, xa 536), (3, xi (xR m27 (m27 536 23) 13))]) rfl (by decide) rfl ?_
                          refine xw_aload_n rfl rfl rfl ?_
                          refine xw_iload rfl rfl ?_
                          refine xw_if_ltF rfl (w32_cg rfl) (by decide) ?_
                          refine xw_iconst rfl ?_
                          refine xw_goto rfl ?_
                          refine xw_lo (L2 := [(0, xa 536), (3, xi (xR m27 (m27 536 23) 13)), (4, xi 8)]) (List.forall_mem_cons.mpr ⟨rfl, List.forall_mem_cons.mpr ⟨rfl, List.forall_mem_cons.mpr ⟨rfl, fun _ h => absurd h List.not_mem_nil⟩⟩⟩) ?_
                          exact q
                        refine xS_call (q := 258) (n := 2) (kq := 4) (as := [xa 536, xi 1]) (st1 := []) rfl rfl rfl rfl rfl rfl rfl rfl rfl rfl (fun _ => xw_rcv1 (t := 12) (xw_obd (by decide +kernel)) rfl) rfl (List.forall_mem_cons.mpr ⟨rfl, List.forall_mem_cons.mpr ⟨rfl, fun _ h => absurd h List.not_mem_nil⟩⟩) (ygf258 hB _ _ rfl) (fun v40 m40 cv40 => ?_)
                        refine xS_if (fun h15 => ?_) (fun h15 => ?_)
                        · refine xS_of (pc' := 207) (L' := [(0, xa 536), (3, xi (xR m27 (m27 536 23) 13)), (4, xi 8)]) (st' := []) (m' := m40) (fun ex ns r q => ?_) ?_
                          · refine xw_if_neF rfl (w32_cg (w32_of (xw_zr cv40))) h15 ?_
                            exact q
                          exact xS_ret (v := 0) rfl rfl rfl rfl
                        · refine xS_g (fun g16 => ?_)
                          refine xS_g (fun g17 => ?_)
                          refine xS_g (fun g18 => ?_)
                          refine xS_of (pc' := 227) (L' := [(0, xa 536), (3, xi (xR m27 (m27 536 23) 13)), (4, xi 8)]) (st' := [xa 536]) (m' := (xw_u m40 (xw_rf (m40 536 23) 15) (xR m27 (m27 536 23) 13) 8)) (fun ex ns r q => ?_) ?_
                          · refine xw_if_neT rfl (w32_cg (w32_of (xw_zr cv40))) h15 ?_
                            refine xw_aload_n rfl rfl rfl ?_
                            refine xw_gfM (v := (m40 536 23)) rfl (xw_obd (by decide +kernel)) xk12_23 (qi := 23) rfl rfl ?_
                            refine xw_gfV (qi := 15) rfl (xw_obd g16) xk13_15 rfl ?_
                            refine xw_iload_n rfl rfl ?_
                            refine xw_iload rfl rfl ?_
                            refine xw_iast (n := (xw_le B (xw_rf (m40 536 23) 15))) rfl hB (xw_obd g18) rfl g17 ?_
                            refine xw_iload rfl rfl ?_
                            refine xw_bipush (e := 8) rfl (by decide +kernel) ?_
                            refine xw_ic_neF rfl (w32_cg rfl) (w32_cg rfl) (by decide) ?_
                            refine xw_aload_n rfl rfl rfl ?_
                            refine xw_lo (L2 := [(0, xa 536), (3, xi (xR m27 (m27 536 23) 13)), (4, xi 8)]) (List.forall_mem_cons.mpr ⟨rfl, List.forall_mem_cons.mpr ⟨rfl, List.forall_mem_cons.mpr ⟨rfl, fun _ h => absurd h List.not_mem_nil⟩⟩⟩) ?_
                            exact q
                          refine xS_call (q := 248) (n := 1) (kq := 0) (as := [xa 536]) (st1 := []) rfl rfl rfl rfl rfl rfl rfl rfl rfl rfl (fun _ => xw_rcv1 (t := 12) (xw_obd (by decide +kernel)) rfl) rfl (List.forall_mem_cons.mpr ⟨rfl, fun _ h => absurd h List.not_mem_nil⟩) (ygf248 hB _) (fun v41 m41 cv41 => ?_)
                          refine xS_of (pc' := 234) (L' := [(0, xa 536), (3, xi (xR m27 (m27 536 23) 13)), (4, xi 8)]) (st' := [xi 18, xa 536, xa 536]) (m' := m41) (fun ex ns r q => ?_) ?_
                          · refine xw_aload_n rfl rfl rfl ?_
                            refine xw_aload_n rfl rfl rfl ?_
                            refine xw_bipush (e := 18) rfl (by decide +kernel) ?_
                            refine xw_lo (L2 := [(0, xa 536), (3, xi (xR m27 (m27 536 23) 13)), (4, xi 8)]) (List.forall_mem_cons.mpr ⟨rfl, List.forall_mem_cons.mpr ⟨rfl, List.forall_mem_cons.mpr ⟨rfl, fun _ h => absurd h List.not_mem_nil⟩⟩⟩) ?_
                            exact q
                          refine xS_call (q := 257) (n := 2) (kq := 4) (as := [xa 536, xi 18]) (st1 := [xa 536]) rfl rfl rfl rfl rfl rfl rfl rfl rfl rfl (fun _ => xw_rcv1 (t := 12) (xw_obd (by decide +kernel)) rfl) rfl (List.forall_mem_cons.mpr ⟨rfl, List.forall_mem_cons.mpr ⟨rfl, fun _ h => absurd h List.not_mem_nil⟩⟩) (ygf257 hB _ _ rfl) (fun v42 m42 cv42 => ?_)
                          refine xS_of (pc' := 237) (L' := [(0, xa 536), (3, xi (xR m27 (m27 536 23) 13)), (4, xi 8)]) (st' := [xi v42, xa 536]) (m' := m42) (fun ex ns r q => ?_) ?_
                          · refine xw_lo (L2 := [(0, xa 536), (3, xi (xR m27 (m27 536 23) 13)), (4, xi 8)]) (List.forall_mem_cons.mpr ⟨rfl, List.forall_mem_cons.mpr ⟨rfl, List.forall_mem_cons.mpr ⟨rfl, fun _ h => absurd h List.not_mem_nil⟩⟩⟩) ?_
                            exact q
                          refine xS_call (q := 258) (n := 2) (kq := 4) (as := [xa 536, xi v42]) (st1 := []) rfl rfl rfl rfl rfl rfl rfl rfl rfl rfl (fun _ => xw_rcv1 (t := 12) (xw_obd (by decide +kernel)) rfl) rfl (List.forall_mem_cons.mpr ⟨rfl, List.forall_mem_cons.mpr ⟨rfl, fun _ h => absurd h List.not_mem_nil⟩⟩) (ygf258 hB _ _ (w32_of (xw_zr cv42))) (fun v43 m43 cv43 => ?_)
                          refine xS_of (pc' := 242) (L' := [(0, xa 536), (3, xi (xR m27 (m27 536 23) 13)), (4, xi 8)]) (st' := []) (m' := m43) (fun ex ns r q => ?_) ?_
                          · refine xw_istore (L' := [(5, xi v43), (0, xa 536), (3, xi (xR m27 (m27 536 23) 13)), (4, xi 8)]) rfl (by decide) rfl ?_
                            refine xw_lo (L2 := [(0, xa 536), (3, xi (xR m27 (m27 536 23) 13)), (4, xi 8)]) (List.forall_mem_cons.mpr ⟨rfl, List.forall_mem_cons.mpr ⟨rfl, List.forall_mem_cons.mpr ⟨rfl, fun _ h => absurd h List.not_mem_nil⟩⟩⟩) ?_
                            exact q
                          exact ygk277_242 hB _ _ _ (w32_xR _ _ _) rfl
                    · refine xS_of (pc' := 201) (L' := [(0, xa 536), (3, xi (xR m27 (m27 536 23) 13)), (4, xi 7)]) (st' := [xi 1, xa 536]) (m' := m37) (fun ex ns r q => ?_) ?_
                      · refine xw_if_eqF rfl (w32_cg (w32_of (xw_zr cv37))) h13 ?_
                        refine xw_bipush (e := 7) rfl (by decide +kernel) ?_
                        refine xw_goto rfl ?_
                        refine xw_istore (L' := [(4, xi 7), (0, xa 536), (3, xi (xR m27 (m27 536 23) 13))]) rfl (by decide) rfl ?_
                        refine xw_aload_n rfl rfl rfl ?_
                        refine xw_iload rfl rfl ?_
                        refine xw_if_ltF rfl (w32_cg rfl) (by decide) ?_
                        refine xw_iconst rfl ?_
                        refine xw_goto rfl ?_
                        refine xw_lo (L2 := [(0, xa 536), (3, xi (xR m27 (m27 536 23) 13)), (4, xi 7)]) (List.forall_mem_cons.mpr ⟨rfl, List.forall_mem_cons.mpr ⟨rfl, List.forall_mem_cons.mpr ⟨rfl, fun _ h => absurd h List.not_mem_nil⟩⟩⟩) ?_
                        exact q
                      refine xS_call (q := 258) (n := 2) (kq := 4) (as := [xa 536, xi 1]) (st1 := []) rfl rfl rfl rfl rfl rfl rfl rfl rfl rfl (fun _ => xw_rcv1 (t := 12) (xw_obd (by decide +kernel)) rfl) rfl (List.forall_mem_cons.mpr ⟨rfl, List.forall_mem_cons.mpr ⟨rfl, fun _ h => absurd h List.not_mem_nil⟩⟩) (ygf258 hB _ _ rfl) (fun v44 m44 cv44 => ?_)
                      refine xS_if (fun h14 => ?_) (fun h14 => ?_)
                      · refine xS_of (pc' := 207) (L' := [(0, xa 536), (3, xi (xR m27 (m27 536 23) 13)), (4, xi 7)]) (st' := []) (m' := m44) (fun ex ns r q => ?_) ?_
                        · refine xw_if_neF rfl (w32_cg (w32_of (xw_zr cv44))) h14 ?_
                          exact q
                        exact xS_ret (v := 0) rfl rfl rfl rfl
                      · refine xS_g (fun g15 => ?_)
                        refine xS_g (fun g16 => ?_)
                        refine xS_g (fun g17 => ?_)
                        refine xS_of (pc' := 242) (L' := [(0, xa 536), (3, xi (xR m27 (m27 536 23) 13)), (4, xi 7)]) (st' := []) (m' := (xw_u m44 (xw_rf (m44 536 23) 15) (xR m27 (m27 536 23) 13) 7)) (fun ex ns r q => ?_) ?_
                        · refine xw_if_neT rfl (w32_cg (w32_of (xw_zr cv44))) h14 ?_
                          refine xw_aload_n rfl rfl rfl ?_
                          refine xw_gfM (v := (m44 536 23)) rfl (xw_obd (by decide +kernel)) xk12_23 (qi := 23) rfl rfl ?_
                          refine xw_gfV (qi := 15) rfl (xw_obd g15) xk13_15 rfl ?_
                          refine xw_iload_n rfl rfl ?_
                          refine xw_iload rfl rfl ?_
                          refine xw_iast (n := (xw_le B (xw_rf (m44 536 23) 15))) rfl hB (xw_obd g17) rfl g16 ?_
                          refine xw_iload rfl rfl ?_
                          refine xw_bipush (e := 8) rfl (by decide +kernel) ?_
                          refine xw_ic_neT rfl (w32_cg rfl) (w32_cg rfl) (by decide) ?_
                          refine xw_lo (L2 := [(0, xa 536), (3, xi (xR m27 (m27 536 23) 13)), (4, xi 7)]) (List.forall_mem_cons.mpr ⟨rfl, List.forall_mem_cons.mpr ⟨rfl, List.forall_mem_cons.mpr ⟨rfl, fun _ h => absurd h List.not_mem_nil⟩⟩⟩) ?_
                          exact q
                        exact ygk277_242 hB _ _ _ (w32_xR _ _ _) rfl
                  · refine xS_of (pc' := 201) (L' := [(0, xa 536), (3, xi (xR m27 (m27 536 23) 13)), (4, xi 6)]) (st' := [xi 1, xa 536]) (m' := m36) (fun ex ns r q => ?_) ?_
                    · refine xw_if_eqF rfl (w32_cg (w32_of (xw_zr cv36))) h12 ?_
                      refine xw_bipush (e := 6) rfl (by decide +kernel) ?_
                      refine xw_goto rfl ?_
                      refine xw_istore (L' := [(4, xi 6), (0, xa 536), (3, xi (xR m27 (m27 536 23) 13))]) rfl (by decide) rfl ?_
                      refine xw_aload_n rfl rfl rfl ?_
                      refine xw_iload rfl rfl ?_
                      refine xw_if_ltF rfl (w32_cg rfl) (by decide) ?_
                      refine xw_iconst rfl ?_
                      refine xw_goto rfl ?_
                      refine xw_lo (L2 := [(0, xa 536), (3, xi (xR m27 (m27 536 23) 13)), (4, xi 6)]) (List.forall_mem_cons.mpr ⟨rfl, List.forall_mem_cons.mpr ⟨rfl, List.forall_mem_cons.mpr ⟨rfl, fun _ h => absurd h List.not_mem_nil⟩⟩⟩) ?_
                      exact q
                    refine xS_call (q := 258) (n := 2) (kq := 4) (as := [xa 536, xi 1]) (st1 := []) rfl rfl rfl rfl rfl rfl rfl rfl rfl rfl (fun _ => xw_rcv1 (t := 12) (xw_obd (by decide +kernel)) rfl) rfl (List.forall_mem_cons.mpr ⟨rfl, List.forall_mem_cons.mpr ⟨rfl, fun _ h => absurd h List.not_mem_nil⟩⟩) (ygf258 hB _ _ rfl) (fun v45 m45 cv45 => ?_)
                    refine xS_if (fun h13 => ?_) (fun h13 => ?_)
                    · refine xS_of (pc' := 207) (L' := [(0, xa 536), (3, xi (xR m27 (m27 536 23) 13)), (4, xi 6)]) (st' := []) (m' := m45) (fun ex ns r q => ?_) ?_
                      · refine xw_if_neF rfl (w32_cg (w32_of (xw_zr cv45))) h13 ?_
                        exact q
                      exact xS_ret (v := 0) rfl rfl rfl rfl
                    · refine xS_g (fun g14 => ?_)
                      refine xS_g (fun g15 => ?_)
                      refine xS_g (fun g16 => ?_)
                      refine xS_of (pc' := 242) (L' := [(0, xa 536), (3, xi (xR m27 (m27 536 23) 13)), (4, xi 6)]) (st' := []) (m' := (xw_u m45 (xw_rf (m45 536 23) 15) (xR m27 (m27 536 23) 13) 6)) (fun ex ns r q => ?_) ?_
                      · refine xw_if_neT rfl (w32_cg (w32_of (xw_zr cv45))) h13 ?_
                        refine xw_aload_n rfl rfl rfl ?_
                        refine xw_gfM (v := (m45 536 23)) rfl (xw_obd (by decide +kernel)) xk12_23 (qi := 23) rfl rfl ?_
                        refine xw_gfV (qi := 15) rfl (xw_obd g14) xk13_15 rfl ?_
                        refine xw_iload_n rfl rfl ?_
                        refine xw_iload rfl rfl ?_
                        refine xw_iast (n := (xw_le B (xw_rf (m45 536 23) 15))) rfl hB (xw_obd g16) rfl g15 ?_
                        refine xw_iload rfl rfl ?_
                        refine xw_bipush (e := 8) rfl (by decide +kernel) ?_
                        refine xw_ic_neT rfl (w32_cg rfl) (w32_cg rfl) (by decide) ?_
                        refine xw_lo (L2 := [(0, xa 536), (3, xi (xR m27 (m27 536 23) 13)), (4, xi 6)]) (List.forall_mem_cons.mpr ⟨rfl, List.forall_mem_cons.mpr ⟨rfl, List.forall_mem_cons.mpr ⟨rfl, fun _ h => absurd h List.not_mem_nil⟩⟩⟩) ?_
                        exact q
                      exact ygk277_242 hB _ _ _ (w32_xR _ _ _) rfl
                · refine xS_of (pc' := 201) (L' := [(0, xa 536), (3, xi (xR m27 (m27 536 23) 13)), (4, xi 5)]) (st' := [xi 1, xa 536]) (m' := m35) (fun ex ns r q => ?_) ?_
                  · refine xw_if_eqF rfl (w32_cg (w32_of (xw_zr cv35))) h11 ?_
                    refine xw_iconst rfl ?_
                    refine xw_goto rfl ?_
                    refine xw_istore (L' := [(4, xi 5), (0, xa 536), (3, xi (xR m27 (m27 536 23) 13))]) rfl (by decide) rfl ?_
                    refine xw_aload_n rfl rfl rfl ?_
                    refine xw_iload rfl rfl ?_
                    refine xw_if_ltF rfl (w32_cg rfl) (by decide) ?_
                    refine xw_iconst rfl ?_
                    refine xw_goto rfl ?_
                    refine xw_lo (L2 := [(0, xa 536), (3, xi (xR m27 (m27 536 23) 13)), (4, xi 5)]) (List.forall_mem_cons.mpr ⟨rfl, List.forall_mem_cons.mpr ⟨rfl, List.forall_mem_cons.mpr ⟨rfl, fun _ h => absurd h List.not_mem_nil⟩⟩⟩) ?_
                    exact q
                  refine xS_call (q := 258) (n := 2) (kq := 4) (as := [xa 536, xi 1]) (st1 := []) rfl rfl rfl rfl rfl rfl rfl rfl rfl rfl (fun _ => xw_rcv1 (t := 12) (xw_obd (by decide +kernel)) rfl) rfl (List.forall_mem_cons.mpr ⟨rfl, List.forall_mem_cons.mpr ⟨rfl, fun _ h => absurd h List.not_mem_nil⟩⟩) (ygf258 hB _ _ rfl) (fun v46 m46 cv46 => ?_)
                  refine xS_if (fun h12 => ?_) (fun h12 => ?_)
                  · refine xS_of (pc' := 207) (L' := [(0, xa 536), (3, xi (xR m27 (m27 536 23) 13)), (4, xi 5)]) (st' := []) (m' := m46) (fun ex ns r q => ?_) ?_
                    · refine xw_if_neF rfl (w32_cg (w32_of (xw_zr cv46))) h12 ?_
                      exact q
                    exact xS_ret (v := 0) rfl rfl rfl rfl
                  · refine xS_g (fun g13 => ?_)
                    refine xS_g (fun g14 => ?_)
                    refine xS_g (fun g15 => ?_)
                    refine xS_of (pc' := 242) (L' := [(0, xa 536), (3, xi (xR m27 (m27 536 23) 13)), (4, xi 5)]) (st' := []) (m' := (xw_u m46 (xw_rf (m46 536 23) 15) (xR m27 (m27 536 23) 13) 5)) (fun ex ns r q => ?_) ?_
                    · refine xw_if_neT rfl (w32_cg (w32_of (xw_zr cv46))) h12 ?_
                      refine xw_aload_n rfl rfl rfl ?_
                      refine xw_gfM (v := (m46 536 23)) rfl (xw_obd (by decide +kernel)) xk12_23 (qi := 23) rfl rfl ?_
                      refine xw_gfV (qi := 15) rfl (xw_obd g13) xk13_15 rfl ?_
                      refine xw_iload_n rfl rfl ?_
                      refine xw_iload rfl rfl ?_
                      refine xw_iast (n := (xw_le B (xw_rf (m46 536 23) 15))) rfl hB (xw_obd g15) rfl g14 ?_
                      refine xw_iload rfl rfl ?_
                      refine xw_bipush (e := 8) rfl (by decide +kernel) ?_
                      refine xw_ic_neT rfl (w32_cg rfl) (w32_cg rfl) (by decide) ?_
                      refine xw_lo (L2 := [(0, xa 536), (3, xi (xR m27 (m27 536 23) 13)), (4, xi 5)]) (List.forall_mem_cons.mpr ⟨rfl, List.forall_mem_cons.mpr ⟨rfl, List.forall_mem_cons.mpr ⟨rfl, fun _ h => absurd h List.not_mem_nil⟩⟩⟩) ?_
                      exact q
                    exact ygk277_242 hB _ _ _ (w32_xR _ _ _) rfl
              · refine xS_of (pc' := 201) (L' := [(0, xa 536), (3, xi (xR m27 (m27 536 23) 13)), (4, xi 4)]) (st' := [xi 1, xa 536]) (m' := m34) (fun ex ns r q => ?_) ?_
                · refine xw_if_eqF rfl (w32_cg (w32_of (xw_zr cv34))) h10 ?_
                  refine xw_iconst rfl ?_
                  refine xw_goto rfl ?_
                  refine xw_istore (L' := [(4, xi 4), (0, xa 536), (3, xi (xR m27 (m27 536 23) 13))]) rfl (by decide) rfl ?_
                  refine xw_aload_n rfl rfl rfl ?_
                  refine xw_iload rfl rfl ?_
                  refine xw_if_ltF rfl (w32_cg rfl) (by decide) ?_
                  refine xw_iconst rfl ?_
                  refine xw_goto rfl ?_
                  refine xw_lo (L2 := [(0, xa 536), (3, xi (xR m27 (m27 536 23) 13)), (4, xi 4)]) (List.forall_mem_cons.mpr ⟨rfl, List.forall_mem_cons.mpr ⟨rfl, List.forall_mem_cons.mpr ⟨rfl, fun _ h => absurd h List.not_mem_nil⟩⟩⟩) ?_
                  exact q
                refine xS_call (q := 258) (n := 2) (kq := 4) (as := [xa 536, xi 1]) (st1 := []) rfl rfl rfl rfl rfl rfl rfl rfl rfl rfl (fun _ => xw_rcv1 (t := 12) (xw_obd (by decide +kernel)) rfl) rfl (List.forall_mem_cons.mpr ⟨rfl, List.forall_mem_cons.mpr ⟨rfl, fun _ h => absurd h List.not_mem_nil⟩⟩) (ygf258 hB _ _ rfl) (fun v47 m47 cv47 => ?_)
                refine xS_if (fun h11 => ?_) (fun h11 => ?_)
                · refine xS_of (pc' := 207) (L' := [(0, xa 536), (3, xi (xR m27 (m27 536 23) 13)), (4, xi 4)]) (st' := []) (m' := m47) (fun ex ns r q => ?_) ?_
                  · refine xw_if_neF rfl (w32_cg (w32_of (xw_zr cv47))) h11 ?_
                    exact q
                  exact xS_ret (v := 0) rfl rfl rfl rfl
                · refine xS_g (fun g12 => ?_)
                  refine xS_g (fun g13 => ?_)
                  refine xS_g (fun g14 => ?_)
                  refine xS_of (pc' := 242) (L' := [(0, xa 536), (3, xi (xR m27 (m27 536 23) 13)), (4, xi 4)]) (st' := []) (m' := (xw_u m47 (xw_rf (m47 536 23) 15) (xR m27 (m27 536 23) 13) 4)) (fun ex ns r q => ?_) ?_
                  · refine xw_if_neT rfl (w32_cg (w32_of (xw_zr cv47))) h11 ?_
                    refine xw_aload_n rfl rfl rfl ?_
                    refine xw_gfM (v := (m47 536 23)) rfl (xw_obd (by decide +kernel)) xk12_23 (qi := 23) rfl rfl ?_
                    refine xw_gfV (qi := 15) rfl (xw_obd g12) xk13_15 rfl ?_
                    refine xw_iload_n rfl rfl ?_
                    refine xw_iload rfl rfl ?_
                    refine xw_iast (n := (xw_le B (xw_rf (m47 536 23) 15))) rfl hB (xw_obd g14) rfl g13 ?_
                    refine xw_iload rfl rfl ?_
                    refine xw_bipush (e := 8) rfl (by decide +kernel) ?_
                    refine xw_ic_neT rfl (w32_cg rfl) (w32_cg rfl) (by decide) ?_
                    refine xw_lo (L2 := [(0, xa 536), (3, xi (xR m27 (m27 536 23) 13)), (4, xi 4)]) (List.forall_mem_cons.mpr ⟨rfl, List.forall_mem_cons.mpr ⟨rfl, List.forall_mem_cons.mpr ⟨rfl, fun _ h => absurd h List.not_mem_nil⟩⟩⟩) ?_
                    exact q
                  exact ygk277_242 hB _ _ _ (w32_xR _ _ _) rfl
            · refine xS_of (pc' := 201) (L' := [(0, xa 536), (3, xi (xR m27 (m27 536 23) 13)), (4, xi 3)]) (st' := [xi 1, xa 536]) (m' := m33) (fun ex ns r q => ?_) ?_
              · refine xw_if_eqF rfl (w32_cg (w32_of (xw_zr cv33))) h9 ?_
                refine xw_iconst rfl ?_
                refine xw_goto rfl ?_
                refine xw_istore (L' := [(4, xi 3), (0, xa 536), (3, xi (xR m27 (m27 536 23) 13))]) rfl (by decide) rfl ?_
                refine xw_aload_n rfl rfl rfl ?_
                refine xw_iload rfl rfl ?_
                refine xw_if_ltF rfl (w32_cg rfl) (by decide) ?_
                refine xw_iconst rfl ?_
                refine xw_goto rfl ?_
                refine xw_lo (L2 := [(0, xa 536), (3, xi (xR m27 (m27 536 23) 13)), (4, xi 3)]) (List.forall_mem_cons.mpr ⟨rfl, List.forall_mem_cons.mpr ⟨rfl, List.forall_mem_cons.mpr ⟨rfl, fun _ h => absurd h List.not_mem_nil⟩⟩⟩) ?_
                exact q
              refine xS_call (q := 258) (n := 2) (kq := 4) (as := [xa 536, xi 1]) (st1 := []) rfl rfl rfl rfl rfl rfl rfl rfl rfl rfl (fun _ => xw_rcv1 (t := 12) (xw_obd (by decide +kernel)) rfl) rfl (List.forall_mem_cons.mpr ⟨rfl, List.forall_mem_cons.mpr ⟨rfl, fun _ h => absurd h List.not_mem_nil⟩⟩) (ygf258 hB _ _ rfl) (fun v48 m48 cv48 => ?_)
              refine xS_if (fun h10 => ?_) (fun h10 => ?_)
              · refine xS_of (pc' := 207) (L' := [(0, xa 536), (3, xi (xR m27 (m27 536 23) 13)), (4, xi 3)]) (st' := []) (m' := m48) (fun ex ns r q => ?_) ?_
                · refine xw_if_neF rfl (w32_cg (w32_of (xw_zr cv48))) h10 ?_
                  exact q
                exact xS_ret (v := 0) rfl rfl rfl rfl
              · refine xS_g (fun g11 => ?_)
                refine xS_g (fun g12 => ?_)
                refine xS_g (fun g13 => ?_)
                refine xS_of (pc' := 242) (L' := [(0, xa 536), (3, xi (xR m27 (m27 536 23) 13)), (4, xi 3)]) (st' := []) (m' := (xw_u m48 (xw_rf (m48 536 23) 15) (xR m27 (m27 536 23) 13) 3)) (fun ex ns r q => ?_) ?_
                · refine xw_if_neT rfl (w32_cg (w32_of (xw_zr cv48))) h10 ?_
                  refine xw_aload_n rfl rfl rfl ?_
                  refine xw_gfM (v := (m48 536 23)) rfl (xw_obd (by decide +kernel)) xk12_23 (qi := 23) rfl rfl ?_
                  refine xw_gfV (qi := 15) rfl (xw_obd g11) xk13_15 rfl ?_
                  refine xw_iload_n rfl rfl ?_
                  refine xw_iload rfl rfl ?_
                  refine xw_iast (n := (xw_le B (xw_rf (m48 536 23) 15))) rfl hB (xw_obd g13) rfl g12 ?_
                  refine xw_iload rfl rfl ?_
                  refine xw_bipush (e := 8) rfl (by decide +kernel) ?_
                  refine xw_ic_neT rfl (w32_cg rfl) (w32_cg rfl) (by decide) ?_
                  refine xw_lo (L2 := [(0, xa 536), (3, xi (xR m27 (m27 536 23) 13)), (4, xi 3)]) (List.forall_mem_cons.mpr ⟨rfl, List.forall_mem_cons.mpr ⟨rfl, List.forall_mem_cons.mpr ⟨rfl, fun _ h => absurd h List.not_mem_nil⟩⟩⟩) ?_
                  exact q
                exact ygk277_242 hB _ _ _ (w32_xR _ _ _) rfl
          · refine xS_of (pc' := 201) (L' := [(0, xa 536), (3, xi (xR m27 (m27 536 23) 13)), (4, xi 2)]) (st' := [xi 1, xa 536]) (m' := m32) (fun ex ns r q => ?_) ?_
            · refine xw_if_eqF rfl (w32_cg (w32_of (xw_zr cv32))) h8 ?_
              refine xw_iconst rfl ?_
              refine xw_goto rfl ?_
              refine xw_istore (L' := [(4, xi 2), (0, xa 536), (3, xi (xR m27 (m27 536 23) 13))]) rfl (by decide) rfl ?_
              refine xw_aload_n rfl rfl rfl ?_
              refine xw_iload rfl rfl ?_
              refine xw_if_ltF rfl (w32_cg rfl) (by decide) ?_
              refine xw_iconst rfl ?_
              refine xw_goto rfl ?_
              refine xw_lo (L2 := [(0, xa 536), (3, xi (xR m27 (m27 536 23) 13)), (4, xi 2)]) (List.forall_mem_cons.mpr ⟨rfl, List.forall_mem_cons.mpr ⟨rfl, List.forall_mem_cons.mpr ⟨rfl, fun _ h => absurd h List.not_mem_nil⟩⟩⟩) ?_
              exact q
            refine xS_call (q := 258) (n := 2) (kq := 4) (as := [xa 536, xi 1]) (st1 := []) rfl rfl rfl rfl rfl rfl rfl rfl rfl rfl (fun _ => xw_rcv1 (t := 12) (xw_obd (by decide +kernel)) rfl) rfl (List.forall_mem_cons.mpr ⟨rfl, List.forall_mem_cons.mpr ⟨rfl, fun _ h => absurd h List.not_mem_nil⟩⟩) (ygf258 hB _ _ rfl) (fun v49 m49 cv49 => ?_)
            refine xS_if (fun h9 => ?_) (fun h9 => ?_)
            · refine xS_of (pc' := 207) (L' := [(0, xa 536), (3, xi (xR m27 (m27 536 23) 13)), (4, xi 2)]) (st' := []) (m' := m49) (fun ex ns r q => ?_) ?_
              · refine xw_if_neF rfl (w32_cg (w32_of (xw_zr cv49))) h9 ?_
                exact q
              exact xS_ret (v := 0) rfl rfl rfl rfl
            · refine xS_g (fun g10 => ?_)
              refine xS_g (fun g11 => ?_)
              refine xS_g (fun g12 => ?_)
              refine xS_of (pc' := 242) (L' := [(0, xa 536), (3, xi (xR m27 (m27 536 23) 13)), (4, xi 2)]) (st' := []) (m' := (xw_u m49 (xw_rf (m49 536 23) 15) (xR m27 (m27 536 23) 13) 2)) (fun ex ns r q => ?_) ?_
              · refine xw_if_neT rfl (w32_cg (w32_of (xw_zr cv49))) h9 ?_
                refine xw_aload_n rfl rfl rfl ?_
                refine xw_gfM (v := (m49 536 23)) rfl (xw_obd (by decide +kernel)) xk12_23 (qi := 23) rfl rfl ?_
                refine xw_gfV (qi := 15) rfl (xw_obd g10) xk13_15 rfl ?_
                refine xw_iload_n rfl rfl ?_
                refine xw_iload rfl rfl ?_
                refine xw_iast (n := (xw_le B (xw_rf (m49 536 23) 15))) rfl hB (xw_obd g12) rfl g11 ?_
                refine xw_iload rfl rfl ?_
                refine xw_bipush (e := 8) rfl (by decide +kernel) ?_
                refine xw_ic_neT rfl (w32_cg rfl) (w32_cg rfl) (by decide) ?_
                refine xw_lo (L2 := [(0, xa 536), (3, xi (xR m27 (m27 536 23) 13)), (4, xi 2)]) (List.forall_mem_cons.mpr ⟨rfl, List.forall_mem_cons.mpr ⟨rfl, List.forall_mem_cons.mpr ⟨rfl, fun _ h => absurd h List.not_mem_nil⟩⟩⟩) ?_
                exact q
              exact ygk277_242 hB _ _ _ (w32_xR _ _ _) rfl
        · refine xS_of (pc' := 201) (L' := [(0, xa 536), (3, xi (xR m27 (m27 536 23) 13)), (4, xi 1)]) (st' := [xi 1, xa 536]) (m' := m31) (fun ex ns r q => ?_) ?_
          · refine xw_if_eqF rfl (w32_cg (w32_of (xw_zr cv31))) h7 ?_
            refine xw_iconst rfl ?_
            refine xw_goto rfl ?_
            refine xw_istore (L' := [(4, xi 1), (0, xa 536), (3, xi (xR m27 (m27 536 23) 13))]) rfl (by decide) rfl ?_
            refine xw_aload_n rfl rfl rfl ?_
            refine xw_iload rfl rfl ?_
            refine xw_if_ltF rfl (w32_cg rfl) (by decide) ?_
            refine xw_iconst rfl ?_
            refine xw_goto rfl ?_
            refine xw_lo (L2 := [(0, xa 536), (3, xi (xR m27 (m27 536 23) 13)), (4, xi 1)]) (List.forall_mem_cons.mpr ⟨rfl, List.forall_mem_cons.mpr ⟨rfl, List.forall_mem_cons.mpr ⟨rfl, fun _ h => absurd h List.not_mem_nil⟩⟩⟩) ?_
            exact q
          refine xS_call (q := 258) (n := 2) (kq := 4) (as := [xa 536, xi 1]) (st1 := []) rfl rfl rfl rfl rfl rfl rfl rfl rfl rfl (fun _ => xw_rcv1 (t := 12) (xw_obd (by decide +kernel)) rfl) rfl (List.forall_mem_cons.mpr ⟨rfl, List.forall_mem_cons.mpr ⟨rfl, fun _ h => absurd h List.not_mem_nil⟩⟩) (ygf258 hB _ _ rfl) (fun v50 m50 cv50 => ?_)
          refine xS_if (fun h8 => ?_) (fun h8 => ?_)
          · refine xS_of (pc' := 207) (L' := [(0, xa 536), (3, xi (xR m27 (m27 536 23) 13)), (4, xi 1)]) (st' := []) (m' := m50) (fun ex ns r q => ?_) ?_
            · refine xw_if_neF rfl (w32_cg (w32_of (xw_zr cv50))) h8 ?_
              exact q
            exact xS_ret (v := 0) rfl rfl rfl rfl
          · refine xS_g (fun g9 => ?_)
            refine xS_g (fun g10 => ?_)
            refine xS_g (fun g11 => ?_)
            refine xS_of (pc' := 242) (L' := [(0, xa 536), (3, xi (xR m27 (m27 536 23) 13)), (4, xi 1)]) (st' := []) (m' := (xw_u m50 (xw_rf (m50 536 23) 15) (xR m27 (m27 536 23) 13) 1)) (fun ex ns r q => ?_) ?_
            · refine xw_if_neT rfl (w32_cg (w32_of (xw_zr cv50))) h8 ?_
              refine xw_aload_n rfl rfl rfl ?_
              refine xw_gfM (v := (m50 536 23)) rfl (xw_obd (by decide +kernel)) xk12_23 (qi := 23) rfl rfl ?_
              refine xw_gfV (qi := 15) rfl (xw_obd g9) xk13_15 rfl ?_
              refine xw_iload_n rfl rfl ?_
              refine xw_iload rfl rfl ?_
              refine xw_iast (n := (xw_le B (xw_rf (m50 536 23) 15))) rfl hB (xw_obd g11) rfl g10 ?_
              refine xw_iload rfl rfl ?_
              refine xw_bipush (e := 8) rfl (by decide +kernel) ?_
              refine xw_ic_neT rfl (w32_cg rfl) (w32_cg rfl) (by decide) ?_
              refine xw_lo (L2 := [(0, xa 536), (3, xi (xR m27 (m27 536 23) 13)), (4, xi 1)]) (List.forall_mem_cons.mpr ⟨rfl, List.forall_mem_cons.mpr ⟨rfl, List.forall_mem_cons.mpr ⟨rfl, fun _ h => absurd h List.not_mem_nil⟩⟩⟩) ?_
              exact q
            exact ygk277_242 hB _ _ _ (w32_xR _ _ _) rfl
      · refine xS_of (pc' := 201) (L' := [(0, xa 536), (3, xi (xR m27 (m27 536 23) 13)), (4, xi 0)]) (st' := [xi 1, xa 536]) (m' := m30) (fun ex ns r q => ?_) ?_
        · refine xw_if_eqF rfl (w32_cg (w32_of (xw_zr cv30))) h6 ?_
          refine xw_iconst rfl ?_
          refine xw_goto rfl ?_
          refine xw_istore (L' := [(4, xi 0), (0, xa 536), (3, xi (xR m27 (m27 536 23) 13))]) rfl (by decide) rfl ?_
          refine xw_aload_n rfl rfl rfl ?_
          refine xw_iload rfl rfl ?_
          refine xw_if_ltF rfl (w32_cg rfl) (by decide) ?_
          refine xw_iconst rfl ?_
          refine xw_goto rfl ?_
          refine xw_lo (L2 := [(0, xa 536), (3, xi (xR m27 (m27 536 23) 13)), (4, xi 0)]) (List.forall_mem_cons.mpr ⟨rfl, List.forall_mem_cons.mpr ⟨rfl, List.forall_mem_cons.mpr ⟨rfl, fun _ h => absurd h List.not_mem_nil⟩⟩⟩) ?_
          exact q
        refine xS_call (q := 258) (n := 2) (kq := 4) (as := [xa 536, xi 1]) (st1 := []) rfl rfl rfl rfl rfl rfl rfl rfl rfl rfl (fun _ => xw_rcv1 (t := 12) (xw_obd (by decide +kernel)) rfl) rfl (List.forall_mem_cons.mpr ⟨rfl, List.forall_mem_cons.mpr ⟨rfl, fun _ h => absurd h List.not_mem_nil⟩⟩) (ygf258 hB _ _ rfl) (fun v51 m51 cv51 => ?_)
        refine xS_if (fun h7 => ?_) (fun h7 => ?_)
        · refine xS_of (pc' := 207) (L' := [(0, xa 536), (3, xi (xR m27 (m27 536 23) 13)), (4, xi 0)]) (st' := []) (m' := m51) (fun ex ns r q => ?_) ?_
          · refine xw_if_neF rfl (w32_cg (w32_of (xw_zr cv51))) h7 ?_
            exact q
          exact xS_ret (v := 0) rfl rfl rfl rfl
        · refine xS_g (fun g8 => ?_)
          refine xS_g (fun g9 => ?_)
          refine xS_g (fun g10 => ?_)
          refine xS_of (pc' := 242) (L' := [(0, xa 536), (3, xi (xR m27 (m27 536 23) 13)), (4, xi 0)]) (st' := []) (m' := (xw_u m51 (xw_rf (m51 536 23) 15) (xR m27 (m27 536 23) 13) 0)) (fun ex ns r q => ?_) ?_
          · refine xw_if_neT rfl (w32_cg (w32_of (xw_zr cv51))) h7 ?_
            refine xw_aload_n rfl rfl rfl ?_
            refine xw_gfM (v := (m51 536 23)) rfl (xw_obd (by decide +kernel)) xk12_23 (qi := 23) rfl rfl ?_
            refine xw_gfV (qi := 15) rfl (xw_obd g8) xk13_15 rfl ?_
            refine xw_iload_n rfl rfl ?_
            refine xw_iload rfl rfl ?_
            refine xw_iast (n := (xw_le B (xw_rf (m51 536 23) 15))) rfl hB (xw_obd g10) rfl g9 ?_
            refine xw_iload rfl rfl ?_
            refine xw_bipush (e := 8) rfl (by decide +kernel) ?_
            refine xw_ic_neT rfl (w32_cg rfl) (w32_cg rfl) (by decide) ?_
            refine xw_lo (L2 := [(0, xa 536), (3, xi (xR m27 (m27 536 23) 13)), (4, xi 0)]) (List.forall_mem_cons.mpr ⟨rfl, List.forall_mem_cons.mpr ⟨rfl, List.forall_mem_cons.mpr ⟨rfl, fun _ h => absurd h List.not_mem_nil⟩⟩⟩) ?_
            exact q
          exact ygk277_242 hB _ _ _ (w32_xR _ _ _) rfl
theorem ygk276_133 {B : Nat} (hB : B ≤ 512) {xs : Nat → Int32} {SL d : Nat} {fe : xw_M → xP} (hfe : ∀ m, xS B xs SL (d + 5) 274 (1, none, [], 13) 0 0 [(0, xa 536)] [] m (fe m)) : ∀ x1 m, w32 x1 = x1 → xS B xs SL (d + 6) 276 (3, none, [], 13) 0 133 [(0, xa 536), (1, xi x1)] [] m (yk276_133 B fe x1 m) := by
  intro x1 m c1
  unfold yk276_133
  refine xS_of (pc' := 134) (L' := [(0, xa 536), (1, xi x1)]) (st' := [xi x1]) (m' := m) (fun ex ns r q => ?_) ?_
  · refine xw_iload_n rfl rfl ?_
    exact q
  refine xS_if (fun h0 => ?_) (fun h0 => ?_)
  · refine xS_of (pc' := 142) (L' := [(0, xa 536), (1, xi x1)]) (st' := []) (m' := m) (fun ex ns r q => ?_) ?_
    · refine xw_if_eqT rfl (w32_cg c1) h0 ?_
      exact q
    exact xS_ret (v := 0) rfl rfl rfl rfl
  · refine xS_of (pc' := 139) (L' := []) (st' := [xi (-1), xa 536]) (m' := m) (fun ex ns r q => ?_) ?_
    · refine xw_if_eqF rfl (w32_cg c1) h0 ?_
      refine xw_aload_n rfl rfl rfl ?_
      refine xw_iconst rfl ?_
      refine xw_lo (L2 := []) (fun _ h => absurd h List.not_mem_nil) ?_
      exact q
    refine xS_call (q := 280) (n := 2) (kq := 0) (as := [xa 536, xi (-1)]) (st1 := []) rfl rfl rfl rfl rfl rfl rfl rfl rfl rfl (fun _ => xw_rcv1 (t := 12) (xw_obd (by decide +kernel)) rfl) rfl (List.forall_mem_cons.mpr ⟨rfl, List.forall_mem_cons.mpr ⟨rfl, fun _ h => absurd h List.not_mem_nil⟩⟩) (ygf280 hB _ _ rfl) (fun v1 m1 cv1 => ?_)
    exact xS_ret (v := 0) rfl rfl rfl rfl
theorem ygk276_101 {B : Nat} (hB : B ≤ 512) {xs : Nat → Int32} {SL d : Nat} {fe : xw_M → xP} (hfe : ∀ m, xS B xs SL (d + 5) 274 (1, none, [], 13) 0 0 [(0, xa 536)] [] m (fe m)) : ∀ x1 m, w32 x1 = x1 → xS B xs SL (d + 6) 276 (3, none, [], 13) 0 101 [(0, xa 536), (1, xi x1)] [] m (yk276_101 B fe x1 m) := by
  intro x1 m c1
  unfold yk276_101
  refine xS_of (pc' := 105) (L' := [(0, xa 536), (1, xi x1)]) (st' := [xi 41, xa 536, xa 536]) (m' := m) (fun ex ns r q => ?_) ?_
  · refine xw_aload_n rfl rfl rfl ?_
    refine xw_aload_n rfl rfl rfl ?_
    refine xw_bipush (e := 41) rfl (by decide +kernel) ?_
    refine xw_lo (L2 := [(0, xa 536), (1, xi x1)]) (List.forall_mem_cons.mpr ⟨rfl, List.forall_mem_cons.mpr ⟨rfl, fun _ h => absurd h List.not_mem_nil⟩⟩) ?_
    exact q
  refine xS_call (q := 266) (n := 2) (kq := 4) (as := [xa 536, xi 41]) (st1 := [xa 536]) rfl rfl rfl rfl rfl rfl rfl rfl rfl rfl (fun _ => xw_rcv1 (t := 12) (xw_obd (by decide +kernel)) rfl) rfl (List.forall_mem_cons.mpr ⟨rfl, List.forall_mem_cons.mpr ⟨rfl, fun _ h => absurd h List.not_mem_nil⟩⟩) (ygf266 hB _ _ rfl) (fun v1 m1 cv1 => ?_)
  refine xS_of (pc' := 108) (L' := [(0, xa 536), (1, xi x1)]) (st' := [xi v1, xa 536]) (m' := m1) (fun ex ns r q => ?_) ?_
  · refine xw_lo (L2 := [(0, xa 536), (1, xi x1)]) (List.forall_mem_cons.mpr ⟨rfl, List.forall_mem_cons.mpr ⟨rfl, fun _ h => absurd h List.not_mem_nil⟩⟩) ?_
    exact q
  refine xS_call (q := 258) (n := 2) (kq := 4) (as := [xa 536, xi v1]) (st1 := []) rfl rfl rfl rfl rfl rfl rfl rfl rfl rfl (fun _ => xw_rcv1 (t := 12) (xw_obd (by decide +kernel)) rfl) rfl (List.forall_mem_cons.mpr ⟨rfl, List.forall_mem_cons.mpr ⟨rfl, fun _ h => absurd h List.not_mem_nil⟩⟩) (ygf258 hB _ _ (w32_of (xw_zr cv1))) (fun v2 m2 cv2 => ?_)
  refine xS_of (pc' := 123) (L' := [(0, xa 536), (1, xi x1)]) (st' := [xa 536]) (m' := (xw_u m2 536 25 ((xR m2 536 25) - 1))) (fun ex ns r q => ?_) ?_
  · refine xw_istore_n (L' := [(2, xi v2), (0, xa 536), (1, xi x1)]) rfl (by decide) rfl ?_
    refine xw_aload_n rfl rfl rfl ?_
    refine xw_dup rfl rfl ?_
    refine xw_gfIc (v := (m2 536 25)) (v' := (xR m2 536 25)) rfl (xw_obd (by decide +kernel)) xk12_25 (qi := 25) rfl rfl rfl ?_
    refine xw_iconst rfl ?_
    refine xw_isub rfl ?_
    refine xw_pfI rfl (xw_obd (by decide +kernel)) xk12_25 (qi := 25) rfl (xw_okI rfl) ?_
    refine xw_aload_n rfl rfl rfl ?_
    refine xw_lo (L2 := [(0, xa 536), (1, xi x1)]) (List.forall_mem_cons.mpr ⟨rfl, List.forall_mem_cons.mpr ⟨rfl, fun _ h => absurd h List.not_mem_nil⟩⟩) ?_
    exact q
  refine xS_call (q := 248) (n := 1) (kq := 0) (as := [xa 536]) (st1 := []) rfl rfl rfl rfl rfl rfl rfl rfl rfl rfl (fun _ => xw_rcv1 (t := 12) (xw_obd (by decide +kernel)) rfl) rfl (List.forall_mem_cons.mpr ⟨rfl, fun _ h => absurd h List.not_mem_nil⟩) (ygf248 hB _) (fun v3 m3 cv3 => ?_)
  refine xS_of (pc' := 133) (L' := [(0, xa 536), (1, xi x1)]) (st' := []) (m' := m3) (fun ex ns r q => ?_) ?_
  · refine xw_goto rfl ?_
    refine xw_lo (L2 := [(0, xa 536), (1, xi x1)]) (List.forall_mem_cons.mpr ⟨rfl, List.forall_mem_cons.mpr ⟨rfl, fun _ h => absurd h List.not_mem_nil⟩⟩) ?_
    exact q
  exact ygk276_133 hB hfe _ _ c1
theorem ygk276_129 {B : Nat} (hB : B ≤ 512) {xs : Nat → Int32} {SL d : Nat} {fe : xw_M → xP} (hfe : ∀ m, xS B xs SL (d + 5) 274 (1, none, [], 13) 0 0 [(0, xa 536)] [] m (fe m)) : ∀ x1 m, w32 x1 = x1 → xS B xs SL (d + 6) 276 (3, none, [], 13) 0 129 [(0, xa 536), (1, xi x1)] [] m (yk276_129 B fe x1 m) := by
  intro x1 m c1
  unfold yk276_129
  refine xS_of (pc' := 130) (L' := [(0, xa 536), (1, xi x1)]) (st' := [xa 536]) (m' := m) (fun ex ns r q => ?_) ?_
  · refine xw_aload_n rfl rfl rfl ?_
    refine xw_lo (L2 := [(0, xa 536), (1, xi x1)]) (List.forall_mem_cons.mpr ⟨rfl, List.forall_mem_cons.mpr ⟨rfl, fun _ h => absurd h List.not_mem_nil⟩⟩) ?_
    exact q
  refine xS_call (q := 277) (n := 1) (kq := 0) (as := [xa 536]) (st1 := []) rfl rfl rfl rfl rfl rfl rfl rfl rfl rfl (fun _ => xw_rcv1 (t := 12) (xw_obd (by decide +kernel)) rfl) rfl (List.forall_mem_cons.mpr ⟨rfl, fun _ h => absurd h List.not_mem_nil⟩) (ygf277 hB _) (fun v1 m1 cv1 => ?_)
  refine xS_of (pc' := 133) (L' := [(0, xa 536), (1, xi x1)]) (st' := []) (m' := m1) (fun ex ns r q => ?_) ?_
  · refine xw_lo (L2 := [(0, xa 536), (1, xi x1)]) (List.forall_mem_cons.mpr ⟨rfl, List.forall_mem_cons.mpr ⟨rfl, fun _ h => absurd h List.not_mem_nil⟩⟩) ?_
    exact q
  exact ygk276_133 hB hfe _ _ c1
theorem ygk276_35 {B : Nat} (hB : B ≤ 512) {xs : Nat → Int32} {SL d : Nat} {fe : xw_M → xP} (hfe : ∀ m, xS B xs SL (d + 5) 274 (1, none, [], 13) 0 0 [(0, xa 536)] [] m (fe m)) : ∀ x1 m, w32 x1 = x1 → xS B xs SL (d + 6) 276 (3, none, [], 13) 0 35 [(0, xa 536), (1, xi x1)] [] m (yk276_35 B fe x1 m) := by
  intro x1 m c1
  unfold yk276_35
  refine xS_of (pc' := 39) (L' := [(0, xa 536), (1, xi x1)]) (st' := [xi (xR m 536 6)]) (m' := m) (fun ex ns r q => ?_) ?_
  · refine xw_aload_n rfl rfl rfl ?_
    refine xw_gfIc (v := (m 536 6)) (v' := (xR m 536 6)) rfl (xw_obd (by decide +kernel)) xk12_6 (qi := 6) rfl rfl rfl ?_
    exact q
  refine xS_if (fun h0 => ?_) (fun h0 => ?_)
  · refine xS_of (pc' := 45) (L' := [(0, xa 536), (1, xi x1)]) (st' := [xi 40, xa 536]) (m' := m) (fun ex ns r q => ?_) ?_
    · refine xw_if_neF rfl (w32_cg (w32_xR _ _ _)) h0 ?_
      refine xw_aload_n rfl rfl rfl ?_
      refine xw_bipush (e := 40) rfl (by decide +kernel) ?_
      refine xw_lo (L2 := [(0, xa 536), (1, xi x1)]) (List.forall_mem_cons.mpr ⟨rfl, List.forall_mem_cons.mpr ⟨rfl, fun _ h => absurd h List.not_mem_nil⟩⟩) ?_
      exact q
    refine xS_call (q := 266) (n := 2) (kq := 4) (as := [xa 536, xi 40]) (st1 := []) rfl rfl rfl rfl rfl rfl rfl rfl rfl rfl (fun _ => xw_rcv1 (t := 12) (xw_obd (by decide +kernel)) rfl) rfl (List.forall_mem_cons.mpr ⟨rfl, List.forall_mem_cons.mpr ⟨rfl, fun _ h => absurd h List.not_mem_nil⟩⟩) (ygf266 hB _ _ rfl) (fun v1 m1 cv1 => ?_)
    refine xS_if (fun h1 => ?_) (fun h1 => ?_)
    · refine xS_of (pc' := 129) (L' := [(0, xa 536), (1, xi x1)]) (st' := []) (m' := m1) (fun ex ns r q => ?_) ?_
      · refine xw_if_eqT rfl (w32_cg (w32_of (xw_zr cv1))) h1 ?_
        refine xw_lo (L2 := [(0, xa 536), (1, xi x1)]) (List.forall_mem_cons.mpr ⟨rfl, List.forall_mem_cons.mpr ⟨rfl, fun _ h => absurd h List.not_mem_nil⟩⟩) ?_
        exact q
      exact ygk276_129 hB hfe _ _ c1
    · refine xS_of (pc' := 68) (L' := [(0, xa 536), (1, xi x1)]) (st' := [xi 40, xi (w32 ((xR m1 536 25) + 1)), xa 536]) (m' := (xw_u m1 536 25 ((xR m1 536 25) + 1))) (fun ex ns r q => ?_) ?_
      · refine xw_if_eqF rfl (w32_cg (w32_of (xw_zr cv1))) h1 ?_
        refine xw_aload_n rfl rfl rfl ?_
        refine xw_dup rfl rfl ?_
        refine xw_gfIc (v := (m1 536 25)) (v' := (xR m1 536 25)) rfl (xw_obd (by decide +kernel)) xk12_25 (qi := 25) rfl rfl rfl ?_
        refine xw_iconst rfl ?_
        refine xw_iadd rfl ?_
        refine xw_pfI rfl (xw_obd (by decide +kernel)) xk12_25 (qi := 25) rfl (xw_okI rfl) ?_
        refine xw_aload_n rfl rfl rfl ?_
        refine xw_aload_n rfl rfl rfl ?_
        refine xw_gfIc (v := ((xR m1 536 25) + 1)) (v' := (w32 ((xR m1 536 25) + 1))) rfl (xw_obd (by decide +kernel)) xk12_25 (qi := 25) rfl xw_us rfl ?_
        refine xw_bipush (e := 40) rfl (by decide +kernel) ?_
        exact q
      refine xS_if (fun h2 => ?_) (fun h2 => ?_)
      · refine xS_of (pc' := 82) (L' := [(0, xa 536), (1, xi x1)]) (st' := [xi (xR m1 536 9), xi 7, xi 0, xa 536]) (m' := (xw_u m1 536 25 ((xR m1 536 25) + 1))) (fun ex ns r q => ?_) ?_
        · refine xw_ic_gtT rfl (w32_cg (w32_w _)) (w32_cg rfl) h2 ?_
          refine xw_iconst rfl ?_
          refine xw_bipush (e := 7) rfl (by decide +kernel) ?_
          refine xw_aload_n rfl rfl rfl ?_
          refine xw_gfIc (v := (m1 536 9)) (v' := (xR m1 536 9)) rfl (xw_obd (by decide +kernel)) xk12_9 (qi := 9) rfl (xw_un (fun e => absurd e.2 (by decide)) rfl) rfl ?_
          refine xw_lo (L2 := [(0, xa 536), (1, xi x1)]) (List.forall_mem_cons.mpr ⟨rfl, List.forall_mem_cons.mpr ⟨rfl, fun _ h => absurd h List.not_mem_nil⟩⟩) ?_
          exact q
        refine xS_call (q := 254) (n := 4) (kq := 4) (as := [xa 536, xi 0, xi 7, xi (xR m1 536 9)]) (st1 := []) rfl rfl rfl rfl rfl rfl rfl rfl rfl rfl (fun _ => xw_rcv1 (t := 12) (xw_obd (by decide +kernel)) rfl) rfl (List.forall_mem_cons.mpr ⟨rfl, List.forall_mem_cons.mpr ⟨rfl, List.forall_mem_cons.mpr ⟨rfl, List.forall_mem_cons.mpr ⟨rfl, fun _ h => absurd h List.not_mem_nil⟩⟩⟩⟩) (ygf254 hB _ _ _ _ rfl rfl (w32_xR _ _ _)) (fun v2 m2 cv2 => ?_)
        refine xS_of (pc' := 87) (L' := [(0, xa 536), (1, xi x1)]) (st' := [xa 536]) (m' := m2) (fun ex ns r q => ?_) ?_
        · refine xw_istore_n (L' := [(2, xi v2), (0, xa 536), (1, xi x1)]) rfl (by decide) rfl ?_
          refine xw_aload_n rfl rfl rfl ?_
          refine xw_lo (L2 := [(0, xa 536), (1, xi x1)]) (List.forall_mem_cons.mpr ⟨rfl, List.forall_mem_cons.mpr ⟨rfl, fun _ h => absurd h List.not_mem_nil⟩⟩) ?_
          exact q
        refine xS_call (q := 248) (n := 1) (kq := 0) (as := [xa 536]) (st1 := []) rfl rfl rfl rfl rfl rfl rfl rfl rfl rfl (fun _ => xw_rcv1 (t := 12) (xw_obd (by decide +kernel)) rfl) rfl (List.forall_mem_cons.mpr ⟨rfl, fun _ h => absurd h List.not_mem_nil⟩) (ygf248 hB _) (fun v3 m3 cv3 => ?_)
        refine xS_of (pc' := 94) (L' := [(0, xa 536), (1, xi x1)]) (st' := [xi (xR m3 536 6)]) (m' := m3) (fun ex ns r q => ?_) ?_
        · refine xw_aload_n rfl rfl rfl ?_
          refine xw_gfIc (v := (m3 536 6)) (v' := (xR m3 536 6)) rfl (xw_obd (by decide +kernel)) xk12_6 (qi := 6) rfl rfl rfl ?_
          exact q
        refine xS_if (fun h3 => ?_) (fun h3 => ?_)
        · refine xS_of (pc' := 98) (L' := [(0, xa 536), (1, xi x1)]) (st' := [xa 536]) (m' := m3) (fun ex ns r q => ?_) ?_
          · refine xw_if_neF rfl (w32_cg (w32_xR _ _ _)) h3 ?_
            refine xw_aload_n rfl rfl rfl ?_
            refine xw_lo (L2 := [(0, xa 536), (1, xi x1)]) (List.forall_mem_cons.mpr ⟨rfl, List.forall_mem_cons.mpr ⟨rfl, fun _ h => absurd h List.not_mem_nil⟩⟩) ?_
            exact q
          refine xS_call (q := 274) (n := 1) (kq := 0) (as := [xa 536]) (st1 := []) rfl rfl rfl rfl rfl rfl rfl rfl rfl rfl (fun _ => xw_rcv1 (t := 12) (xw_obd (by decide +kernel)) rfl) rfl (List.forall_mem_cons.mpr ⟨rfl, fun _ h => absurd h List.not_mem_nil⟩) (hfe _) (fun v4 m4 cv4 => ?_)
          refine xS_of (pc' := 101) (L' := [(0, xa 536), (1, xi x1)]) (st' := []) (m' := m4) (fun ex ns r q => ?_) ?_
          · refine xw_lo (L2 := [(0, xa 536), (1, xi x1)]) (List.forall_mem_cons.mpr ⟨rfl, List.forall_mem_cons.mpr ⟨rfl, fun _ h => absurd h List.not_mem_nil⟩⟩) ?_
            exact q
          exact ygk276_101 hB hfe _ _ c1
        · refine xS_of (pc' := 101) (L' := [(0, xa 536), (1, xi x1)]) (st' := []) (m' := m3) (fun ex ns r q => ?_) ?_
          · refine xw_if_neT rfl (w32_cg (w32_xR _ _ _)) h3 ?_
            refine xw_lo (L2 := [(0, xa 536), (1, xi x1)]) (List.forall_mem_cons.mpr ⟨rfl, List.forall_mem_cons.mpr ⟨rfl, fun _ h => absurd h List.not_mem_nil⟩⟩) ?_
            exact q
          exact ygk276_101 hB hfe _ _ c1
      · refine xS_of (pc' := 82) (L' := [(0, xa 536), (1, xi x1)]) (st' := [xi (xR m1 536 9), xi 7, xi 1, xa 536]) (m' := (xw_u m1 536 25 ((xR m1 536 25) + 1))) (fun ex ns r q => ?_) ?_
        · refine xw_ic_gtF rfl (w32_cg (w32_w _)) (w32_cg rfl) h2 ?_
          refine xw_iconst rfl ?_
          refine xw_goto rfl ?_
          refine xw_bipush (e := 7) rfl (by decide +kernel) ?_
          refine xw_aload_n rfl rfl rfl ?_
          refine xw_gfIc (v := (m1 536 9)) (v' := (xR m1 536 9)) rfl (xw_obd (by decide +kernel)) xk12_9 (qi := 9) rfl (xw_un (fun e => absurd e.2 (by decide)) rfl) rfl ?_
          refine xw_lo (L2 := [(0, xa 536), (1, xi x1)]) (List.forall_mem_cons.mpr ⟨rfl, List.forall_mem_cons.mpr ⟨rfl, fun _ h => absurd h List.not_mem_nil⟩⟩) ?_
          exact q
        refine xS_call (q := 254) (n := 4) (kq := 4) (as := [xa 536, xi 1, xi 7, xi (xR m1 536 9)]) (st1 := []) rfl rfl rfl rfl rfl rfl rfl rfl rfl rfl (fun _ => xw_rcv1 (t := 12) (xw_obd (by decide +kernel)) rfl) rfl (List.forall_mem_cons.mpr ⟨rfl, List.forall_mem_cons.mpr ⟨rfl, List.forall_mem_cons.mpr ⟨rfl, List.forall_mem_cons.mpr ⟨rfl, fun _ h => absurd h List.not_mem_nil⟩⟩⟩⟩) (ygf254 hB _ _ _ _ rfl rfl (w32_xR _ _ _)) (fun v5 m5 cv5 => ?_)
        refine xS_of (pc' := 87) (L' := [(0, xa 536), (1, xi x1)]) (st' := [xa 536]) (m' := m5) (fun ex ns r q => ?_) ?_
        · refine xw_istore_n (L' := [(2, xi v5), (0, xa 536), (1, xi x1)]) rfl (by decide) rfl ?_
          refine xw_aload_n rfl rfl rfl ?_
          refine xw_lo (L2 := [(0, xa 536), (1, xi x1)]) (List.forall_mem_cons.mpr ⟨rfl, List.forall_mem_cons.mpr ⟨rfl, fun _ h => absurd h List.not_mem_nil⟩⟩) ?_
          exact q
        refine xS_call (q := 248) (n := 1) (kq := 0) (as := [xa 536]) (st1 := []) rfl rfl rfl rfl rfl rfl rfl rfl rfl rfl (fun _ => xw_rcv1 (t := 12) (xw_obd (by decide +kernel)) rfl) rfl (List.forall_mem_cons.mpr ⟨rfl, fun _ h => absurd h List.not_mem_nil⟩) (ygf248 hB _) (fun v6 m6 cv6 => ?_)
        refine xS_of (pc' := 94) (L' := [(0, xa 536), (1, xi x1)]) (st' := [xi (xR m6 536 6)]) (m' := m6) (fun ex ns r q => ?_) ?_
        · refine xw_aload_n rfl rfl rfl ?_
          refine xw_gfIc (v := (m6 536 6)) (v' := (xR m6 536 6)) rfl (xw_obd (by decide +kernel)) xk12_6 (qi := 6) rfl rfl rfl ?_
          exact q
        refine xS_if (fun h3 => ?_) (fun h3 => ?_)
        · refine xS_of (pc' := 98) (L' := [(0, xa 536), (1, xi x1)]) (st' := [xa 536]) (m' := m6) (fun ex ns r q => ?_) ?_
          · refine xw_if_neF rfl (w32_cg (w32_xR _ _ _)) h3 ?_
            refine xw_aload_n rfl rfl rfl ?_
            refine xw_lo (L2 := [(0, xa 536), (1, xi x1)]) (List.forall_mem_cons.mpr ⟨rfl, List.forall_mem_cons.mpr ⟨rfl, fun _ h => absurd h List.not_mem_nil⟩⟩) ?_
            exact q
          refine xS_call (q := 274) (n := 1) (kq := 0) (as := [xa 536]) (st1 := []) rfl rfl rfl rfl rfl rfl rfl rfl rfl rfl (fun _ => xw_rcv1 (t := 12) (xw_obd (by decide +kernel)) rfl) rfl (List.forall_mem_cons.mpr ⟨rfl, fun _ h => absurd h List.not_mem_nil⟩) (hfe _) (fun v7 m7 cv7 => ?_)
          refine xS_of (pc' := 101) (L' := [(0, xa 536), (1, xi x1)]) (st' := []) (m' := m7) (fun ex ns r q => ?_) ?_
          · refine xw_lo (L2 := [(0, xa 536), (1, xi x1)]) (List.forall_mem_cons.mpr ⟨rfl, List.forall_mem_cons.mpr ⟨rfl, fun _ h => absurd h List.not_mem_nil⟩⟩) ?_
            exact q
          exact ygk276_101 hB hfe _ _ c1
        · refine xS_of (pc' := 101) (L' := [(0, xa 536), (1, xi x1)]) (st' := []) (m' := m6) (fun ex ns r q => ?_) ?_
          · refine xw_if_neT rfl (w32_cg (w32_xR _ _ _)) h3 ?_
            refine xw_lo (L2 := [(0, xa 536), (1, xi x1)]) (List.forall_mem_cons.mpr ⟨rfl, List.forall_mem_cons.mpr ⟨rfl, fun _ h => absurd h List.not_mem_nil⟩⟩) ?_
            exact q
          exact ygk276_101 hB hfe _ _ c1
  · refine xS_of (pc' := 129) (L' := [(0, xa 536), (1, xi x1)]) (st' := []) (m' := m) (fun ex ns r q => ?_) ?_
    · refine xw_if_neT rfl (w32_cg (w32_xR _ _ _)) h0 ?_
      refine xw_lo (L2 := [(0, xa 536), (1, xi x1)]) (List.forall_mem_cons.mpr ⟨rfl, List.forall_mem_cons.mpr ⟨rfl, fun _ h => absurd h List.not_mem_nil⟩⟩) ?_
      exact q
    exact ygk276_129 hB hfe _ _ c1
theorem ysl276_2 {B : Nat} (hB : B ≤ 512) {xs : Nat → Int32} {SL d : Nat} {fe : xw_M → xP} (hfe : ∀ m, xS B xs SL (d + 5) 274 (1, none, [], 13) 0 0 [(0, xa 536)] [] m (fe m)) {r2 : Int → xw_M → xP} (hr2 : ∀ x1 m, w32 x1 = x1 → xS B xs SL (d + 6) 276 (3, none, [], 13) 0 2 [(0, xa 536), (1, xi x1)] [] m (r2 x1 m)) : ∀ x1 m, w32 x1 = x1 → xS B xs SL (d + 6) 276 (3, none, [], 13) 0 2 [(0, xa 536), (1, xi x1)] [] m (yl276_2 B fe r2 x1 m) := by
  intro x1 m c1
  unfold yl276_2
  refine xS_of (pc' := 6) (L' := [(0, xa 536), (1, xi x1)]) (st' := [xi (xR m 536 6)]) (m' := m) (fun ex ns r q => ?_) ?_
  · refine xw_aload_n rfl rfl rfl ?_
    refine xw_gfIc (v := (m 536 6)) (v' := (xR m 536 6)) rfl (xw_obd (by decide +kernel)) xk12_6 (qi := 6) rfl rfl rfl ?_
    exact q
  refine xS_if (fun h0 => ?_) (fun h0 => ?_)
  · refine xS_of (pc' := 12) (L' := [(0, xa 536), (1, xi x1)]) (st' := [xi 16, xa 536]) (m' := m) (fun ex ns r q => ?_) ?_
    · refine xw_if_neF rfl (w32_cg (w32_xR _ _ _)) h0 ?_
      refine xw_aload_n rfl rfl rfl ?_
      refine xw_bipush (e := 16) rfl (by decide +kernel) ?_
      refine xw_lo (L2 := [(0, xa 536), (1, xi x1)]) (List.forall_mem_cons.mpr ⟨rfl, List.forall_mem_cons.mpr ⟨rfl, fun _ h => absurd h List.not_mem_nil⟩⟩) ?_
      exact q
    refine xS_call (q := 257) (n := 2) (kq := 4) (as := [xa 536, xi 16]) (st1 := []) rfl rfl rfl rfl rfl rfl rfl rfl rfl rfl (fun _ => xw_rcv1 (t := 12) (xw_obd (by decide +kernel)) rfl) rfl (List.forall_mem_cons.mpr ⟨rfl, List.forall_mem_cons.mpr ⟨rfl, fun _ h => absurd h List.not_mem_nil⟩⟩) (ygf257 hB _ _ rfl) (fun v1 m1 cv1 => ?_)
    refine xS_if (fun h1 => ?_) (fun h1 => ?_)
    · refine xS_of (pc' := 35) (L' := [(0, xa 536), (1, xi x1)]) (st' := []) (m' := m1) (fun ex ns r q => ?_) ?_
      · refine xw_if_eqT rfl (w32_cg (w32_of (xw_zr cv1))) h1 ?_
        refine xw_lo (L2 := [(0, xa 536), (1, xi x1)]) (List.forall_mem_cons.mpr ⟨rfl, List.forall_mem_cons.mpr ⟨rfl, fun _ h => absurd h List.not_mem_nil⟩⟩) ?_
        exact q
      exact ygk276_35 hB hfe _ _ c1
    · refine xS_of (pc' := 19) (L' := [(0, xa 536), (1, xi x1)]) (st' := [xi x1]) (m' := m1) (fun ex ns r q => ?_) ?_
      · refine xw_if_eqF rfl (w32_cg (w32_of (xw_zr cv1))) h1 ?_
        refine xw_iload_n rfl rfl ?_
        exact q
      refine xS_if (fun h2 => ?_) (fun h2 => ?_)
      · refine xS_of (pc' := 29) (L' := [(0, xa 536), (1, xi 1)]) (st' := [xa 536]) (m' := m1) (fun ex ns r q => ?_) ?_
        · refine xw_if_neF rfl (w32_cg c1) h2 ?_
          refine xw_iconst rfl ?_
          refine xw_goto rfl ?_
          refine xw_istore_n (L' := [(1, xi 1), (0, xa 536)]) rfl (by decide) rfl ?_
          refine xw_aload_n rfl rfl rfl ?_
          refine xw_lo (L2 := [(0, xa 536), (1, xi 1)]) (List.forall_mem_cons.mpr ⟨rfl, List.forall_mem_cons.mpr ⟨rfl, fun _ h => absurd h List.not_mem_nil⟩⟩) ?_
          exact q
        refine xS_call (q := 248) (n := 1) (kq := 0) (as := [xa 536]) (st1 := []) rfl rfl rfl rfl rfl rfl rfl rfl rfl rfl (fun _ => xw_rcv1 (t := 12) (xw_obd (by decide +kernel)) rfl) rfl (List.forall_mem_cons.mpr ⟨rfl, fun _ h => absurd h List.not_mem_nil⟩) (ygf248 hB _) (fun v2 m2 cv2 => ?_)
        refine xS_of (pc' := 2) (L' := [(0, xa 536), (1, xi 1)]) (st' := []) (m' := m2) (fun ex ns r q => ?_) ?_
        · refine xw_goto rfl ?_
          refine xw_lo (L2 := [(0, xa 536), (1, xi 1)]) (List.forall_mem_cons.mpr ⟨rfl, List.forall_mem_cons.mpr ⟨rfl, fun _ h => absurd h List.not_mem_nil⟩⟩) ?_
          exact q
        exact hr2 _ _ rfl
      · refine xS_of (pc' := 29) (L' := [(0, xa 536), (1, xi 0)]) (st' := [xa 536]) (m' := m1) (fun ex ns r q => ?_) ?_
        · refine xw_if_neT rfl (w32_cg c1) h2 ?_
          refine xw_iconst rfl ?_
          refine xw_istore_n (L' := [(1, xi 0), (0, xa 536)]) rfl (by decide) rfl ?_
          refine xw_aload_n rfl rfl rfl ?_
          refine xw_lo (L2 := [(0, xa 536), (1, xi 0)]) (List.forall_mem_cons.mpr ⟨rfl, List.forall_mem_cons.mpr ⟨rfl, fun _ h => absurd h List.not_mem_nil⟩⟩) ?_
          exact q
        refine xS_call (q := 248) (n := 1) (kq := 0) (as := [xa 536]) (st1 := []) rfl rfl rfl rfl rfl rfl rfl rfl rfl rfl (fun _ => xw_rcv1 (t := 12) (xw_obd (by decide +kernel)) rfl) rfl (List.forall_mem_cons.mpr ⟨rfl, fun _ h => absurd h List.not_mem_nil⟩) (ygf248 hB _) (fun v3 m3 cv3 => ?_)
        refine xS_of (pc' := 2) (L' := [(0, xa 536), (1, xi 0)]) (st' := []) (m' := m3) (fun ex ns r q => ?_) ?_
        · refine xw_goto rfl ?_
          refine xw_lo (L2 := [(0, xa 536), (1, xi 0)]) (List.forall_mem_cons.mpr ⟨rfl, List.forall_mem_cons.mpr ⟨rfl, fun _ h => absurd h List.not_mem_nil⟩⟩) ?_
          exact q
        exact hr2 _ _ rfl
  · refine xS_of (pc' := 35) (L' := [(0, xa 536), (1, xi x1)]) (st' := []) (m' := m) (fun ex ns r q => ?_) ?_
    · refine xw_if_neT rfl (w32_cg (w32_xR _ _ _)) h0 ?_
      refine xw_lo (L2 := [(0, xa 536), (1, xi x1)]) (List.forall_mem_cons.mpr ⟨rfl, List.forall_mem_cons.mpr ⟨rfl, fun _ h => absurd h List.not_mem_nil⟩⟩) ?_
      exact q
    exact ygk276_35 hB hfe _ _ c1
theorem ygl276_2 {B : Nat} (hB : B ≤ 512) {xs : Nat → Int32} {SL d : Nat} {fe : xw_M → xP} (hfe : ∀ m, xS B xs SL (d + 5) 274 (1, none, [], 13) 0 0 [(0, xa 536)] [] m (fe m)) : ∀ n x1 m, w32 x1 = x1 → xS B xs SL (d + 6) 276 (3, none, [], 13) 0 2 [(0, xa 536), (1, xi x1)] [] m (xl1 (yl276_2 B fe) n x1 m) := by
  intro n
  induction n with
  | zero => intro x1 m c1; exact xS_none
  | succ n ih => exact ysl276_2 hB hfe ih
theorem ygf276 {B : Nat} (hB : B ≤ 512) {xs : Nat → Int32} {SL d : Nat} {fe : xw_M → xP} (hfe : ∀ m, xS B xs SL (d + 5) 274 (1, none, [], 13) 0 0 [(0, xa 536)] [] m (fe m)) : ∀ m, xS B xs SL (d + 6) 276 (3, none, [], 13) 0 0 [(0, xa 536)] [] m (yf276 B fe m) := by
  intro m
  unfold yf276
  refine xS_of (pc' := 2) (L' := [(0, xa 536), (1, xi 0)]) (st' := []) (m' := m) (fun ex ns r q => ?_) ?_
  · refine xw_iconst rfl ?_
    refine xw_istore_n (L' := [(1, xi 0), (0, xa 536)]) rfl (by decide) rfl ?_
    refine xw_lo (L2 := [(0, xa 536), (1, xi 0)]) (List.forall_mem_cons.mpr ⟨rfl, List.forall_mem_cons.mpr ⟨rfl, fun _ h => absurd h List.not_mem_nil⟩⟩) ?_
    exact q
  exact ygl276_2 hB hfe 1000000 _ _ rfl
theorem ysl275_4 {B : Nat} (hB : B ≤ 512) {xs : Nat → Int32} {SL d : Nat} {fe : xw_M → xP} (hfe : ∀ m, xS B xs SL (d + 5) 274 (1, none, [], 13) 0 0 [(0, xa 536)] [] m (fe m)) {r4 : xw_M → xP} (hr4 : ∀ m, xS B xs SL (d + 7) 275 (1, none, [], 13) 0 4 [(0, xa 536)] [] m (r4 m)) : ∀ m, xS B xs SL (d + 7) 275 (1, none, [], 13) 0 4 [(0, xa 536)] [] m (yl275_4 B fe r4 m) := by
  intro m
  unfold yl275_4
  refine xS_of (pc' := 8) (L' := [(0, xa 536)]) (st' := [xi (xR m 536 6)]) (m' := m) (fun ex ns r q => ?_) ?_
  · refine xw_aload_n rfl rfl rfl ?_
    refine xw_gfIc (v := (m 536 6)) (v' := (xR m 536 6)) rfl (xw_obd (by decide +kernel)) xk12_6 (qi := 6) rfl rfl rfl ?_
    exact q
  refine xS_if (fun h0 => ?_) (fun h0 => ?_)
  · refine xS_of (pc' := 14) (L' := [(0, xa 536)]) (st' := [xi 14, xa 536]) (m' := m) (fun ex ns r q => ?_) ?_
    · refine xw_if_neF rfl (w32_cg (w32_xR _ _ _)) h0 ?_
      refine xw_aload_n rfl rfl rfl ?_
      refine xw_bipush (e := 14) rfl (by decide +kernel) ?_
      refine xw_lo (L2 := [(0, xa 536)]) (List.forall_mem_cons.mpr ⟨rfl, fun _ h => absurd h List.not_mem_nil⟩) ?_
      exact q
    refine xS_call (q := 257) (n := 2) (kq := 4) (as := [xa 536, xi 14]) (st1 := []) rfl rfl rfl rfl rfl rfl rfl rfl rfl rfl (fun _ => xw_rcv1 (t := 12) (xw_obd (by decide +kernel)) rfl) rfl (List.forall_mem_cons.mpr ⟨rfl, List.forall_mem_cons.mpr ⟨rfl, fun _ h => absurd h List.not_mem_nil⟩⟩) (ygf257 hB _ _ rfl) (fun v1 m1 cv1 => ?_)
    refine xS_if (fun h1 => ?_) (fun h1 => ?_)
    · refine xS_of (pc' := 37) (L' := [(0, xa 536)]) (st' := []) (m' := m1) (fun ex ns r q => ?_) ?_
      · refine xw_if_eqT rfl (w32_cg (w32_of (xw_zr cv1))) h1 ?_
        exact q
      exact xS_ret (v := 0) rfl rfl rfl rfl
    · refine xS_of (pc' := 21) (L' := [(0, xa 536)]) (st' := [xa 536]) (m' := m1) (fun ex ns r q => ?_) ?_
      · refine xw_if_eqF rfl (w32_cg (w32_of (xw_zr cv1))) h1 ?_
        refine xw_aload_n rfl rfl rfl ?_
        refine xw_lo (L2 := [(0, xa 536)]) (List.forall_mem_cons.mpr ⟨rfl, fun _ h => absurd h List.not_mem_nil⟩) ?_
        exact q
      refine xS_call (q := 248) (n := 1) (kq := 0) (as := [xa 536]) (st1 := []) rfl rfl rfl rfl rfl rfl rfl rfl rfl rfl (fun _ => xw_rcv1 (t := 12) (xw_obd (by decide +kernel)) rfl) rfl (List.forall_mem_cons.mpr ⟨rfl, fun _ h => absurd h List.not_mem_nil⟩) (ygf248 hB _) (fun v2 m2 cv2 => ?_)
      refine xS_of (pc' := 25) (L' := [(0, xa 536)]) (st' := [xa 536]) (m' := m2) (fun ex ns r q => ?_) ?_
      · refine xw_aload_n rfl rfl rfl ?_
        refine xw_lo (L2 := [(0, xa 536)]) (List.forall_mem_cons.mpr ⟨rfl, fun _ h => absurd h List.not_mem_nil⟩) ?_
        exact q
      refine xS_call (q := 276) (n := 1) (kq := 0) (as := [xa 536]) (st1 := []) rfl rfl rfl rfl rfl rfl rfl rfl rfl rfl (fun _ => xw_rcv1 (t := 12) (xw_obd (by decide +kernel)) rfl) rfl (List.forall_mem_cons.mpr ⟨rfl, fun _ h => absurd h List.not_mem_nil⟩) (ygf276 hB hfe _) (fun v3 m3 cv3 => ?_)
      refine xS_of (pc' := 31) (L' := [(0, xa 536)]) (st' := [xi (-2), xa 536]) (m' := m3) (fun ex ns r q => ?_) ?_
      · refine xw_aload_n rfl rfl rfl ?_
        refine xw_bipush (e := (-2)) rfl (by decide +kernel) ?_
        refine xw_lo (L2 := [(0, xa 536)]) (List.forall_mem_cons.mpr ⟨rfl, fun _ h => absurd h List.not_mem_nil⟩) ?_
        exact q
      refine xS_call (q := 280) (n := 2) (kq := 0) (as := [xa 536, xi (-2)]) (st1 := []) rfl rfl rfl rfl rfl rfl rfl rfl rfl rfl (fun _ => xw_rcv1 (t := 12) (xw_obd (by decide +kernel)) rfl) rfl (List.forall_mem_cons.mpr ⟨rfl, List.forall_mem_cons.mpr ⟨rfl, fun _ h => absurd h List.not_mem_nil⟩⟩) (ygf280 hB _ _ rfl) (fun v4 m4 cv4 => ?_)
      refine xS_of (pc' := 4) (L' := [(0, xa 536)]) (st' := []) (m' := m4) (fun ex ns r q => ?_) ?_
      · refine xw_goto rfl ?_
        refine xw_lo (L2 := [(0, xa 536)]) (List.forall_mem_cons.mpr ⟨rfl, fun _ h => absurd h List.not_mem_nil⟩) ?_
        exact q
      exact hr4 _
  · refine xS_of (pc' := 37) (L' := [(0, xa 536)]) (st' := []) (m' := m) (fun ex ns r q => ?_) ?_
    · refine xw_if_neT rfl (w32_cg (w32_xR _ _ _)) h0 ?_
      exact q
    exact xS_ret (v := 0) rfl rfl rfl rfl
theorem ygl275_4 {B : Nat} (hB : B ≤ 512) {xs : Nat → Int32} {SL d : Nat} {fe : xw_M → xP} (hfe : ∀ m, xS B xs SL (d + 5) 274 (1, none, [], 13) 0 0 [(0, xa 536)] [] m (fe m)) : ∀ n m, xS B xs SL (d + 7) 275 (1, none, [], 13) 0 4 [(0, xa 536)] [] m (xl0 (yl275_4 B fe) n m) := by
  intro n
  induction n with
  | zero => intro m; exact xS_none
  | succ n ih => exact ysl275_4 hB hfe ih
theorem ygf275 {B : Nat} (hB : B ≤ 512) {xs : Nat → Int32} {SL d : Nat} {fe : xw_M → xP} (hfe : ∀ m, xS B xs SL (d + 5) 274 (1, none, [], 13) 0 0 [(0, xa 536)] [] m (fe m)) : ∀ m, xS B xs SL (d + 7) 275 (1, none, [], 13) 0 0 [(0, xa 536)] [] m (yf275 B fe m) := by
  intro m
  unfold yf275
  refine xS_of (pc' := 1) (L' := [(0, xa 536)]) (st' := [xa 536]) (m' := m) (fun ex ns r q => ?_) ?_
  · refine xw_aload_n rfl rfl rfl ?_
    refine xw_lo (L2 := [(0, xa 536)]) (List.forall_mem_cons.mpr ⟨rfl, fun _ h => absurd h List.not_mem_nil⟩) ?_
    exact q
  refine xS_call (q := 276) (n := 1) (kq := 0) (as := [xa 536]) (st1 := []) rfl rfl rfl rfl rfl rfl rfl rfl rfl rfl (fun _ => xw_rcv1 (t := 12) (xw_obd (by decide +kernel)) rfl) rfl (List.forall_mem_cons.mpr ⟨rfl, fun _ h => absurd h List.not_mem_nil⟩) (ygf276 hB hfe _) (fun v1 m1 cv1 => ?_)
  refine xS_of (pc' := 4) (L' := [(0, xa 536)]) (st' := []) (m' := m1) (fun ex ns r q => ?_) ?_
  · refine xw_lo (L2 := [(0, xa 536)]) (List.forall_mem_cons.mpr ⟨rfl, fun _ h => absurd h List.not_mem_nil⟩) ?_
    exact q
  exact ygl275_4 hB hfe 1000000 _
theorem ysl274_4 {B : Nat} (hB : B ≤ 512) {xs : Nat → Int32} {SL d : Nat} {fe : xw_M → xP} (hfe : ∀ m, xS B xs SL (d + 5) 274 (1, none, [], 13) 0 0 [(0, xa 536)] [] m (fe m)) {r4 : xw_M → xP} (hr4 : ∀ m, xS B xs SL (d + 8) 274 (1, none, [], 13) 0 4 [(0, xa 536)] [] m (r4 m)) : ∀ m, xS B xs SL (d + 8) 274 (1, none, [], 13) 0 4 [(0, xa 536)] [] m (yl274_4 B fe r4 m) := by
  intro m
  unfold yl274_4
  refine xS_of (pc' := 8) (L' := [(0, xa 536)]) (st' := [xi (xR m 536 6)]) (m' := m) (fun ex ns r q => ?_) ?_
  · refine xw_aload_n rfl rfl rfl ?_
    refine xw_gfIc (v := (m 536 6)) (v' := (xR m 536 6)) rfl (xw_obd (by decide +kernel)) xk12_6 (qi := 6) rfl rfl rfl ?_
    exact q
  refine xS_if (fun h0 => ?_) (fun h0 => ?_)
  · refine xS_of (pc' := 14) (L' := [(0, xa 536)]) (st' := [xi 15, xa 536]) (m' := m) (fun ex ns r q => ?_) ?_
    · refine xw_if_neF rfl (w32_cg (w32_xR _ _ _)) h0 ?_
      refine xw_aload_n rfl rfl rfl ?_
      refine xw_bipush (e := 15) rfl (by decide +kernel) ?_
      refine xw_lo (L2 := [(0, xa 536)]) (List.forall_mem_cons.mpr ⟨rfl, fun _ h => absurd h List.not_mem_nil⟩) ?_
      exact q
    refine xS_call (q := 257) (n := 2) (kq := 4) (as := [xa 536, xi 15]) (st1 := []) rfl rfl rfl rfl rfl rfl rfl rfl rfl rfl (fun _ => xw_rcv1 (t := 12) (xw_obd (by decide +kernel)) rfl) rfl (List.forall_mem_cons.mpr ⟨rfl, List.forall_mem_cons.mpr ⟨rfl, fun _ h => absurd h List.not_mem_nil⟩⟩) (ygf257 hB _ _ rfl) (fun v1 m1 cv1 => ?_)
    refine xS_if (fun h1 => ?_) (fun h1 => ?_)
    · refine xS_of (pc' := 37) (L' := [(0, xa 536)]) (st' := []) (m' := m1) (fun ex ns r q => ?_) ?_
      · refine xw_if_eqT rfl (w32_cg (w32_of (xw_zr cv1))) h1 ?_
        exact q
      exact xS_ret (v := 0) rfl rfl rfl rfl
    · refine xS_of (pc' := 21) (L' := [(0, xa 536)]) (st' := [xa 536]) (m' := m1) (fun ex ns r q => ?_) ?_
      · refine xw_if_eqF rfl (w32_cg (w32_of (xw_zr cv1))) h1 ?_
        refine xw_aload_n rfl rfl rfl ?_
        refine xw_lo (L2 := [(0, xa 536)]) (List.forall_mem_cons.mpr ⟨rfl, fun _ h => absurd h List.not_mem_nil⟩) ?_
        exact q
      refine xS_call (q := 248) (n := 1) (kq := 0) (as := [xa 536]) (st1 := []) rfl rfl rfl rfl rfl rfl rfl rfl rfl rfl (fun _ => xw_rcv1 (t := 12) (xw_obd (by decide +kernel)) rfl) rfl (List.forall_mem_cons.mpr ⟨rfl, fun _ h => absurd h List.not_mem_nil⟩) (ygf248 hB _) (fun v2 m2 cv2 => ?_)
      refine xS_of (pc' := 25) (L' := [(0, xa 536)]) (st' := [xa 536]) (m' := m2) (fun ex ns r q => ?_) ?_
      · refine xw_aload_n rfl rfl rfl ?_
        refine xw_lo (L2 := [(0, xa 536)]) (List.forall_mem_cons.mpr ⟨rfl, fun _ h => absurd h List.not_mem_nil⟩) ?_
        exact q
      refine xS_call (q := 275) (n := 1) (kq := 0) (as := [xa 536]) (st1 := []) rfl rfl rfl rfl rfl rfl rfl rfl rfl rfl (fun _ => xw_rcv1 (t := 12) (xw_obd (by decide +kernel)) rfl) rfl (List.forall_mem_cons.mpr ⟨rfl, fun _ h => absurd h List.not_mem_nil⟩) (ygf275 hB hfe _) (fun v3 m3 cv3 => ?_)
      refine xS_of (pc' := 31) (L' := [(0, xa 536)]) (st' := [xi (-3), xa 536]) (m' := m3) (fun ex ns r q => ?_) ?_
      · refine xw_aload_n rfl rfl rfl ?_
        refine xw_bipush (e := (-3)) rfl (by decide +kernel) ?_
        refine xw_lo (L2 := [(0, xa 536)]) (List.forall_mem_cons.mpr ⟨rfl, fun _ h => absurd h List.not_mem_nil⟩) ?_
        exact q
      refine xS_call (q := 280) (n := 2) (kq := 0) (as := [xa 536, xi (-3)]) (st1 := []) rfl rfl rfl rfl rfl rfl rfl rfl rfl rfl (fun _ => xw_rcv1 (t := 12) (xw_obd (by decide +kernel)) rfl) rfl (List.forall_mem_cons.mpr ⟨rfl, List.forall_mem_cons.mpr ⟨rfl, fun _ h => absurd h List.not_mem_nil⟩⟩) (ygf280 hB _ _ rfl) (fun v4 m4 cv4 => ?_)
      refine xS_of (pc' := 4) (L' := [(0, xa 536)]) (st' := []) (m' := m4) (fun ex ns r q => ?_) ?_
      · refine xw_goto rfl ?_
        refine xw_lo (L2 := [(0, xa 536)]) (List.forall_mem_cons.mpr ⟨rfl, fun _ h => absurd h List.not_mem_nil⟩) ?_
        exact q
      exact hr4 _
  · refine xS_of (pc' := 37) (L' := [(0, xa 536)]) (st' := []) (m' := m) (fun ex ns r q => ?_) ?_
    · refine xw_if_neT rfl (w32_cg (w32_xR _ _ _)) h0 ?_
      exact q
    exact xS_ret (v := 0) rfl rfl rfl rfl
theorem ygl274_4 {B : Nat} (hB : B ≤ 512) {xs : Nat → Int32} {SL d : Nat} {fe : xw_M → xP} (hfe : ∀ m, xS B xs SL (d + 5) 274 (1, none, [], 13) 0 0 [(0, xa 536)] [] m (fe m)) : ∀ n m, xS B xs SL (d + 8) 274 (1, none, [], 13) 0 4 [(0, xa 536)] [] m (xl0 (yl274_4 B fe) n m) := by
  intro n
  induction n with
  | zero => intro m; exact xS_none
  | succ n ih => exact ysl274_4 hB hfe ih
theorem ygf274 {B : Nat} (hB : B ≤ 512) {xs : Nat → Int32} {SL d : Nat} {fe : xw_M → xP} (hfe : ∀ m, xS B xs SL (d + 5) 274 (1, none, [], 13) 0 0 [(0, xa 536)] [] m (fe m)) : ∀ m, xS B xs SL (d + 8) 274 (1, none, [], 13) 0 0 [(0, xa 536)] [] m (yf274 B fe m) := by
  intro m
  unfold yf274
  refine xS_of (pc' := 1) (L' := [(0, xa 536)]) (st' := [xa 536]) (m' := m) (fun ex ns r q => ?_) ?_
  · refine xw_aload_n rfl rfl rfl ?_
    refine xw_lo (L2 := [(0, xa 536)]) (List.forall_mem_cons.mpr ⟨rfl, fun _ h => absurd h List.not_mem_nil⟩) ?_
    exact q
  refine xS_call (q := 275) (n := 1) (kq := 0) (as := [xa 536]) (st1 := []) rfl rfl rfl rfl rfl rfl rfl rfl rfl rfl (fun _ => xw_rcv1 (t := 12) (xw_obd (by decide +kernel)) rfl) rfl (List.forall_mem_cons.mpr ⟨rfl, fun _ h => absurd h List.not_mem_nil⟩) (ygf275 hB hfe _) (fun v1 m1 cv1 => ?_)
  refine xS_of (pc' := 4) (L' := [(0, xa 536)]) (st' := []) (m' := m1) (fun ex ns r q => ?_) ?_
  · refine xw_lo (L2 := [(0, xa 536)]) (List.forall_mem_cons.mpr ⟨rfl, fun _ h => absurd h List.not_mem_nil⟩) ?_
    exact q
  exact ygl274_4 hB hfe 1000000 _
theorem xE_ok {B : Nat} (hB : B ≤ 512) {xs : Nat → Int32} {SL d : Nat} : ∀ n m, xS B xs SL (d + 5 + 3 * n) 274 (1, none, [], 13) 0 0 [(0, xa 536)] [] m (xE B n m) := by
  intro n
  induction n generalizing d with
  | zero => exact fun m => xS_none
  | succ n ih =>
    intro m
    have h := ygf274 (d := d + 3 * n) hB (fe := xE B n) (fun m => by have := ih (d := d) m; rw [show d + 5 + 3 * n = d + 3 * n + 5 from by omega] at this; exact this) m
    rw [show d + 3 * n + 8 = d + 5 + 3 * (n + 1) from by omega] at h
    exact h
theorem ysl283_50 {B : Nat} (hB : B ≤ 512) {xs : Nat → Int32} {SL d : Nat} {r50 : Int → Int → Int → Int → xw_M → xP} (hr50 : ∀ x1 x3 x4 x5 m, w32 x1 = x1 → w32 x3 = x3 → w32 x4 = x4 → w32 x5 = x5 → xS B xs SL (d + 5) 283 (6, none, [], 13) 0 50 [(0, xa 536), (1, xi x1), (3, xi x3), (4, xi x4), (5, xi x5)] [] m (r50 x1 x3 x4 x5 m)) : ∀ x1 x3 x4 x5 m, w32 x1 = x1 → w32 x3 = x3 → w32 x4 = x4 → w32 x5 = x5 → xS B xs SL (d + 5) 283 (6, none, [], 13) 0 50 [(0, xa 536), (1, xi x1), (3, xi x3), (4, xi x4), (5, xi x5)] [] m (yl283_50 B r50 x1 x3 x4 x5 m) := by
  intro x1 x3 x4 x5 m c1 c3 c4 c5
  unfold yl283_50
  refine xS_g (fun g0 => ?_)
  refine xS_of (pc' := 59) (L' := [(0, xa 536), (1, xi x1), (3, xi x3), (4, xi x4), (5, xi x5)]) (st' := [xi (xR m (m 536 23) 4), xi x5]) (m' := m) (fun ex ns r q => ?_) ?_
  · refine xw_iload rfl rfl ?_
    refine xw_aload_n rfl rfl rfl ?_
    refine xw_gfM (v := (m 536 23)) rfl (xw_obd (by decide +kernel)) xk12_23 (qi := 23) rfl rfl ?_
    refine xw_gfIc (v := (m (m 536 23) 4)) (v' := (xR m (m 536 23) 4)) rfl (xw_obd g0) xk13_4 (qi := 4) rfl rfl rfl ?_
    exact q
  refine xS_if (fun h1 => ?_) (fun h1 => ?_)
  · refine xS_of (pc' := 64) (L' := [(0, xa 536), (1, xi x1), (3, xi x3), (4, xi x4), (5, xi x5)]) (st' := [xi x4]) (m' := m) (fun ex ns r q => ?_) ?_
    · refine xw_ic_geF rfl (w32_cg c5) (w32_cg (w32_xR _ _ _)) (Int.not_le.mpr h1) ?_
      refine xw_iload rfl rfl ?_
      exact q
    refine xS_if (fun h2 => ?_) (fun h2 => ?_)
    · refine xS_g (fun g3 => ?_)
      refine xS_g (fun g4 => ?_)
      refine xS_of (pc' := 78) (L' := [(0, xa 536), (1, xi x1), (3, xi x3), (4, xi x4), (5, xi x5)]) (st' := [xi x3, xi (xR m (xw_rf (m 536 23) 5) x5)]) (m' := m) (fun ex ns r q => ?_) ?_
      · refine xw_if_neF rfl (w32_cg c4) h2 ?_
        refine xw_aload_n rfl rfl rfl ?_
        refine xw_gfM (v := (m 536 23)) rfl (xw_obd (by decide +kernel)) xk12_23 (qi := 23) rfl rfl ?_
        refine xw_gfV (qi := 5) rfl (xw_obd g0) xk13_5 rfl ?_
        refine xw_iload rfl rfl ?_
        refine xw_ialdc (n := (xw_le B (xw_rf (m 536 23) 5))) (v := (m (xw_rf (m 536 23) 5) x5)) (v' := (xR m (xw_rf (m 536 23) 5) x5)) rfl hB (xw_obd g4) rfl g3 rfl rfl ?_
        refine xw_iload_n rfl rfl ?_
        exact q
      refine xS_if (fun h5 => ?_) (fun h5 => ?_)
      · refine xS_of (pc' := 50) (L' := [(0, xa 536), (1, xi x1), (3, xi x3), (4, xi 1), (5, xi (w32 (x5 + 1)))]) (st' := []) (m' := m) (fun ex ns r q => ?_) ?_
        · refine xw_ic_neF rfl (w32_cg (w32_xR _ _ _)) (w32_cg c3) h5 ?_
          refine xw_iconst rfl ?_
          refine xw_goto rfl ?_
          refine xw_istore (L' := [(4, xi 1), (0, xa 536), (1, xi x1), (3, xi x3), (5, xi x5)]) rfl (by decide) rfl ?_
          refine xw_iincc (z := (w32 (x5 + 1))) (L' := [(5, xi (w32 (x5 + 1))), (4, xi 1), (0, xa 536), (1, xi x1), (3, xi x3)]) rfl rfl (by decide) rfl rfl ?_
          refine xw_goto rfl ?_
          refine xw_lo (L2 := [(0, xa 536), (1, xi x1), (3, xi x3), (4, xi 1), (5, xi (w32 (x5 + 1)))]) (List.forall_mem_cons.mpr ⟨rfl, List.forall_mem_cons.mpr ⟨rfl, List.forall_mem_cons.mpr ⟨rfl, List.forall_mem_cons.mpr ⟨rfl, List.forall_mem_cons.mpr ⟨rfl, fun _ h => absurd h List.not_mem_nil⟩⟩⟩⟩⟩) ?_
          exact q
        exact hr50 _ _ _ _ _ c1 c3 rfl (w32_w _)
      · refine xS_of (pc' := 50) (L' := [(0, xa 536), (1, xi x1), (3, xi x3), (4, xi 0), (5, xi (w32 (x5 + 1)))]) (st' := []) (m' := m) (fun ex ns r q => ?_) ?_
        · refine xw_ic_neT rfl (w32_cg (w32_xR _ _ _)) (w32_cg c3) h5 ?_
          refine xw_iconst rfl ?_
          refine xw_istore (L' := [(4, xi 0), (0, xa 536), (1, xi x1), (3, xi x3), (5, xi x5)]) rfl (by decide) rfl ?_
          refine xw_iincc (z := (w32 (x5 + 1))) (L' := [(5, xi (w32 (x5 + 1))), (4, xi 0), (0, xa 536), (1, xi x1), (3, xi x3)]) rfl rfl (by decide) rfl rfl ?_
          refine xw_goto rfl ?_
          refine xw_lo (L2 := [(0, xa 536), (1, xi x1), (3, xi x3), (4, xi 0), (5, xi (w32 (x5 + 1)))]) (List.forall_mem_cons.mpr ⟨rfl, List.forall_mem_cons.mpr ⟨rfl, List.forall_mem_cons.mpr ⟨rfl, List.forall_mem_cons.mpr ⟨rfl, List.forall_mem_cons.mpr ⟨rfl, fun _ h => absurd h List.not_mem_nil⟩⟩⟩⟩⟩) ?_
          exact q
        exact hr50 _ _ _ _ _ c1 c3 rfl (w32_w _)
    · refine xS_of (pc' := 50) (L' := [(0, xa 536), (1, xi x1), (3, xi x3), (4, xi 1), (5, xi (w32 (x5 + 1)))]) (st' := []) (m' := m) (fun ex ns r q => ?_) ?_
      · refine xw_if_neT rfl (w32_cg c4) h2 ?_
        refine xw_iconst rfl ?_
        refine xw_goto rfl ?_
        refine xw_istore (L' := [(4, xi 1), (0, xa 536), (1, xi x1), (3, xi x3), (5, xi x5)]) rfl (by decide) rfl ?_
        refine xw_iincc (z := (w32 (x5 + 1))) (L' := [(5, xi (w32 (x5 + 1))), (4, xi 1), (0, xa 536), (1, xi x1), (3, xi x3)]) rfl rfl (by decide) rfl rfl ?_
        refine xw_goto rfl ?_
        refine xw_lo (L2 := [(0, xa 536), (1, xi x1), (3, xi x3), (4, xi 1), (5, xi (w32 (x5 + 1)))]) (List.forall_mem_cons.mpr ⟨rfl, List.forall_mem_cons.mpr ⟨rfl, List.forall_mem_cons.mpr ⟨rfl, List.forall_mem_cons.mpr ⟨rfl, List.forall_mem_cons.mpr ⟨rfl, fun _ h => absurd h List.not_mem_nil⟩⟩⟩⟩⟩) ?_
        exact q
      exact hr50 _ _ _ _ _ c1 c3 rfl (w32_w _)
  · refine xS_of (pc' := 97) (L' := [(0, xa 536), (1, xi x1), (3, xi x3), (4, xi x4), (5, xi x5)]) (st' := [xi x4, xa 536]) (m' := m) (fun ex ns r q => ?_) ?_
    · refine xw_ic_geT rfl (w32_cg c5) (w32_cg (w32_xR _ _ _)) (Int.not_lt.mp h1) ?_
      refine xw_aload_n rfl rfl rfl ?_
      refine xw_iload rfl rfl ?_
      exact q
    refine xS_if (fun h2 => ?_) (fun h2 => ?_)
    · refine xS_of (pc' := 108) (L' := [(0, xa 536), (3, xi x3)]) (st' := [xi x1, xi 10, xi 1, xa 536]) (m' := m) (fun ex ns r q => ?_) ?_
      · refine xw_if_neF rfl (w32_cg c4) h2 ?_
        refine xw_iconst rfl ?_
        refine xw_goto rfl ?_
        refine xw_bipush (e := 10) rfl (by decide +kernel) ?_
        refine xw_iload_n rfl rfl ?_
        refine xw_lo (L2 := [(0, xa 536), (3, xi x3)]) (List.forall_mem_cons.mpr ⟨rfl, List.forall_mem_cons.mpr ⟨rfl, fun _ h => absurd h List.not_mem_nil⟩⟩) ?_
        exact q
      refine xS_call (q := 254) (n := 4) (kq := 4) (as := [xa 536, xi 1, xi 10, xi x1]) (st1 := []) rfl rfl rfl rfl rfl rfl rfl rfl rfl rfl (fun _ => xw_rcv1 (t := 12) (xw_obd (by decide +kernel)) rfl) rfl (List.forall_mem_cons.mpr ⟨rfl, List.forall_mem_cons.mpr ⟨rfl, List.forall_mem_cons.mpr ⟨rfl, List.forall_mem_cons.mpr ⟨rfl, fun _ h => absurd h List.not_mem_nil⟩⟩⟩⟩) (ygf254 hB _ _ _ _ rfl rfl c1) (fun v1 m1 cv1 => ?_)
      refine xS_if (fun h3 => ?_) (fun h3 => ?_)
      · refine xS_of (pc' := 143) (L' := [(0, xa 536), (3, xi x3)]) (st' := []) (m' := m1) (fun ex ns r q => ?_) ?_
        · refine xw_if_eqT rfl (w32_cg (w32_of (xw_zr cv1))) h3 ?_
          exact q
        exact xS_ret (v := 0) rfl rfl rfl rfl
      · refine xS_g (fun g4 => ?_)
        refine xS_g (fun g5 => ?_)
        refine xS_g (fun g6 => ?_)
        refine xS_of (pc' := 143) (L' := [(0, xa 536), (3, xi x3)]) (st' := []) (m' := (xw_u (xw_u m1 (xw_rf (m1 536 23) 5) (xR m1 (m1 536 23) 4) x3) (m1 536 23) 4 ((xR m1 (m1 536 23) 4) + 1))) (fun ex ns r q => ?_) ?_
        · refine xw_if_eqF rfl (w32_cg (w32_of (xw_zr cv1))) h3 ?_
          refine xw_aload_n rfl rfl rfl ?_
          refine xw_gfM (v := (m1 536 23)) rfl (xw_obd (by decide +kernel)) xk12_23 (qi := 23) rfl rfl ?_
          refine xw_gfV (qi := 5) rfl (xw_obd g4) xk13_5 rfl ?_
          refine xw_aload_n rfl rfl rfl ?_
          refine xw_gfM (v := (m1 536 23)) rfl (xw_obd (by decide +kernel)) xk12_23 (qi := 23) rfl rfl ?_
          refine xw_gfIc (v := (m1 (m1 536 23) 4)) (v' := (xR m1 (m1 536 23) 4)) rfl (xw_obd g4) xk13_4 (qi := 4) rfl rfl rfl ?_
          refine xw_iload_n rfl rfl ?_
          refine xw_iast (n := (xw_le B (xw_rf (m1 536 23) 5))) rfl hB (xw_obd g6) rfl g5 ?_
          refine xw_aload_n rfl rfl rfl ?_
          refine xw_gfM (v := (m1 536 23)) rfl (xw_obd (by decide +kernel)) xk12_23 (qi := 23) rfl (xw_un (xw_obne (t := 16) (t' := 12) (xw_obd g6) (xw_obd (by decide +kernel)) (by decide)) rfl) ?_
          refine xw_dup rfl rfl ?_
          refine xw_gfIc (v := (m1 (m1 536 23) 4)) (v' := (xR m1 (m1 536 23) 4)) rfl (xw_obd g4) xk13_4 (qi := 4) rfl (xw_un (xw_obne (t := 16) (t' := 13) (xw_obd g6) (xw_obd g4) (by decide)) rfl) rfl ?_
          refine xw_iconst rfl ?_
          refine xw_iadd rfl ?_
          refine xw_pfI rfl (xw_obd g4) xk13_4 (qi := 4) rfl (xw_okI rfl) ?_
          exact q
        exact xS_ret (v := 0) rfl rfl rfl rfl
    · refine xS_of (pc' := 108) (L' := [(0, xa 536), (3, xi x3)]) (st' := [xi x1, xi 10, xi 0, xa 536]) (m' := m) (fun ex ns r q => ?_) ?_
      · refine xw_if_neT rfl (w32_cg c4) h2 ?_
        refine xw_iconst rfl ?_
        refine xw_bipush (e := 10) rfl (by decide +kernel) ?_
        refine xw_iload_n rfl rfl ?_
        refine xw_lo (L2 := [(0, xa 536), (3, xi x3)]) (List.forall_mem_cons.mpr ⟨rfl, List.forall_mem_cons.mpr ⟨rfl, fun _ h => absurd h List.not_mem_nil⟩⟩) ?_
        exact q
      refine xS_call (q := 254) (n := 4) (kq := 4) (as := [xa 536, xi 0, xi 10, xi x1]) (st1 := []) rfl rfl rfl rfl rfl rfl rfl rfl rfl rfl (fun _ => xw_rcv1 (t := 12) (xw_obd (by decide +kernel)) rfl) rfl (List.forall_mem_cons.mpr ⟨rfl, List.forall_mem_cons.mpr ⟨rfl, List.forall_mem_cons.mpr ⟨rfl, List.forall_mem_cons.mpr ⟨rfl, fun _ h => absurd h List.not_mem_nil⟩⟩⟩⟩) (ygf254 hB _ _ _ _ rfl rfl c1) (fun v2 m2 cv2 => ?_)
      refine xS_if (fun h3 => ?_) (fun h3 => ?_)
      · refine xS_of (pc' := 143) (L' := [(0, xa 536), (3, xi x3)]) (st' := []) (m' := m2) (fun ex ns r q => ?_) ?_
        · refine xw_if_eqT rfl (w32_cg (w32_of (xw_zr cv2))) h3 ?_
          exact q
        exact xS_ret (v := 0) rfl rfl rfl rfl
      · refine xS_g (fun g4 => ?_)
        refine xS_g (fun g5 => ?_)
        refine xS_g (fun g6 => ?_)
        refine xS_of (pc' := 143) (L' := [(0, xa 536), (3, xi x3)]) (st' := []) (m' := (xw_u (xw_u m2 (xw_rf (m2 536 23) 5) (xR m2 (m2 536 23) 4) x3) (m2 536 23) 4 ((xR m2 (m2 536 23) 4) + 1))) (fun ex ns r q => ?_) ?_
        · refine xw_if_eqF rfl (w32_cg (w32_of (xw_zr cv2))) h3 ?_
          refine xw_aload_n rfl rfl rfl ?_
          refine xw_gfM (v := (m2 536 23)) rfl (xw_obd (by decide +kernel)) xk12_23 (qi := 23) rfl rfl ?_
          refine xw_gfV (qi := 5) rfl (xw_obd g4) xk13_5 rfl ?_
          refine xw_aload_n rfl rfl rfl ?_
          refine xw_gfM (v := (m2 536 23)) rfl (xw_obd (by decide +kernel)) xk12_23 (qi := 23) rfl rfl ?_
          refine xw_gfIc (v := (m2 (m2 536 23) 4)) (v' := (xR m2 (m2 536 23) 4)) rfl (xw_obd g4) xk13_4 (qi := 4) rfl rfl rfl ?_
          refine xw_iload_n rfl rfl ?_
          refine xw_iast (n := (xw_le B (xw_rf (m2 536 23) 5))) rfl hB (xw_obd g6) rfl g5 ?_
          refine xw_aload_n rfl rfl rfl ?_
          refine xw_gfM (v := (m2 536 23)) rfl (xw_obd (by decide +kernel)) xk12_23 (qi := 23) rfl (xw_un (xw_obne (t := 16) (t' := 12) (xw_obd g6) (xw_obd (by decide +kernel)) (by decide)) rfl) ?_
          refine xw_dup rfl rfl ?_
          refine xw_gfIc (v := (m2 (m2 536 23) 4)) (v' := (xR m2 (m2 536 23) 4)) rfl (xw_obd g4) xk13_4 (qi := 4) rfl (xw_un (xw_obne (t := 16) (t' := 13) (xw_obd g6) (xw_obd g4) (by decide)) rfl) rfl ?_
          refine xw_iconst rfl ?_
          refine xw_iadd rfl ?_
          refine xw_pfI rfl (xw_obd g4) xk13_4 (qi := 4) rfl (xw_okI rfl) ?_
          exact q
        exact xS_ret (v := 0) rfl rfl rfl rfl
theorem ygl283_50 {B : Nat} (hB : B ≤ 512) {xs : Nat → Int32} {SL d : Nat} : ∀ n x1 x3 x4 x5 m, w32 x1 = x1 → w32 x3 = x3 → w32 x4 = x4 → w32 x5 = x5 → xS B xs SL (d + 5) 283 (6, none, [], 13) 0 50 [(0, xa 536), (1, xi x1), (3, xi x3), (4, xi x4), (5, xi x5)] [] m (xl4 (yl283_50 B) n x1 x3 x4 x5 m) := by
  intro n
  induction n with
  | zero => intro x1 x3 x4 x5 m c1 c3 c4 c5; exact xS_none
  | succ n ih => exact ysl283_50 hB ih
theorem ygf283 {B : Nat} (hB : B ≤ 512) {xs : Nat → Int32} {SL d : Nat} : ∀ m, xS B xs SL (d + 5) 283 (6, none, [], 13) 0 0 [(0, xa 536)] [] m (yf283 B m) := by
  intro m
  unfold yf283
  refine xS_of (pc' := 6) (L' := [(0, xa 536), (1, xi (xR m 536 9))]) (st' := [xa 536]) (m' := m) (fun ex ns r q => ?_) ?_
  · refine xw_aload_n rfl rfl rfl ?_
    refine xw_gfIc (v := (m 536 9)) (v' := (xR m 536 9)) rfl (xw_obd (by decide +kernel)) xk12_9 (qi := 9) rfl rfl rfl ?_
    refine xw_istore_n (L' := [(1, xi (xR m 536 9)), (0, xa 536)]) rfl (by decide) rfl ?_
    refine xw_aload_n rfl rfl rfl ?_
    refine xw_lo (L2 := [(0, xa 536), (1, xi (xR m 536 9))]) (List.forall_mem_cons.mpr ⟨rfl, List.forall_mem_cons.mpr ⟨rfl, fun _ h => absurd h List.not_mem_nil⟩⟩) ?_
    exact q
  refine xS_call (q := 272) (n := 1) (kq := 1) (as := [xa 536]) (st1 := []) rfl rfl rfl rfl rfl rfl rfl rfl rfl rfl (fun _ => xw_rcv1 (t := 12) (xw_obd (by decide +kernel)) rfl) rfl (List.forall_mem_cons.mpr ⟨rfl, fun _ h => absurd h List.not_mem_nil⟩) (ygf272 hB _) (fun v1 m1 cv1 => ?_)
  refine xS_g (fun g0 => ?_)
  refine xS_of (pc' := 20) (L' := [(2, xi v1), (0, xa 536), (1, xi (xR m 536 9))]) (st' := [xi 8, xi (xR m1 (m1 536 23) 4), xa 536]) (m' := m1) (fun ex ns r q => ?_) ?_
  · refine xw_istore_n (L' := [(2, xi v1), (0, xa 536), (1, xi (xR m 536 9))]) rfl (by decide) rfl ?_
    refine xw_aload_n rfl rfl rfl ?_
    refine xw_aload_n rfl rfl rfl ?_
    refine xw_gfM (v := (m1 536 23)) rfl (xw_obd (by decide +kernel)) xk12_23 (qi := 23) rfl rfl ?_
    refine xw_gfIc (v := (m1 (m1 536 23) 4)) (v' := (xR m1 (m1 536 23) 4)) rfl (xw_obd g0) xk13_4 (qi := 4) rfl rfl rfl ?_
    refine xw_bipush (e := 8) rfl (by decide +kernel) ?_
    exact q
  refine xS_if (fun h1 => ?_) (fun h1 => ?_)
  · refine xS_of (pc' := 31) (L' := [(0, xa 536), (1, xi (xR m 536 9)), (2, xi v1)]) (st' := [xi (xR m 536 9), xi 7, xi 1, xa 536]) (m' := m1) (fun ex ns r q => ?_) ?_
    · refine xw_ic_geF rfl (w32_cg (w32_xR _ _ _)) (w32_cg rfl) (Int.not_le.mpr h1) ?_
      refine xw_iconst rfl ?_
      refine xw_goto rfl ?_
      refine xw_bipush (e := 7) rfl (by decide +kernel) ?_
      refine xw_iload_n rfl rfl ?_
      refine xw_lo (L2 := [(0, xa 536), (1, xi (xR m 536 9)), (2, xi v1)]) (List.forall_mem_cons.mpr ⟨rfl, List.forall_mem_cons.mpr ⟨rfl, List.forall_mem_cons.mpr ⟨rfl, fun _ h => absurd h List.not_mem_nil⟩⟩⟩) ?_
      exact q
    refine xS_call (q := 254) (n := 4) (kq := 4) (as := [xa 536, xi 1, xi 7, xi (xR m 536 9)]) (st1 := []) rfl rfl rfl rfl rfl rfl rfl rfl rfl rfl (fun _ => xw_rcv1 (t := 12) (xw_obd (by decide +kernel)) rfl) rfl (List.forall_mem_cons.mpr ⟨rfl, List.forall_mem_cons.mpr ⟨rfl, List.forall_mem_cons.mpr ⟨rfl, List.forall_mem_cons.mpr ⟨rfl, fun _ h => absurd h List.not_mem_nil⟩⟩⟩⟩) (ygf254 hB _ _ _ _ rfl rfl (w32_xR _ _ _)) (fun v2 m2 cv2 => ?_)
    refine xS_if (fun h2 => ?_) (fun h2 => ?_)
    · refine xS_of (pc' := 37) (L' := [(0, xa 536), (1, xi (xR m 536 9)), (2, xi v1)]) (st' := []) (m' := m2) (fun ex ns r q => ?_) ?_
      · refine xw_if_neF rfl (w32_cg (w32_of (xw_zr cv2))) h2 ?_
        exact q
      exact xS_ret (v := 0) rfl rfl rfl rfl
    · refine xS_of (pc' := 40) (L' := [(0, xa 536), (1, xi (xR m 536 9))]) (st' := [xi v1, xa 536]) (m' := m2) (fun ex ns r q => ?_) ?_
      · refine xw_if_neT rfl (w32_cg (w32_of (xw_zr cv2))) h2 ?_
        refine xw_aload_n rfl rfl rfl ?_
        refine xw_iload_n rfl rfl ?_
        refine xw_lo (L2 := [(0, xa 536), (1, xi (xR m 536 9))]) (List.forall_mem_cons.mpr ⟨rfl, List.forall_mem_cons.mpr ⟨rfl, fun _ h => absurd h List.not_mem_nil⟩⟩) ?_
        exact q
      refine xS_call (q := 273) (n := 2) (kq := 1) (as := [xa 536, xi v1]) (st1 := []) rfl rfl rfl rfl rfl rfl rfl rfl rfl rfl (fun _ => xw_rcv1 (t := 12) (xw_obd (by decide +kernel)) rfl) rfl (List.forall_mem_cons.mpr ⟨rfl, List.forall_mem_cons.mpr ⟨rfl, fun _ h => absurd h List.not_mem_nil⟩⟩) (ygf273 hB _ _ cv1) (fun v3 m3 cv3 => ?_)
      refine xS_of (pc' := 50) (L' := [(0, xa 536), (1, xi (xR m 536 9)), (3, xi v3), (4, xi 0), (5, xi 0)]) (st' := []) (m' := m3) (fun ex ns r q => ?_) ?_
      · refine xw_istore_n (L' := [(3, xi v3), (0, xa 536), (1, xi (xR m 536 9))]) rfl (by decide) rfl ?_
        refine xw_iconst rfl ?_
        refine xw_istore (L' := [(4, xi 0), (3, xi v3), (0, xa 536), (1, xi (xR m 536 9))]) rfl (by decide) rfl ?_
        refine xw_iconst rfl ?_
        refine xw_istore (L' := [(5, xi 0), (4, xi 0), (3, xi v3), (0, xa 536), (1, xi (xR m 536 9))]) rfl (by decide) rfl ?_
        refine xw_lo (L2 := [(0, xa 536), (1, xi (xR m 536 9)), (3, xi v3), (4, xi 0), (5, xi 0)]) (List.forall_mem_cons.mpr ⟨rfl, List.forall_mem_cons.mpr ⟨rfl, List.forall_mem_cons.mpr ⟨rfl, List.forall_mem_cons.mpr ⟨rfl, List.forall_mem_cons.mpr ⟨rfl, fun _ h => absurd h List.not_mem_nil⟩⟩⟩⟩⟩) ?_
        exact q
      exact ygl283_50 hB 1000000 _ _ _ _ _ (w32_xR _ _ _) cv3 rfl rfl
  · refine xS_of (pc' := 31) (L' := [(0, xa 536), (1, xi (xR m 536 9)), (2, xi v1)]) (st' := [xi (xR m 536 9), xi 7, xi 0, xa 536]) (m' := m1) (fun ex ns r q => ?_) ?_
    · refine xw_ic_geT rfl (w32_cg (w32_xR _ _ _)) (w32_cg rfl) (Int.not_lt.mp h1) ?_
      refine xw_iconst rfl ?_
      refine xw_bipush (e := 7) rfl (by decide +kernel) ?_
      refine xw_iload_n rfl rfl ?_
      refine xw_lo (L2 := [(0, xa 536), (1, xi (xR m 536 9)), (2, xi v1)]) (List.forall_mem_cons.mpr ⟨rfl, List.forall_mem_cons.mpr ⟨rfl, List.forall_mem_cons.mpr ⟨rfl, fun _ h => absurd h List.not_mem_nil⟩⟩⟩) ?_
      exact q
    refine xS_call (q := 254) (n := 4) (kq := 4) (as := [xa 536, xi 0, xi 7, xi (xR m 536 9)]) (st1 := []) rfl rfl rfl rfl rfl rfl rfl rfl rfl rfl (fun _ => xw_rcv1 (t := 12) (xw_obd (by decide +kernel)) rfl) rfl (List.forall_mem_cons.mpr ⟨rfl, List.forall_mem_cons.mpr ⟨rfl, List.forall_mem_cons.mpr ⟨rfl, List.forall_mem_cons.mpr ⟨rfl, fun _ h => absurd h List.not_mem_nil⟩⟩⟩⟩) (ygf254 hB _ _ _ _ rfl rfl (w32_xR _ _ _)) (fun v4 m4 cv4 => ?_)
    refine xS_if (fun h2 => ?_) (fun h2 => ?_)
    · refine xS_of (pc' := 37) (L' := [(0, xa 536), (1, xi (xR m 536 9)), (2, xi v1)]) (st' := []) (m' := m4) (fun ex ns r q => ?_) ?_
      · refine xw_if_neF rfl (w32_cg (w32_of (xw_zr cv4))) h2 ?_
        exact q
      exact xS_ret (v := 0) rfl rfl rfl rfl
    · refine xS_of (pc' := 40) (L' := [(0, xa 536), (1, xi (xR m 536 9))]) (st' := [xi v1, xa 536]) (m' := m4) (fun ex ns r q => ?_) ?_
      · refine xw_if_neT rfl (w32_cg (w32_of (xw_zr cv4))) h2 ?_
        refine xw_aload_n rfl rfl rfl ?_
        refine xw_iload_n rfl rfl ?_
        refine xw_lo (L2 := [(0, xa 536), (1, xi (xR m 536 9))]) (List.forall_mem_cons.mpr ⟨rfl, List.forall_mem_cons.mpr ⟨rfl, fun _ h => absurd h List.not_mem_nil⟩⟩) ?_
        exact q
      refine xS_call (q := 273) (n := 2) (kq := 1) (as := [xa 536, xi v1]) (st1 := []) rfl rfl rfl rfl rfl rfl rfl rfl rfl rfl (fun _ => xw_rcv1 (t := 12) (xw_obd (by decide +kernel)) rfl) rfl (List.forall_mem_cons.mpr ⟨rfl, List.forall_mem_cons.mpr ⟨rfl, fun _ h => absurd h List.not_mem_nil⟩⟩) (ygf273 hB _ _ cv1) (fun v5 m5 cv5 => ?_)
      refine xS_of (pc' := 50) (L' := [(0, xa 536), (1, xi (xR m 536 9)), (3, xi v5), (4, xi 0), (5, xi 0)]) (st' := []) (m' := m5) (fun ex ns r q => ?_) ?_
      · refine xw_istore_n (L' := [(3, xi v5), (0, xa 536), (1, xi (xR m 536 9))]) rfl (by decide) rfl ?_
        refine xw_iconst rfl ?_
        refine xw_istore (L' := [(4, xi 0), (3, xi v5), (0, xa 536), (1, xi (xR m 536 9))]) rfl (by decide) rfl ?_
        refine xw_iconst rfl ?_
        refine xw_istore (L' := [(5, xi 0), (4, xi 0), (3, xi v5), (0, xa 536), (1, xi (xR m 536 9))]) rfl (by decide) rfl ?_
        refine xw_lo (L2 := [(0, xa 536), (1, xi (xR m 536 9)), (3, xi v5), (4, xi 0), (5, xi 0)]) (List.forall_mem_cons.mpr ⟨rfl, List.forall_mem_cons.mpr ⟨rfl, List.forall_mem_cons.mpr ⟨rfl, List.forall_mem_cons.mpr ⟨rfl, List.forall_mem_cons.mpr ⟨rfl, fun _ h => absurd h List.not_mem_nil⟩⟩⟩⟩⟩) ?_
        exact q
      exact ygl283_50 hB 1000000 _ _ _ _ _ (w32_xR _ _ _) cv5 rfl rfl
theorem ygk282_118 {B : Nat} (hB : B ≤ 512) {xs : Nat → Int32} {SL d : Nat} : ∀ x1 x2 m, w32 x1 = x1 → w32 x2 = x2 → xS B xs SL (d + 6) 282 (4, (some .int), [], 13) 1 118 [(0, xa 536), (1, xi x1), (2, xi x2)] [] m (yk282_118 B x1 x2 m) := by
  intro x1 x2 m c1 c2
  unfold yk282_118
  refine xS_of (pc' := 122) (L' := [(0, xa 536), (1, xi x1), (2, xi x2)]) (st' := [xi (xR m 536 6)]) (m' := m) (fun ex ns r q => ?_) ?_
  · refine xw_aload_n rfl rfl rfl ?_
    refine xw_gfIc (v := (m 536 6)) (v' := (xR m 536 6)) rfl (xw_obd (by decide +kernel)) xk12_6 (qi := 6) rfl rfl rfl ?_
    exact q
  refine xS_if (fun h0 => ?_) (fun h0 => ?_)
  · refine xS_of (pc' := 126) (L' := [(0, xa 536), (1, xi x1), (2, xi x2)]) (st' := [xi 1]) (m' := m) (fun ex ns r q => ?_) ?_
    · refine xw_if_leF rfl (w32_cg (w32_xR _ _ _)) (Int.not_le.mpr h0) ?_
      refine xw_iconst rfl ?_
      exact q
    exact xS_ret (v := 1) rfl rfl xw_rtI rfl
  · refine xS_g (fun g1 => ?_)
    refine xS_g (fun g2 => ?_)
    refine xS_g (fun g3 => ?_)
    refine xS_g (fun g4 => ?_)
    refine xS_g (fun g5 => ?_)
    refine xS_of (pc' := 183) (L' := [(3, xi (w32 ((xR m (m 536 23) 4) - x1))), (0, xa 536), (1, xi x1), (2, xi x2)]) (st' := [xi x2]) (m' := (xw_u (xw_u (xw_u m (xw_rf (m 536 23) 7) (xR m (m 536 23) 6) x2) (xw_rf (m 536 23) 8) (xR m (m 536 23) 6) (w32 ((xR m (m 536 23) 4) - x1))) (m 536 23) 6 ((xR m (m 536 23) 6) + 1))) (fun ex ns r q => ?_) ?_
    · refine xw_if_leT rfl (w32_cg (w32_xR _ _ _)) (Int.not_lt.mp h0) ?_
      refine xw_aload_n rfl rfl rfl ?_
      refine xw_gfM (v := (m 536 23)) rfl (xw_obd (by decide +kernel)) xk12_23 (qi := 23) rfl rfl ?_
      refine xw_gfIc (v := (m (m 536 23) 4)) (v' := (xR m (m 536 23) 4)) rfl (xw_obd g1) xk13_4 (qi := 4) rfl rfl rfl ?_
      refine xw_iload_n rfl rfl ?_
      refine xw_isub rfl ?_
      refine xw_cst (st' := [xi (w32 ((xR m (m 536 23) 4) - x1))]) (xw_sc (xi_c rfl) rfl) ?_
      refine xw_istore_n (L' := [(3, xi (w32 ((xR m (m 536 23) 4) - x1))), (0, xa 536), (1, xi x1), (2, xi x2)]) rfl (by decide) rfl ?_
      refine xw_aload_n rfl rfl rfl ?_
      refine xw_gfM (v := (m 536 23)) rfl (xw_obd (by decide +kernel)) xk12_23 (qi := 23) rfl rfl ?_
      refine xw_gfV (qi := 7) rfl (xw_obd g1) xk13_7 rfl ?_
      refine xw_aload_n rfl rfl rfl ?_
      refine xw_gfM (v := (m 536 23)) rfl (xw_obd (by decide +kernel)) xk12_23 (qi := 23) rfl rfl ?_
      refine xw_gfIc (v := (m (m 536 23) 6)) (v' := (xR m (m 536 23) 6)) rfl (xw_obd g1) xk13_6 (qi := 6) rfl rfl rfl ?_
      refine xw_iload_n rfl rfl ?_
      refine xw_iast (n := (xw_le B (xw_rf (m 536 23) 7))) rfl hB (xw_obd g3) rfl g2 ?_
      refine xw_aload_n rfl rfl rfl ?_
      refine xw_gfM (v := (m 536 23)) rfl (xw_obd (by decide +kernel)) xk12_23 (qi := 23) rfl (xw_un (xw_obne (t := 16) (t' := 12) (xw_obd g3) (xw_obd (by decide +kernel)) (by decide)) rfl) ?_
      refine xw_gfV (qi := 8) rfl (xw_obd g1) xk13_8 rfl ?_
      refine xw_aload_n rfl rfl rfl ?_
      refine xw_gfM (v := (m 536 23)) rfl (xw_obd (by decide +kernel)) xk12_23 (qi := 23) rfl (xw_un (xw_obne (t := 16) (t' := 12) (xw_obd g3) (xw_obd (by decide +kernel)) (by decide)) rfl) ?_
      refine xw_gfIc (v := (m (m 536 23) 6)) (v' := (xR m (m 536 23) 6)) rfl (xw_obd g1) xk13_6 (qi := 6) rfl (xw_un (xw_obne (t := 16) (t' := 13) (xw_obd g3) (xw_obd g1) (by decide)) rfl) rfl ?_
      refine xw_iload_n rfl rfl ?_
      refine xw_iast (n := (xw_le B (xw_rf (m 536 23) 8))) rfl hB (xw_obd g5) rfl g4 ?_
      refine xw_aload_n rfl rfl rfl ?_
      refine xw_gfM (v := (m 536 23)) rfl (xw_obd (by decide +kernel)) xk12_23 (qi := 23) rfl (xw_un (xw_obne (t := 16) (t' := 12) (xw_obd g5) (xw_obd (by decide +kernel)) (by decide)) (xw_un (xw_obne (t := 16) (t' := 12) (xw_obd g3) (xw_obd (by decide +kernel)) (by decide)) rfl)) ?_
      refine xw_dup rfl rfl ?_
      refine xw_gfIc (v := (m (m 536 23) 6)) (v' := (xR m (m 536 23) 6)) rfl (xw_obd g1) xk13_6 (qi := 6) rfl (xw_un (xw_obne (t := 16) (t' := 13) (xw_obd g5) (xw_obd g1) (by decide)) (xw_un (xw_obne (t := 16) (t' := 13) (xw_obd g3) (xw_obd g1) (by decide)) rfl)) rfl ?_
      refine xw_iconst rfl ?_
      refine xw_iadd rfl ?_
      refine xw_pfI rfl (xw_obd g1) xk13_6 (qi := 6) rfl (xw_okI rfl) ?_
      refine xw_iload_n rfl rfl ?_
      exact q
    refine xS_if (fun h6 => ?_) (fun h6 => ?_)
    · refine xS_of (pc' := 204) (L' := [(3, xi (w32 ((xR m (m 536 23) 4) - x1))), (0, xa 536), (1, xi x1), (2, xi x2)]) (st' := [xi 1]) (m' := (xw_u (xw_u (xw_u m (xw_rf (m 536 23) 7) (xR m (m 536 23) 6) x2) (xw_rf (m 536 23) 8) (xR m (m 536 23) 6) (w32 ((xR m (m 536 23) 4) - x1))) (m 536 23) 6 ((xR m (m 536 23) 6) + 1))) (fun ex ns r q => ?_) ?_
      · refine xw_if_neF rfl (w32_cg c2) h6 ?_
        refine xw_iconst rfl ?_
        refine xw_goto rfl ?_
        exact q
      exact xS_ret (v := 1) rfl rfl xw_rtI rfl
    · refine xS_of (pc' := 192) (L' := [(3, xi (w32 ((xR m (m 536 23) 4) - x1))), (0, xa 536), (1, xi x1), (2, xi x2)]) (st' := [xi 1, xi x2]) (m' := (xw_u (xw_u (xw_u m (xw_rf (m 536 23) 7) (xR m (m 536 23) 6) x2) (xw_rf (m 536 23) 8) (xR m (m 536 23) 6) (w32 ((xR m (m 536 23) 4) - x1))) (m 536 23) 6 ((xR m (m 536 23) 6) + 1))) (fun ex ns r q => ?_) ?_
      · refine xw_if_neT rfl (w32_cg c2) h6 ?_
        refine xw_iload_n rfl rfl ?_
        refine xw_iconst rfl ?_
        exact q
      refine xS_if (fun h7 => ?_) (fun h7 => ?_)
      · refine xS_of (pc' := 204) (L' := [(3, xi (w32 ((xR m (m 536 23) 4) - x1))), (0, xa 536), (1, xi x1), (2, xi x2)]) (st' := [xi (w32 ((w32 ((xR m (m 536 23) 4) - x1)) + 1))]) (m' := (xw_u (xw_u (xw_u m (xw_rf (m 536 23) 7) (xR m (m 536 23) 6) x2) (xw_rf (m 536 23) 8) (xR m (m 536 23) 6) (w32 ((xR m (m 536 23) 4) - x1))) (m 536 23) 6 ((xR m (m 536 23) 6) + 1))) (fun ex ns r q => ?_) ?_
        · refine xw_ic_neF rfl (w32_cg c2) (w32_cg rfl) h7 ?_
          refine xw_iload_n rfl rfl ?_
          refine xw_iconst rfl ?_
          refine xw_iadd rfl ?_
          refine xw_goto rfl ?_
          refine xw_cst (st' := [xi (w32 ((w32 ((xR m (m 536 23) 4) - x1)) + 1))]) (xw_sc (xi_c rfl) rfl) ?_
          exact q
        exact xS_ret (v := (w32 ((w32 ((xR m (m 536 23) 4) - x1)) + 1))) rfl rfl xw_rtI (w32_w _)
      · refine xS_of (pc' := 204) (L' := [(3, xi (w32 ((xR m (m 536 23) 4) - x1))), (0, xa 536), (1, xi x1), (2, xi x2)]) (st' := [xi (xw_ishlf 1 (w32 ((xR m (m 536 23) 4) - x1)))]) (m' := (xw_u (xw_u (xw_u m (xw_rf (m 536 23) 7) (xR m (m 536 23) 6) x2) (xw_rf (m 536 23) 8) (xR m (m 536 23) 6) (w32 ((xR m (m 536 23) 4) - x1))) (m 536 23) 6 ((xR m (m 536 23) 6) + 1))) (fun ex ns r q => ?_) ?_
        · refine xw_ic_neT rfl (w32_cg c2) (w32_cg rfl) h7 ?_
          refine xw_iconst rfl ?_
          refine xw_iload_n rfl rfl ?_
          refine xw_ishl (z := (xw_ishlf 1 (w32 ((xR m (m 536 23) 4) - x1)))) rfl (xw_ishle _ _) ?_
          exact q
        exact xS_ret (v := (xw_ishlf 1 (w32 ((xR m (m 536 23) 4) - x1)))) rfl rfl xw_rtI (w32_ti _)
theorem ysl282_54 {B : Nat} (hB : B ≤ 512) {xs : Nat → Int32} {SL d : Nat} {r54 : Int → Int → Int → xw_M → xP} (hr54 : ∀ x1 x2 x3 m, w32 x1 = x1 → w32 x2 = x2 → w32 x3 = x3 → xS B xs SL (d + 6) 282 (4, (some .int), [], 13) 1 54 [(0, xa 536), (1, xi x1), (2, xi x2), (3, xi x3)] [] m (r54 x1 x2 x3 m)) : ∀ x1 x2 x3 m, w32 x1 = x1 → w32 x2 = x2 → w32 x3 = x3 → xS B xs SL (d + 6) 282 (4, (some .int), [], 13) 1 54 [(0, xa 536), (1, xi x1), (2, xi x2), (3, xi x3)] [] m (yl282_54 B r54 x1 x2 x3 m) := by
  intro x1 x2 x3 m c1 c2 c3
  unfold yl282_54
  refine xS_of (pc' := 55) (L' := [(0, xa 536), (1, xi x1), (2, xi x2), (3, xi x3)]) (st' := [xi x3]) (m' := m) (fun ex ns r q => ?_) ?_
  · refine xw_iload_n rfl rfl ?_
    exact q
  refine xS_if (fun h0 => ?_) (fun h0 => ?_)
  · refine xS_of (pc' := 118) (L' := [(0, xa 536), (1, xi x1), (2, xi x2)]) (st' := []) (m' := m) (fun ex ns r q => ?_) ?_
    · refine xw_if_eqT rfl (w32_cg c3) h0 ?_
      refine xw_lo (L2 := [(0, xa 536), (1, xi x1), (2, xi x2)]) (List.forall_mem_cons.mpr ⟨rfl, List.forall_mem_cons.mpr ⟨rfl, List.forall_mem_cons.mpr ⟨rfl, fun _ h => absurd h List.not_mem_nil⟩⟩⟩) ?_
      exact q
    exact ygk282_118 hB _ _ _ c1 c2
  · refine xS_of (pc' := 59) (L' := [(0, xa 536), (1, xi x1), (2, xi x2)]) (st' := [xa 536]) (m' := m) (fun ex ns r q => ?_) ?_
    · refine xw_if_eqF rfl (w32_cg c3) h0 ?_
      refine xw_aload_n rfl rfl rfl ?_
      refine xw_lo (L2 := [(0, xa 536), (1, xi x1), (2, xi x2)]) (List.forall_mem_cons.mpr ⟨rfl, List.forall_mem_cons.mpr ⟨rfl, List.forall_mem_cons.mpr ⟨rfl, fun _ h => absurd h List.not_mem_nil⟩⟩⟩) ?_
      exact q
    refine xS_call (q := 248) (n := 1) (kq := 0) (as := [xa 536]) (st1 := []) rfl rfl rfl rfl rfl rfl rfl rfl rfl rfl (fun _ => xw_rcv1 (t := 12) (xw_obd (by decide +kernel)) rfl) rfl (List.forall_mem_cons.mpr ⟨rfl, fun _ h => absurd h List.not_mem_nil⟩) (ygf248 hB _) (fun v1 m1 cv1 => ?_)
    refine xS_of (pc' := 63) (L' := [(0, xa 536), (1, xi x1), (2, xi x2)]) (st' := [xa 536]) (m' := m1) (fun ex ns r q => ?_) ?_
    · refine xw_aload_n rfl rfl rfl ?_
      refine xw_lo (L2 := [(0, xa 536), (1, xi x1), (2, xi x2)]) (List.forall_mem_cons.mpr ⟨rfl, List.forall_mem_cons.mpr ⟨rfl, List.forall_mem_cons.mpr ⟨rfl, fun _ h => absurd h List.not_mem_nil⟩⟩⟩) ?_
      exact q
    refine xS_call (q := 283) (n := 1) (kq := 0) (as := [xa 536]) (st1 := []) rfl rfl rfl rfl rfl rfl rfl rfl rfl rfl (fun _ => xw_rcv1 (t := 12) (xw_obd (by decide +kernel)) rfl) rfl (List.forall_mem_cons.mpr ⟨rfl, fun _ h => absurd h List.not_mem_nil⟩) (ygf283 hB _) (fun v2 m2 cv2 => ?_)
    refine xS_of (pc' := 67) (L' := [(0, xa 536), (1, xi x1), (2, xi x2)]) (st' := [xa 536]) (m' := m2) (fun ex ns r q => ?_) ?_
    · refine xw_aload_n rfl rfl rfl ?_
      refine xw_lo (L2 := [(0, xa 536), (1, xi x1), (2, xi x2)]) (List.forall_mem_cons.mpr ⟨rfl, List.forall_mem_cons.mpr ⟨rfl, List.forall_mem_cons.mpr ⟨rfl, fun _ h => absurd h List.not_mem_nil⟩⟩⟩) ?_
      exact q
    refine xS_call (q := 248) (n := 1) (kq := 0) (as := [xa 536]) (st1 := []) rfl rfl rfl rfl rfl rfl rfl rfl rfl rfl (fun _ => xw_rcv1 (t := 12) (xw_obd (by decide +kernel)) rfl) rfl (List.forall_mem_cons.mpr ⟨rfl, fun _ h => absurd h List.not_mem_nil⟩) (ygf248 hB _) (fun v3 m3 cv3 => ?_)
    refine xS_of (pc' := 74) (L' := [(0, xa 536), (1, xi x1), (2, xi x2)]) (st' := [xi 44, xa 536, xa 536]) (m' := m3) (fun ex ns r q => ?_) ?_
    · refine xw_aload_n rfl rfl rfl ?_
      refine xw_aload_n rfl rfl rfl ?_
      refine xw_bipush (e := 44) rfl (by decide +kernel) ?_
      refine xw_lo (L2 := [(0, xa 536), (1, xi x1), (2, xi x2)]) (List.forall_mem_cons.mpr ⟨rfl, List.forall_mem_cons.mpr ⟨rfl, List.forall_mem_cons.mpr ⟨rfl, fun _ h => absurd h List.not_mem_nil⟩⟩⟩) ?_
      exact q
    refine xS_call (q := 266) (n := 2) (kq := 4) (as := [xa 536, xi 44]) (st1 := [xa 536]) rfl rfl rfl rfl rfl rfl rfl rfl rfl rfl (fun _ => xw_rcv1 (t := 12) (xw_obd (by decide +kernel)) rfl) rfl (List.forall_mem_cons.mpr ⟨rfl, List.forall_mem_cons.mpr ⟨rfl, fun _ h => absurd h List.not_mem_nil⟩⟩) (ygf266 hB _ _ rfl) (fun v4 m4 cv4 => ?_)
    refine xS_if (fun h1 => ?_) (fun h1 => ?_)
    · refine xS_of (pc' := 83) (L' := [(0, xa 536), (1, xi x1), (2, xi x2)]) (st' := [xi 41, xa 536, xa 536]) (m' := m4) (fun ex ns r q => ?_) ?_
      · refine xw_if_neF rfl (w32_cg (w32_of (xw_zr cv4))) h1 ?_
        refine xw_aload_n rfl rfl rfl ?_
        refine xw_bipush (e := 41) rfl (by decide +kernel) ?_
        refine xw_lo (L2 := [(0, xa 536), (1, xi x1), (2, xi x2)]) (List.forall_mem_cons.mpr ⟨rfl, List.forall_mem_cons.mpr ⟨rfl, List.forall_mem_cons.mpr ⟨rfl, fun _ h => absurd h List.not_mem_nil⟩⟩⟩) ?_
        exact q
      refine xS_call (q := 266) (n := 2) (kq := 4) (as := [xa 536, xi 41]) (st1 := [xa 536]) rfl rfl rfl rfl rfl rfl rfl rfl rfl rfl (fun _ => xw_rcv1 (t := 12) (xw_obd (by decide +kernel)) rfl) rfl (List.forall_mem_cons.mpr ⟨rfl, List.forall_mem_cons.mpr ⟨rfl, fun _ h => absurd h List.not_mem_nil⟩⟩) (ygf266 hB _ _ rfl) (fun v5 m5 cv5 => ?_)
      refine xS_if (fun h2 => ?_) (fun h2 => ?_)
      · refine xS_of (pc' := 94) (L' := [(0, xa 536), (1, xi x1), (2, xi x2)]) (st' := [xi 0, xa 536]) (m' := m5) (fun ex ns r q => ?_) ?_
        · refine xw_if_eqT rfl (w32_cg (w32_of (xw_zr cv5))) h2 ?_
          refine xw_iconst rfl ?_
          refine xw_lo (L2 := [(0, xa 536), (1, xi x1), (2, xi x2)]) (List.forall_mem_cons.mpr ⟨rfl, List.forall_mem_cons.mpr ⟨rfl, List.forall_mem_cons.mpr ⟨rfl, fun _ h => absurd h List.not_mem_nil⟩⟩⟩) ?_
          exact q
        refine xS_call (q := 258) (n := 2) (kq := 4) (as := [xa 536, xi 0]) (st1 := []) rfl rfl rfl rfl rfl rfl rfl rfl rfl rfl (fun _ => xw_rcv1 (t := 12) (xw_obd (by decide +kernel)) rfl) rfl (List.forall_mem_cons.mpr ⟨rfl, List.forall_mem_cons.mpr ⟨rfl, fun _ h => absurd h List.not_mem_nil⟩⟩) (ygf258 hB _ _ rfl) (fun v6 m6 cv6 => ?_)
        refine xS_if (fun h3 => ?_) (fun h3 => ?_)
        · refine xS_of (pc' := 54) (L' := [(0, xa 536), (1, xi x1), (2, xi x2), (3, xi 0)]) (st' := []) (m' := m6) (fun ex ns r q => ?_) ?_
          · refine xw_if_eqT rfl (w32_cg (w32_of (xw_zr cv6))) h3 ?_
            refine xw_iconst rfl ?_
            refine xw_istore_n (L' := [(3, xi 0), (0, xa 536), (1, xi x1), (2, xi x2)]) rfl (by decide) rfl ?_
            refine xw_goto rfl ?_
            refine xw_lo (L2 := [(0, xa 536), (1, xi x1), (2, xi x2), (3, xi 0)]) (List.forall_mem_cons.mpr ⟨rfl, List.forall_mem_cons.mpr ⟨rfl, List.forall_mem_cons.mpr ⟨rfl, List.forall_mem_cons.mpr ⟨rfl, fun _ h => absurd h List.not_mem_nil⟩⟩⟩⟩) ?_
            exact q
          exact hr54 _ _ _ _ c1 c2 rfl
        · refine xS_of (pc' := 103) (L' := [(0, xa 536), (1, xi x1), (2, xi x2)]) (st' := [xi 44, xa 536]) (m' := m6) (fun ex ns r q => ?_) ?_
          · refine xw_if_eqF rfl (w32_cg (w32_of (xw_zr cv6))) h3 ?_
            refine xw_aload_n rfl rfl rfl ?_
            refine xw_bipush (e := 44) rfl (by decide +kernel) ?_
            refine xw_lo (L2 := [(0, xa 536), (1, xi x1), (2, xi x2)]) (List.forall_mem_cons.mpr ⟨rfl, List.forall_mem_cons.mpr ⟨rfl, List.forall_mem_cons.mpr ⟨rfl, fun _ h => absurd h List.not_mem_nil⟩⟩⟩) ?_
            exact q
          refine xS_call (q := 266) (n := 2) (kq := 4) (as := [xa 536, xi 44]) (st1 := []) rfl rfl rfl rfl rfl rfl rfl rfl rfl rfl (fun _ => xw_rcv1 (t := 12) (xw_obd (by decide +kernel)) rfl) rfl (List.forall_mem_cons.mpr ⟨rfl, List.forall_mem_cons.mpr ⟨rfl, fun _ h => absurd h List.not_mem_nil⟩⟩) (ygf266 hB _ _ rfl) (fun v7 m7 cv7 => ?_)
          refine xS_if (fun h4 => ?_) (fun h4 => ?_)
          · refine xS_of (pc' := 54) (L' := [(0, xa 536), (1, xi x1), (2, xi x2), (3, xi 0)]) (st' := []) (m' := m7) (fun ex ns r q => ?_) ?_
            · refine xw_if_eqT rfl (w32_cg (w32_of (xw_zr cv7))) h4 ?_
              refine xw_iconst rfl ?_
              refine xw_istore_n (L' := [(3, xi 0), (0, xa 536), (1, xi x1), (2, xi x2)]) rfl (by decide) rfl ?_
              refine xw_goto rfl ?_
              refine xw_lo (L2 := [(0, xa 536), (1, xi x1), (2, xi x2), (3, xi 0)]) (List.forall_mem_cons.mpr ⟨rfl, List.forall_mem_cons.mpr ⟨rfl, List.forall_mem_cons.mpr ⟨rfl, List.forall_mem_cons.mpr ⟨rfl, fun _ h => absurd h List.not_mem_nil⟩⟩⟩⟩) ?_
              exact q
            exact hr54 _ _ _ _ c1 c2 rfl
          · refine xS_of (pc' := 54) (L' := [(0, xa 536), (1, xi x1), (2, xi x2), (3, xi 1)]) (st' := []) (m' := m7) (fun ex ns r q => ?_) ?_
            · refine xw_if_eqF rfl (w32_cg (w32_of (xw_zr cv7))) h4 ?_
              refine xw_iconst rfl ?_
              refine xw_goto rfl ?_
              refine xw_istore_n (L' := [(3, xi 1), (0, xa 536), (1, xi x1), (2, xi x2)]) rfl (by decide) rfl ?_
              refine xw_goto rfl ?_
              refine xw_lo (L2 := [(0, xa 536), (1, xi x1), (2, xi x2), (3, xi 1)]) (List.forall_mem_cons.mpr ⟨rfl, List.forall_mem_cons.mpr ⟨rfl, List.forall_mem_cons.mpr ⟨rfl, List.forall_mem_cons.mpr ⟨rfl, fun _ h => absurd h List.not_mem_nil⟩⟩⟩⟩) ?_
              exact q
            exact hr54 _ _ _ _ c1 c2 rfl
      · refine xS_of (pc' := 94) (L' := [(0, xa 536), (1, xi x1), (2, xi x2)]) (st' := [xi 1, xa 536]) (m' := m5) (fun ex ns r q => ?_) ?_
        · refine xw_if_eqF rfl (w32_cg (w32_of (xw_zr cv5))) h2 ?_
          refine xw_iconst rfl ?_
          refine xw_goto rfl ?_
          refine xw_lo (L2 := [(0, xa 536), (1, xi x1), (2, xi x2)]) (List.forall_mem_cons.mpr ⟨rfl, List.forall_mem_cons.mpr ⟨rfl, List.forall_mem_cons.mpr ⟨rfl, fun _ h => absurd h List.not_mem_nil⟩⟩⟩) ?_
          exact q
        refine xS_call (q := 258) (n := 2) (kq := 4) (as := [xa 536, xi 1]) (st1 := []) rfl rfl rfl rfl rfl rfl rfl rfl rfl rfl (fun _ => xw_rcv1 (t := 12) (xw_obd (by decide +kernel)) rfl) rfl (List.forall_mem_cons.mpr ⟨rfl, List.forall_mem_cons.mpr ⟨rfl, fun _ h => absurd h List.not_mem_nil⟩⟩) (ygf258 hB _ _ rfl) (fun v8 m8 cv8 => ?_)
        refine xS_if (fun h3 => ?_) (fun h3 => ?_)
        · refine xS_of (pc' := 54) (L' := [(0, xa 536), (1, xi x1), (2, xi x2), (3, xi 0)]) (st' := []) (m' := m8) (fun ex ns r q => ?_) ?_
          · refine xw_if_eqT rfl (w32_cg (w32_of (xw_zr cv8))) h3 ?_
            refine xw_iconst rfl ?_
            refine xw_istore_n (L' := [(3, xi 0), (0, xa 536), (1, xi x1), (2, xi x2)]) rfl (by decide) rfl ?_
            refine xw_goto rfl ?_
            refine xw_lo (L2 := [(0, xa 536), (1, xi x1), (2, xi x2), (3, xi 0)]) (List.forall_mem_cons.mpr ⟨rfl, List.forall_mem_cons.mpr ⟨rfl, List.forall_mem_cons.mpr ⟨rfl, List.forall_mem_cons.mpr ⟨rfl, fun _ h => absurd h List.not_mem_nil⟩⟩⟩⟩) ?_
            exact q
          exact hr54 _ _ _ _ c1 c2 rfl
        · refine xS_of (pc' := 103) (L' := [(0, xa 536), (1, xi x1), (2, xi x2)]) (st' := [xi 44, xa 536]) (m' := m8) (fun ex ns r q => ?_) ?_
          · refine xw_if_eqF rfl (w32_cg (w32_of (xw_zr cv8))) h3 ?_
            refine xw_aload_n rfl rfl rfl ?_
            refine xw_bipush (e := 44) rfl (by decide +kernel) ?_
            refine xw_lo (L2 := [(0, xa 536), (1, xi x1), (2, xi x2)]) (List.forall_mem_cons.mpr ⟨rfl, List.forall_mem_cons.mpr ⟨rfl, List.forall_mem_cons.mpr ⟨rfl, fun _ h => absurd h List.not_mem_nil⟩⟩⟩) ?_
            exact q
          refine xS_call (q := 266) (n := 2) (kq := 4) (as := [xa 536, xi 44]) (st1 := []) rfl rfl rfl rfl rfl rfl rfl rfl rfl rfl (fun _ => xw_rcv1 (t := 12) (xw_obd (by decide +kernel)) rfl) rfl (List.forall_mem_cons.mpr ⟨rfl, List.forall_mem_cons.mpr ⟨rfl, fun _ h => absurd h List.not_mem_nil⟩⟩) (ygf266 hB _ _ rfl) (fun v9 m9 cv9 => ?_)
          refine xS_if (fun h4 => ?_) (fun h4 => ?_)
          · refine xS_of (pc' := 54) (L' := [(0, xa 536), (1, xi x1), (2, xi x2), (3, xi 0)]) (st' := []) (m' := m9) (fun ex ns r q => ?_) ?_
            · refine xw_if_eqT rfl (w32_cg (w32_of (xw_zr cv9))) h4 ?_
              refine xw_iconst rfl ?_
              refine xw_istore_n (L' := [(3, xi 0), (0, xa 536), (1, xi x1), (2, xi x2)]) rfl (by decide) rfl ?_
              refine xw_goto rfl ?_
              refine xw_lo (L2 := [(0, xa 536), (1, xi x1), (2, xi x2), (3, xi 0)]) (List.forall_mem_cons.mpr ⟨rfl, List.forall_mem_cons.mpr ⟨rfl, List.forall_mem_cons.mpr ⟨rfl, List.forall_mem_cons.mpr ⟨rfl, fun _ h => absurd h List.not_mem_nil⟩⟩⟩⟩) ?_
              exact q
            exact hr54 _ _ _ _ c1 c2 rfl
          · refine xS_of (pc' := 54) (L' := [(0, xa 536), (1, xi x1), (2, xi x2), (3, xi 1)]) (st' := []) (m' := m9) (fun ex ns r q => ?_) ?_
            · refine xw_if_eqF rfl (w32_cg (w32_of (xw_zr cv9))) h4 ?_
              refine xw_iconst rfl ?_
              refine xw_goto rfl ?_
              refine xw_istore_n (L' := [(3, xi 1), (0, xa 536), (1, xi x1), (2, xi x2)]) rfl (by decide) rfl ?_
              refine xw_goto rfl ?_
              refine xw_lo (L2 := [(0, xa 536), (1, xi x1), (2, xi x2), (3, xi 1)]) (List.forall_mem_cons.mpr ⟨rfl, List.forall_mem_cons.mpr ⟨rfl, List.forall_mem_cons.mpr ⟨rfl, List.forall_mem_cons.mpr ⟨rfl, fun _ h => absurd h List.not_mem_nil⟩⟩⟩⟩) ?_
              exact q
            exact hr54 _ _ _ _ c1 c2 rfl
    · refine xS_of (pc' := 94) (L' := [(0, xa 536), (1, xi x1), (2, xi x2)]) (st' := [xi 1, xa 536]) (m' := m4) (fun ex ns r q => ?_) ?_
      · refine xw_if_neT rfl (w32_cg (w32_of (xw_zr cv4))) h1 ?_
        refine xw_iconst rfl ?_
        refine xw_goto rfl ?_
        refine xw_lo (L2 := [(0, xa 536), (1, xi x1), (2, xi x2)]) (List.forall_mem_cons.mpr ⟨rfl, List.forall_mem_cons.mpr ⟨rfl, List.forall_mem_cons.mpr ⟨rfl, fun _ h => absurd h List.not_mem_nil⟩⟩⟩) ?_
        exact q
      refine xS_call (q := 258) (n := 2) (kq := 4) (as := [xa 536, xi 1]) (st1 := []) rfl rfl rfl rfl rfl rfl rfl rfl rfl rfl (fun _ => xw_rcv1 (t := 12) (xw_obd (by decide +kernel)) rfl) rfl (List.forall_mem_cons.mpr ⟨rfl, List.forall_mem_cons.mpr ⟨rfl, fun _ h => absurd h List.not_mem_nil⟩⟩) (ygf258 hB _ _ rfl) (fun v10 m10 cv10 => ?_)
      refine xS_if (fun h2 => ?_) (fun h2 => ?_)
      · refine xS_of (pc' := 54) (L' := [(0, xa 536), (1, xi x1), (2, xi x2), (3, xi 0)]) (st' := []) (m' := m10) (fun ex ns r q => ?_) ?_
        · refine xw_if_eqT rfl (w32_cg (w32_of (xw_zr cv10))) h2 ?_
          refine xw_iconst rfl ?_
          refine xw_istore_n (L' := [(3, xi 0), (0, xa 536), (1, xi x1), (2, xi x2)]) rfl (by decide) rfl ?_
          refine xw_goto rfl ?_
          refine xw_lo (L2 := [(0, xa 536), (1, xi x1), (2, xi x2), (3, xi 0)]) (List.forall_mem_cons.mpr ⟨rfl, List.forall_mem_cons.mpr ⟨rfl, List.forall_mem_cons.mpr ⟨rfl, List.forall_mem_cons.mpr ⟨rfl, fun _ h => absurd h List.not_mem_nil⟩⟩⟩⟩) ?_
          exact q
        exact hr54 _ _ _ _ c1 c2 rfl
      · refine xS_of (pc' := 103) (L' := [(0, xa 536), (1, xi x1), (2, xi x2)]) (st' := [xi 44, xa 536]) (m' := m10) (fun ex ns r q => ?_) ?_
        · refine xw_if_eqF rfl (w32_cg (w32_of (xw_zr cv10))) h2 ?_
          refine xw_aload_n rfl rfl rfl ?_
          refine xw_bipush (e := 44) rfl (by decide +kernel) ?_
          refine xw_lo (L2 := [(0, xa 536), (1, xi x1), (2, xi x2)]) (List.forall_mem_cons.mpr ⟨rfl, List.forall_mem_cons.mpr ⟨rfl, List.forall_mem_cons.mpr ⟨rfl, fun _ h => absurd h List.not_mem_nil⟩⟩⟩) ?_
          exact q
        refine xS_call (q := 266) (n := 2) (kq := 4) (as := [xa 536, xi 44]) (st1 := []) rfl rfl rfl rfl rfl rfl rfl rfl rfl rfl (fun _ => xw_rcv1 (t := 12) (xw_obd (by decide +kernel)) rfl) rfl (List.forall_mem_cons.mpr ⟨rfl, List.forall_mem_cons.mpr ⟨rfl, fun _ h => absurd h List.not_mem_nil⟩⟩) (ygf266 hB _ _ rfl) (fun v11 m11 cv11 => ?_)
        refine xS_if (fun h3 => ?_) (fun h3 => ?_)
        · refine xS_of (pc' := 54) (L' := [(0, xa 536), (1, xi x1), (2, xi x2), (3, xi 0)]) (st' := []) (m' := m11) (fun ex ns r q => ?_) ?_
          · refine xw_if_eqT rfl (w32_cg (w32_of (xw_zr cv11))) h3 ?_
            refine xw_iconst rfl ?_
            refine xw_istore_n (L' := [(3, xi 0), (0, xa 536), (1, xi x1), (2, xi x2)]) rfl (by decide) rfl ?_
            refine xw_goto rfl ?_
            refine xw_lo (L2 := [(0, xa 536), (1, xi x1), (2, xi x2), (3, xi 0)]) (List.forall_mem_cons.mpr ⟨rfl, List.forall_mem_cons.mpr ⟨rfl, List.forall_mem_cons.mpr ⟨rfl, List.forall_mem_cons.mpr ⟨rfl, fun _ h => absurd h List.not_mem_nil⟩⟩⟩⟩) ?_
            exact q
          exact hr54 _ _ _ _ c1 c2 rfl
        · refine xS_of (pc' := 54) (L' := [(0, xa 536), (1, xi x1), (2, xi x2), (3, xi 1)]) (st' := []) (m' := m11) (fun ex ns r q => ?_) ?_
          · refine xw_if_eqF rfl (w32_cg (w32_of (xw_zr cv11))) h3 ?_
            refine xw_iconst rfl ?_
            refine xw_goto rfl ?_
            refine xw_istore_n (L' := [(3, xi 1), (0, xa 536), (1, xi x1), (2, xi x2)]) rfl (by decide) rfl ?_
            refine xw_goto rfl ?_
            refine xw_lo (L2 := [(0, xa 536), (1, xi x1), (2, xi x2), (3, xi 1)]) (List.forall_mem_cons.mpr ⟨rfl, List.forall_mem_cons.mpr ⟨rfl, List.forall_mem_cons.mpr ⟨rfl, List.forall_mem_cons.mpr ⟨rfl, fun _ h => absurd h List.not_mem_nil⟩⟩⟩⟩) ?_
            exact q
          exact hr54 _ _ _ _ c1 c2 rfl
theorem ygl282_54 {B : Nat} (hB : B ≤ 512) {xs : Nat → Int32} {SL d : Nat} : ∀ n x1 x2 x3 m, w32 x1 = x1 → w32 x2 = x2 → w32 x3 = x3 → xS B xs SL (d + 6) 282 (4, (some .int), [], 13) 1 54 [(0, xa 536), (1, xi x1), (2, xi x2), (3, xi x3)] [] m (xl3 (yl282_54 B) n x1 x2 x3 m) := by
  intro n
  induction n with
  | zero => intro x1 x2 x3 m c1 c2 c3; exact xS_none
  | succ n ih => exact ysl282_54 hB ih
theorem ygf282 {B : Nat} (hB : B ≤ 512) {xs : Nat → Int32} {SL d : Nat} : ∀ m, xS B xs SL (d + 6) 282 (4, (some .int), [], 13) 1 0 [(0, xa 536)] [] m (yf282 B m) := by
  intro m
  unfold yf282
  refine xS_g (fun g0 => ?_)
  refine xS_of (pc' := 11) (L' := [(0, xa 536), (1, xi (xR m (m 536 23) 4))]) (st' := [xi 7, xa 536]) (m' := m) (fun ex ns r q => ?_) ?_
  · refine xw_aload_n rfl rfl rfl ?_
    refine xw_gfM (v := (m 536 23)) rfl (xw_obd (by decide +kernel)) xk12_23 (qi := 23) rfl rfl ?_
    refine xw_gfIc (v := (m (m 536 23) 4)) (v' := (xR m (m 536 23) 4)) rfl (xw_obd g0) xk13_4 (qi := 4) rfl rfl rfl ?_
    refine xw_istore_n (L' := [(1, xi (xR m (m 536 23) 4)), (0, xa 536)]) rfl (by decide) rfl ?_
    refine xw_aload_n rfl rfl rfl ?_
    refine xw_bipush (e := 7) rfl (by decide +kernel) ?_
    refine xw_lo (L2 := [(0, xa 536), (1, xi (xR m (m 536 23) 4))]) (List.forall_mem_cons.mpr ⟨rfl, List.forall_mem_cons.mpr ⟨rfl, fun _ h => absurd h List.not_mem_nil⟩⟩) ?_
    exact q
  refine xS_call (q := 257) (n := 2) (kq := 4) (as := [xa 536, xi 7]) (st1 := []) rfl rfl rfl rfl rfl rfl rfl rfl rfl rfl (fun _ => xw_rcv1 (t := 12) (xw_obd (by decide +kernel)) rfl) rfl (List.forall_mem_cons.mpr ⟨rfl, List.forall_mem_cons.mpr ⟨rfl, fun _ h => absurd h List.not_mem_nil⟩⟩) (ygf257 hB _ _ rfl) (fun v1 m1 cv1 => ?_)
  refine xS_if (fun h1 => ?_) (fun h1 => ?_)
  · refine xS_of (pc' := 24) (L' := [(0, xa 536), (1, xi (xR m (m 536 23) 4))]) (st' := [xi 8, xa 536]) (m' := m1) (fun ex ns r q => ?_) ?_
    · refine xw_if_eqT rfl (w32_cg (w32_of (xw_zr cv1))) h1 ?_
      refine xw_aload_n rfl rfl rfl ?_
      refine xw_bipush (e := 8) rfl (by decide +kernel) ?_
      refine xw_lo (L2 := [(0, xa 536), (1, xi (xR m (m 536 23) 4))]) (List.forall_mem_cons.mpr ⟨rfl, List.forall_mem_cons.mpr ⟨rfl, fun _ h => absurd h List.not_mem_nil⟩⟩) ?_
      exact q
    refine xS_call (q := 257) (n := 2) (kq := 4) (as := [xa 536, xi 8]) (st1 := []) rfl rfl rfl rfl rfl rfl rfl rfl rfl rfl (fun _ => xw_rcv1 (t := 12) (xw_obd (by decide +kernel)) rfl) rfl (List.forall_mem_cons.mpr ⟨rfl, List.forall_mem_cons.mpr ⟨rfl, fun _ h => absurd h List.not_mem_nil⟩⟩) (ygf257 hB _ _ rfl) (fun v2 m2 cv2 => ?_)
    refine xS_if (fun h2 => ?_) (fun h2 => ?_)
    · refine xS_of (pc' := 41) (L' := [(0, xa 536), (1, xi (xR m (m 536 23) 4)), (2, xi 0)]) (st' := [xa 536]) (m' := m2) (fun ex ns r q => ?_) ?_
      · refine xw_if_eqT rfl (w32_cg (w32_of (xw_zr cv2))) h2 ?_
        refine xw_iconst rfl ?_
        refine xw_istore_n (L' := [(2, xi 0), (0, xa 536), (1, xi (xR m (m 536 23) 4))]) rfl (by decide) rfl ?_
        refine xw_iload_n rfl rfl ?_
        refine xw_if_neF rfl (w32_cg rfl) (by decide) ?_
        refine xw_aload_n rfl rfl rfl ?_
        refine xw_lo (L2 := [(0, xa 536), (1, xi (xR m (m 536 23) 4)), (2, xi 0)]) (List.forall_mem_cons.mpr ⟨rfl, List.forall_mem_cons.mpr ⟨rfl, List.forall_mem_cons.mpr ⟨rfl, fun _ h => absurd h List.not_mem_nil⟩⟩⟩) ?_
        exact q
      refine xS_call (q := 283) (n := 1) (kq := 0) (as := [xa 536]) (st1 := []) rfl rfl rfl rfl rfl rfl rfl rfl rfl rfl (fun _ => xw_rcv1 (t := 12) (xw_obd (by decide +kernel)) rfl) rfl (List.forall_mem_cons.mpr ⟨rfl, fun _ h => absurd h List.not_mem_nil⟩) (ygf283 hB _) (fun v3 m3 cv3 => ?_)
      refine xS_of (pc' := 118) (L' := [(0, xa 536), (1, xi (xR m (m 536 23) 4)), (2, xi 0)]) (st' := []) (m' := m3) (fun ex ns r q => ?_) ?_
      · refine xw_goto rfl ?_
        refine xw_lo (L2 := [(0, xa 536), (1, xi (xR m (m 536 23) 4)), (2, xi 0)]) (List.forall_mem_cons.mpr ⟨rfl, List.forall_mem_cons.mpr ⟨rfl, List.forall_mem_cons.mpr ⟨rfl, fun _ h => absurd h List.not_mem_nil⟩⟩⟩) ?_
        exact q
      exact ygk282_118 hB _ _ _ (w32_xR _ _ _) rfl
    · refine xS_of (pc' := 50) (L' := [(0, xa 536), (1, xi (xR m (m 536 23) 4)), (2, xi 2)]) (st' := [xi 40, xa 536]) (m' := m2) (fun ex ns r q => ?_) ?_
      · refine xw_if_eqF rfl (w32_cg (w32_of (xw_zr cv2))) h2 ?_
        refine xw_iconst rfl ?_
        refine xw_goto rfl ?_
        refine xw_istore_n (L' := [(2, xi 2), (0, xa 536), (1, xi (xR m (m 536 23) 4))]) rfl (by decide) rfl ?_
        refine xw_iload_n rfl rfl ?_
        refine xw_if_neT rfl (w32_cg rfl) (by decide) ?_
        refine xw_aload_n rfl rfl rfl ?_
        refine xw_bipush (e := 40) rfl (by decide +kernel) ?_
        refine xw_lo (L2 := [(0, xa 536), (1, xi (xR m (m 536 23) 4)), (2, xi 2)]) (List.forall_mem_cons.mpr ⟨rfl, List.forall_mem_cons.mpr ⟨rfl, List.forall_mem_cons.mpr ⟨rfl, fun _ h => absurd h List.not_mem_nil⟩⟩⟩) ?_
        exact q
      refine xS_call (q := 265) (n := 2) (kq := 4) (as := [xa 536, xi 40]) (st1 := []) rfl rfl rfl rfl rfl rfl rfl rfl rfl rfl (fun _ => xw_rcv1 (t := 12) (xw_obd (by decide +kernel)) rfl) rfl (List.forall_mem_cons.mpr ⟨rfl, List.forall_mem_cons.mpr ⟨rfl, fun _ h => absurd h List.not_mem_nil⟩⟩) (ygf265 hB _ _ rfl) (fun v4 m4 cv4 => ?_)
      refine xS_of (pc' := 54) (L' := [(0, xa 536), (1, xi (xR m (m 536 23) 4)), (2, xi 2), (3, xi v4)]) (st' := []) (m' := m4) (fun ex ns r q => ?_) ?_
      · refine xw_istore_n (L' := [(3, xi v4), (0, xa 536), (1, xi (xR m (m 536 23) 4)), (2, xi 2)]) rfl (by decide) rfl ?_
        refine xw_lo (L2 := [(0, xa 536), (1, xi (xR m (m 536 23) 4)), (2, xi 2), (3, xi v4)]) (List.forall_mem_cons.mpr ⟨rfl, List.forall_mem_cons.mpr ⟨rfl, List.forall_mem_cons.mpr ⟨rfl, List.forall_mem_cons.mpr ⟨rfl, fun _ h => absurd h List.not_mem_nil⟩⟩⟩⟩) ?_
        exact q
      exact ygl282_54 hB 1000000 _ _ _ _ (w32_xR _ _ _) rfl (w32_of (xw_zr cv4))
  · refine xS_of (pc' := 50) (L' := [(0, xa 536), (1, xi (xR m (m 536 23) 4)), (2, xi 1)]) (st' := [xi 40, xa 536]) (m' := m1) (fun ex ns r q => ?_) ?_
    · refine xw_if_eqF rfl (w32_cg (w32_of (xw_zr cv1))) h1 ?_
      refine xw_iconst rfl ?_
      refine xw_goto rfl ?_
      refine xw_istore_n (L' := [(2, xi 1), (0, xa 536), (1, xi (xR m (m 536 23) 4))]) rfl (by decide) rfl ?_
      refine xw_iload_n rfl rfl ?_
      refine xw_if_neT rfl (w32_cg rfl) (by decide) ?_
      refine xw_aload_n rfl rfl rfl ?_
      refine xw_bipush (e := 40) rfl (by decide +kernel) ?_
      refine xw_lo (L2 := [(0, xa 536), (1, xi (xR m (m 536 23) 4)), (2, xi 1)]) (List.forall_mem_cons.mpr ⟨rfl, List.forall_mem_cons.mpr ⟨rfl, List.forall_mem_cons.mpr ⟨rfl, fun _ h => absurd h List.not_mem_nil⟩⟩⟩) ?_
      exact q
    refine xS_call (q := 265) (n := 2) (kq := 4) (as := [xa 536, xi 40]) (st1 := []) rfl rfl rfl rfl rfl rfl rfl rfl rfl rfl (fun _ => xw_rcv1 (t := 12) (xw_obd (by decide +kernel)) rfl) rfl (List.forall_mem_cons.mpr ⟨rfl, List.forall_mem_cons.mpr ⟨rfl, fun _ h => absurd h List.not_mem_nil⟩⟩) (ygf265 hB _ _ rfl) (fun v5 m5 cv5 => ?_)
    refine xS_of (pc' := 54) (L' := [(0, xa 536), (1, xi (xR m (m 536 23) 4)), (2, xi 1), (3, xi v5)]) (st' := []) (m' := m5) (fun ex ns r q => ?_) ?_
    · refine xw_istore_n (L' := [(3, xi v5), (0, xa 536), (1, xi (xR m (m 536 23) 4)), (2, xi 1)]) rfl (by decide) rfl ?_
      refine xw_lo (L2 := [(0, xa 536), (1, xi (xR m (m 536 23) 4)), (2, xi 1), (3, xi v5)]) (List.forall_mem_cons.mpr ⟨rfl, List.forall_mem_cons.mpr ⟨rfl, List.forall_mem_cons.mpr ⟨rfl, List.forall_mem_cons.mpr ⟨rfl, fun _ h => absurd h List.not_mem_nil⟩⟩⟩⟩) ?_
      exact q
    exact ygl282_54 hB 1000000 _ _ _ _ (w32_xR _ _ _) rfl (w32_of (xw_zr cv5))
theorem ygk281_70 {B : Nat} (hB : B ≤ 512) {xs : Nat → Int32} {SL d : Nat} {r25 : Int → Int → xw_M → xP} (hr25 : ∀ x1 x2 m, w32 x1 = x1 → w32 x2 = x2 → xS B xs SL (d + 7) 281 (4, none, [], 13) 0 25 [(0, xa 536), (1, xi x1), (2, xi x2)] [] m (r25 x1 x2 m)) : ∀ x1 x3 m, w32 x1 = x1 → w32 x3 = x3 → xS B xs SL (d + 7) 281 (4, none, [], 13) 0 70 [(0, xa 536), (1, xi x1), (3, xi x3)] [] m (yk281_70 B r25 x1 x3 m) := by
  intro x1 x3 m c1 c3
  unfold yk281_70
  refine xS_of (pc' := 71) (L' := [(0, xa 536), (1, xi x1), (3, xi x3)]) (st' := [xi x3]) (m' := m) (fun ex ns r q => ?_) ?_
  · refine xw_iload_n rfl rfl ?_
    exact q
  refine xS_if (fun h0 => ?_) (fun h0 => ?_)
  · refine xS_of (pc' := 25) (L' := [(0, xa 536), (1, xi x1), (2, xi 0)]) (st' := []) (m' := m) (fun ex ns r q => ?_) ?_
    · refine xw_if_eqT rfl (w32_cg c3) h0 ?_
      refine xw_iconst rfl ?_
      refine xw_istore_n (L' := [(2, xi 0), (0, xa 536), (1, xi x1), (3, xi x3)]) rfl (by decide) rfl ?_
      refine xw_goto rfl ?_
      refine xw_lo (L2 := [(0, xa 536), (1, xi x1), (2, xi 0)]) (List.forall_mem_cons.mpr ⟨rfl, List.forall_mem_cons.mpr ⟨rfl, List.forall_mem_cons.mpr ⟨rfl, fun _ h => absurd h List.not_mem_nil⟩⟩⟩) ?_
      exact q
    exact hr25 _ _ _ c1 rfl
  · refine xS_of (pc' := 77) (L' := [(0, xa 536), (1, xi x1)]) (st' := [xi 44, xa 536]) (m' := m) (fun ex ns r q => ?_) ?_
    · refine xw_if_eqF rfl (w32_cg c3) h0 ?_
      refine xw_aload_n rfl rfl rfl ?_
      refine xw_bipush (e := 44) rfl (by decide +kernel) ?_
      refine xw_lo (L2 := [(0, xa 536), (1, xi x1)]) (List.forall_mem_cons.mpr ⟨rfl, List.forall_mem_cons.mpr ⟨rfl, fun _ h => absurd h List.not_mem_nil⟩⟩) ?_
      exact q
    refine xS_call (q := 266) (n := 2) (kq := 4) (as := [xa 536, xi 44]) (st1 := []) rfl rfl rfl rfl rfl rfl rfl rfl rfl rfl (fun _ => xw_rcv1 (t := 12) (xw_obd (by decide +kernel)) rfl) rfl (List.forall_mem_cons.mpr ⟨rfl, List.forall_mem_cons.mpr ⟨rfl, fun _ h => absurd h List.not_mem_nil⟩⟩) (ygf266 hB _ _ rfl) (fun v1 m1 cv1 => ?_)
    refine xS_if (fun h1 => ?_) (fun h1 => ?_)
    · refine xS_of (pc' := 25) (L' := [(0, xa 536), (1, xi x1), (2, xi 0)]) (st' := []) (m' := m1) (fun ex ns r q => ?_) ?_
      · refine xw_if_eqT rfl (w32_cg (w32_of (xw_zr cv1))) h1 ?_
        refine xw_iconst rfl ?_
        refine xw_istore_n (L' := [(2, xi 0), (0, xa 536), (1, xi x1)]) rfl (by decide) rfl ?_
        refine xw_goto rfl ?_
        refine xw_lo (L2 := [(0, xa 536), (1, xi x1), (2, xi 0)]) (List.forall_mem_cons.mpr ⟨rfl, List.forall_mem_cons.mpr ⟨rfl, List.forall_mem_cons.mpr ⟨rfl, fun _ h => absurd h List.not_mem_nil⟩⟩⟩) ?_
        exact q
      exact hr25 _ _ _ c1 rfl
    · refine xS_of (pc' := 25) (L' := [(0, xa 536), (1, xi x1), (2, xi 1)]) (st' := []) (m' := m1) (fun ex ns r q => ?_) ?_
      · refine xw_if_eqF rfl (w32_cg (w32_of (xw_zr cv1))) h1 ?_
        refine xw_iconst rfl ?_
        refine xw_goto rfl ?_
        refine xw_istore_n (L' := [(2, xi 1), (0, xa 536), (1, xi x1)]) rfl (by decide) rfl ?_
        refine xw_goto rfl ?_
        refine xw_lo (L2 := [(0, xa 536), (1, xi x1), (2, xi 1)]) (List.forall_mem_cons.mpr ⟨rfl, List.forall_mem_cons.mpr ⟨rfl, List.forall_mem_cons.mpr ⟨rfl, fun _ h => absurd h List.not_mem_nil⟩⟩⟩) ?_
        exact q
      exact hr25 _ _ _ c1 rfl
theorem ysl281_25 {B : Nat} (hB : B ≤ 512) {xs : Nat → Int32} {SL d : Nat} {r25 : Int → Int → xw_M → xP} (hr25 : ∀ x1 x2 m, w32 x1 = x1 → w32 x2 = x2 → xS B xs SL (d + 7) 281 (4, none, [], 13) 0 25 [(0, xa 536), (1, xi x1), (2, xi x2)] [] m (r25 x1 x2 m)) : ∀ x1 x2 m, w32 x1 = x1 → w32 x2 = x2 → xS B xs SL (d + 7) 281 (4, none, [], 13) 0 25 [(0, xa 536), (1, xi x1), (2, xi x2)] [] m (yl281_25 B r25 x1 x2 m) := by
  intro x1 x2 m c1 c2
  unfold yl281_25
  refine xS_of (pc' := 26) (L' := [(0, xa 536), (1, xi x1), (2, xi x2)]) (st' := [xi x2]) (m' := m) (fun ex ns r q => ?_) ?_
  · refine xw_iload_n rfl rfl ?_
    exact q
  refine xS_if (fun h0 => ?_) (fun h0 => ?_)
  · refine xS_of (pc' := 92) (L' := [(0, xa 536), (1, xi x1), (2, xi x2)]) (st' := []) (m' := m) (fun ex ns r q => ?_) ?_
    · refine xw_if_eqT rfl (w32_cg c2) h0 ?_
      exact q
    exact xS_ret (v := 0) rfl rfl rfl rfl
  · refine xS_of (pc' := 30) (L' := [(0, xa 536), (1, xi x1)]) (st' := [xa 536]) (m' := m) (fun ex ns r q => ?_) ?_
    · refine xw_if_eqF rfl (w32_cg c2) h0 ?_
      refine xw_aload_n rfl rfl rfl ?_
      refine xw_lo (L2 := [(0, xa 536), (1, xi x1)]) (List.forall_mem_cons.mpr ⟨rfl, List.forall_mem_cons.mpr ⟨rfl, fun _ h => absurd h List.not_mem_nil⟩⟩) ?_
      exact q
    refine xS_call (q := 248) (n := 1) (kq := 0) (as := [xa 536]) (st1 := []) rfl rfl rfl rfl rfl rfl rfl rfl rfl rfl (fun _ => xw_rcv1 (t := 12) (xw_obd (by decide +kernel)) rfl) rfl (List.forall_mem_cons.mpr ⟨rfl, fun _ h => absurd h List.not_mem_nil⟩) (ygf248 hB _) (fun v1 m1 cv1 => ?_)
    refine xS_of (pc' := 35) (L' := [(0, xa 536)]) (st' := [xa 536, xi x1]) (m' := m1) (fun ex ns r q => ?_) ?_
    · refine xw_iload_n rfl rfl ?_
      refine xw_aload_n rfl rfl rfl ?_
      refine xw_lo (L2 := [(0, xa 536)]) (List.forall_mem_cons.mpr ⟨rfl, fun _ h => absurd h List.not_mem_nil⟩) ?_
      exact q
    refine xS_call (q := 282) (n := 1) (kq := 1) (as := [xa 536]) (st1 := [xi x1]) rfl rfl rfl rfl rfl rfl rfl rfl rfl rfl (fun _ => xw_rcv1 (t := 12) (xw_obd (by decide +kernel)) rfl) rfl (List.forall_mem_cons.mpr ⟨rfl, fun _ h => absurd h List.not_mem_nil⟩) (ygf282 hB _) (fun v2 m2 cv2 => ?_)
    refine xS_of (pc' := 44) (L' := [(1, xi (w32 (x1 * v2))), (0, xa 536)]) (st' := [xi 32, xi (w32 (x1 * v2)), xa 536]) (m' := m2) (fun ex ns r q => ?_) ?_
    · refine xw_imul rfl ?_
      refine xw_cst (st' := [xi (w32 (x1 * v2))]) (xw_sc (xi_c rfl) rfl) ?_
      refine xw_istore_n (L' := [(1, xi (w32 (x1 * v2))), (0, xa 536)]) rfl (by decide) rfl ?_
      refine xw_aload_n rfl rfl rfl ?_
      refine xw_iload_n rfl rfl ?_
      refine xw_bipush (e := 32) rfl (by decide +kernel) ?_
      exact q
    refine xS_if (fun h1 => ?_) (fun h1 => ?_)
    · refine xS_of (pc' := 58) (L' := [(0, xa 536), (1, xi (w32 (x1 * v2)))]) (st' := [xi (xR m2 536 26), xi 7, xi 0, xa 536]) (m' := m2) (fun ex ns r q => ?_) ?_
      · refine xw_ic_gtT rfl (w32_cg (w32_w _)) (w32_cg rfl) h1 ?_
        refine xw_iconst rfl ?_
        refine xw_bipush (e := 7) rfl (by decide +kernel) ?_
        refine xw_aload_n rfl rfl rfl ?_
        refine xw_gfIc (v := (m2 536 26)) (v' := (xR m2 536 26)) rfl (xw_obd (by decide +kernel)) xk12_26 (qi := 26) rfl rfl rfl ?_
        refine xw_lo (L2 := [(0, xa 536), (1, xi (w32 (x1 * v2)))]) (List.forall_mem_cons.mpr ⟨rfl, List.forall_mem_cons.mpr ⟨rfl, fun _ h => absurd h List.not_mem_nil⟩⟩) ?_
        exact q
      refine xS_call (q := 254) (n := 4) (kq := 4) (as := [xa 536, xi 0, xi 7, xi (xR m2 536 26)]) (st1 := []) rfl rfl rfl rfl rfl rfl rfl rfl rfl rfl (fun _ => xw_rcv1 (t := 12) (xw_obd (by decide +kernel)) rfl) rfl (List.forall_mem_cons.mpr ⟨rfl, List.forall_mem_cons.mpr ⟨rfl, List.forall_mem_cons.mpr ⟨rfl, List.forall_mem_cons.mpr ⟨rfl, fun _ h => absurd h List.not_mem_nil⟩⟩⟩⟩) (ygf254 hB _ _ _ _ rfl rfl (w32_xR _ _ _)) (fun v3 m3 cv3 => ?_)
      refine xS_of (pc' := 63) (L' := [(3, xi v3), (0, xa 536), (1, xi (w32 (x1 * v2)))]) (st' := [xi v3]) (m' := m3) (fun ex ns r q => ?_) ?_
      · refine xw_istore_n (L' := [(3, xi v3), (0, xa 536), (1, xi (w32 (x1 * v2)))]) rfl (by decide) rfl ?_
        refine xw_iload_n rfl rfl ?_
        exact q
      refine xS_if (fun h2 => ?_) (fun h2 => ?_)
      · refine xS_of (pc' := 70) (L' := [(0, xa 536), (1, xi (w32 (x1 * v2))), (3, xi v3)]) (st' := []) (m' := m3) (fun ex ns r q => ?_) ?_
        · refine xw_if_eqT rfl (w32_cg (w32_of (xw_zr cv3))) h2 ?_
          refine xw_lo (L2 := [(0, xa 536), (1, xi (w32 (x1 * v2))), (3, xi v3)]) (List.forall_mem_cons.mpr ⟨rfl, List.forall_mem_cons.mpr ⟨rfl, List.forall_mem_cons.mpr ⟨rfl, fun _ h => absurd h List.not_mem_nil⟩⟩⟩) ?_
          exact q
        exact ygk281_70 hB hr25 _ _ _ (w32_w _) (w32_of (xw_zr cv3))
      · refine xS_of (pc' := 67) (L' := [(0, xa 536), (1, xi (w32 (x1 * v2))), (3, xi v3)]) (st' := [xa 536]) (m' := m3) (fun ex ns r q => ?_) ?_
        · refine xw_if_eqF rfl (w32_cg (w32_of (xw_zr cv3))) h2 ?_
          refine xw_aload_n rfl rfl rfl ?_
          refine xw_lo (L2 := [(0, xa 536), (1, xi (w32 (x1 * v2))), (3, xi v3)]) (List.forall_mem_cons.mpr ⟨rfl, List.forall_mem_cons.mpr ⟨rfl, List.forall_mem_cons.mpr ⟨rfl, fun _ h => absurd h List.not_mem_nil⟩⟩⟩) ?_
          exact q
        refine xS_call (q := 248) (n := 1) (kq := 0) (as := [xa 536]) (st1 := []) rfl rfl rfl rfl rfl rfl rfl rfl rfl rfl (fun _ => xw_rcv1 (t := 12) (xw_obd (by decide +kernel)) rfl) rfl (List.forall_mem_cons.mpr ⟨rfl, fun _ h => absurd h List.not_mem_nil⟩) (ygf248 hB _) (fun v4 m4 cv4 => ?_)
        refine xS_of (pc' := 70) (L' := [(0, xa 536), (1, xi (w32 (x1 * v2))), (3, xi v3)]) (st' := []) (m' := m4) (fun ex ns r q => ?_) ?_
        · refine xw_lo (L2 := [(0, xa 536), (1, xi (w32 (x1 * v2))), (3, xi v3)]) (List.forall_mem_cons.mpr ⟨rfl, List.forall_mem_cons.mpr ⟨rfl, List.forall_mem_cons.mpr ⟨rfl, fun _ h => absurd h List.not_mem_nil⟩⟩⟩) ?_
          exact q
        exact ygk281_70 hB hr25 _ _ _ (w32_w _) (w32_of (xw_zr cv3))
    · refine xS_of (pc' := 58) (L' := [(0, xa 536), (1, xi (w32 (x1 * v2)))]) (st' := [xi (xR m2 536 26), xi 7, xi 1, xa 536]) (m' := m2) (fun ex ns r q => ?_) ?_
      · refine xw_ic_gtF rfl (w32_cg (w32_w _)) (w32_cg rfl) h1 ?_
        refine xw_iconst rfl ?_
        refine xw_goto rfl ?_
        refine xw_bipush (e := 7) rfl (by decide +kernel) ?_
        refine xw_aload_n rfl rfl rfl ?_
        refine xw_gfIc (v := (m2 536 26)) (v' := (xR m2 536 26)) rfl (xw_obd (by decide +kernel)) xk12_26 (qi := 26) rfl rfl rfl ?_
        refine xw_lo (L2 := [(0, xa 536), (1, xi (w32 (x1 * v2)))]) (List.forall_mem_cons.mpr ⟨rfl, List.forall_mem_cons.mpr ⟨rfl, fun _ h => absurd h List.not_mem_nil⟩⟩) ?_
        exact q
      refine xS_call (q := 254) (n := 4) (kq := 4) (as := [xa 536, xi 1, xi 7, xi (xR m2 536 26)]) (st1 := []) rfl rfl rfl rfl rfl rfl rfl rfl rfl rfl (fun _ => xw_rcv1 (t := 12) (xw_obd (by decide +kernel)) rfl) rfl (List.forall_mem_cons.mpr ⟨rfl, List.forall_mem_cons.mpr ⟨rfl, List.forall_mem_cons.mpr ⟨rfl, List.forall_mem_cons.mpr ⟨rfl, fun _ h => absurd h List.not_mem_nil⟩⟩⟩⟩) (ygf254 hB _ _ _ _ rfl rfl (w32_xR _ _ _)) (fun v5 m5 cv5 => ?_)
      refine xS_of (pc' := 63) (L' := [(3, xi v5), (0, xa 536), (1, xi (w32 (x1 * v2)))]) (st' := [xi v5]) (m' := m5) (fun ex ns r q => ?_) ?_
      · refine xw_istore_n (L' := [(3, xi v5), (0, xa 536), (1, xi (w32 (x1 * v2)))]) rfl (by decide) rfl ?_
        refine xw_iload_n rfl rfl ?_
        exact q
      refine xS_if (fun h2 => ?_) (fun h2 => ?_)
      · refine xS_of (pc' := 70) (L' := [(0, xa 536), (1, xi (w32 (x1 * v2))), (3, xi v5)]) (st' := []) (m' := m5) (fun ex ns r q => ?_) ?_
        · refine xw_if_eqT rfl (w32_cg (w32_of (xw_zr cv5))) h2 ?_
          refine xw_lo (L2 := [(0, xa 536), (1, xi (w32 (x1 * v2))), (3, xi v5)]) (List.forall_mem_cons.mpr ⟨rfl, List.forall_mem_cons.mpr ⟨rfl, List.forall_mem_cons.mpr ⟨rfl, fun _ h => absurd h List.not_mem_nil⟩⟩⟩) ?_
          exact q
        exact ygk281_70 hB hr25 _ _ _ (w32_w _) (w32_of (xw_zr cv5))
      · refine xS_of (pc' := 67) (L' := [(0, xa 536), (1, xi (w32 (x1 * v2))), (3, xi v5)]) (st' := [xa 536]) (m' := m5) (fun ex ns r q => ?_) ?_
        · refine xw_if_eqF rfl (w32_cg (w32_of (xw_zr cv5))) h2 ?_
          refine xw_aload_n rfl rfl rfl ?_
          refine xw_lo (L2 := [(0, xa 536), (1, xi (w32 (x1 * v2))), (3, xi v5)]) (List.forall_mem_cons.mpr ⟨rfl, List.forall_mem_cons.mpr ⟨rfl, List.forall_mem_cons.mpr ⟨rfl, fun _ h => absurd h List.not_mem_nil⟩⟩⟩) ?_
          exact q
        refine xS_call (q := 248) (n := 1) (kq := 0) (as := [xa 536]) (st1 := []) rfl rfl rfl rfl rfl rfl rfl rfl rfl rfl (fun _ => xw_rcv1 (t := 12) (xw_obd (by decide +kernel)) rfl) rfl (List.forall_mem_cons.mpr ⟨rfl, fun _ h => absurd h List.not_mem_nil⟩) (ygf248 hB _) (fun v6 m6 cv6 => ?_)
        refine xS_of (pc' := 70) (L' := [(0, xa 536), (1, xi (w32 (x1 * v2))), (3, xi v5)]) (st' := []) (m' := m6) (fun ex ns r q => ?_) ?_
        · refine xw_lo (L2 := [(0, xa 536), (1, xi (w32 (x1 * v2))), (3, xi v5)]) (List.forall_mem_cons.mpr ⟨rfl, List.forall_mem_cons.mpr ⟨rfl, List.forall_mem_cons.mpr ⟨rfl, fun _ h => absurd h List.not_mem_nil⟩⟩⟩) ?_
          exact q
        exact ygk281_70 hB hr25 _ _ _ (w32_w _) (w32_of (xw_zr cv5))
theorem ygl281_25 {B : Nat} (hB : B ≤ 512) {xs : Nat → Int32} {SL d : Nat} : ∀ n x1 x2 m, w32 x1 = x1 → w32 x2 = x2 → xS B xs SL (d + 7) 281 (4, none, [], 13) 0 25 [(0, xa 536), (1, xi x1), (2, xi x2)] [] m (xl2 (yl281_25 B) n x1 x2 m) := by
  intro n
  induction n with
  | zero => intro x1 x2 m c1 c2; exact xS_none
  | succ n ih => exact ysl281_25 hB ih
theorem ygf281 {B : Nat} (hB : B ≤ 512) {xs : Nat → Int32} {SL d : Nat} : ∀ m, xS B xs SL (d + 7) 281 (4, none, [], 13) 0 0 [(0, xa 536)] [] m (yf281 B m) := by
  intro m
  unfold yf281
  refine xS_of (pc' := 9) (L' := [(0, xa 536)]) (st' := [xa 536]) (m' := (xw_u m 536 26 (xR m 536 9))) (fun ex ns r q => ?_) ?_
  · refine xw_aload_n rfl rfl rfl ?_
    refine xw_aload_n rfl rfl rfl ?_
    refine xw_gfIc (v := (m 536 9)) (v' := (xR m 536 9)) rfl (xw_obd (by decide +kernel)) xk12_9 (qi := 9) rfl rfl rfl ?_
    refine xw_pfI rfl (xw_obd (by decide +kernel)) xk12_26 (qi := 26) rfl (xw_okI rfl) ?_
    refine xw_aload_n rfl rfl rfl ?_
    refine xw_lo (L2 := [(0, xa 536)]) (List.forall_mem_cons.mpr ⟨rfl, fun _ h => absurd h List.not_mem_nil⟩) ?_
    exact q
  refine xS_call (q := 248) (n := 1) (kq := 0) (as := [xa 536]) (st1 := []) rfl rfl rfl rfl rfl rfl rfl rfl rfl rfl (fun _ => xw_rcv1 (t := 12) (xw_obd (by decide +kernel)) rfl) rfl (List.forall_mem_cons.mpr ⟨rfl, fun _ h => absurd h List.not_mem_nil⟩) (ygf248 hB _) (fun v1 m1 cv1 => ?_)
  refine xS_of (pc' := 18) (L' := [(0, xa 536), (1, xi 1)]) (st' := [xi 6, xa 536, xa 536]) (m' := m1) (fun ex ns r q => ?_) ?_
  · refine xw_iconst rfl ?_
    refine xw_istore_n (L' := [(1, xi 1), (0, xa 536)]) rfl (by decide) rfl ?_
    refine xw_aload_n rfl rfl rfl ?_
    refine xw_aload_n rfl rfl rfl ?_
    refine xw_bipush (e := 6) rfl (by decide +kernel) ?_
    refine xw_lo (L2 := [(0, xa 536), (1, xi 1)]) (List.forall_mem_cons.mpr ⟨rfl, List.forall_mem_cons.mpr ⟨rfl, fun _ h => absurd h List.not_mem_nil⟩⟩) ?_
    exact q
  refine xS_call (q := 257) (n := 2) (kq := 4) (as := [xa 536, xi 6]) (st1 := [xa 536]) rfl rfl rfl rfl rfl rfl rfl rfl rfl rfl (fun _ => xw_rcv1 (t := 12) (xw_obd (by decide +kernel)) rfl) rfl (List.forall_mem_cons.mpr ⟨rfl, List.forall_mem_cons.mpr ⟨rfl, fun _ h => absurd h List.not_mem_nil⟩⟩) (ygf257 hB _ _ rfl) (fun v2 m2 cv2 => ?_)
  refine xS_of (pc' := 21) (L' := [(0, xa 536), (1, xi 1)]) (st' := [xi v2, xa 536]) (m' := m2) (fun ex ns r q => ?_) ?_
  · refine xw_lo (L2 := [(0, xa 536), (1, xi 1)]) (List.forall_mem_cons.mpr ⟨rfl, List.forall_mem_cons.mpr ⟨rfl, fun _ h => absurd h List.not_mem_nil⟩⟩) ?_
    exact q
  refine xS_call (q := 258) (n := 2) (kq := 4) (as := [xa 536, xi v2]) (st1 := []) rfl rfl rfl rfl rfl rfl rfl rfl rfl rfl (fun _ => xw_rcv1 (t := 12) (xw_obd (by decide +kernel)) rfl) rfl (List.forall_mem_cons.mpr ⟨rfl, List.forall_mem_cons.mpr ⟨rfl, fun _ h => absurd h List.not_mem_nil⟩⟩) (ygf258 hB _ _ (w32_of (xw_zr cv2))) (fun v3 m3 cv3 => ?_)
  refine xS_of (pc' := 25) (L' := [(0, xa 536), (1, xi 1), (2, xi v3)]) (st' := []) (m' := m3) (fun ex ns r q => ?_) ?_
  · refine xw_istore_n (L' := [(2, xi v3), (0, xa 536), (1, xi 1)]) rfl (by decide) rfl ?_
    refine xw_lo (L2 := [(0, xa 536), (1, xi 1), (2, xi v3)]) (List.forall_mem_cons.mpr ⟨rfl, List.forall_mem_cons.mpr ⟨rfl, List.forall_mem_cons.mpr ⟨rfl, fun _ h => absurd h List.not_mem_nil⟩⟩⟩) ?_
    exact q
  exact ygl281_25 hB 1000000 _ _ _ rfl (w32_of (xw_zr cv3))
theorem ygk284_119 {B : Nat} (hB : B ≤ 512) {xs : Nat → Int32} {SL d : Nat} {r14 : Int → Int → xw_M → xP} (hr14 : ∀ x1 x2 m, w32 x2 = x2 → xS B xs SL (d + 0) 284 (8, none, [], 13) 0 14 [(1, xa x1), (2, xi x2)] [] m (r14 x1 x2 m)) {r26 : Int → Int → Int → Int → Int → xw_M → xP} (hr26 : ∀ x1 x2 x3 x4 x5 m, w32 x2 = x2 → w32 x3 = x3 → w32 x4 = x4 → w32 x5 = x5 → xS B xs SL (d + 0) 284 (8, none, [], 13) 0 26 [(1, xa x1), (2, xi x2), (3, xi x3), (4, xi x4), (5, xi x5)] [] m (r26 x1 x2 x3 x4 x5 m)) : ∀ x1 x2 x4 x5 m, w32 x2 = x2 → w32 x4 = x4 → w32 x5 = x5 → xS B xs SL (d + 0) 284 (8, none, [], 13) 0 119 [(1, xa x1), (2, xi x2), (4, xi x4), (5, xi x5)] [] m (yk284_119 B r14 r26 x1 x2 x4 x5 m) := by
  intro x1 x2 x4 x5 m c2 c4 c5
  unfold yk284_119
  refine xS_g (fun g0 => ?_)
  refine xS_g (fun g1 => ?_)
  refine xS_g (fun g2 => ?_)
  refine xS_of (pc' := 26) (L' := [(1, xa x1), (2, xi x2), (3, xi 1), (4, xi (w32 (x4 + (xR m (xw_rf x1 8) x5)))), (5, xi (w32 (x5 + 1)))]) (st' := []) (m' := m) (fun ex ns r q => ?_) ?_
  · refine xw_iconst rfl ?_
    refine xw_goto rfl ?_
    refine xw_istore_n (L' := [(3, xi 1), (1, xa x1), (2, xi x2), (4, xi x4), (5, xi x5)]) rfl (by decide) rfl ?_
    refine xw_iload rfl rfl ?_
    refine xw_aload_n rfl rfl rfl ?_
    refine xw_gfV (qi := 8) rfl (xw_obd g0) xk13_8 rfl ?_
    refine xw_iload rfl rfl ?_
    refine xw_ialdc (n := (xw_le B (xw_rf x1 8))) (v := (m (xw_rf x1 8) x5)) (v' := (xR m (xw_rf x1 8) x5)) rfl hB (xw_obd g2) rfl g1 rfl rfl ?_
    refine xw_iadd rfl ?_
    refine xw_cst (st' := [xi (w32 (x4 + (xR m (xw_rf x1 8) x5)))]) (xw_sc (xi_c rfl) rfl) ?_
    refine xw_istore (L' := [(4, xi (w32 (x4 + (xR m (xw_rf x1 8) x5)))), (3, xi 1), (1, xa x1), (2, xi x2), (5, xi x5)]) rfl (by decide) rfl ?_
    refine xw_iincc (z := (w32 (x5 + 1))) (L' := [(5, xi (w32 (x5 + 1))), (4, xi (w32 (x4 + (xR m (xw_rf x1 8) x5)))), (3, xi 1), (1, xa x1), (2, xi x2)]) rfl rfl (by decide) rfl rfl ?_
    refine xw_goto rfl ?_
    refine xw_lo (L2 := [(1, xa x1), (2, xi x2), (3, xi 1), (4, xi (w32 (x4 + (xR m (xw_rf x1 8) x5)))), (5, xi (w32 (x5 + 1)))]) (List.forall_mem_cons.mpr ⟨rfl, List.forall_mem_cons.mpr ⟨rfl, List.forall_mem_cons.mpr ⟨rfl, List.forall_mem_cons.mpr ⟨rfl, List.forall_mem_cons.mpr ⟨rfl, fun _ h => absurd h List.not_mem_nil⟩⟩⟩⟩⟩) ?_
    exact q
  exact hr26 _ _ _ _ _ _ c2 rfl (w32_w _) (w32_w _)
theorem ygk284_123 {B : Nat} (hB : B ≤ 512) {xs : Nat → Int32} {SL d : Nat} {r14 : Int → Int → xw_M → xP} (hr14 : ∀ x1 x2 m, w32 x2 = x2 → xS B xs SL (d + 0) 284 (8, none, [], 13) 0 14 [(1, xa x1), (2, xi x2)] [] m (r14 x1 x2 m)) {r26 : Int → Int → Int → Int → Int → xw_M → xP} (hr26 : ∀ x1 x2 x3 x4 x5 m, w32 x2 = x2 → w32 x3 = x3 → w32 x4 = x4 → w32 x5 = x5 → xS B xs SL (d + 0) 284 (8, none, [], 13) 0 26 [(1, xa x1), (2, xi x2), (3, xi x3), (4, xi x4), (5, xi x5)] [] m (r26 x1 x2 x3 x4 x5 m)) : ∀ x1 x2 x4 x5 m, w32 x2 = x2 → w32 x4 = x4 → w32 x5 = x5 → xS B xs SL (d + 0) 284 (8, none, [], 13) 0 123 [(1, xa x1), (2, xi x2), (4, xi x4), (5, xi x5)] [] m (yk284_123 B r14 r26 x1 x2 x4 x5 m) := by
  intro x1 x2 x4 x5 m c2 c4 c5
  unfold yk284_123
  refine xS_g (fun g0 => ?_)
  refine xS_g (fun g1 => ?_)
  refine xS_g (fun g2 => ?_)
  refine xS_of (pc' := 26) (L' := [(1, xa x1), (2, xi x2), (3, xi 0), (4, xi (w32 (x4 + (xR m (xw_rf x1 8) x5)))), (5, xi (w32 (x5 + 1)))]) (st' := []) (m' := m) (fun ex ns r q => ?_) ?_
  · refine xw_iconst rfl ?_
    refine xw_istore_n (L' := [(3, xi 0), (1, xa x1), (2, xi x2), (4, xi x4), (5, xi x5)]) rfl (by decide) rfl ?_
    refine xw_iload rfl rfl ?_
    refine xw_aload_n rfl rfl rfl ?_
    refine xw_gfV (qi := 8) rfl (xw_obd g0) xk13_8 rfl ?_
    refine xw_iload rfl rfl ?_
    refine xw_ialdc (n := (xw_le B (xw_rf x1 8))) (v := (m (xw_rf x1 8) x5)) (v' := (xR m (xw_rf x1 8) x5)) rfl hB (xw_obd g2) rfl g1 rfl rfl ?_
    refine xw_iadd rfl ?_
    refine xw_cst (st' := [xi (w32 (x4 + (xR m (xw_rf x1 8) x5)))]) (xw_sc (xi_c rfl) rfl) ?_
    refine xw_istore (L' := [(4, xi (w32 (x4 + (xR m (xw_rf x1 8) x5)))), (3, xi 0), (1, xa x1), (2, xi x2), (5, xi x5)]) rfl (by decide) rfl ?_
    refine xw_iincc (z := (w32 (x5 + 1))) (L' := [(5, xi (w32 (x5 + 1))), (4, xi (w32 (x4 + (xR m (xw_rf x1 8) x5)))), (3, xi 0), (1, xa x1), (2, xi x2)]) rfl rfl (by decide) rfl rfl ?_
    refine xw_goto rfl ?_
    refine xw_lo (L2 := [(1, xa x1), (2, xi x2), (3, xi 0), (4, xi (w32 (x4 + (xR m (xw_rf x1 8) x5)))), (5, xi (w32 (x5 + 1)))]) (List.forall_mem_cons.mpr ⟨rfl, List.forall_mem_cons.mpr ⟨rfl, List.forall_mem_cons.mpr ⟨rfl, List.forall_mem_cons.mpr ⟨rfl, List.forall_mem_cons.mpr ⟨rfl, fun _ h => absurd h List.not_mem_nil⟩⟩⟩⟩⟩) ?_
    exact q
  exact hr26 _ _ _ _ _ _ c2 rfl (w32_w _) (w32_w _)
theorem ygk284_98 {B : Nat} (hB : B ≤ 512) {xs : Nat → Int32} {SL d : Nat} {r14 : Int → Int → xw_M → xP} (hr14 : ∀ x1 x2 m, w32 x2 = x2 → xS B xs SL (d + 0) 284 (8, none, [], 13) 0 14 [(1, xa x1), (2, xi x2)] [] m (r14 x1 x2 m)) {r26 : Int → Int → Int → Int → Int → xw_M → xP} (hr26 : ∀ x1 x2 x3 x4 x5 m, w32 x2 = x2 → w32 x3 = x3 → w32 x4 = x4 → w32 x5 = x5 → xS B xs SL (d + 0) 284 (8, none, [], 13) 0 26 [(1, xa x1), (2, xi x2), (3, xi x3), (4, xi x4), (5, xi x5)] [] m (r26 x1 x2 x3 x4 x5 m)) : ∀ x1 x2 x4 x5 x6 m, w32 x2 = x2 → w32 x4 = x4 → w32 x5 = x5 → w32 x6 = x6 → xS B xs SL (d + 0) 284 (8, none, [], 13) 0 98 [(1, xa x1), (2, xi x2), (4, xi x4), (5, xi x5), (6, xi x6)] [] m (yk284_98 B r14 r26 x1 x2 x4 x5 x6 m) := by
  intro x1 x2 x4 x5 x6 m c2 c4 c5 c6
  unfold yk284_98
  refine xS_g (fun g0 => ?_)
  refine xS_g (fun g1 => ?_)
  refine xS_g (fun g2 => ?_)
  refine xS_of (pc' := 106) (L' := [(1, xa x1), (2, xi x2), (4, xi x4), (5, xi x5), (6, xi x6)]) (st' := [xi 1, xi (xR m (xw_rf x1 7) x5)]) (m' := m) (fun ex ns r q => ?_) ?_
  · refine xw_aload_n rfl rfl rfl ?_
    refine xw_gfV (qi := 7) rfl (xw_obd g0) xk13_7 rfl ?_
    refine xw_iload rfl rfl ?_
    refine xw_ialdc (n := (xw_le B (xw_rf x1 7))) (v := (m (xw_rf x1 7) x5)) (v' := (xR m (xw_rf x1 7) x5)) rfl hB (xw_obd g2) rfl g1 rfl rfl ?_
    refine xw_iconst rfl ?_
    exact q
  refine xS_if (fun h3 => ?_) (fun h3 => ?_)
  · refine xS_of (pc' := 116) (L' := [(1, xa x1), (2, xi x2), (4, xi x4), (5, xi x5), (6, xi x6)]) (st' := [xi (xw_iandf x6 (x6 + 1))]) (m' := m) (fun ex ns r q => ?_) ?_
    · refine xw_ic_neF rfl (w32_cg (w32_xR _ _ _)) (w32_cg rfl) h3 ?_
      refine xw_iload rfl rfl ?_
      refine xw_iload rfl rfl ?_
      refine xw_iconst rfl ?_
      refine xw_iadd rfl ?_
      refine xw_iand (z := (xw_iandf x6 (x6 + 1))) rfl (xw_iande _ _) ?_
      exact q
    refine xS_if (fun h4 => ?_) (fun h4 => ?_)
    · refine xS_of (pc' := 119) (L' := [(1, xa x1), (2, xi x2), (4, xi x4), (5, xi x5)]) (st' := []) (m' := m) (fun ex ns r q => ?_) ?_
      · refine xw_if_neF rfl (w32_cg (w32_ti _)) h4 ?_
        refine xw_lo (L2 := [(1, xa x1), (2, xi x2), (4, xi x4), (5, xi x5)]) (List.forall_mem_cons.mpr ⟨rfl, List.forall_mem_cons.mpr ⟨rfl, List.forall_mem_cons.mpr ⟨rfl, List.forall_mem_cons.mpr ⟨rfl, fun _ h => absurd h List.not_mem_nil⟩⟩⟩⟩) ?_
        exact q
      exact ygk284_119 hB hr14 hr26 _ _ _ _ _ c2 c4 c5
    · refine xS_of (pc' := 123) (L' := [(1, xa x1), (2, xi x2), (4, xi x4), (5, xi x5)]) (st' := []) (m' := m) (fun ex ns r q => ?_) ?_
      · refine xw_if_neT rfl (w32_cg (w32_ti _)) h4 ?_
        refine xw_lo (L2 := [(1, xa x1), (2, xi x2), (4, xi x4), (5, xi x5)]) (List.forall_mem_cons.mpr ⟨rfl, List.forall_mem_cons.mpr ⟨rfl, List.forall_mem_cons.mpr ⟨rfl, List.forall_mem_cons.mpr ⟨rfl, fun _ h => absurd h List.not_mem_nil⟩⟩⟩⟩) ?_
        exact q
      exact ygk284_123 hB hr14 hr26 _ _ _ _ _ c2 c4 c5
  · refine xS_of (pc' := 123) (L' := [(1, xa x1), (2, xi x2), (4, xi x4), (5, xi x5)]) (st' := []) (m' := m) (fun ex ns r q => ?_) ?_
    · refine xw_ic_neT rfl (w32_cg (w32_xR _ _ _)) (w32_cg rfl) h3 ?_
      refine xw_lo (L2 := [(1, xa x1), (2, xi x2), (4, xi x4), (5, xi x5)]) (List.forall_mem_cons.mpr ⟨rfl, List.forall_mem_cons.mpr ⟨rfl, List.forall_mem_cons.mpr ⟨rfl, List.forall_mem_cons.mpr ⟨rfl, fun _ h => absurd h List.not_mem_nil⟩⟩⟩⟩) ?_
      exact q
    exact ygk284_123 hB hr14 hr26 _ _ _ _ _ c2 c4 c5
theorem ysl284_26 {B : Nat} (hB : B ≤ 512) {xs : Nat → Int32} {SL d : Nat} {r14 : Int → Int → xw_M → xP} (hr14 : ∀ x1 x2 m, w32 x2 = x2 → xS B xs SL (d + 0) 284 (8, none, [], 13) 0 14 [(1, xa x1), (2, xi x2)] [] m (r14 x1 x2 m)) {r26 : Int → Int → Int → Int → Int → xw_M → xP} (hr26 : ∀ x1 x2 x3 x4 x5 m, w32 x2 = x2 → w32 x3 = x3 → w32 x4 = x4 → w32 x5 = x5 → xS B xs SL (d + 0) 284 (8, none, [], 13) 0 26 [(1, xa x1), (2, xi x2), (3, xi x3), (4, xi x4), (5, xi x5)] [] m (r26 x1 x2 x3 x4 x5 m)) : ∀ x1 x2 x3 x4 x5 m, w32 x2 = x2 → w32 x3 = x3 → w32 x4 = x4 → w32 x5 = x5 → xS B xs SL (d + 0) 284 (8, none, [], 13) 0 26 [(1, xa x1), (2, xi x2), (3, xi x3), (4, xi x4), (5, xi x5)] [] m (yl284_26 B r14 r26 x1 x2 x3 x4 x5 m) := by
  intro x1 x2 x3 x4 x5 m c2 c3 c4 c5
  unfold yl284_26
  refine xS_g (fun g0 => ?_)
  refine xS_of (pc' := 32) (L' := [(1, xa x1), (2, xi x2), (3, xi x3), (4, xi x4), (5, xi x5)]) (st' := [xi (xR m x1 6), xi x5]) (m' := m) (fun ex ns r q => ?_) ?_
  · refine xw_iload rfl rfl ?_
    refine xw_aload_n rfl rfl rfl ?_
    refine xw_gfIc (v := (m x1 6)) (v' := (xR m x1 6)) rfl (xw_obd g0) xk13_6 (qi := 6) rfl rfl rfl ?_
    exact q
  refine xS_if (fun h1 => ?_) (fun h1 => ?_)
  · refine xS_g (fun g2 => ?_)
    refine xS_g (fun g3 => ?_)
    refine xS_of (pc' := 67) (L' := [(7, xi (w32 ((xw_ishlf 1 (xR m (xw_rf x1 8) x5)) - 1))), (6, xi (xw_iandf (xw_ishrf x2 x4) ((xw_ishlf 1 (xR m (xw_rf x1 8) x5)) - 1))), (1, xa x1), (2, xi x2), (3, xi x3), (4, xi x4), (5, xi x5)]) (st' := [xi x3]) (m' := m) (fun ex ns r q => ?_) ?_
    · refine xw_ic_geF rfl (w32_cg c5) (w32_cg (w32_xR _ _ _)) (Int.not_le.mpr h1) ?_
      refine xw_iload_n rfl rfl ?_
      refine xw_iload rfl rfl ?_
      refine xw_ishr (z := (xw_ishrf x2 x4)) rfl (xw_ishre _ _) ?_
      refine xw_iconst rfl ?_
      refine xw_aload_n rfl rfl rfl ?_
      refine xw_gfV (qi := 8) rfl (xw_obd g0) xk13_8 rfl ?_
      refine xw_iload rfl rfl ?_
      refine xw_ialdc (n := (xw_le B (xw_rf x1 8))) (v := (m (xw_rf x1 8) x5)) (v' := (xR m (xw_rf x1 8) x5)) rfl hB (xw_obd g3) rfl g2 rfl rfl ?_
      refine xw_ishl (z := (xw_ishlf 1 (xR m (xw_rf x1 8) x5))) rfl (xw_ishle _ _) ?_
      refine xw_iconst rfl ?_
      refine xw_isub rfl ?_
      refine xw_iand (z := (xw_iandf (xw_ishrf x2 x4) ((xw_ishlf 1 (xR m (xw_rf x1 8) x5)) - 1))) rfl (xw_iande _ _) ?_
      refine xw_istore (L' := [(6, xi (xw_iandf (xw_ishrf x2 x4) ((xw_ishlf 1 (xR m (xw_rf x1 8) x5)) - 1))), (1, xa x1), (2, xi x2), (3, xi x3), (4, xi x4), (5, xi x5)]) rfl (by decide) rfl ?_
      refine xw_iconst rfl ?_
      refine xw_aload_n rfl rfl rfl ?_
      refine xw_gfV (qi := 8) rfl (xw_obd g0) xk13_8 rfl ?_
      refine xw_iload rfl rfl ?_
      refine xw_ialdc (n := (xw_le B (xw_rf x1 8))) (v := (m (xw_rf x1 8) x5)) (v' := (xR m (xw_rf x1 8) x5)) rfl hB (xw_obd g3) rfl g2 rfl rfl ?_
      refine xw_ishl (z := (xw_ishlf 1 (xR m (xw_rf x1 8) x5))) rfl (xw_ishle _ _) ?_
      refine xw_iconst rfl ?_
      refine xw_isub rfl ?_
      refine xw_cst (st' := [xi (w32 ((xw_ishlf 1 (xR m (xw_rf x1 8) x5)) - 1))]) (xw_sc (xi_c rfl) rfl) ?_
      refine xw_istore (L' := [(7, xi (w32 ((xw_ishlf 1 (xR m (xw_rf x1 8) x5)) - 1))), (6, xi (xw_iandf (xw_ishrf x2 x4) ((xw_ishlf 1 (xR m (xw_rf x1 8) x5)) - 1))), (1, xa x1), (2, xi x2), (3, xi x3), (4, xi x4), (5, xi x5)]) rfl (by decide) rfl ?_
      refine xw_iload_n rfl rfl ?_
      exact q
    refine xS_if (fun h4 => ?_) (fun h4 => ?_)
    · refine xS_of (pc' := 123) (L' := [(1, xa x1), (2, xi x2), (4, xi x4), (5, xi x5)]) (st' := []) (m' := m) (fun ex ns r q => ?_) ?_
      · refine xw_if_eqT rfl (w32_cg c3) h4 ?_
        refine xw_lo (L2 := [(1, xa x1), (2, xi x2), (4, xi x4), (5, xi x5)]) (List.forall_mem_cons.mpr ⟨rfl, List.forall_mem_cons.mpr ⟨rfl, List.forall_mem_cons.mpr ⟨rfl, List.forall_mem_cons.mpr ⟨rfl, fun _ h => absurd h List.not_mem_nil⟩⟩⟩⟩) ?_
        exact q
      exact ygk284_123 hB hr14 hr26 _ _ _ _ _ c2 c4 c5
    · refine xS_g (fun g5 => ?_)
      refine xS_g (fun g6 => ?_)
      refine xS_of (pc' := 78) (L' := [(7, xi (w32 ((xw_ishlf 1 (xR m (xw_rf x1 8) x5)) - 1))), (6, xi (xw_iandf (xw_ishrf x2 x4) ((xw_ishlf 1 (xR m (xw_rf x1 8) x5)) - 1))), (1, xa x1), (2, xi x2), (3, xi x3), (4, xi x4), (5, xi x5)]) (st' := [xi 2, xi (xR m (xw_rf x1 7) x5)]) (m' := m) (fun ex ns r q => ?_) ?_
      · refine xw_if_eqF rfl (w32_cg c3) h4 ?_
        refine xw_aload_n rfl rfl rfl ?_
        refine xw_gfV (qi := 7) rfl (xw_obd g0) xk13_7 rfl ?_
        refine xw_iload rfl rfl ?_
        refine xw_ialdc (n := (xw_le B (xw_rf x1 7))) (v := (m (xw_rf x1 7) x5)) (v' := (xR m (xw_rf x1 7) x5)) rfl hB (xw_obd g6) rfl g5 rfl rfl ?_
        refine xw_iconst rfl ?_
        exact q
      refine xS_if (fun h7 => ?_) (fun h7 => ?_)
      · refine xS_of (pc' := 119) (L' := [(1, xa x1), (2, xi x2), (4, xi x4), (5, xi x5)]) (st' := []) (m' := m) (fun ex ns r q => ?_) ?_
        · refine xw_ic_eqT rfl (w32_cg (w32_xR _ _ _)) (w32_cg rfl) h7 ?_
          refine xw_lo (L2 := [(1, xa x1), (2, xi x2), (4, xi x4), (5, xi x5)]) (List.forall_mem_cons.mpr ⟨rfl, List.forall_mem_cons.mpr ⟨rfl, List.forall_mem_cons.mpr ⟨rfl, List.forall_mem_cons.mpr ⟨rfl, fun _ h => absurd h List.not_mem_nil⟩⟩⟩⟩) ?_
          exact q
        exact ygk284_119 hB hr14 hr26 _ _ _ _ _ c2 c4 c5
      · refine xS_of (pc' := 88) (L' := [(7, xi (w32 ((xw_ishlf 1 (xR m (xw_rf x1 8) x5)) - 1))), (6, xi (xw_iandf (xw_ishrf x2 x4) ((xw_ishlf 1 (xR m (xw_rf x1 8) x5)) - 1))), (1, xa x1), (2, xi x2), (3, xi x3), (4, xi x4), (5, xi x5)]) (st' := [xi (xR m (xw_rf x1 7) x5)]) (m' := m) (fun ex ns r q => ?_) ?_
        · refine xw_ic_eqF rfl (w32_cg (w32_xR _ _ _)) (w32_cg rfl) h7 ?_
          refine xw_aload_n rfl rfl rfl ?_
          refine xw_gfV (qi := 7) rfl (xw_obd g0) xk13_7 rfl ?_
          refine xw_iload rfl rfl ?_
          refine xw_ialdc (n := (xw_le B (xw_rf x1 7))) (v := (m (xw_rf x1 7) x5)) (v' := (xR m (xw_rf x1 7) x5)) rfl hB (xw_obd g6) rfl g5 rfl rfl ?_
          exact q
        refine xS_if (fun h8 => ?_) (fun h8 => ?_)
        · refine xS_of (pc' := 95) (L' := [(7, xi (w32 ((xw_ishlf 1 (xR m (xw_rf x1 8) x5)) - 1))), (6, xi (xw_iandf (xw_ishrf x2 x4) ((xw_ishlf 1 (xR m (xw_rf x1 8) x5)) - 1))), (1, xa x1), (2, xi x2), (3, xi x3), (4, xi x4), (5, xi x5)]) (st' := [xi (w32 ((xw_ishlf 1 (xR m (xw_rf x1 8) x5)) - 1)), xi (xw_iandf (xw_ishrf x2 x4) ((xw_ishlf 1 (xR m (xw_rf x1 8) x5)) - 1))]) (m' := m) (fun ex ns r q => ?_) ?_
          · refine xw_if_neF rfl (w32_cg (w32_xR _ _ _)) h8 ?_
            refine xw_iload rfl rfl ?_
            refine xw_iload rfl rfl ?_
            exact q
          refine xS_if (fun h9 => ?_) (fun h9 => ?_)
          · refine xS_of (pc' := 119) (L' := [(1, xa x1), (2, xi x2), (4, xi x4), (5, xi x5)]) (st' := []) (m' := m) (fun ex ns r q => ?_) ?_
            · refine xw_ic_eqT rfl (w32_cg (w32_ti _)) (w32_cg (w32_w _)) h9 ?_
              refine xw_lo (L2 := [(1, xa x1), (2, xi x2), (4, xi x4), (5, xi x5)]) (List.forall_mem_cons.mpr ⟨rfl, List.forall_mem_cons.mpr ⟨rfl, List.forall_mem_cons.mpr ⟨rfl, List.forall_mem_cons.mpr ⟨rfl, fun _ h => absurd h List.not_mem_nil⟩⟩⟩⟩) ?_
              exact q
            exact ygk284_119 hB hr14 hr26 _ _ _ _ _ c2 c4 c5
          · refine xS_of (pc' := 98) (L' := [(1, xa x1), (2, xi x2), (4, xi x4), (5, xi x5), (6, xi (xw_iandf (xw_ishrf x2 x4) ((xw_ishlf 1 (xR m (xw_rf x1 8) x5)) - 1)))]) (st' := []) (m' := m) (fun ex ns r q => ?_) ?_
            · refine xw_ic_eqF rfl (w32_cg (w32_ti _)) (w32_cg (w32_w _)) h9 ?_
              refine xw_lo (L2 := [(1, xa x1), (2, xi x2), (4, xi x4), (5, xi x5), (6, xi (xw_iandf (xw_ishrf x2 x4) ((xw_ishlf 1 (xR m (xw_rf x1 8) x5)) - 1)))]) (List.forall_mem_cons.mpr ⟨rfl, List.forall_mem_cons.mpr ⟨rfl, List.forall_mem_cons.mpr ⟨rfl, List.forall_mem_cons.mpr ⟨rfl, List.forall_mem_cons.mpr ⟨rfl, fun _ h => absurd h List.not_mem_nil⟩⟩⟩⟩⟩) ?_
              exact q
            exact ygk284_98 hB hr14 hr26 _ _ _ _ _ _ c2 c4 c5 (w32_ti _)
        · refine xS_of (pc' := 98) (L' := [(1, xa x1), (2, xi x2), (4, xi x4), (5, xi x5), (6, xi (xw_iandf (xw_ishrf x2 x4) ((xw_ishlf 1 (xR m (xw_rf x1 8) x5)) - 1)))]) (st' := []) (m' := m) (fun ex ns r q => ?_) ?_
          · refine xw_if_neT rfl (w32_cg (w32_xR _ _ _)) h8 ?_
            refine xw_lo (L2 := [(1, xa x1), (2, xi x2), (4, xi x4), (5, xi x5), (6, xi (xw_iandf (xw_ishrf x2 x4) ((xw_ishlf 1 (xR m (xw_rf x1 8) x5)) - 1)))]) (List.forall_mem_cons.mpr ⟨rfl, List.forall_mem_cons.mpr ⟨rfl, List.forall_mem_cons.mpr ⟨rfl, List.forall_mem_cons.mpr ⟨rfl, List.forall_mem_cons.mpr ⟨rfl, fun _ h => absurd h List.not_mem_nil⟩⟩⟩⟩⟩) ?_
            exact q
          exact ygk284_98 hB hr14 hr26 _ _ _ _ _ _ c2 c4 c5 (w32_ti _)
  · refine xS_of (pc' := 144) (L' := [(1, xa x1), (2, xi x2), (3, xi x3), (4, xi x4), (5, xi x5)]) (st' := [xi x3]) (m' := m) (fun ex ns r q => ?_) ?_
    · refine xw_ic_geT rfl (w32_cg c5) (w32_cg (w32_xR _ _ _)) (Int.not_lt.mp h1) ?_
      refine xw_iload_n rfl rfl ?_
      exact q
    refine xS_if (fun h2 => ?_) (fun h2 => ?_)
    · refine xS_of (pc' := 14) (L' := [(1, xa x1), (2, xi (w32 (x2 + (-1))))]) (st' := []) (m' := m) (fun ex ns r q => ?_) ?_
      · refine xw_if_eqT rfl (w32_cg c3) h2 ?_
        refine xw_iincc (z := (w32 (x2 + (-1)))) (L' := [(2, xi (w32 (x2 + (-1)))), (1, xa x1), (3, xi x3), (4, xi x4), (5, xi x5)]) rfl rfl (by decide) rfl rfl ?_
        refine xw_goto rfl ?_
        refine xw_lo (L2 := [(1, xa x1), (2, xi (w32 (x2 + (-1))))]) (List.forall_mem_cons.mpr ⟨rfl, List.forall_mem_cons.mpr ⟨rfl, fun _ h => absurd h List.not_mem_nil⟩⟩) ?_
        exact q
      exact hr14 _ _ _ (w32_w _)
    · refine xS_g (fun g3 => ?_)
      refine xS_g (fun g4 => ?_)
      refine xS_of (pc' := 14) (L' := [(1, xa x1), (2, xi (w32 (x2 + (-1))))]) (st' := []) (m' := (xw_u (xw_u m (xw_rf x1 10) (xR m x1 9) x2) x1 9 ((xR m x1 9) + 1))) (fun ex ns r q => ?_) ?_
      · refine xw_if_eqF rfl (w32_cg c3) h2 ?_
        refine xw_aload_n rfl rfl rfl ?_
        refine xw_gfV (qi := 10) rfl (xw_obd g0) xk13_10 rfl ?_
        refine xw_aload_n rfl rfl rfl ?_
        refine xw_gfIc (v := (m x1 9)) (v' := (xR m x1 9)) rfl (xw_obd g0) xk13_9 (qi := 9) rfl rfl rfl ?_
        refine xw_iload_n rfl rfl ?_
        refine xw_iast (n := (xw_le B (xw_rf x1 10))) rfl hB (xw_obd g4) rfl g3 ?_
        refine xw_aload_n rfl rfl rfl ?_
        refine xw_dup rfl rfl ?_
        refine xw_gfIc (v := (m x1 9)) (v' := (xR m x1 9)) rfl (xw_obd g0) xk13_9 (qi := 9) rfl (xw_un (xw_obne (t := 16) (t' := 13) (xw_obd g4) (xw_obd g0) (by decide)) rfl) rfl ?_
        refine xw_iconst rfl ?_
        refine xw_iadd rfl ?_
        refine xw_pfI rfl (xw_obd g0) xk13_9 (qi := 9) rfl (xw_okI rfl) ?_
        refine xw_iincc (z := (w32 (x2 + (-1)))) (L' := [(2, xi (w32 (x2 + (-1)))), (1, xa x1), (3, xi x3), (4, xi x4), (5, xi x5)]) rfl rfl (by decide) rfl rfl ?_
        refine xw_goto rfl ?_
        refine xw_lo (L2 := [(1, xa x1), (2, xi (w32 (x2 + (-1))))]) (List.forall_mem_cons.mpr ⟨rfl, List.forall_mem_cons.mpr ⟨rfl, fun _ h => absurd h List.not_mem_nil⟩⟩) ?_
        exact q
      exact hr14 _ _ _ (w32_w _)
theorem ygl284_26 {B : Nat} (hB : B ≤ 512) {xs : Nat → Int32} {SL d : Nat} {r14 : Int → Int → xw_M → xP} (hr14 : ∀ x1 x2 m, w32 x2 = x2 → xS B xs SL (d + 0) 284 (8, none, [], 13) 0 14 [(1, xa x1), (2, xi x2)] [] m (r14 x1 x2 m)) : ∀ n x1 x2 x3 x4 x5 m, w32 x2 = x2 → w32 x3 = x3 → w32 x4 = x4 → w32 x5 = x5 → xS B xs SL (d + 0) 284 (8, none, [], 13) 0 26 [(1, xa x1), (2, xi x2), (3, xi x3), (4, xi x4), (5, xi x5)] [] m (xl5 (yl284_26 B r14) n x1 x2 x3 x4 x5 m) := by
  intro n
  induction n with
  | zero => intro x1 x2 x3 x4 x5 m c2 c3 c4 c5; exact xS_none
  | succ n ih => exact ysl284_26 hB hr14 ih
theorem ysl284_14 {B : Nat} (hB : B ≤ 512) {xs : Nat → Int32} {SL d : Nat} {r14 : Int → Int → xw_M → xP} (hr14 : ∀ x1 x2 m, w32 x2 = x2 → xS B xs SL (d + 0) 284 (8, none, [], 13) 0 14 [(1, xa x1), (2, xi x2)] [] m (r14 x1 x2 m)) : ∀ x1 x2 m, w32 x2 = x2 → xS B xs SL (d + 0) 284 (8, none, [], 13) 0 14 [(1, xa x1), (2, xi x2)] [] m (yl284_14 B r14 x1 x2 m) := by
  intro x1 x2 m c2
  unfold yl284_14
  refine xS_of (pc' := 15) (L' := [(1, xa x1), (2, xi x2)]) (st' := [xi x2]) (m' := m) (fun ex ns r q => ?_) ?_
  · refine xw_iload_n rfl rfl ?_
    exact q
  refine xS_if (fun h0 => ?_) (fun h0 => ?_)
  · refine xS_of (pc' := 173) (L' := [(1, xa x1), (2, xi x2)]) (st' := []) (m' := m) (fun ex ns r q => ?_) ?_
    · refine xw_if_ltT rfl (w32_cg c2) h0 ?_
      exact q
    exact xS_ret (v := 0) rfl rfl rfl rfl
  · refine xS_of (pc' := 26) (L' := [(1, xa x1), (2, xi x2), (3, xi 1), (4, xi 0), (5, xi 0)]) (st' := []) (m' := m) (fun ex ns r q => ?_) ?_
    · refine xw_if_ltF rfl (w32_cg c2) h0 ?_
      refine xw_iconst rfl ?_
      refine xw_istore_n (L' := [(3, xi 1), (1, xa x1), (2, xi x2)]) rfl (by decide) rfl ?_
      refine xw_iconst rfl ?_
      refine xw_istore (L' := [(4, xi 0), (3, xi 1), (1, xa x1), (2, xi x2)]) rfl (by decide) rfl ?_
      refine xw_iconst rfl ?_
      refine xw_istore (L' := [(5, xi 0), (4, xi 0), (3, xi 1), (1, xa x1), (2, xi x2)]) rfl (by decide) rfl ?_
      refine xw_lo (L2 := [(1, xa x1), (2, xi x2), (3, xi 1), (4, xi 0), (5, xi 0)]) (List.forall_mem_cons.mpr ⟨rfl, List.forall_mem_cons.mpr ⟨rfl, List.forall_mem_cons.mpr ⟨rfl, List.forall_mem_cons.mpr ⟨rfl, List.forall_mem_cons.mpr ⟨rfl, fun _ h => absurd h List.not_mem_nil⟩⟩⟩⟩⟩) ?_
      exact q
    exact ygl284_26 hB hr14 1000000 _ _ _ _ _ _ c2 rfl rfl rfl
theorem ygl284_14 {B : Nat} (hB : B ≤ 512) {xs : Nat → Int32} {SL d : Nat} : ∀ n x1 x2 m, w32 x2 = x2 → xS B xs SL (d + 0) 284 (8, none, [], 13) 0 14 [(1, xa x1), (2, xi x2)] [] m (xl2 (yl284_14 B) n x1 x2 m) := by
  intro n
  induction n with
  | zero => intro x1 x2 m c2; exact xS_none
  | succ n ih => exact ysl284_14 hB ih
theorem ygf284 {B : Nat} (hB : B ≤ 512) {xs : Nat → Int32} {SL d : Nat} : ∀ p0 m, xS B xs SL (d + 0) 284 (8, none, [], 13) 0 0 [(0, xa 536), (1, xa p0)] [] m (yf284 B p0 m) := by
  intro p0 m
  unfold yf284
  refine xS_g (fun g0 => ?_)
  refine xS_of (pc' := 14) (L' := [(1, xa p0), (2, xi (w32 ((xw_ishlf 1 (xR m p0 4)) - 1)))]) (st' := []) (m' := (xw_u m p0 9 0)) (fun ex ns r q => ?_) ?_
  · refine xw_aload_n rfl rfl rfl ?_
    refine xw_iconst rfl ?_
    refine xw_pfI rfl (xw_obd g0) xk13_9 (qi := 9) rfl (xw_okI rfl) ?_
    refine xw_iconst rfl ?_
    refine xw_aload_n rfl rfl rfl ?_
    refine xw_gfIc (v := (m p0 4)) (v' := (xR m p0 4)) rfl (xw_obd g0) xk13_4 (qi := 4) rfl (xw_un (fun e => absurd e.2 (by decide)) rfl) rfl ?_
    refine xw_ishl (z := (xw_ishlf 1 (xR m p0 4))) rfl (xw_ishle _ _) ?_
    refine xw_iconst rfl ?_
    refine xw_isub rfl ?_
    refine xw_cst (st' := [xi (w32 ((xw_ishlf 1 (xR m p0 4)) - 1))]) (xw_sc (xi_c rfl) rfl) ?_
    refine xw_istore_n (L' := [(2, xi (w32 ((xw_ishlf 1 (xR m p0 4)) - 1))), (0, xa 536), (1, xa p0)]) rfl (by decide) rfl ?_
    refine xw_lo (L2 := [(1, xa p0), (2, xi (w32 ((xw_ishlf 1 (xR m p0 4)) - 1)))]) (List.forall_mem_cons.mpr ⟨rfl, List.forall_mem_cons.mpr ⟨rfl, fun _ h => absurd h List.not_mem_nil⟩⟩) ?_
    exact q
  exact ygl284_14 hB 1000000 _ _ _ (w32_w _)
theorem ygf289 {B : Nat} (hB : B ≤ 512) {xs : Nat → Int32} {SL d : Nat} : ∀ p0 p1 p2 m, w32 p0 = p0 → w32 p1 = p1 → w32 p2 = p2 → xS B xs SL (d + 0) 289 (4, (some .int), [], 13) 1 0 [(0, xa 536), (1, xi p0), (2, xi p1), (3, xi p2)] [] m (yf289 B p0 p1 p2 m) := by
  intro p0 p1 p2 m cp0 cp1 cp2
  unfold yf289
  refine xS_g (fun g0 => ?_)
  refine xS_of (pc' := 16) (L' := [(0, xa 536), (1, xi p0), (2, xi p1), (3, xi p2)]) (st' := [xi (xR m 540 (((4000 * p0) + (4 * p2)) + p1))]) (m' := m) (fun ex ns r q => ?_) ?_
  · refine xw_aload_n rfl rfl rfl ?_
    refine xw_gfR (n := 540) (e := 540) rfl (xw_obd (by decide +kernel)) (by decide +kernel) (by decide +kernel) rfl ?_
    refine xw_sipush (e := 4000) rfl (by decide +kernel) ?_
    refine xw_iload_n rfl rfl ?_
    refine xw_imul rfl ?_
    refine xw_iconst rfl ?_
    refine xw_iload_n rfl rfl ?_
    refine xw_imul rfl ?_
    refine xw_iadd rfl ?_
    refine xw_iload_n rfl rfl ?_
    refine xw_iadd rfl ?_
    refine xw_ialdc (n := 32000) (v := (m 540 (((4000 * p0) + (4 * p2)) + p1))) (v' := (xR m 540 (((4000 * p0) + (4 * p2)) + p1))) rfl hB (xw_obd (by decide +kernel)) rfl g0 rfl rfl ?_
    exact q
  exact xS_ret (v := (xR m 540 (((4000 * p0) + (4 * p2)) + p1))) rfl rfl xw_rtI (w32_xR _ _ _)
