/-! the machine does what the functions say, 4 -/
theorem ygf140 {B : Nat} (hB : B ≤ 512) {xs : Nat → Int32} {SL d : Nat} : ∀ m, xS B xs SL (d + 1) 140 (2, none, [], 3) 0 0 [(0, xa 3), (1, xa 1)] [] m (yf140 B m) := by
  intro m
  unfold yf140
  refine xS_g (fun g0 => ?_)
  refine xS_of (pc' := 18) (L' := []) (st' := [xa (6 + (xR m 3 2)), xa 1, xi (xR m 3 2), xa 14]) (m' := m) (fun ex ns r q => ?_) ?_
  · refine xw_aload_n rfl rfl rfl ?_
    refine xw_gfR (n := 14) (e := 14) rfl (xw_obd (by decide +kernel)) (by decide +kernel) (by decide +kernel) rfl ?_
    refine xw_aload_n rfl rfl rfl ?_
    refine xw_gfIc (v := (m 3 2)) (v' := (xR m 3 2)) rfl (xw_obd (by decide +kernel)) xk2_2 (qi := 2) rfl rfl rfl ?_
    refine xw_aload_n rfl rfl rfl ?_
    refine xw_aload_n rfl rfl rfl ?_
    refine xw_gfR (n := 5) (e := 5) rfl (xw_obd (by decide +kernel)) (by decide +kernel) (by decide +kernel) rfl ?_
    refine xw_aload_n rfl rfl rfl ?_
    refine xw_gfIc (v := (m 3 2)) (v' := (xR m 3 2)) rfl (xw_obd (by decide +kernel)) xk2_2 (qi := 2) rfl rfl rfl ?_
    refine xw_aald (t := 22) (n := 8) (q := 6 + 1 * ((xR m 3 2)).toNat) (e := (6 + (xR m 3 2))) rfl hB (xw_obd (by decide +kernel)) (by decide) rfl g0 (show 11 + 1 * ((xR m 3 2) : Int).toNat = 6 + 1 * ((xR m 3 2) : Int).toNat + 5 from by omega) (by have := g0; omega) ?_
    refine xw_lo (L2 := []) (fun _ h => absurd h List.not_mem_nil) ?_
    exact q
  refine xS_call (q := 137) (n := 2) (kq := 1) (as := [xa 1, xa (6 + (xR m 3 2))]) (st1 := [xi (xR m 3 2), xa 14]) rfl rfl rfl rfl rfl rfl rfl rfl rfl rfl (fun _ => xw_rcv1 (t := 1) (xw_obd (by decide +kernel)) rfl) rfl (List.forall_mem_cons.mpr ⟨rfl, List.forall_mem_cons.mpr ⟨rfl, fun _ h => absurd h List.not_mem_nil⟩⟩) (ygf137 hB _ _) (fun v1 m1 cv1 => ?_)
  refine xS_of (pc' := 22) (L' := []) (st' := []) (m' := (xw_u m1 14 (xR m 3 2) v1)) (fun ex ns r q => ?_) ?_
  · refine xw_iast (n := 8) rfl hB (xw_obd (by decide +kernel)) rfl g0 ?_
    exact q
  exact xS_ret (v := 0) rfl rfl rfl rfl
theorem ygf139 {B : Nat} (hB : B ≤ 512) {xs : Nat → Int32} {SL d : Nat} : ∀ m, xS B xs SL (d + 3) 139 (1, none, [], 6) 0 0 [(0, xa 293)] [] m (yf139 B m) := by
  intro m
  unfold yf139
  refine xS_of (pc' := 4) (L' := [(0, xa 293)]) (st' := [xa 1]) (m' := m) (fun ex ns r q => ?_) ?_
  · refine xw_aload_n rfl rfl rfl ?_
    refine xw_gfR (n := 1) (e := 1) rfl (xw_obd (by decide +kernel)) (by decide +kernel) (by decide +kernel) rfl ?_
    refine xw_lo (L2 := [(0, xa 293)]) (List.forall_mem_cons.mpr ⟨rfl, fun _ h => absurd h List.not_mem_nil⟩) ?_
    exact q
  refine xS_call (q := 47) (n := 1) (kq := 0) (as := [xa 1]) (st1 := []) rfl rfl rfl rfl rfl rfl rfl rfl rfl rfl (fun _ => xw_rcv1 (t := 1) (xw_obd (by decide +kernel)) rfl) rfl (List.forall_mem_cons.mpr ⟨rfl, fun _ h => absurd h List.not_mem_nil⟩) (ygf47 hB _) (fun v1 m1 cv1 => ?_)
  refine xS_of (pc' := 8) (L' := [(0, xa 293)]) (st' := [xa 293]) (m' := m1) (fun ex ns r q => ?_) ?_
  · refine xw_aload_n rfl rfl rfl ?_
    refine xw_lo (L2 := [(0, xa 293)]) (List.forall_mem_cons.mpr ⟨rfl, fun _ h => absurd h List.not_mem_nil⟩) ?_
    exact q
  refine xS_call (q := 135) (n := 1) (kq := 0) (as := [xa 293]) (st1 := []) rfl rfl rfl rfl rfl rfl rfl rfl rfl rfl (fun _ => xw_rcv1 (t := 5) (xw_obd (by decide +kernel)) rfl) rfl (List.forall_mem_cons.mpr ⟨rfl, fun _ h => absurd h List.not_mem_nil⟩) (ygf135 hB _) (fun v2 m2 cv2 => ?_)
  refine xS_of (pc' := 21) (L' := [(0, xa 293)]) (st' := [xi 8, xi (xR m2 3 2), xa 293]) (m' := m2) (fun ex ns r q => ?_) ?_
  · refine xw_aload_n rfl rfl rfl ?_
    refine xw_aload_n rfl rfl rfl ?_
    refine xw_gfR (n := 3) (e := 3) rfl (xw_obd (by decide +kernel)) (by decide +kernel) (by decide +kernel) rfl ?_
    refine xw_gfIc (v := (m2 3 2)) (v' := (xR m2 3 2)) rfl (xw_obd (by decide +kernel)) xk2_2 (qi := 2) rfl rfl rfl ?_
    refine xw_bipush (e := 8) rfl (by decide +kernel) ?_
    refine xw_lo (L2 := [(0, xa 293)]) (List.forall_mem_cons.mpr ⟨rfl, fun _ h => absurd h List.not_mem_nil⟩) ?_
    exact q
  refine xS_call (q := 64) (n := 3) (kq := 0) (as := [xa 293, xi (xR m2 3 2), xi 8]) (st1 := []) rfl rfl rfl rfl rfl rfl rfl rfl rfl rfl (fun _ => xw_rcv1 (t := 5) (xw_obd (by decide +kernel)) rfl) rfl (List.forall_mem_cons.mpr ⟨rfl, List.forall_mem_cons.mpr ⟨rfl, List.forall_mem_cons.mpr ⟨rfl, fun _ h => absurd h List.not_mem_nil⟩⟩⟩) (ygf64 hB _ _ _ (w32_xR _ _ _) rfl) (fun v3 m3 cv3 => ?_)
  refine xS_of (pc' := 32) (L' := [(0, xa 293)]) (st' := [xa 1, xa 3]) (m' := m3) (fun ex ns r q => ?_) ?_
  · refine xw_aload_n rfl rfl rfl ?_
    refine xw_gfR (n := 3) (e := 3) rfl (xw_obd (by decide +kernel)) (by decide +kernel) (by decide +kernel) rfl ?_
    refine xw_aload_n rfl rfl rfl ?_
    refine xw_gfR (n := 1) (e := 1) rfl (xw_obd (by decide +kernel)) (by decide +kernel) (by decide +kernel) rfl ?_
    refine xw_lo (L2 := [(0, xa 293)]) (List.forall_mem_cons.mpr ⟨rfl, fun _ h => absurd h List.not_mem_nil⟩) ?_
    exact q
  refine xS_call (q := 140) (n := 2) (kq := 0) (as := [xa 3, xa 1]) (st1 := []) rfl rfl rfl rfl rfl rfl rfl rfl rfl rfl (fun _ => xw_rcv1 (t := 2) (xw_obd (by decide +kernel)) rfl) rfl (List.forall_mem_cons.mpr ⟨rfl, List.forall_mem_cons.mpr ⟨rfl, fun _ h => absurd h List.not_mem_nil⟩⟩) (ygf140 hB _) (fun v4 m4 cv4 => ?_)
  refine xS_of (pc' := 41) (L' := [(0, xa 293)]) (st' := [xi 59, xa 1]) (m' := m4) (fun ex ns r q => ?_) ?_
  · refine xw_aload_n rfl rfl rfl ?_
    refine xw_gfR (n := 1) (e := 1) rfl (xw_obd (by decide +kernel)) (by decide +kernel) (by decide +kernel) rfl ?_
    refine xw_bipush (e := 59) rfl (by decide +kernel) ?_
    refine xw_lo (L2 := [(0, xa 293)]) (List.forall_mem_cons.mpr ⟨rfl, fun _ h => absurd h List.not_mem_nil⟩) ?_
    exact q
  refine xS_call (q := 68) (n := 2) (kq := 0) (as := [xa 1, xi 59]) (st1 := []) rfl rfl rfl rfl rfl rfl rfl rfl rfl rfl (fun _ => xw_rcv1 (t := 1) (xw_obd (by decide +kernel)) rfl) rfl (List.forall_mem_cons.mpr ⟨rfl, List.forall_mem_cons.mpr ⟨rfl, fun _ h => absurd h List.not_mem_nil⟩⟩) (ygf68 hB _ _ rfl) (fun v5 m5 cv5 => ?_)
  refine xS_of (pc' := 57) (L' := [(0, xa 293)]) (st' := []) (m' := (xw_u m5 3 2 ((xR m5 3 2) + 1))) (fun ex ns r q => ?_) ?_
  · refine xw_aload_n rfl rfl rfl ?_
    refine xw_gfR (n := 3) (e := 3) rfl (xw_obd (by decide +kernel)) (by decide +kernel) (by decide +kernel) rfl ?_
    refine xw_dup rfl rfl ?_
    refine xw_gfIc (v := (m5 3 2)) (v' := (xR m5 3 2)) rfl (xw_obd (by decide +kernel)) xk2_2 (qi := 2) rfl rfl rfl ?_
    refine xw_iconst rfl ?_
    refine xw_iadd rfl ?_
    refine xw_pfI rfl (xw_obd (by decide +kernel)) xk2_2 (qi := 2) rfl (xw_okI rfl) ?_
    exact q
  exact xS_ret (v := 0) rfl rfl rfl rfl
theorem ygk142_75 {B : Nat} (hB : B ≤ 512) {xs : Nat → Int32} {SL d : Nat} : ∀ x2 m, w32 x2 = x2 → xS B xs SL (d + 3) 142 (4, (some .int), [], 6) 1 75 [(0, xa 293), (2, xi x2)] [] m (yk142_75 B x2 m) := by
  intro x2 m c2
  unfold yk142_75
  refine xS_of (pc' := 84) (L' := [(0, xa 293), (2, xi x2)]) (st' := [xi 41, xi (xR m 1 3)]) (m' := m) (fun ex ns r q => ?_) ?_
  · refine xw_aload_n rfl rfl rfl ?_
    refine xw_gfR (n := 1) (e := 1) rfl (xw_obd (by decide +kernel)) (by decide +kernel) (by decide +kernel) rfl ?_
    refine xw_gfIc (v := (m 1 3)) (v' := (xR m 1 3)) rfl (xw_obd (by decide +kernel)) xk1_3 (qi := 3) rfl rfl rfl ?_
    refine xw_bipush (e := 41) rfl (by decide +kernel) ?_
    exact q
  refine xS_if (fun h0 => ?_) (fun h0 => ?_)
  · refine xS_of (pc' := 95) (L' := [(0, xa 293), (2, xi x2)]) (st' := [xi x2]) (m' := m) (fun ex ns r q => ?_) ?_
    · refine xw_ic_eqT rfl (w32_cg (w32_xR _ _ _)) (w32_cg rfl) h0 ?_
      refine xw_iload_n rfl rfl ?_
      exact q
    exact xS_ret (v := x2) rfl rfl xw_rtI c2
  · refine xS_of (pc' := 91) (L' := [(2, xi x2)]) (st' := [xa 1]) (m' := m) (fun ex ns r q => ?_) ?_
    · refine xw_ic_eqF rfl (w32_cg (w32_xR _ _ _)) (w32_cg rfl) h0 ?_
      refine xw_aload_n rfl rfl rfl ?_
      refine xw_gfR (n := 1) (e := 1) rfl (xw_obd (by decide +kernel)) (by decide +kernel) (by decide +kernel) rfl ?_
      refine xw_lo (L2 := [(2, xi x2)]) (List.forall_mem_cons.mpr ⟨rfl, fun _ h => absurd h List.not_mem_nil⟩) ?_
      exact q
    refine xS_call (q := 56) (n := 1) (kq := 0) (as := [xa 1]) (st1 := []) rfl rfl rfl rfl rfl rfl rfl rfl rfl rfl (fun _ => xw_rcv1 (t := 1) (xw_obd (by decide +kernel)) rfl) rfl (List.forall_mem_cons.mpr ⟨rfl, fun _ h => absurd h List.not_mem_nil⟩) (ygf56 hB _) (fun v1 m1 cv1 => ?_)
    refine xS_of (pc' := 95) (L' := [(2, xi x2)]) (st' := [xi x2]) (m' := m1) (fun ex ns r q => ?_) ?_
    · refine xw_iload_n rfl rfl ?_
      exact q
    exact xS_ret (v := x2) rfl rfl xw_rtI c2
theorem ygk142_44 {B : Nat} (hB : B ≤ 512) {xs : Nat → Int32} {SL d : Nat} {r4 : Int → Int → Int → xw_M → xP} (hr4 : ∀ x1 x2 x3 m, w32 x2 = x2 → w32 x3 = x3 → xS B xs SL (d + 3) 142 (4, (some .int), [], 6) 1 4 [(0, xa 293), (1, xa x1), (2, xi x2), (3, xi x3)] [] m (r4 x1 x2 x3 m)) : ∀ x1 x2 x3 m, w32 x2 = x2 → w32 x3 = x3 → xS B xs SL (d + 3) 142 (4, (some .int), [], 6) 1 44 [(0, xa 293), (1, xa x1), (2, xi x2), (3, xi x3)] [] m (yk142_44 B r4 x1 x2 x3 m) := by
  intro x1 x2 x3 m c2 c3
  unfold yk142_44
  refine xS_of (pc' := 51) (L' := [(0, xa 293), (1, xa x1), (2, xi (w32 (x2 + 1))), (3, xi x3)]) (st' := [xa 1]) (m' := m) (fun ex ns r q => ?_) ?_
  · refine xw_iincc (z := (w32 (x2 + 1))) (L' := [(2, xi (w32 (x2 + 1))), (0, xa 293), (1, xa x1), (3, xi x3)]) rfl rfl (by decide) rfl rfl ?_
    refine xw_aload_n rfl rfl rfl ?_
    refine xw_gfR (n := 1) (e := 1) rfl (xw_obd (by decide +kernel)) (by decide +kernel) (by decide +kernel) rfl ?_
    refine xw_lo (L2 := [(0, xa 293), (1, xa x1), (2, xi (w32 (x2 + 1))), (3, xi x3)]) (List.forall_mem_cons.mpr ⟨rfl, List.forall_mem_cons.mpr ⟨rfl, List.forall_mem_cons.mpr ⟨rfl, List.forall_mem_cons.mpr ⟨rfl, fun _ h => absurd h List.not_mem_nil⟩⟩⟩⟩) ?_
    exact q
  refine xS_call (q := 47) (n := 1) (kq := 0) (as := [xa 1]) (st1 := []) rfl rfl rfl rfl rfl rfl rfl rfl rfl rfl (fun _ => xw_rcv1 (t := 1) (xw_obd (by decide +kernel)) rfl) rfl (List.forall_mem_cons.mpr ⟨rfl, fun _ h => absurd h List.not_mem_nil⟩) (ygf47 hB _) (fun v1 m1 cv1 => ?_)
  refine xS_of (pc' := 63) (L' := [(0, xa 293), (1, xa x1), (2, xi (w32 (x2 + 1))), (3, xi x3)]) (st' := [xi 44, xi (xR m1 1 3)]) (m' := m1) (fun ex ns r q => ?_) ?_
  · refine xw_aload_n rfl rfl rfl ?_
    refine xw_gfR (n := 1) (e := 1) rfl (xw_obd (by decide +kernel)) (by decide +kernel) (by decide +kernel) rfl ?_
    refine xw_gfIc (v := (m1 1 3)) (v' := (xR m1 1 3)) rfl (xw_obd (by decide +kernel)) xk1_3 (qi := 3) rfl rfl rfl ?_
    refine xw_bipush (e := 44) rfl (by decide +kernel) ?_
    exact q
  refine xS_if (fun h0 => ?_) (fun h0 => ?_)
  · refine xS_of (pc' := 4) (L' := [(0, xa 293), (1, xa x1), (2, xi (w32 (x2 + 1))), (3, xi (w32 (x3 + 1)))]) (st' := []) (m' := m1) (fun ex ns r q => ?_) ?_
    · refine xw_ic_eqT rfl (w32_cg (w32_xR _ _ _)) (w32_cg rfl) h0 ?_
      refine xw_iincc (z := (w32 (x3 + 1))) (L' := [(3, xi (w32 (x3 + 1))), (0, xa 293), (1, xa x1), (2, xi (w32 (x2 + 1)))]) rfl rfl (by decide) rfl rfl ?_
      refine xw_goto rfl ?_
      refine xw_lo (L2 := [(0, xa 293), (1, xa x1), (2, xi (w32 (x2 + 1))), (3, xi (w32 (x3 + 1)))]) (List.forall_mem_cons.mpr ⟨rfl, List.forall_mem_cons.mpr ⟨rfl, List.forall_mem_cons.mpr ⟨rfl, List.forall_mem_cons.mpr ⟨rfl, fun _ h => absurd h List.not_mem_nil⟩⟩⟩⟩) ?_
      exact q
    exact hr4 _ _ _ _ (w32_w _) (w32_w _)
  · refine xS_of (pc' := 75) (L' := [(0, xa 293), (2, xi (w32 (x2 + 1)))]) (st' := []) (m' := m1) (fun ex ns r q => ?_) ?_
    · refine xw_ic_eqF rfl (w32_cg (w32_xR _ _ _)) (w32_cg rfl) h0 ?_
      refine xw_goto rfl ?_
      refine xw_lo (L2 := [(0, xa 293), (2, xi (w32 (x2 + 1)))]) (List.forall_mem_cons.mpr ⟨rfl, List.forall_mem_cons.mpr ⟨rfl, fun _ h => absurd h List.not_mem_nil⟩⟩) ?_
      exact q
    exact ygk142_75 hB _ _ (w32_w _)
theorem ysl142_4 {B : Nat} (hB : B ≤ 512) {xs : Nat → Int32} {SL d : Nat} {r4 : Int → Int → Int → xw_M → xP} (hr4 : ∀ x1 x2 x3 m, w32 x2 = x2 → w32 x3 = x3 → xS B xs SL (d + 3) 142 (4, (some .int), [], 6) 1 4 [(0, xa 293), (1, xa x1), (2, xi x2), (3, xi x3)] [] m (r4 x1 x2 x3 m)) : ∀ x1 x2 x3 m, w32 x2 = x2 → w32 x3 = x3 → xS B xs SL (d + 3) 142 (4, (some .int), [], 6) 1 4 [(0, xa 293), (1, xa x1), (2, xi x2), (3, xi x3)] [] m (yl142_4 B r4 x1 x2 x3 m) := by
  intro x1 x2 x3 m c2 c3
  unfold yl142_4
  refine xS_of (pc' := 7) (L' := [(0, xa 293), (1, xa x1), (2, xi x2), (3, xi x3)]) (st' := [xi 65536, xi x3]) (m' := m) (fun ex ns r q => ?_) ?_
  · refine xw_iload_n rfl rfl ?_
    refine xw_ldc (e := 65536) rfl (by decide +kernel) ?_
    exact q
  refine xS_if (fun h0 => ?_) (fun h0 => ?_)
  · refine xS_of (pc' := 15) (L' := [(0, xa 293), (1, xa x1), (2, xi x2), (3, xi x3)]) (st' := [xi 3, xa 1]) (m' := m) (fun ex ns r q => ?_) ?_
    · refine xw_ic_geF rfl (w32_cg c3) (w32_cg rfl) (Int.not_le.mpr h0) ?_
      refine xw_aload_n rfl rfl rfl ?_
      refine xw_gfR (n := 1) (e := 1) rfl (xw_obd (by decide +kernel)) (by decide +kernel) (by decide +kernel) rfl ?_
      refine xw_iconst rfl ?_
      refine xw_lo (L2 := [(0, xa 293), (1, xa x1), (2, xi x2), (3, xi x3)]) (List.forall_mem_cons.mpr ⟨rfl, List.forall_mem_cons.mpr ⟨rfl, List.forall_mem_cons.mpr ⟨rfl, List.forall_mem_cons.mpr ⟨rfl, fun _ h => absurd h List.not_mem_nil⟩⟩⟩⟩) ?_
      exact q
    refine xS_call (q := 68) (n := 2) (kq := 0) (as := [xa 1, xi 3]) (st1 := []) rfl rfl rfl rfl rfl rfl rfl rfl rfl rfl (fun _ => xw_rcv1 (t := 1) (xw_obd (by decide +kernel)) rfl) rfl (List.forall_mem_cons.mpr ⟨rfl, List.forall_mem_cons.mpr ⟨rfl, fun _ h => absurd h List.not_mem_nil⟩⟩) (ygf68 hB _ _ rfl) (fun v1 m1 cv1 => ?_)
    refine xS_g (fun g1 => ?_)
    refine xS_of (pc' := 23) (L' := [(0, xa 293), (1, xa x1), (2, xi x2), (3, xi x3)]) (st' := [xi (xR m1 x1 10), xi x2]) (m' := m1) (fun ex ns r q => ?_) ?_
    · refine xw_iload_n rfl rfl ?_
      refine xw_aload_n rfl rfl rfl ?_
      refine xw_gfIc (v := (m1 x1 10)) (v' := (xR m1 x1 10)) rfl (xw_obd g1) xk3_10 (qi := 10) rfl rfl rfl ?_
      exact q
    refine xS_if (fun h2 => ?_) (fun h2 => ?_)
    · refine xS_g (fun g3 => ?_)
      refine xS_g (fun g4 => ?_)
      refine xS_g (fun g5 => ?_)
      refine xS_g (fun g6 => ?_)
      refine xS_g (fun g7 => ?_)
      refine xS_of (pc' := 44) (L' := [(0, xa 293), (1, xa x1), (2, xi x2), (3, xi x3)]) (st' := []) (m' := (xw_u m1 (xw_rf (xw_rf x1 3) x2) (xR m1 x1 12) (xR m1 1 5))) (fun ex ns r q => ?_) ?_
      · refine xw_ic_geF rfl (w32_cg c2) (w32_cg (w32_xR _ _ _)) (Int.not_le.mpr h2) ?_
        refine xw_aload_n rfl rfl rfl ?_
        refine xw_gfV (qi := 3) rfl (xw_obd g1) xk3_3 rfl ?_
        refine xw_iload_n rfl rfl ?_
        refine xw_aald (t := 20) (n := (xw_le B (xw_rf x1 3))) (q := xw_kd (xw_rf x1 3) x2 - 5) (e := (xw_rf (xw_rf x1 3) x2)) rfl hB (xw_obd g5) (by decide) rfl g3 (by have := g4; omega) (xw_rfn g4) ?_
        refine xw_aload_n rfl rfl rfl ?_
        refine xw_gfIc (v := (m1 x1 12)) (v' := (xR m1 x1 12)) rfl (xw_obd g1) xk3_12 (qi := 12) rfl rfl rfl ?_
        refine xw_aload_n rfl rfl rfl ?_
        refine xw_gfR (n := 1) (e := 1) rfl (xw_obd (by decide +kernel)) (by decide +kernel) (by decide +kernel) rfl ?_
        refine xw_gfIc (v := (m1 1 5)) (v' := (xR m1 1 5)) rfl (xw_obd (by decide +kernel)) xk1_5 (qi := 5) rfl rfl rfl ?_
        refine xw_iast (n := (xw_le B (xw_rf (xw_rf x1 3) x2))) rfl hB (xw_obd g7) rfl g6 ?_
        refine xw_lo (L2 := [(0, xa 293), (1, xa x1), (2, xi x2), (3, xi x3)]) (List.forall_mem_cons.mpr ⟨rfl, List.forall_mem_cons.mpr ⟨rfl, List.forall_mem_cons.mpr ⟨rfl, List.forall_mem_cons.mpr ⟨rfl, fun _ h => absurd h List.not_mem_nil⟩⟩⟩⟩) ?_
        exact q
      exact ygk142_44 hB hr4 _ _ _ _ c2 c3
    · refine xS_of (pc' := 44) (L' := [(0, xa 293), (1, xa x1), (2, xi x2), (3, xi x3)]) (st' := []) (m' := m1) (fun ex ns r q => ?_) ?_
      · refine xw_ic_geT rfl (w32_cg c2) (w32_cg (w32_xR _ _ _)) (Int.not_lt.mp h2) ?_
        refine xw_lo (L2 := [(0, xa 293), (1, xa x1), (2, xi x2), (3, xi x3)]) (List.forall_mem_cons.mpr ⟨rfl, List.forall_mem_cons.mpr ⟨rfl, List.forall_mem_cons.mpr ⟨rfl, List.forall_mem_cons.mpr ⟨rfl, fun _ h => absurd h List.not_mem_nil⟩⟩⟩⟩) ?_
        exact q
      exact ygk142_44 hB hr4 _ _ _ _ c2 c3
  · refine xS_of (pc' := 75) (L' := [(0, xa 293), (2, xi x2)]) (st' := []) (m' := m) (fun ex ns r q => ?_) ?_
    · refine xw_ic_geT rfl (w32_cg c3) (w32_cg rfl) (Int.not_lt.mp h0) ?_
      refine xw_lo (L2 := [(0, xa 293), (2, xi x2)]) (List.forall_mem_cons.mpr ⟨rfl, List.forall_mem_cons.mpr ⟨rfl, fun _ h => absurd h List.not_mem_nil⟩⟩) ?_
      exact q
    exact ygk142_75 hB _ _ c2
theorem ygl142_4 {B : Nat} (hB : B ≤ 512) {xs : Nat → Int32} {SL d : Nat} : ∀ n x1 x2 x3 m, w32 x2 = x2 → w32 x3 = x3 → xS B xs SL (d + 3) 142 (4, (some .int), [], 6) 1 4 [(0, xa 293), (1, xa x1), (2, xi x2), (3, xi x3)] [] m (xl3 (yl142_4 B) n x1 x2 x3 m) := by
  intro n
  induction n with
  | zero => intro x1 x2 x3 m c2 c3; exact xS_none
  | succ n ih => exact ysl142_4 hB ih
theorem ygf142 {B : Nat} (hB : B ≤ 512) {xs : Nat → Int32} {SL d : Nat} : ∀ p0 m, xS B xs SL (d + 3) 142 (4, (some .int), [], 6) 1 0 [(0, xa 293), (1, xa p0)] [] m (yf142 B p0 m) := by
  intro p0 m
  unfold yf142
  refine xS_of (pc' := 4) (L' := [(0, xa 293), (1, xa p0), (2, xi 0), (3, xi 0)]) (st' := []) (m' := m) (fun ex ns r q => ?_) ?_
  · refine xw_iconst rfl ?_
    refine xw_istore_n (L' := [(2, xi 0), (0, xa 293), (1, xa p0)]) rfl (by decide) rfl ?_
    refine xw_iconst rfl ?_
    refine xw_istore_n (L' := [(3, xi 0), (2, xi 0), (0, xa 293), (1, xa p0)]) rfl (by decide) rfl ?_
    refine xw_lo (L2 := [(0, xa 293), (1, xa p0), (2, xi 0), (3, xi 0)]) (List.forall_mem_cons.mpr ⟨rfl, List.forall_mem_cons.mpr ⟨rfl, List.forall_mem_cons.mpr ⟨rfl, List.forall_mem_cons.mpr ⟨rfl, fun _ h => absurd h List.not_mem_nil⟩⟩⟩⟩) ?_
    exact q
  exact ygl142_4 hB 1000000 _ _ _ _ rfl rfl
theorem ysl143_38 {B : Nat} (hB : B ≤ 512) {xs : Nat → Int32} {SL d : Nat} {r2 : Int → Int → xw_M → xP} (hr2 : ∀ x0 x1 m, w32 x1 = x1 → xS B xs SL (d + 0) 143 (5, (some .boolean), [], 4) 4 2 [(0, xa x0), (1, xi x1)] [] m (r2 x0 x1 m)) {r38 : Int → Int → Int → Int → xw_M → xP} (hr38 : ∀ x0 x1 x2 x3 m, w32 x1 = x1 → w32 x2 = x2 → w32 x3 = x3 → xS B xs SL (d + 0) 143 (5, (some .boolean), [], 4) 4 38 [(0, xa x0), (1, xi x1), (2, xi x2), (3, xi x3)] [] m (r38 x0 x1 x2 x3 m)) : ∀ x0 x1 x2 x3 m, w32 x1 = x1 → w32 x2 = x2 → w32 x3 = x3 → xS B xs SL (d + 0) 143 (5, (some .boolean), [], 4) 4 38 [(0, xa x0), (1, xi x1), (2, xi x2), (3, xi x3)] [] m (yl143_38 B r2 r38 x0 x1 x2 x3 m) := by
  intro x0 x1 x2 x3 m c1 c2 c3
  unfold yl143_38
  refine xS_g (fun g0 => ?_)
  refine xS_of (pc' := 43) (L' := [(0, xa x0), (1, xi x1), (2, xi x2), (3, xi x3)]) (st' := [xi (xR m x0 10), xi x3]) (m' := m) (fun ex ns r q => ?_) ?_
  · refine xw_iload_n rfl rfl ?_
    refine xw_aload_n rfl rfl rfl ?_
    refine xw_gfIc (v := (m x0 10)) (v' := (xR m x0 10)) rfl (xw_obd g0) xk3_10 (qi := 10) rfl rfl rfl ?_
    exact q
  refine xS_if (fun h1 => ?_) (fun h1 => ?_)
  · refine xS_g (fun g2 => ?_)
    refine xS_g (fun g3 => ?_)
    refine xS_g (fun g4 => ?_)
    refine xS_g (fun g5 => ?_)
    refine xS_g (fun g6 => ?_)
    refine xS_g (fun g7 => ?_)
    refine xS_of (pc' := 65) (L' := [(0, xa x0), (1, xi x1), (2, xi x2), (3, xi x3)]) (st' := [xi (xR m (xw_rf (xw_rf x0 3) x3) (xR m x0 12)), xi (xR m (xw_rf (xw_rf x0 3) x3) x1)]) (m' := m) (fun ex ns r q => ?_) ?_
    · refine xw_ic_geF rfl (w32_cg c3) (w32_cg (w32_xR _ _ _)) (Int.not_le.mpr h1) ?_
      refine xw_aload_n rfl rfl rfl ?_
      refine xw_gfV (qi := 3) rfl (xw_obd g0) xk3_3 rfl ?_
      refine xw_iload_n rfl rfl ?_
      refine xw_aald (t := 20) (n := (xw_le B (xw_rf x0 3))) (q := xw_kd (xw_rf x0 3) x3 - 5) (e := (xw_rf (xw_rf x0 3) x3)) rfl hB (xw_obd g4) (by decide) rfl g2 (by have := g3; omega) (xw_rfn g3) ?_
      refine xw_iload_n rfl rfl ?_
      refine xw_ialdc (n := (xw_le B (xw_rf (xw_rf x0 3) x3))) (v := (m (xw_rf (xw_rf x0 3) x3) x1)) (v' := (xR m (xw_rf (xw_rf x0 3) x3) x1)) rfl hB (xw_obd g6) rfl g5 rfl rfl ?_
      refine xw_aload_n rfl rfl rfl ?_
      refine xw_gfV (qi := 3) rfl (xw_obd g0) xk3_3 rfl ?_
      refine xw_iload_n rfl rfl ?_
      refine xw_aald (t := 20) (n := (xw_le B (xw_rf x0 3))) (q := xw_kd (xw_rf x0 3) x3 - 5) (e := (xw_rf (xw_rf x0 3) x3)) rfl hB (xw_obd g4) (by decide) rfl g2 (by have := g3; omega) (xw_rfn g3) ?_
      refine xw_aload_n rfl rfl rfl ?_
      refine xw_gfIc (v := (m x0 12)) (v' := (xR m x0 12)) rfl (xw_obd g0) xk3_12 (qi := 12) rfl rfl rfl ?_
      refine xw_ialdc (n := (xw_le B (xw_rf (xw_rf x0 3) x3))) (v := (m (xw_rf (xw_rf x0 3) x3) (xR m x0 12))) (v' := (xR m (xw_rf (xw_rf x0 3) x3) (xR m x0 12))) rfl hB (xw_obd g6) rfl g7 rfl rfl ?_
      exact q
    refine xS_if (fun h8 => ?_) (fun h8 => ?_)
    · refine xS_of (pc' := 76) (L' := [(4, xi 1), (0, xa x0), (1, xi x1), (2, xi x2), (3, xi x3)]) (st' := [xi x2]) (m' := m) (fun ex ns r q => ?_) ?_
      · refine xw_ic_neF rfl (w32_cg (w32_xR _ _ _)) (w32_cg (w32_xR _ _ _)) h8 ?_
        refine xw_iconst rfl ?_
        refine xw_goto rfl ?_
        refine xw_istore (L' := [(4, xi 1), (0, xa x0), (1, xi x1), (2, xi x2), (3, xi x3)]) rfl (by decide) rfl ?_
        refine xw_iload_n rfl rfl ?_
        exact q
      refine xS_if (fun h9 => ?_) (fun h9 => ?_)
      · refine xS_of (pc' := 38) (L' := [(0, xa x0), (1, xi x1), (2, xi 1), (3, xi (w32 (x3 + 1)))]) (st' := []) (m' := m) (fun ex ns r q => ?_) ?_
        · refine xw_if_eqT rfl (w32_cg c2) h9 ?_
          refine xw_iload rfl rfl ?_
          refine xw_istore_n (L' := [(2, xi 1), (4, xi 1), (0, xa x0), (1, xi x1), (3, xi x3)]) rfl (by decide) rfl ?_
          refine xw_iincc (z := (w32 (x3 + 1))) (L' := [(3, xi (w32 (x3 + 1))), (2, xi 1), (4, xi 1), (0, xa x0), (1, xi x1)]) rfl rfl (by decide) rfl rfl ?_
          refine xw_goto rfl ?_
          refine xw_lo (L2 := [(0, xa x0), (1, xi x1), (2, xi 1), (3, xi (w32 (x3 + 1)))]) (List.forall_mem_cons.mpr ⟨rfl, List.forall_mem_cons.mpr ⟨rfl, List.forall_mem_cons.mpr ⟨rfl, List.forall_mem_cons.mpr ⟨rfl, fun _ h => absurd h List.not_mem_nil⟩⟩⟩⟩) ?_
          exact q
        exact hr38 _ _ _ _ _ c1 rfl (w32_w _)
      · refine xS_of (pc' := 38) (L' := [(0, xa x0), (1, xi x1), (2, xi 1), (3, xi (w32 (x3 + 1)))]) (st' := []) (m' := m) (fun ex ns r q => ?_) ?_
        · refine xw_if_eqF rfl (w32_cg c2) h9 ?_
          refine xw_iload rfl rfl ?_
          refine xw_if_neT rfl (w32_cg rfl) (by decide) ?_
          refine xw_iload rfl rfl ?_
          refine xw_istore_n (L' := [(2, xi 1), (4, xi 1), (0, xa x0), (1, xi x1), (3, xi x3)]) rfl (by decide) rfl ?_
          refine xw_iincc (z := (w32 (x3 + 1))) (L' := [(3, xi (w32 (x3 + 1))), (2, xi 1), (4, xi 1), (0, xa x0), (1, xi x1)]) rfl rfl (by decide) rfl rfl ?_
          refine xw_goto rfl ?_
          refine xw_lo (L2 := [(0, xa x0), (1, xi x1), (2, xi 1), (3, xi (w32 (x3 + 1)))]) (List.forall_mem_cons.mpr ⟨rfl, List.forall_mem_cons.mpr ⟨rfl, List.forall_mem_cons.mpr ⟨rfl, List.forall_mem_cons.mpr ⟨rfl, fun _ h => absurd h List.not_mem_nil⟩⟩⟩⟩) ?_
          exact q
        exact hr38 _ _ _ _ _ c1 rfl (w32_w _)
    · refine xS_of (pc' := 76) (L' := [(4, xi 0), (0, xa x0), (1, xi x1), (2, xi x2), (3, xi x3)]) (st' := [xi x2]) (m' := m) (fun ex ns r q => ?_) ?_
      · refine xw_ic_neT rfl (w32_cg (w32_xR _ _ _)) (w32_cg (w32_xR _ _ _)) h8 ?_
        refine xw_iconst rfl ?_
        refine xw_istore (L' := [(4, xi 0), (0, xa x0), (1, xi x1), (2, xi x2), (3, xi x3)]) rfl (by decide) rfl ?_
        refine xw_iload_n rfl rfl ?_
        exact q
      refine xS_if (fun h9 => ?_) (fun h9 => ?_)
      · refine xS_of (pc' := 38) (L' := [(0, xa x0), (1, xi x1), (2, xi 0), (3, xi (w32 (x3 + 1)))]) (st' := []) (m' := m) (fun ex ns r q => ?_) ?_
        · refine xw_if_eqT rfl (w32_cg c2) h9 ?_
          refine xw_iload rfl rfl ?_
          refine xw_istore_n (L' := [(2, xi 0), (4, xi 0), (0, xa x0), (1, xi x1), (3, xi x3)]) rfl (by decide) rfl ?_
          refine xw_iincc (z := (w32 (x3 + 1))) (L' := [(3, xi (w32 (x3 + 1))), (2, xi 0), (4, xi 0), (0, xa x0), (1, xi x1)]) rfl rfl (by decide) rfl rfl ?_
          refine xw_goto rfl ?_
          refine xw_lo (L2 := [(0, xa x0), (1, xi x1), (2, xi 0), (3, xi (w32 (x3 + 1)))]) (List.forall_mem_cons.mpr ⟨rfl, List.forall_mem_cons.mpr ⟨rfl, List.forall_mem_cons.mpr ⟨rfl, List.forall_mem_cons.mpr ⟨rfl, fun _ h => absurd h List.not_mem_nil⟩⟩⟩⟩) ?_
          exact q
        exact hr38 _ _ _ _ _ c1 rfl (w32_w _)
      · refine xS_of (pc' := 85) (L' := [(4, xi 0), (0, xa x0), (1, xi x1), (2, xi x2), (3, xi x3)]) (st' := [xi 1]) (m' := m) (fun ex ns r q => ?_) ?_
        · refine xw_if_eqF rfl (w32_cg c2) h9 ?_
          refine xw_iload rfl rfl ?_
          refine xw_if_neF rfl (w32_cg rfl) (by decide) ?_
          refine xw_iconst rfl ?_
          exact q
        exact xS_ret (v := 1) rfl rfl (xw_rtZ (Or.inr rfl)) (Or.inr rfl)
  · refine xS_of (pc' := 2) (L' := [(0, xa x0), (1, xi (w32 (x1 + 1)))]) (st' := []) (m' := m) (fun ex ns r q => ?_) ?_
    · refine xw_ic_geT rfl (w32_cg c3) (w32_cg (w32_xR _ _ _)) (Int.not_lt.mp h1) ?_
      refine xw_iincc (z := (w32 (x1 + 1))) (L' := [(1, xi (w32 (x1 + 1))), (0, xa x0), (2, xi x2), (3, xi x3)]) rfl rfl (by decide) rfl rfl ?_
      refine xw_goto rfl ?_
      refine xw_lo (L2 := [(0, xa x0), (1, xi (w32 (x1 + 1)))]) (List.forall_mem_cons.mpr ⟨rfl, List.forall_mem_cons.mpr ⟨rfl, fun _ h => absurd h List.not_mem_nil⟩⟩) ?_
      exact q
    exact hr2 _ _ _ (w32_w _)
theorem ygl143_38 {B : Nat} (hB : B ≤ 512) {xs : Nat → Int32} {SL d : Nat} {r2 : Int → Int → xw_M → xP} (hr2 : ∀ x0 x1 m, w32 x1 = x1 → xS B xs SL (d + 0) 143 (5, (some .boolean), [], 4) 4 2 [(0, xa x0), (1, xi x1)] [] m (r2 x0 x1 m)) : ∀ n x0 x1 x2 x3 m, w32 x1 = x1 → w32 x2 = x2 → w32 x3 = x3 → xS B xs SL (d + 0) 143 (5, (some .boolean), [], 4) 4 38 [(0, xa x0), (1, xi x1), (2, xi x2), (3, xi x3)] [] m (xl4 (yl143_38 B r2) n x0 x1 x2 x3 m) := by
  intro n
  induction n with
  | zero => intro x0 x1 x2 x3 m c1 c2 c3; exact xS_none
  | succ n ih => exact ysl143_38 hB hr2 ih
theorem ysl143_2 {B : Nat} (hB : B ≤ 512) {xs : Nat → Int32} {SL d : Nat} {r2 : Int → Int → xw_M → xP} (hr2 : ∀ x0 x1 m, w32 x1 = x1 → xS B xs SL (d + 0) 143 (5, (some .boolean), [], 4) 4 2 [(0, xa x0), (1, xi x1)] [] m (r2 x0 x1 m)) : ∀ x0 x1 m, w32 x1 = x1 → xS B xs SL (d + 0) 143 (5, (some .boolean), [], 4) 4 2 [(0, xa x0), (1, xi x1)] [] m (yl143_2 B r2 x0 x1 m) := by
  intro x0 x1 m c1
  unfold yl143_2
  refine xS_g (fun g0 => ?_)
  refine xS_of (pc' := 7) (L' := [(0, xa x0), (1, xi x1)]) (st' := [xi (xR m x0 12), xi x1]) (m' := m) (fun ex ns r q => ?_) ?_
  · refine xw_iload_n rfl rfl ?_
    refine xw_aload_n rfl rfl rfl ?_
    refine xw_gfIc (v := (m x0 12)) (v' := (xR m x0 12)) rfl (xw_obd g0) xk3_12 (qi := 12) rfl rfl rfl ?_
    exact q
  refine xS_if (fun h1 => ?_) (fun h1 => ?_)
  · refine xS_g (fun g2 => ?_)
    refine xS_g (fun g3 => ?_)
    refine xS_g (fun g4 => ?_)
    refine xS_g (fun g5 => ?_)
    refine xS_g (fun g6 => ?_)
    refine xS_g (fun g7 => ?_)
    refine xS_of (pc' := 29) (L' := [(0, xa x0), (1, xi x1)]) (st' := [xi (xR m (xw_rf (xw_rf x0 3) 0) (xR m x0 12)), xi (xR m (xw_rf (xw_rf x0 3) 0) x1)]) (m' := m) (fun ex ns r q => ?_) ?_
    · refine xw_ic_geF rfl (w32_cg c1) (w32_cg (w32_xR _ _ _)) (Int.not_le.mpr h1) ?_
      refine xw_aload_n rfl rfl rfl ?_
      refine xw_gfV (qi := 3) rfl (xw_obd g0) xk3_3 rfl ?_
      refine xw_iconst rfl ?_
      refine xw_aald (t := 20) (n := (xw_le B (xw_rf x0 3))) (q := xw_kd (xw_rf x0 3) 0 - 5) (e := (xw_rf (xw_rf x0 3) 0)) rfl hB (xw_obd g4) (by decide) rfl g2 (by have := g3; omega) (xw_rfn g3) ?_
      refine xw_iload_n rfl rfl ?_
      refine xw_ialdc (n := (xw_le B (xw_rf (xw_rf x0 3) 0))) (v := (m (xw_rf (xw_rf x0 3) 0) x1)) (v' := (xR m (xw_rf (xw_rf x0 3) 0) x1)) rfl hB (xw_obd g6) rfl g5 rfl rfl ?_
      refine xw_aload_n rfl rfl rfl ?_
      refine xw_gfV (qi := 3) rfl (xw_obd g0) xk3_3 rfl ?_
      refine xw_iconst rfl ?_
      refine xw_aald (t := 20) (n := (xw_le B (xw_rf x0 3))) (q := xw_kd (xw_rf x0 3) 0 - 5) (e := (xw_rf (xw_rf x0 3) 0)) rfl hB (xw_obd g4) (by decide) rfl g2 (by have := g3; omega) (xw_rfn g3) ?_
      refine xw_aload_n rfl rfl rfl ?_
      refine xw_gfIc (v := (m x0 12)) (v' := (xR m x0 12)) rfl (xw_obd g0) xk3_12 (qi := 12) rfl rfl rfl ?_
      refine xw_ialdc (n := (xw_le B (xw_rf (xw_rf x0 3) 0))) (v := (m (xw_rf (xw_rf x0 3) 0) (xR m x0 12))) (v' := (xR m (xw_rf (xw_rf x0 3) 0) (xR m x0 12))) rfl hB (xw_obd g6) rfl g7 rfl rfl ?_
      exact q
    refine xS_if (fun h8 => ?_) (fun h8 => ?_)
    · refine xS_of (pc' := 33) (L' := [(0, xa x0), (1, xi x1)]) (st' := [xi 1]) (m' := m) (fun ex ns r q => ?_) ?_
      · refine xw_ic_neF rfl (w32_cg (w32_xR _ _ _)) (w32_cg (w32_xR _ _ _)) h8 ?_
        refine xw_iconst rfl ?_
        exact q
      exact xS_ret (v := 1) rfl rfl (xw_rtZ (Or.inr rfl)) (Or.inr rfl)
    · refine xS_of (pc' := 38) (L' := [(0, xa x0), (1, xi x1), (2, xi 0), (3, xi 1)]) (st' := []) (m' := m) (fun ex ns r q => ?_) ?_
      · refine xw_ic_neT rfl (w32_cg (w32_xR _ _ _)) (w32_cg (w32_xR _ _ _)) h8 ?_
        refine xw_iconst rfl ?_
        refine xw_istore_n (L' := [(2, xi 0), (0, xa x0), (1, xi x1)]) rfl (by decide) rfl ?_
        refine xw_iconst rfl ?_
        refine xw_istore_n (L' := [(3, xi 1), (2, xi 0), (0, xa x0), (1, xi x1)]) rfl (by decide) rfl ?_
        refine xw_lo (L2 := [(0, xa x0), (1, xi x1), (2, xi 0), (3, xi 1)]) (List.forall_mem_cons.mpr ⟨rfl, List.forall_mem_cons.mpr ⟨rfl, List.forall_mem_cons.mpr ⟨rfl, List.forall_mem_cons.mpr ⟨rfl, fun _ h => absurd h List.not_mem_nil⟩⟩⟩⟩) ?_
        exact q
      exact ygl143_38 hB hr2 1000000 _ _ _ _ _ c1 rfl rfl
  · refine xS_of (pc' := 102) (L' := [(0, xa x0), (1, xi x1)]) (st' := [xi 0]) (m' := m) (fun ex ns r q => ?_) ?_
    · refine xw_ic_geT rfl (w32_cg c1) (w32_cg (w32_xR _ _ _)) (Int.not_lt.mp h1) ?_
      refine xw_iconst rfl ?_
      exact q
    exact xS_ret (v := 0) rfl rfl (xw_rtZ (Or.inl rfl)) (Or.inl rfl)
theorem ygl143_2 {B : Nat} (hB : B ≤ 512) {xs : Nat → Int32} {SL d : Nat} : ∀ n x0 x1 m, w32 x1 = x1 → xS B xs SL (d + 0) 143 (5, (some .boolean), [], 4) 4 2 [(0, xa x0), (1, xi x1)] [] m (xl2 (yl143_2 B) n x0 x1 m) := by
  intro n
  induction n with
  | zero => intro x0 x1 m c1; exact xS_none
  | succ n ih => exact ysl143_2 hB ih
theorem ygf143 {B : Nat} (hB : B ≤ 512) {xs : Nat → Int32} {SL d : Nat} : ∀ t m, xS B xs SL (d + 0) 143 (5, (some .boolean), [], 4) 4 0 [(0, xa t)] [] m (yf143 B t m) := by
  intro t m
  unfold yf143
  refine xS_of (pc' := 2) (L' := [(0, xa t), (1, xi 0)]) (st' := []) (m' := m) (fun ex ns r q => ?_) ?_
  · refine xw_iconst rfl ?_
    refine xw_istore_n (L' := [(1, xi 0), (0, xa t)]) rfl (by decide) rfl ?_
    refine xw_lo (L2 := [(0, xa t), (1, xi 0)]) (List.forall_mem_cons.mpr ⟨rfl, List.forall_mem_cons.mpr ⟨rfl, fun _ h => absurd h List.not_mem_nil⟩⟩) ?_
    exact q
  exact ygl143_2 hB 1000000 _ _ _ rfl
theorem ygk141_142 {B : Nat} (hB : B ≤ 512) {xs : Nat → Int32} {SL d : Nat} : ∀ x1 m, xS B xs SL (d + 4) 141 (4, none, [], 6) 0 142 [(0, xa 293), (1, xa x1)] [] m (yk141_142 B x1 m) := by
  intro x1 m
  unfold yk141_142
  refine xS_of (pc' := 151) (L' := [(0, xa 293), (1, xa x1)]) (st' := [xi 59, xi (xR m 1 3)]) (m' := m) (fun ex ns r q => ?_) ?_
  · refine xw_aload_n rfl rfl rfl ?_
    refine xw_gfR (n := 1) (e := 1) rfl (xw_obd (by decide +kernel)) (by decide +kernel) (by decide +kernel) rfl ?_
    refine xw_gfIc (v := (m 1 3)) (v' := (xR m 1 3)) rfl (xw_obd (by decide +kernel)) xk1_3 (qi := 3) rfl rfl rfl ?_
    refine xw_bipush (e := 59) rfl (by decide +kernel) ?_
    exact q
  refine xS_if (fun h0 => ?_) (fun h0 => ?_)
  · refine xS_g (fun g1 => ?_)
    refine xS_of (pc' := 169) (L' := [(0, xa 293), (1, xa x1)]) (st' := []) (m' := (xw_u m x1 11 (xR m x1 12))) (fun ex ns r q => ?_) ?_
    · refine xw_ic_eqT rfl (w32_cg (w32_xR _ _ _)) (w32_cg rfl) h0 ?_
      refine xw_aload_n rfl rfl rfl ?_
      refine xw_aload_n rfl rfl rfl ?_
      refine xw_gfIc (v := (m x1 12)) (v' := (xR m x1 12)) rfl (xw_obd g1) xk3_12 (qi := 12) rfl rfl rfl ?_
      refine xw_pfI rfl (xw_obd g1) xk3_11 (qi := 11) rfl (xw_okI rfl) ?_
      exact q
    exact xS_ret (v := 0) rfl rfl rfl rfl
  · refine xS_of (pc' := 158) (L' := [(1, xa x1)]) (st' := [xa 1]) (m' := m) (fun ex ns r q => ?_) ?_
    · refine xw_ic_eqF rfl (w32_cg (w32_xR _ _ _)) (w32_cg rfl) h0 ?_
      refine xw_aload_n rfl rfl rfl ?_
      refine xw_gfR (n := 1) (e := 1) rfl (xw_obd (by decide +kernel)) (by decide +kernel) (by decide +kernel) rfl ?_
      refine xw_lo (L2 := [(1, xa x1)]) (List.forall_mem_cons.mpr ⟨rfl, fun _ h => absurd h List.not_mem_nil⟩) ?_
      exact q
    refine xS_call (q := 56) (n := 1) (kq := 0) (as := [xa 1]) (st1 := []) rfl rfl rfl rfl rfl rfl rfl rfl rfl rfl (fun _ => xw_rcv1 (t := 1) (xw_obd (by decide +kernel)) rfl) rfl (List.forall_mem_cons.mpr ⟨rfl, fun _ h => absurd h List.not_mem_nil⟩) (ygf56 hB _) (fun v1 m1 cv1 => ?_)
    refine xS_g (fun g1 => ?_)
    refine xS_of (pc' := 169) (L' := [(1, xa x1)]) (st' := []) (m' := (xw_u m1 x1 11 (xR m1 x1 12))) (fun ex ns r q => ?_) ?_
    · refine xw_aload_n rfl rfl rfl ?_
      refine xw_aload_n rfl rfl rfl ?_
      refine xw_gfIc (v := (m1 x1 12)) (v' := (xR m1 x1 12)) rfl (xw_obd g1) xk3_12 (qi := 12) rfl rfl rfl ?_
      refine xw_pfI rfl (xw_obd g1) xk3_11 (qi := 11) rfl (xw_okI rfl) ?_
      exact q
    exact xS_ret (v := 0) rfl rfl rfl rfl
theorem ygk141_104 {B : Nat} (hB : B ≤ 512) {xs : Nat → Int32} {SL d : Nat} {r30 : Int → Int → xw_M → xP} (hr30 : ∀ x1 x2 m, w32 x2 = x2 → xS B xs SL (d + 4) 141 (4, none, [], 6) 0 30 [(0, xa 293), (1, xa x1), (2, xi x2)] [] m (r30 x1 x2 m)) : ∀ x1 x2 m, w32 x2 = x2 → xS B xs SL (d + 4) 141 (4, none, [], 6) 0 104 [(0, xa 293), (1, xa x1), (2, xi x2)] [] m (yk141_104 B r30 x1 x2 m) := by
  intro x1 x2 m c2
  unfold yk141_104
  refine xS_g (fun g0 => ?_)
  refine xS_of (pc' := 118) (L' := [(0, xa 293), (1, xa x1), (2, xi x2)]) (st' := [xa 1]) (m' := (xw_u m x1 12 ((xR m x1 12) + 1))) (fun ex ns r q => ?_) ?_
  · refine xw_aload_n rfl rfl rfl ?_
    refine xw_dup rfl rfl ?_
    refine xw_gfIc (v := (m x1 12)) (v' := (xR m x1 12)) rfl (xw_obd g0) xk3_12 (qi := 12) rfl rfl rfl ?_
    refine xw_iconst rfl ?_
    refine xw_iadd rfl ?_
    refine xw_pfI rfl (xw_obd g0) xk3_12 (qi := 12) rfl (xw_okI rfl) ?_
    refine xw_aload_n rfl rfl rfl ?_
    refine xw_gfR (n := 1) (e := 1) rfl (xw_obd (by decide +kernel)) (by decide +kernel) (by decide +kernel) rfl ?_
    refine xw_lo (L2 := [(0, xa 293), (1, xa x1), (2, xi x2)]) (List.forall_mem_cons.mpr ⟨rfl, List.forall_mem_cons.mpr ⟨rfl, List.forall_mem_cons.mpr ⟨rfl, fun _ h => absurd h List.not_mem_nil⟩⟩⟩) ?_
    exact q
  refine xS_call (q := 47) (n := 1) (kq := 0) (as := [xa 1]) (st1 := []) rfl rfl rfl rfl rfl rfl rfl rfl rfl rfl (fun _ => xw_rcv1 (t := 1) (xw_obd (by decide +kernel)) rfl) rfl (List.forall_mem_cons.mpr ⟨rfl, fun _ h => absurd h List.not_mem_nil⟩) (ygf47 hB _) (fun v1 m1 cv1 => ?_)
  refine xS_of (pc' := 130) (L' := [(0, xa 293), (1, xa x1), (2, xi x2)]) (st' := [xi 44, xi (xR m1 1 3)]) (m' := m1) (fun ex ns r q => ?_) ?_
  · refine xw_aload_n rfl rfl rfl ?_
    refine xw_gfR (n := 1) (e := 1) rfl (xw_obd (by decide +kernel)) (by decide +kernel) (by decide +kernel) rfl ?_
    refine xw_gfIc (v := (m1 1 3)) (v' := (xR m1 1 3)) rfl (xw_obd (by decide +kernel)) xk1_3 (qi := 3) rfl rfl rfl ?_
    refine xw_bipush (e := 44) rfl (by decide +kernel) ?_
    exact q
  refine xS_if (fun h1 => ?_) (fun h1 => ?_)
  · refine xS_of (pc' := 30) (L' := [(0, xa 293), (1, xa x1), (2, xi (w32 (x2 + 1)))]) (st' := []) (m' := m1) (fun ex ns r q => ?_) ?_
    · refine xw_ic_eqT rfl (w32_cg (w32_xR _ _ _)) (w32_cg rfl) h1 ?_
      refine xw_iincc (z := (w32 (x2 + 1))) (L' := [(2, xi (w32 (x2 + 1))), (0, xa 293), (1, xa x1)]) rfl rfl (by decide) rfl rfl ?_
      refine xw_goto rfl ?_
      refine xw_lo (L2 := [(0, xa 293), (1, xa x1), (2, xi (w32 (x2 + 1)))]) (List.forall_mem_cons.mpr ⟨rfl, List.forall_mem_cons.mpr ⟨rfl, List.forall_mem_cons.mpr ⟨rfl, fun _ h => absurd h List.not_mem_nil⟩⟩⟩) ?_
      exact q
    exact hr30 _ _ _ (w32_w _)
  · refine xS_of (pc' := 142) (L' := [(0, xa 293), (1, xa x1)]) (st' := []) (m' := m1) (fun ex ns r q => ?_) ?_
    · refine xw_ic_eqF rfl (w32_cg (w32_xR _ _ _)) (w32_cg rfl) h1 ?_
      refine xw_goto rfl ?_
      refine xw_lo (L2 := [(0, xa 293), (1, xa x1)]) (List.forall_mem_cons.mpr ⟨rfl, List.forall_mem_cons.mpr ⟨rfl, fun _ h => absurd h List.not_mem_nil⟩⟩) ?_
      exact q
    exact ygk141_142 hB _ _
theorem ygk141_87 {B : Nat} (hB : B ≤ 512) {xs : Nat → Int32} {SL d : Nat} {r30 : Int → Int → xw_M → xP} (hr30 : ∀ x1 x2 m, w32 x2 = x2 → xS B xs SL (d + 4) 141 (4, none, [], 6) 0 30 [(0, xa 293), (1, xa x1), (2, xi x2)] [] m (r30 x1 x2 m)) : ∀ x1 x2 x3 m, w32 x2 = x2 → w32 x3 = x3 → xS B xs SL (d + 4) 141 (4, none, [], 6) 0 87 [(0, xa 293), (1, xa x1), (2, xi x2), (3, xi x3)] [] m (yk141_87 B r30 x1 x2 x3 m) := by
  intro x1 x2 x3 m c2 c3
  unfold yk141_87
  refine xS_g (fun g0 => ?_)
  refine xS_of (pc' := 88) (L' := [(0, xa 293), (1, xa x1), (2, xi x2), (3, xi x3)]) (st' := [xa x1]) (m' := m) (fun ex ns r q => ?_) ?_
  · refine xw_aload_n rfl rfl rfl ?_
    refine xw_lo (L2 := [(0, xa 293), (1, xa x1), (2, xi x2), (3, xi x3)]) (List.forall_mem_cons.mpr ⟨rfl, List.forall_mem_cons.mpr ⟨rfl, List.forall_mem_cons.mpr ⟨rfl, List.forall_mem_cons.mpr ⟨rfl, fun _ h => absurd h List.not_mem_nil⟩⟩⟩⟩) ?_
    exact q
  refine xS_call (q := 143) (n := 1) (kq := 4) (as := [xa x1]) (st1 := []) rfl rfl rfl rfl rfl rfl rfl rfl rfl rfl (fun _ => xw_rcv1 (t := 3) (xw_obd g0) rfl) rfl (List.forall_mem_cons.mpr ⟨rfl, fun _ h => absurd h List.not_mem_nil⟩) (ygf143 hB _ _) (fun v1 m1 cv1 => ?_)
  refine xS_if (fun h1 => ?_) (fun h1 => ?_)
  · refine xS_of (pc' := 104) (L' := [(0, xa 293), (1, xa x1), (2, xi x2)]) (st' := []) (m' := m1) (fun ex ns r q => ?_) ?_
    · refine xw_if_eqT rfl (w32_cg (w32_of (xw_zr cv1))) h1 ?_
      refine xw_lo (L2 := [(0, xa 293), (1, xa x1), (2, xi x2)]) (List.forall_mem_cons.mpr ⟨rfl, List.forall_mem_cons.mpr ⟨rfl, List.forall_mem_cons.mpr ⟨rfl, fun _ h => absurd h List.not_mem_nil⟩⟩⟩) ?_
      exact q
    exact ygk141_104 hB hr30 _ _ _ c2
  · refine xS_of (pc' := 101) (L' := [(0, xa 293), (1, xa x1), (2, xi x2)]) (st' := [xi x3, xi 9, xa 1]) (m' := m1) (fun ex ns r q => ?_) ?_
    · refine xw_if_eqF rfl (w32_cg (w32_of (xw_zr cv1))) h1 ?_
      refine xw_aload_n rfl rfl rfl ?_
      refine xw_gfR (n := 1) (e := 1) rfl (xw_obd (by decide +kernel)) (by decide +kernel) (by decide +kernel) rfl ?_
      refine xw_bipush (e := 9) rfl (by decide +kernel) ?_
      refine xw_iload_n rfl rfl ?_
      refine xw_lo (L2 := [(0, xa 293), (1, xa x1), (2, xi x2)]) (List.forall_mem_cons.mpr ⟨rfl, List.forall_mem_cons.mpr ⟨rfl, List.forall_mem_cons.mpr ⟨rfl, fun _ h => absurd h List.not_mem_nil⟩⟩⟩) ?_
      exact q
    refine xS_call (q := 54) (n := 3) (kq := 0) (as := [xa 1, xi 9, xi x3]) (st1 := []) rfl rfl rfl rfl rfl rfl rfl rfl rfl rfl (fun _ => xw_rcv1 (t := 1) (xw_obd (by decide +kernel)) rfl) rfl (List.forall_mem_cons.mpr ⟨rfl, List.forall_mem_cons.mpr ⟨rfl, List.forall_mem_cons.mpr ⟨rfl, fun _ h => absurd h List.not_mem_nil⟩⟩⟩) (ygf54 hB _ _ _ rfl c3) (fun v2 m2 cv2 => ?_)
    refine xS_of (pc' := 104) (L' := [(0, xa 293), (1, xa x1), (2, xi x2)]) (st' := []) (m' := m2) (fun ex ns r q => ?_) ?_
    · refine xw_lo (L2 := [(0, xa 293), (1, xa x1), (2, xi x2)]) (List.forall_mem_cons.mpr ⟨rfl, List.forall_mem_cons.mpr ⟨rfl, List.forall_mem_cons.mpr ⟨rfl, fun _ h => absurd h List.not_mem_nil⟩⟩⟩) ?_
      exact q
    exact ygk141_104 hB hr30 _ _ _ c2
theorem ysl141_30 {B : Nat} (hB : B ≤ 512) {xs : Nat → Int32} {SL d : Nat} {r30 : Int → Int → xw_M → xP} (hr30 : ∀ x1 x2 m, w32 x2 = x2 → xS B xs SL (d + 4) 141 (4, none, [], 6) 0 30 [(0, xa 293), (1, xa x1), (2, xi x2)] [] m (r30 x1 x2 m)) : ∀ x1 x2 m, w32 x2 = x2 → xS B xs SL (d + 4) 141 (4, none, [], 6) 0 30 [(0, xa 293), (1, xa x1), (2, xi x2)] [] m (yl141_30 B r30 x1 x2 m) := by
  intro x1 x2 m c2
  unfold yl141_30
  refine xS_of (pc' := 34) (L' := [(0, xa 293), (1, xa x1), (2, xi x2)]) (st' := [xi 1000, xi x2]) (m' := m) (fun ex ns r q => ?_) ?_
  · refine xw_iload_n rfl rfl ?_
    refine xw_sipush (e := 1000) rfl (by decide +kernel) ?_
    exact q
  refine xS_if (fun h0 => ?_) (fun h0 => ?_)
  · refine xS_of (pc' := 142) (L' := [(0, xa 293), (1, xa x1)]) (st' := []) (m' := m) (fun ex ns r q => ?_) ?_
    · refine xw_ic_gtT rfl (w32_cg c2) (w32_cg rfl) h0 ?_
      refine xw_lo (L2 := [(0, xa 293), (1, xa x1)]) (List.forall_mem_cons.mpr ⟨rfl, List.forall_mem_cons.mpr ⟨rfl, fun _ h => absurd h List.not_mem_nil⟩⟩) ?_
      exact q
    exact ygk141_142 hB _ _
  · refine xS_of (pc' := 43) (L' := [(0, xa 293), (1, xa x1), (2, xi x2)]) (st' := [xi 40, xa 1]) (m' := m) (fun ex ns r q => ?_) ?_
    · refine xw_ic_gtF rfl (w32_cg c2) (w32_cg rfl) h0 ?_
      refine xw_aload_n rfl rfl rfl ?_
      refine xw_gfR (n := 1) (e := 1) rfl (xw_obd (by decide +kernel)) (by decide +kernel) (by decide +kernel) rfl ?_
      refine xw_bipush (e := 40) rfl (by decide +kernel) ?_
      refine xw_lo (L2 := [(0, xa 293), (1, xa x1), (2, xi x2)]) (List.forall_mem_cons.mpr ⟨rfl, List.forall_mem_cons.mpr ⟨rfl, List.forall_mem_cons.mpr ⟨rfl, fun _ h => absurd h List.not_mem_nil⟩⟩⟩) ?_
      exact q
    refine xS_call (q := 68) (n := 2) (kq := 0) (as := [xa 1, xi 40]) (st1 := []) rfl rfl rfl rfl rfl rfl rfl rfl rfl rfl (fun _ => xw_rcv1 (t := 1) (xw_obd (by decide +kernel)) rfl) rfl (List.forall_mem_cons.mpr ⟨rfl, List.forall_mem_cons.mpr ⟨rfl, fun _ h => absurd h List.not_mem_nil⟩⟩) (ygf68 hB _ _ rfl) (fun v1 m1 cv1 => ?_)
    refine xS_g (fun g1 => ?_)
    refine xS_of (pc' := 54) (L' := [(0, xa 293), (1, xa x1), (2, xi x2)]) (st' := [xi 1000, xi (xR m1 x1 12), xa 293]) (m' := m1) (fun ex ns r q => ?_) ?_
    · refine xw_aload_n rfl rfl rfl ?_
      refine xw_aload_n rfl rfl rfl ?_
      refine xw_gfIc (v := (m1 x1 12)) (v' := (xR m1 x1 12)) rfl (xw_obd g1) xk3_12 (qi := 12) rfl rfl rfl ?_
      refine xw_sipush (e := 1000) rfl (by decide +kernel) ?_
      refine xw_lo (L2 := [(0, xa 293), (1, xa x1), (2, xi x2)]) (List.forall_mem_cons.mpr ⟨rfl, List.forall_mem_cons.mpr ⟨rfl, List.forall_mem_cons.mpr ⟨rfl, fun _ h => absurd h List.not_mem_nil⟩⟩⟩) ?_
      exact q
    refine xS_call (q := 64) (n := 3) (kq := 0) (as := [xa 293, xi (xR m1 x1 12), xi 1000]) (st1 := []) rfl rfl rfl rfl rfl rfl rfl rfl rfl rfl (fun _ => xw_rcv1 (t := 5) (xw_obd (by decide +kernel)) rfl) rfl (List.forall_mem_cons.mpr ⟨rfl, List.forall_mem_cons.mpr ⟨rfl, List.forall_mem_cons.mpr ⟨rfl, fun _ h => absurd h List.not_mem_nil⟩⟩⟩) (ygf64 hB _ _ _ (w32_xR _ _ _) rfl) (fun v2 m2 cv2 => ?_)
    refine xS_of (pc' := 67) (L' := [(0, xa 293), (1, xa x1), (2, xi x2), (3, xi (xR m2 1 4))]) (st' := [xa x1, xa 293]) (m' := m2) (fun ex ns r q => ?_) ?_
    · refine xw_aload_n rfl rfl rfl ?_
      refine xw_gfR (n := 1) (e := 1) rfl (xw_obd (by decide +kernel)) (by decide +kernel) (by decide +kernel) rfl ?_
      refine xw_gfIc (v := (m2 1 4)) (v' := (xR m2 1 4)) rfl (xw_obd (by decide +kernel)) xk1_4 (qi := 4) rfl rfl rfl ?_
      refine xw_istore_n (L' := [(3, xi (xR m2 1 4)), (0, xa 293), (1, xa x1), (2, xi x2)]) rfl (by decide) rfl ?_
      refine xw_aload_n rfl rfl rfl ?_
      refine xw_aload_n rfl rfl rfl ?_
      refine xw_lo (L2 := [(0, xa 293), (1, xa x1), (2, xi x2), (3, xi (xR m2 1 4))]) (List.forall_mem_cons.mpr ⟨rfl, List.forall_mem_cons.mpr ⟨rfl, List.forall_mem_cons.mpr ⟨rfl, List.forall_mem_cons.mpr ⟨rfl, fun _ h => absurd h List.not_mem_nil⟩⟩⟩⟩) ?_
      exact q
    refine xS_call (q := 142) (n := 2) (kq := 1) (as := [xa 293, xa x1]) (st1 := []) rfl rfl rfl rfl rfl rfl rfl rfl rfl rfl (fun _ => xw_rcv1 (t := 5) (xw_obd (by decide +kernel)) rfl) rfl (List.forall_mem_cons.mpr ⟨rfl, List.forall_mem_cons.mpr ⟨rfl, fun _ h => absurd h List.not_mem_nil⟩⟩) (ygf142 hB _ _) (fun v3 m3 cv3 => ?_)
    refine xS_of (pc' := 74) (L' := [(0, xa 293), (1, xa x1), (2, xi x2), (3, xi (xR m2 1 4))]) (st' := [xi (xR m3 x1 10), xi v3]) (m' := m3) (fun ex ns r q => ?_) ?_
    · refine xw_aload_n rfl rfl rfl ?_
      refine xw_gfIc (v := (m3 x1 10)) (v' := (xR m3 x1 10)) rfl (xw_obd g1) xk3_10 (qi := 10) rfl rfl rfl ?_
      exact q
    refine xS_if (fun h2 => ?_) (fun h2 => ?_)
    · refine xS_of (pc' := 87) (L' := [(0, xa 293), (1, xa x1), (2, xi x2), (3, xi (xR m2 1 4))]) (st' := []) (m' := m3) (fun ex ns r q => ?_) ?_
      · refine xw_ic_eqT rfl (w32_cg cv3) (w32_cg (w32_xR _ _ _)) h2 ?_
        refine xw_lo (L2 := [(0, xa 293), (1, xa x1), (2, xi x2), (3, xi (xR m2 1 4))]) (List.forall_mem_cons.mpr ⟨rfl, List.forall_mem_cons.mpr ⟨rfl, List.forall_mem_cons.mpr ⟨rfl, List.forall_mem_cons.mpr ⟨rfl, fun _ h => absurd h List.not_mem_nil⟩⟩⟩⟩) ?_
        exact q
      exact ygk141_87 hB hr30 _ _ _ _ c2 (w32_xR _ _ _)
    · refine xS_of (pc' := 84) (L' := [(0, xa 293), (1, xa x1), (2, xi x2), (3, xi (xR m2 1 4))]) (st' := [xi (xR m2 1 4), xi 7, xa 1]) (m' := m3) (fun ex ns r q => ?_) ?_
      · refine xw_ic_eqF rfl (w32_cg cv3) (w32_cg (w32_xR _ _ _)) h2 ?_
        refine xw_aload_n rfl rfl rfl ?_
        refine xw_gfR (n := 1) (e := 1) rfl (xw_obd (by decide +kernel)) (by decide +kernel) (by decide +kernel) rfl ?_
        refine xw_bipush (e := 7) rfl (by decide +kernel) ?_
        refine xw_iload_n rfl rfl ?_
        refine xw_lo (L2 := [(0, xa 293), (1, xa x1), (2, xi x2), (3, xi (xR m2 1 4))]) (List.forall_mem_cons.mpr ⟨rfl, List.forall_mem_cons.mpr ⟨rfl, List.forall_mem_cons.mpr ⟨rfl, List.forall_mem_cons.mpr ⟨rfl, fun _ h => absurd h List.not_mem_nil⟩⟩⟩⟩) ?_
        exact q
      refine xS_call (q := 54) (n := 3) (kq := 0) (as := [xa 1, xi 7, xi (xR m2 1 4)]) (st1 := []) rfl rfl rfl rfl rfl rfl rfl rfl rfl rfl (fun _ => xw_rcv1 (t := 1) (xw_obd (by decide +kernel)) rfl) rfl (List.forall_mem_cons.mpr ⟨rfl, List.forall_mem_cons.mpr ⟨rfl, List.forall_mem_cons.mpr ⟨rfl, fun _ h => absurd h List.not_mem_nil⟩⟩⟩) (ygf54 hB _ _ _ rfl (w32_xR _ _ _)) (fun v4 m4 cv4 => ?_)
      refine xS_of (pc' := 87) (L' := [(0, xa 293), (1, xa x1), (2, xi x2), (3, xi (xR m2 1 4))]) (st' := []) (m' := m4) (fun ex ns r q => ?_) ?_
      · refine xw_lo (L2 := [(0, xa 293), (1, xa x1), (2, xi x2), (3, xi (xR m2 1 4))]) (List.forall_mem_cons.mpr ⟨rfl, List.forall_mem_cons.mpr ⟨rfl, List.forall_mem_cons.mpr ⟨rfl, List.forall_mem_cons.mpr ⟨rfl, fun _ h => absurd h List.not_mem_nil⟩⟩⟩⟩) ?_
        exact q
      exact ygk141_87 hB hr30 _ _ _ _ c2 (w32_xR _ _ _)
theorem ygl141_30 {B : Nat} (hB : B ≤ 512) {xs : Nat → Int32} {SL d : Nat} : ∀ n x1 x2 m, w32 x2 = x2 → xS B xs SL (d + 4) 141 (4, none, [], 6) 0 30 [(0, xa 293), (1, xa x1), (2, xi x2)] [] m (xl2 (yl141_30 B) n x1 x2 m) := by
  intro n
  induction n with
  | zero => intro x1 x2 m c2; exact xS_none
  | succ n ih => exact ysl141_30 hB ih
theorem ygf141 {B : Nat} (hB : B ≤ 512) {xs : Nat → Int32} {SL d : Nat} : ∀ m, xS B xs SL (d + 4) 141 (4, none, [], 6) 0 0 [(0, xa 293)] [] m (yf141 B m) := by
  intro m
  unfold yf141
  refine xS_of (pc' := 4) (L' := [(0, xa 293)]) (st' := [xa 1]) (m' := m) (fun ex ns r q => ?_) ?_
  · refine xw_aload_n rfl rfl rfl ?_
    refine xw_gfR (n := 1) (e := 1) rfl (xw_obd (by decide +kernel)) (by decide +kernel) (by decide +kernel) rfl ?_
    refine xw_lo (L2 := [(0, xa 293)]) (List.forall_mem_cons.mpr ⟨rfl, fun _ h => absurd h List.not_mem_nil⟩) ?_
    exact q
  refine xS_call (q := 47) (n := 1) (kq := 0) (as := [xa 1]) (st1 := []) rfl rfl rfl rfl rfl rfl rfl rfl rfl rfl (fun _ => xw_rcv1 (t := 1) (xw_obd (by decide +kernel)) rfl) rfl (List.forall_mem_cons.mpr ⟨rfl, fun _ h => absurd h List.not_mem_nil⟩) (ygf47 hB _) (fun v1 m1 cv1 => ?_)
  refine xS_of (pc' := 15) (L' := [(0, xa 293)]) (st' := [xa 293, xa 4]) (m' := m1) (fun ex ns r q => ?_) ?_
  · refine xw_aload_n rfl rfl rfl ?_
    refine xw_gfR (n := 3) (e := 3) rfl (xw_obd (by decide +kernel)) (by decide +kernel) (by decide +kernel) rfl ?_
    refine xw_gfR (n := 4) (e := 4) rfl (xw_obd (by decide +kernel)) (by decide +kernel) (by decide +kernel) rfl ?_
    refine xw_aload_n rfl rfl rfl ?_
    refine xw_lo (L2 := [(0, xa 293)]) (List.forall_mem_cons.mpr ⟨rfl, fun _ h => absurd h List.not_mem_nil⟩) ?_
    exact q
  refine xS_call (q := 60) (n := 1) (kq := 1) (as := [xa 293]) (st1 := [xa 4]) rfl rfl rfl rfl rfl rfl rfl rfl rfl rfl (fun _ => xw_rcv1 (t := 5) (xw_obd (by decide +kernel)) rfl) rfl (List.forall_mem_cons.mpr ⟨rfl, fun _ h => absurd h List.not_mem_nil⟩) (ygf60 hB _) (fun v2 m2 cv2 => ?_)
  refine xS_g (fun g0 => ?_)
  refine xS_g (fun g1 => ?_)
  refine xS_of (pc' := 30) (L' := [(0, xa 293), (1, xa (15 + (26 * v2))), (2, xi 0)]) (st' := []) (m' := (xw_u m2 (15 + (26 * v2)) 12 (xR m2 (15 + (26 * v2)) 11))) (fun ex ns r q => ?_) ?_
  · refine xw_aald (t := 23) (n := 8) (q := 15 + 26 * (v2).toNat) (e := (15 + (26 * v2))) rfl hB (xw_obd (by decide +kernel)) (by decide) rfl g0 (show 20 + 26 * (v2 : Int).toNat = 15 + 26 * (v2 : Int).toNat + 5 from by omega) (by have := g0; omega) ?_
    refine xw_astore_n (L' := [(1, xa (15 + (26 * v2))), (0, xa 293)]) rfl rfl (by decide) rfl ?_
    refine xw_aload_n rfl rfl rfl ?_
    refine xw_aload_n rfl rfl rfl ?_
    refine xw_gfIc (v := (m2 (15 + (26 * v2)) 11)) (v' := (xR m2 (15 + (26 * v2)) 11)) rfl (xw_obd g1) xk3_11 (qi := 11) rfl rfl rfl ?_
    refine xw_pfI rfl (xw_obd g1) xk3_12 (qi := 12) rfl (xw_okI rfl) ?_
    refine xw_iconst rfl ?_
    refine xw_istore_n (L' := [(2, xi 0), (1, xa (15 + (26 * v2))), (0, xa 293)]) rfl (by decide) rfl ?_
    refine xw_lo (L2 := [(0, xa 293), (1, xa (15 + (26 * v2))), (2, xi 0)]) (List.forall_mem_cons.mpr ⟨rfl, List.forall_mem_cons.mpr ⟨rfl, List.forall_mem_cons.mpr ⟨rfl, fun _ h => absurd h List.not_mem_nil⟩⟩⟩) ?_
    exact q
  exact ygl141_30 hB 1000000 _ _ _ rfl
theorem ygf133 {B : Nat} (hB : B ≤ 512) {xs : Nat → Int32} {SL d : Nat} : ∀ m, xS B xs SL (d + 5) 133 (1, none, [], 6) 0 0 [(0, xa 293)] [] m (yf133 B m) := by
  intro m
  unfold yf133
  refine xS_of (pc' := 10) (L' := [(0, xa 293)]) (st' := [xi 200, xi (xR m 1 3)]) (m' := m) (fun ex ns r q => ?_) ?_
  · refine xw_aload_n rfl rfl rfl ?_
    refine xw_gfR (n := 1) (e := 1) rfl (xw_obd (by decide +kernel)) (by decide +kernel) (by decide +kernel) rfl ?_
    refine xw_gfIc (v := (m 1 3)) (v' := (xR m 1 3)) rfl (xw_obd (by decide +kernel)) xk1_3 (qi := 3) rfl rfl rfl ?_
    refine xw_sipush (e := 200) rfl (by decide +kernel) ?_
    exact q
  refine xS_if (fun h0 => ?_) (fun h0 => ?_)
  · refine xS_of (pc' := 14) (L' := []) (st' := [xa 293]) (m' := m) (fun ex ns r q => ?_) ?_
    · refine xw_ic_neF rfl (w32_cg (w32_xR _ _ _)) (w32_cg rfl) h0 ?_
      refine xw_aload_n rfl rfl rfl ?_
      refine xw_lo (L2 := []) (fun _ h => absurd h List.not_mem_nil) ?_
      exact q
    refine xS_call (q := 134) (n := 1) (kq := 0) (as := [xa 293]) (st1 := []) rfl rfl rfl rfl rfl rfl rfl rfl rfl rfl (fun _ => xw_rcv1 (t := 5) (xw_obd (by decide +kernel)) rfl) rfl (List.forall_mem_cons.mpr ⟨rfl, fun _ h => absurd h List.not_mem_nil⟩) (ygf134 hB _) (fun v1 m1 cv1 => ?_)
    refine xS_of (pc' := 57) (L' := []) (st' := []) (m' := m1) (fun ex ns r q => ?_) ?_
    · refine xw_goto rfl ?_
      exact q
    exact xS_ret (v := 0) rfl rfl rfl rfl
  · refine xS_of (pc' := 30) (L' := [(0, xa 293)]) (st' := [xi 201, xi (xR m 1 3)]) (m' := m) (fun ex ns r q => ?_) ?_
    · refine xw_ic_neT rfl (w32_cg (w32_xR _ _ _)) (w32_cg rfl) h0 ?_
      refine xw_aload_n rfl rfl rfl ?_
      refine xw_gfR (n := 1) (e := 1) rfl (xw_obd (by decide +kernel)) (by decide +kernel) (by decide +kernel) rfl ?_
      refine xw_gfIc (v := (m 1 3)) (v' := (xR m 1 3)) rfl (xw_obd (by decide +kernel)) xk1_3 (qi := 3) rfl rfl rfl ?_
      refine xw_sipush (e := 201) rfl (by decide +kernel) ?_
      exact q
    refine xS_if (fun h1 => ?_) (fun h1 => ?_)
    · refine xS_of (pc' := 34) (L' := []) (st' := [xa 293]) (m' := m) (fun ex ns r q => ?_) ?_
      · refine xw_ic_neF rfl (w32_cg (w32_xR _ _ _)) (w32_cg rfl) h1 ?_
        refine xw_aload_n rfl rfl rfl ?_
        refine xw_lo (L2 := []) (fun _ h => absurd h List.not_mem_nil) ?_
        exact q
      refine xS_call (q := 139) (n := 1) (kq := 0) (as := [xa 293]) (st1 := []) rfl rfl rfl rfl rfl rfl rfl rfl rfl rfl (fun _ => xw_rcv1 (t := 5) (xw_obd (by decide +kernel)) rfl) rfl (List.forall_mem_cons.mpr ⟨rfl, fun _ h => absurd h List.not_mem_nil⟩) (ygf139 hB _) (fun v2 m2 cv2 => ?_)
      refine xS_of (pc' := 57) (L' := []) (st' := []) (m' := m2) (fun ex ns r q => ?_) ?_
      · refine xw_goto rfl ?_
        exact q
      exact xS_ret (v := 0) rfl rfl rfl rfl
    · refine xS_of (pc' := 50) (L' := [(0, xa 293)]) (st' := [xi 202, xi (xR m 1 3)]) (m' := m) (fun ex ns r q => ?_) ?_
      · refine xw_ic_neT rfl (w32_cg (w32_xR _ _ _)) (w32_cg rfl) h1 ?_
        refine xw_aload_n rfl rfl rfl ?_
        refine xw_gfR (n := 1) (e := 1) rfl (xw_obd (by decide +kernel)) (by decide +kernel) (by decide +kernel) rfl ?_
        refine xw_gfIc (v := (m 1 3)) (v' := (xR m 1 3)) rfl (xw_obd (by decide +kernel)) xk1_3 (qi := 3) rfl rfl rfl ?_
        refine xw_sipush (e := 202) rfl (by decide +kernel) ?_
        exact q
      refine xS_if (fun h2 => ?_) (fun h2 => ?_)
      · refine xS_of (pc' := 54) (L' := []) (st' := [xa 293]) (m' := m) (fun ex ns r q => ?_) ?_
        · refine xw_ic_neF rfl (w32_cg (w32_xR _ _ _)) (w32_cg rfl) h2 ?_
          refine xw_aload_n rfl rfl rfl ?_
          refine xw_lo (L2 := []) (fun _ h => absurd h List.not_mem_nil) ?_
          exact q
        refine xS_call (q := 141) (n := 1) (kq := 0) (as := [xa 293]) (st1 := []) rfl rfl rfl rfl rfl rfl rfl rfl rfl rfl (fun _ => xw_rcv1 (t := 5) (xw_obd (by decide +kernel)) rfl) rfl (List.forall_mem_cons.mpr ⟨rfl, fun _ h => absurd h List.not_mem_nil⟩) (ygf141 hB _) (fun v3 m3 cv3 => ?_)
        exact xS_ret (v := 0) rfl rfl rfl rfl
      · refine xS_of (pc' := 57) (L' := [(0, xa 293)]) (st' := []) (m' := m) (fun ex ns r q => ?_) ?_
        · refine xw_ic_neT rfl (w32_cg (w32_xR _ _ _)) (w32_cg rfl) h2 ?_
          exact q
        exact xS_ret (v := 0) rfl rfl rfl rfl


theorem ygk145_9 {B : Nat} (hB : B ≤ 512) {xs : Nat → Int32} {SL d : Nat} : ∀ x1 m, w32 x1 = x1 → xS B xs SL (d + 2) 145 (2, (some .int), [], 1) 1 9 [(0, xa 0), (1, xi x1)] [] m (yk145_9 B x1 m) := by
  intro x1 m c1
  unfold yk145_9
  refine xS_of (pc' := 14) (L' := [(0, xa 0), (1, xi x1)]) (st' := [xi 1]) (m' := m) (fun ex ns r q => ?_) ?_
  · refine xw_iconst rfl ?_
    refine xw_goto rfl ?_
    refine xw_lo (L2 := [(0, xa 0), (1, xi x1)]) (List.forall_mem_cons.mpr ⟨rfl, List.forall_mem_cons.mpr ⟨rfl, fun _ h => absurd h List.not_mem_nil⟩⟩) ?_
    exact q
  refine xS_call (q := 43) (n := 1) (kq := 0) (as := [xi 1]) (st1 := []) rfl rfl rfl rfl rfl rfl rfl rfl rfl rfl (fun _ => xw_rcv0 rfl) rfl (List.forall_mem_cons.mpr ⟨rfl, fun _ h => absurd h List.not_mem_nil⟩) (ygf43 hB _ _ rfl) (fun v1 m1 cv1 => ?_)
  refine xS_of (pc' := 18) (L' := [(0, xa 0), (1, xi x1)]) (st' := [xa 0]) (m' := m1) (fun ex ns r q => ?_) ?_
  · refine xw_aload_n rfl rfl rfl ?_
    refine xw_lo (L2 := [(0, xa 0), (1, xi x1)]) (List.forall_mem_cons.mpr ⟨rfl, List.forall_mem_cons.mpr ⟨rfl, fun _ h => absurd h List.not_mem_nil⟩⟩) ?_
    exact q
  refine xS_call (q := 38) (n := 1) (kq := 0) (as := [xa 0]) (st1 := []) rfl rfl rfl rfl rfl rfl rfl rfl rfl rfl (fun _ => xw_rcv1 (t := 0) (xw_obd (by decide +kernel)) rfl) rfl (List.forall_mem_cons.mpr ⟨rfl, fun _ h => absurd h List.not_mem_nil⟩) (ygf38 hB _) (fun v2 m2 cv2 => ?_)
  refine xS_of (pc' := 22) (L' := [(0, xa 0), (1, xi x1)]) (st' := [xi x1]) (m' := m2) (fun ex ns r q => ?_) ?_
  · refine xw_iload_n rfl rfl ?_
    exact q
  refine xS_if (fun h0 => ?_) (fun h0 => ?_)
  · refine xS_of (pc' := 42) (L' := [(0, xa 0), (1, xi x1)]) (st' := [xi (xR m2 1 6)]) (m' := m2) (fun ex ns r q => ?_) ?_
    · refine xw_if_neF rfl (w32_cg c1) h0 ?_
      refine xw_aload_n rfl rfl rfl ?_
      refine xw_gfR (n := 1) (e := 1) rfl (xw_obd (by decide +kernel)) (by decide +kernel) (by decide +kernel) rfl ?_
      refine xw_gfIc (v := (m2 1 6)) (v' := (xR m2 1 6)) rfl (xw_obd (by decide +kernel)) xk1_6 (qi := 6) rfl rfl rfl ?_
      refine xw_goto rfl ?_
      exact q
    exact xS_ret (v := (xR m2 1 6)) rfl rfl xw_rtI (w32_xR _ _ _)
  · refine xS_of (pc' := 42) (L' := [(0, xa 0), (1, xi x1)]) (st' := [xi (xR m2 1 7)]) (m' := m2) (fun ex ns r q => ?_) ?_
    · refine xw_if_neT rfl (w32_cg c1) h0 ?_
      refine xw_aload_n rfl rfl rfl ?_
      refine xw_gfR (n := 1) (e := 1) rfl (xw_obd (by decide +kernel)) (by decide +kernel) (by decide +kernel) rfl ?_
      refine xw_gfIc (v := (m2 1 7)) (v' := (xR m2 1 7)) rfl (xw_obd (by decide +kernel)) xk1_7 (qi := 7) rfl rfl rfl ?_
      exact q
    exact xS_ret (v := (xR m2 1 7)) rfl rfl xw_rtI (w32_xR _ _ _)
theorem ygf145 {B : Nat} (hB : B ≤ 512) {xs : Nat → Int32} {SL d : Nat} : ∀ p0 m, w32 p0 = p0 → xS B xs SL (d + 2) 145 (2, (some .int), [], 1) 1 0 [(0, xa 0), (1, xi p0)] [] m (yf145 B p0 m) := by
  intro p0 m cp0
  unfold yf145
  refine xS_of (pc' := 1) (L' := [(0, xa 0), (1, xi p0)]) (st' := [xi p0]) (m' := m) (fun ex ns r q => ?_) ?_
  · refine xw_iload_n rfl rfl ?_
    exact q
  refine xS_if (fun h0 => ?_) (fun h0 => ?_)
  · refine xS_of (pc' := 9) (L' := [(0, xa 0), (1, xi p0)]) (st' := []) (m' := m) (fun ex ns r q => ?_) ?_
    · refine xw_if_eqT rfl (w32_cg cp0) h0 ?_
      refine xw_lo (L2 := [(0, xa 0), (1, xi p0)]) (List.forall_mem_cons.mpr ⟨rfl, List.forall_mem_cons.mpr ⟨rfl, fun _ h => absurd h List.not_mem_nil⟩⟩) ?_
      exact q
    exact ygk145_9 hB _ _ cp0
  · refine xS_of (pc' := 6) (L' := [(0, xa 0), (1, xi p0)]) (st' := [xi 1, xi p0]) (m' := m) (fun ex ns r q => ?_) ?_
    · refine xw_if_eqF rfl (w32_cg cp0) h0 ?_
      refine xw_iload_n rfl rfl ?_
      refine xw_iconst rfl ?_
      exact q
    refine xS_if (fun h1 => ?_) (fun h1 => ?_)
    · refine xS_of (pc' := 9) (L' := [(0, xa 0), (1, xi p0)]) (st' := []) (m' := m) (fun ex ns r q => ?_) ?_
      · refine xw_ic_neF rfl (w32_cg cp0) (w32_cg rfl) h1 ?_
        refine xw_lo (L2 := [(0, xa 0), (1, xi p0)]) (List.forall_mem_cons.mpr ⟨rfl, List.forall_mem_cons.mpr ⟨rfl, fun _ h => absurd h List.not_mem_nil⟩⟩) ?_
        exact q
      exact ygk145_9 hB _ _ cp0
    · refine xS_of (pc' := 14) (L' := [(0, xa 0), (1, xi p0)]) (st' := [xi 0]) (m' := m) (fun ex ns r q => ?_) ?_
      · refine xw_ic_neT rfl (w32_cg cp0) (w32_cg rfl) h1 ?_
        refine xw_iconst rfl ?_
        refine xw_lo (L2 := [(0, xa 0), (1, xi p0)]) (List.forall_mem_cons.mpr ⟨rfl, List.forall_mem_cons.mpr ⟨rfl, fun _ h => absurd h List.not_mem_nil⟩⟩) ?_
        exact q
      refine xS_call (q := 43) (n := 1) (kq := 0) (as := [xi 0]) (st1 := []) rfl rfl rfl rfl rfl rfl rfl rfl rfl rfl (fun _ => xw_rcv0 rfl) rfl (List.forall_mem_cons.mpr ⟨rfl, fun _ h => absurd h List.not_mem_nil⟩) (ygf43 hB _ _ rfl) (fun v1 m1 cv1 => ?_)
      refine xS_of (pc' := 18) (L' := [(0, xa 0), (1, xi p0)]) (st' := [xa 0]) (m' := m1) (fun ex ns r q => ?_) ?_
      · refine xw_aload_n rfl rfl rfl ?_
        refine xw_lo (L2 := [(0, xa 0), (1, xi p0)]) (List.forall_mem_cons.mpr ⟨rfl, List.forall_mem_cons.mpr ⟨rfl, fun _ h => absurd h List.not_mem_nil⟩⟩) ?_
        exact q
      refine xS_call (q := 38) (n := 1) (kq := 0) (as := [xa 0]) (st1 := []) rfl rfl rfl rfl rfl rfl rfl rfl rfl rfl (fun _ => xw_rcv1 (t := 0) (xw_obd (by decide +kernel)) rfl) rfl (List.forall_mem_cons.mpr ⟨rfl, fun _ h => absurd h List.not_mem_nil⟩) (ygf38 hB _) (fun v2 m2 cv2 => ?_)
      refine xS_of (pc' := 42) (L' := [(0, xa 0), (1, xi p0)]) (st' := [xi (xR m2 1 7)]) (m' := m2) (fun ex ns r q => ?_) ?_
      · refine xw_iload_n rfl rfl ?_
        refine xw_if_neT rfl (w32_cg cp0) h0 ?_
        refine xw_aload_n rfl rfl rfl ?_
        refine xw_gfR (n := 1) (e := 1) rfl (xw_obd (by decide +kernel)) (by decide +kernel) (by decide +kernel) rfl ?_
        refine xw_gfIc (v := (m2 1 7)) (v' := (xR m2 1 7)) rfl (xw_obd (by decide +kernel)) xk1_7 (qi := 7) rfl rfl rfl ?_
        exact q
      exact xS_ret (v := (xR m2 1 7)) rfl rfl xw_rtI (w32_xR _ _ _)

theorem ysl148_2 {B : Nat} (hB : B ≤ 512) {xs : Nat → Int32} {SL d : Nat} {r2 : Int → xw_M → xP} (hr2 : ∀ x1 m, w32 x1 = x1 → xS B xs SL (d + 0) 148 (2, (some .boolean), [], 3) 4 2 [(0, xa 3), (1, xi x1)] [] m (r2 x1 m)) : ∀ x1 m, w32 x1 = x1 → xS B xs SL (d + 0) 148 (2, (some .boolean), [], 3) 4 2 [(0, xa 3), (1, xi x1)] [] m (yl148_2 B r2 x1 m) := by
  intro x1 m c1
  unfold yl148_2
  refine xS_of (pc' := 7) (L' := [(0, xa 3), (1, xi x1)]) (st' := [xi (xR m 3 1), xi x1]) (m' := m) (fun ex ns r q => ?_) ?_
  · refine xw_iload_n rfl rfl ?_
    refine xw_aload_n rfl rfl rfl ?_
    refine xw_gfIc (v := (m 3 1)) (v' := (xR m 3 1)) rfl (xw_obd (by decide +kernel)) xk2_1 (qi := 1) rfl rfl rfl ?_
    exact q
  refine xS_if (fun h0 => ?_) (fun h0 => ?_)
  · refine xS_g (fun g1 => ?_)
    refine xS_g (fun g2 => ?_)
    refine xS_of (pc' := 19) (L' := [(0, xa 3), (1, xi x1)]) (st' := [xi (xR m (15 + (26 * x1)) 11)]) (m' := m) (fun ex ns r q => ?_) ?_
    · refine xw_ic_geF rfl (w32_cg c1) (w32_cg (w32_xR _ _ _)) (Int.not_le.mpr h0) ?_
      refine xw_aload_n rfl rfl rfl ?_
      refine xw_gfR (n := 4) (e := 4) rfl (xw_obd (by decide +kernel)) (by decide +kernel) (by decide +kernel) rfl ?_
      refine xw_iload_n rfl rfl ?_
      refine xw_aald (t := 23) (n := 8) (q := 15 + 26 * (x1).toNat) (e := (15 + (26 * x1))) rfl hB (xw_obd (by decide +kernel)) (by decide) rfl g1 (show 20 + 26 * (x1 : Int).toNat = 15 + 26 * (x1 : Int).toNat + 5 from by omega) (by have := g1; omega) ?_
      refine xw_gfIc (v := (m (15 + (26 * x1)) 11)) (v' := (xR m (15 + (26 * x1)) 11)) rfl (xw_obd g2) xk3_11 (qi := 11) rfl rfl rfl ?_
      exact q
    refine xS_if (fun h3 => ?_) (fun h3 => ?_)
    · refine xS_of (pc' := 23) (L' := [(0, xa 3), (1, xi x1)]) (st' := [xi 0]) (m' := m) (fun ex ns r q => ?_) ?_
      · refine xw_if_neF rfl (w32_cg (w32_xR _ _ _)) h3 ?_
        refine xw_iconst rfl ?_
        exact q
      exact xS_ret (v := 0) rfl rfl (xw_rtZ (Or.inl rfl)) (Or.inl rfl)
    · refine xS_of (pc' := 2) (L' := [(0, xa 3), (1, xi (w32 (x1 + 1)))]) (st' := []) (m' := m) (fun ex ns r q => ?_) ?_
      · refine xw_if_neT rfl (w32_cg (w32_xR _ _ _)) h3 ?_
        refine xw_iincc (z := (w32 (x1 + 1))) (L' := [(1, xi (w32 (x1 + 1))), (0, xa 3)]) rfl rfl (by decide) rfl rfl ?_
        refine xw_goto rfl ?_
        refine xw_lo (L2 := [(0, xa 3), (1, xi (w32 (x1 + 1)))]) (List.forall_mem_cons.mpr ⟨rfl, List.forall_mem_cons.mpr ⟨rfl, fun _ h => absurd h List.not_mem_nil⟩⟩) ?_
        exact q
      exact hr2 _ _ (w32_w _)
  · refine xS_of (pc' := 34) (L' := [(0, xa 3), (1, xi x1)]) (st' := [xi (xR m 3 1)]) (m' := m) (fun ex ns r q => ?_) ?_
    · refine xw_ic_geT rfl (w32_cg c1) (w32_cg (w32_xR _ _ _)) (Int.not_lt.mp h0) ?_
      refine xw_aload_n rfl rfl rfl ?_
      refine xw_gfIc (v := (m 3 1)) (v' := (xR m 3 1)) rfl (xw_obd (by decide +kernel)) xk2_1 (qi := 1) rfl rfl rfl ?_
      exact q
    refine xS_if (fun h1 => ?_) (fun h1 => ?_)
    · refine xS_of (pc' := 41) (L' := [(0, xa 3), (1, xi x1)]) (st' := [xi (xR m 3 2)]) (m' := m) (fun ex ns r q => ?_) ?_
      · refine xw_if_leF rfl (w32_cg (w32_xR _ _ _)) (Int.not_le.mpr h1) ?_
        refine xw_aload_n rfl rfl rfl ?_
        refine xw_gfIc (v := (m 3 2)) (v' := (xR m 3 2)) rfl (xw_obd (by decide +kernel)) xk2_2 (qi := 2) rfl rfl rfl ?_
        exact q
      refine xS_if (fun h2 => ?_) (fun h2 => ?_)
      · refine xS_of (pc' := 49) (L' := [(0, xa 3), (1, xi x1)]) (st' := [xi 1]) (m' := m) (fun ex ns r q => ?_) ?_
        · refine xw_if_leF rfl (w32_cg (w32_xR _ _ _)) (Int.not_le.mpr h2) ?_
          refine xw_iconst rfl ?_
          refine xw_goto rfl ?_
          exact q
        exact xS_ret (v := 1) rfl rfl (xw_rtZ (Or.inr rfl)) (Or.inr rfl)
      · refine xS_of (pc' := 49) (L' := [(0, xa 3), (1, xi x1)]) (st' := [xi 0]) (m' := m) (fun ex ns r q => ?_) ?_
        · refine xw_if_leT rfl (w32_cg (w32_xR _ _ _)) (Int.not_lt.mp h2) ?_
          refine xw_iconst rfl ?_
          exact q
        exact xS_ret (v := 0) rfl rfl (xw_rtZ (Or.inl rfl)) (Or.inl rfl)
    · refine xS_of (pc' := 49) (L' := [(0, xa 3), (1, xi x1)]) (st' := [xi 0]) (m' := m) (fun ex ns r q => ?_) ?_
      · refine xw_if_leT rfl (w32_cg (w32_xR _ _ _)) (Int.not_lt.mp h1) ?_
        refine xw_iconst rfl ?_
        exact q
      exact xS_ret (v := 0) rfl rfl (xw_rtZ (Or.inl rfl)) (Or.inl rfl)
theorem ygl148_2 {B : Nat} (hB : B ≤ 512) {xs : Nat → Int32} {SL d : Nat} : ∀ n x1 m, w32 x1 = x1 → xS B xs SL (d + 0) 148 (2, (some .boolean), [], 3) 4 2 [(0, xa 3), (1, xi x1)] [] m (xl1 (yl148_2 B) n x1 m) := by
  intro n
  induction n with
  | zero => intro x1 m c1; exact xS_none
  | succ n ih => exact ysl148_2 hB ih
theorem ygf148 {B : Nat} (hB : B ≤ 512) {xs : Nat → Int32} {SL d : Nat} : ∀ m, xS B xs SL (d + 0) 148 (2, (some .boolean), [], 3) 4 0 [(0, xa 3)] [] m (yf148 B m) := by
  intro m
  unfold yf148
  refine xS_of (pc' := 2) (L' := [(0, xa 3), (1, xi 0)]) (st' := []) (m' := m) (fun ex ns r q => ?_) ?_
  · refine xw_iconst rfl ?_
    refine xw_istore_n (L' := [(1, xi 0), (0, xa 3)]) rfl (by decide) rfl ?_
    refine xw_lo (L2 := [(0, xa 3), (1, xi 0)]) (List.forall_mem_cons.mpr ⟨rfl, List.forall_mem_cons.mpr ⟨rfl, fun _ h => absurd h List.not_mem_nil⟩⟩) ?_
    exact q
  exact ygl148_2 hB 1000000 _ _ rfl
theorem ygf149 {B : Nat} (hB : B ≤ 512) {xs : Nat → Int32} {SL d : Nat} : ∀ m, xS B xs SL (d + 0) 149 (1, (some .int), [], 3) 1 0 [(0, xa 3)] [] m (yf149 B m) := by
  intro m
  unfold yf149
  refine xS_of (pc' := 12) (L' := [(0, xa 3)]) (st' := [xi (xw_iorf (xR m 3 1) (xw_ishlf (xR m 3 2) 8))]) (m' := m) (fun ex ns r q => ?_) ?_
  · refine xw_aload_n rfl rfl rfl ?_
    refine xw_gfIc (v := (m 3 1)) (v' := (xR m 3 1)) rfl (xw_obd (by decide +kernel)) xk2_1 (qi := 1) rfl rfl rfl ?_
    refine xw_aload_n rfl rfl rfl ?_
    refine xw_gfIc (v := (m 3 2)) (v' := (xR m 3 2)) rfl (xw_obd (by decide +kernel)) xk2_2 (qi := 2) rfl rfl rfl ?_
    refine xw_bipush (e := 8) rfl (by decide +kernel) ?_
    refine xw_ishl (z := (xw_ishlf (xR m 3 2) 8)) rfl (xw_ishle _ _) ?_
    refine xw_ior (z := (xw_iorf (xR m 3 1) (xw_ishlf (xR m 3 2) 8))) rfl (xw_iore _ _) ?_
    exact q
  exact xS_ret (v := (xw_iorf (xR m 3 1) (xw_ishlf (xR m 3 2) 8))) rfl rfl xw_rtI (w32_ti _)
theorem ygf151 {B : Nat} (hB : B ≤ 512) {xs : Nat → Int32} {SL d : Nat} : ∀ t m, xS B xs SL (d + 2) 151 (1, none, [], 12) 0 0 [(0, xa t)] [] m (yf151 B t m) := by
  intro t m
  unfold yf151
  refine xS_g (fun g0 => ?_)
  refine xS_g (fun g1 => ?_)
  refine xS_of (pc' := 23) (L' := [(0, xa t)]) (st' := [xj 0, xi (min (w32 (xw_le B (xw_rf t 0))) (w32 ((xw_ishrf (xR m t 2) 6) + 2))), xi 0, xa (xw_rf t 0)]) (m' := m) (fun ex ns r q => ?_) ?_
  · refine xw_aload_n rfl rfl rfl ?_
    refine xw_gfV (qi := 0) rfl (xw_obd g0) xk11_0 rfl ?_
    refine xw_iconst rfl ?_
    refine xw_aload_n rfl rfl rfl ?_
    refine xw_gfV (qi := 0) rfl (xw_obd g0) xk11_0 rfl ?_
    refine xw_lenr (t := 17) rfl (xw_obd g1) (by decide) rfl ?_
    refine xw_aload_n rfl rfl rfl ?_
    refine xw_gfIc (v := (m t 2)) (v' := (xR m t 2)) rfl (xw_obd g0) xk11_2 (qi := 2) rfl rfl rfl ?_
    refine xw_bipush (e := 6) rfl (by decide +kernel) ?_
    refine xw_ishr (z := (xw_ishrf (xR m t 2) 6)) rfl (xw_ishre _ _) ?_
    refine xw_iconst rfl ?_
    refine xw_iadd rfl ?_
    refine xw_cst (st' := [xi (w32 ((xw_ishrf (xR m t 2) 6) + 2)), xi (w32 (xw_le B (xw_rf t 0))), xi 0, xa (xw_rf t 0)]) (xw_sc (xi_c rfl) (xw_sc (xi_c rfl) rfl)) ?_
    refine xw_minI rfl rfl (w32_cg (w32_w _)) (w32_cg (w32_w _)) rfl ?_
    refine xw_lconst (e := 0) rfl rfl ?_
    refine xw_lo (L2 := [(0, xa t)]) (List.forall_mem_cons.mpr ⟨rfl, fun _ h => absurd h List.not_mem_nil⟩) ?_
    exact q
  refine xS_call (q := 120) (n := 4) (kq := 0) (as := [xa (xw_rf t 0), xi 0, xi (min (w32 (xw_le B (xw_rf t 0))) (w32 ((xw_ishrf (xR m t 2) 6) + 2))), xj 0]) (st1 := []) rfl rfl rfl rfl rfl rfl rfl rfl rfl rfl (fun _ => xw_rcv0 rfl) rfl (List.forall_mem_cons.mpr ⟨rfl, List.forall_mem_cons.mpr ⟨rfl, List.forall_mem_cons.mpr ⟨rfl, List.forall_mem_cons.mpr ⟨rfl, fun _ h => absurd h List.not_mem_nil⟩⟩⟩⟩) (ygf120 hB _ _ _ _ _ rfl (w32_mn (w32_w _) (w32_w _)) rfl) (fun v1 m1 cv1 => ?_)
  refine xS_of (pc' := 36) (L' := [(0, xa t)]) (st' := []) (m' := (xw_u (xw_u m1 t 2 0) t 3 0)) (fun ex ns r q => ?_) ?_
  · refine xw_aload_n rfl rfl rfl ?_
    refine xw_iconst rfl ?_
    refine xw_pfI rfl (xw_obd g0) xk11_2 (qi := 2) rfl (xw_okI rfl) ?_
    refine xw_aload_n rfl rfl rfl ?_
    refine xw_iconst rfl ?_
    refine xw_pfI rfl (xw_obd g0) xk11_3 (qi := 3) rfl (xw_okZ rfl (Or.inl rfl)) ?_
    exact q
  exact xS_ret (v := 0) rfl rfl rfl rfl
theorem ygk152_104 {B : Nat} (hB : B ≤ 512) {xs : Nat → Int32} {SL d : Nat} : ∀ x0 x3 m, w32 x3 = x3 → xS B xs SL (d + 0) 152 (8, none, [], 12) 0 104 [(0, xa x0), (3, xi x3)] [] m (yk152_104 B x0 x3 m) := by
  intro x0 x3 m c3
  unfold yk152_104
  refine xS_g (fun g0 => ?_)
  refine xS_of (pc' := 114) (L' := [(0, xa x0), (3, xi x3)]) (st' := []) (m' := (xw_u m x0 2 ((xR m x0 2) + x3))) (fun ex ns r q => ?_) ?_
  · refine xw_aload_n rfl rfl rfl ?_
    refine xw_dup rfl rfl ?_
    refine xw_gfIc (v := (m x0 2)) (v' := (xR m x0 2)) rfl (xw_obd g0) xk11_2 (qi := 2) rfl rfl rfl ?_
    refine xw_iload_n rfl rfl ?_
    refine xw_iadd rfl ?_
    refine xw_pfI rfl (xw_obd g0) xk11_2 (qi := 2) rfl (xw_okI rfl) ?_
    exact q
  exact xS_ret (v := 0) rfl rfl rfl rfl
theorem ygk152_18 {B : Nat} (hB : B ≤ 512) {xs : Nat → Int32} {SL d : Nat} : ∀ x0 x1 x3 m, w64 x1 = x1 → w32 x3 = x3 → xS B xs SL (d + 0) 152 (8, none, [], 12) 0 18 [(0, xa x0), (1, xj x1), (3, xi x3)] [] m (yk152_18 B x0 x1 x3 m) := by
  intro x0 x1 x3 m c1 c3
  unfold yk152_18
  refine xS_g (fun g0 => ?_)
  refine xS_of (pc' := 22) (L' := [(0, xa x0), (1, xj x1), (3, xi x3)]) (st' := [xi (xR m x0 3)]) (m' := m) (fun ex ns r q => ?_) ?_
  · refine xw_aload_n rfl rfl rfl ?_
    refine xw_gfIc (v := (m x0 3)) (v' := (xR m x0 3)) rfl (xw_obd g0) xk11_3 (qi := 3) rfl rfl rfl ?_
    exact q
  refine xS_if (fun h1 => ?_) (fun h1 => ?_)
  · refine xS_of (pc' := 26) (L' := [(0, xa x0), (1, xj x1), (3, xi x3)]) (st' := [xi x3]) (m' := m) (fun ex ns r q => ?_) ?_
    · refine xw_if_neF rfl (w32_cg (w32_xR _ _ _)) h1 ?_
      refine xw_iload_n rfl rfl ?_
      exact q
    refine xS_if (fun h2 => ?_) (fun h2 => ?_)
    · refine xS_of (pc' := 29) (L' := [(0, xa x0), (1, xj x1), (3, xi x3)]) (st' := []) (m' := m) (fun ex ns r q => ?_) ?_
      · refine xw_if_neF rfl (w32_cg c3) h2 ?_
        exact q
      exact xS_ret (v := 0) rfl rfl rfl rfl
    · refine xS_g (fun g3 => ?_)
      refine xS_g (fun g4 => ?_)
      refine xS_of (pc' := 81) (L' := [(7, xi (xw_iandf (xR m x0 2) 63)), (6, xi (xw_ishrf (xR m x0 2) 6)), (4, xj (xw_landf x1 (xw_lushrf (-1) (64 - x3)))), (0, xa x0), (1, xj x1), (3, xi x3)]) (st' := [xi 64, xi (w32 ((xw_iandf (xR m x0 2) 63) + x3))]) (m' := (xw_u m (xw_rf x0 0) (xw_ishrf (xR m x0 2) 6) (xw_lorf (xJ m (xw_rf x0 0) (xw_ishrf (xR m x0 2) 6)) (xw_lshlf (xw_landf x1 (xw_lushrf (-1) (64 - x3))) (xw_iandf (xR m x0 2) 63))))) (fun ex ns r q => ?_) ?_
      · refine xw_if_neT rfl (w32_cg c3) h2 ?_
        refine xw_lload_n rfl rfl ?_
        refine xw_ldc2 (e := (-1)) rfl (by decide +kernel) ?_
        refine xw_bipush (e := 64) rfl (by decide +kernel) ?_
        refine xw_iload_n rfl rfl ?_
        refine xw_isub rfl ?_
        refine xw_lushr (z := (xw_lushrf (-1) (64 - x3))) rfl (xw_lushre _ _) ?_
        refine xw_land (z := (xw_landf x1 (xw_lushrf (-1) (64 - x3)))) rfl (xw_lande _ _) ?_
        refine xw_lstore (L' := [(4, xj (xw_landf x1 (xw_lushrf (-1) (64 - x3)))), (0, xa x0), (1, xj x1), (3, xi x3)]) rfl (by decide) rfl ?_
        refine xw_aload_n rfl rfl rfl ?_
        refine xw_gfIc (v := (m x0 2)) (v' := (xR m x0 2)) rfl (xw_obd g0) xk11_2 (qi := 2) rfl rfl rfl ?_
        refine xw_bipush (e := 6) rfl (by decide +kernel) ?_
        refine xw_ishr (z := (xw_ishrf (xR m x0 2) 6)) rfl (xw_ishre _ _) ?_
        refine xw_istore (L' := [(6, xi (xw_ishrf (xR m x0 2) 6)), (4, xj (xw_landf x1 (xw_lushrf (-1) (64 - x3)))), (0, xa x0), (1, xj x1), (3, xi x3)]) rfl (by decide) rfl ?_
        refine xw_aload_n rfl rfl rfl ?_
        refine xw_gfIc (v := (m x0 2)) (v' := (xR m x0 2)) rfl (xw_obd g0) xk11_2 (qi := 2) rfl rfl rfl ?_
        refine xw_bipush (e := 63) rfl (by decide +kernel) ?_
        refine xw_iand (z := (xw_iandf (xR m x0 2) 63)) rfl (xw_iande _ _) ?_
        refine xw_istore (L' := [(7, xi (xw_iandf (xR m x0 2) 63)), (6, xi (xw_ishrf (xR m x0 2) 6)), (4, xj (xw_landf x1 (xw_lushrf (-1) (64 - x3)))), (0, xa x0), (1, xj x1), (3, xi x3)]) rfl (by decide) rfl ?_
        refine xw_aload_n rfl rfl rfl ?_
        refine xw_gfV (qi := 0) rfl (xw_obd g0) xk11_0 rfl ?_
        refine xw_iload rfl rfl ?_
        refine xw_dup2 rfl rfl rfl ?_
        refine xw_laldc (n := (xw_le B (xw_rf x0 0))) (v := (m (xw_rf x0 0) (xw_ishrf (xR m x0 2) 6))) (v' := (xJ m (xw_rf x0 0) (xw_ishrf (xR m x0 2) 6))) rfl hB (xw_obd g4) rfl g3 rfl rfl ?_
        refine xw_lload rfl rfl ?_
        refine xw_iload rfl rfl ?_
        refine xw_lshl (z := (xw_lshlf (xw_landf x1 (xw_lushrf (-1) (64 - x3))) (xw_iandf (xR m x0 2) 63))) rfl (xw_lshle _ _) ?_
        refine xw_lor (z := (xw_lorf (xJ m (xw_rf x0 0) (xw_ishrf (xR m x0 2) 6)) (xw_lshlf (xw_landf x1 (xw_lushrf (-1) (64 - x3))) (xw_iandf (xR m x0 2) 63)))) rfl (xw_lore _ _) ?_
        refine xw_last (n := (xw_le B (xw_rf x0 0))) rfl hB (xw_obd g4) rfl g3 ?_
        refine xw_iload rfl rfl ?_
        refine xw_iload_n rfl rfl ?_
        refine xw_iadd rfl ?_
        refine xw_bipush (e := 64) rfl (by decide +kernel) ?_
        refine xw_cst (st' := [xi 64, xi (w32 ((xw_iandf (xR m x0 2) 63) + x3))]) (xw_sc rfl (xw_sc (xi_c rfl) rfl)) ?_
        exact q
      refine xS_if (fun h5 => ?_) (fun h5 => ?_)
      · refine xS_g (fun g6 => ?_)
        refine xS_of (pc' := 104) (L' := [(0, xa x0), (3, xi x3)]) (st' := []) (m' := (xw_u (xw_u m (xw_rf x0 0) (xw_ishrf (xR m x0 2) 6) (xw_lorf (xJ m (xw_rf x0 0) (xw_ishrf (xR m x0 2) 6)) (xw_lshlf (xw_landf x1 (xw_lushrf (-1) (64 - x3))) (xw_iandf (xR m x0 2) 63)))) (xw_rf x0 0) ((xw_ishrf (xR m x0 2) 6) + 1) (xw_lorf (xJ (xw_u m (xw_rf x0 0) (xw_ishrf (xR m x0 2) 6) (xw_lorf (xJ m (xw_rf x0 0) (xw_ishrf (xR m x0 2) 6)) (xw_lshlf (xw_landf x1 (xw_lushrf (-1) (64 - x3))) (xw_iandf (xR m x0 2) 63)))) (xw_rf x0 0) ((xw_ishrf (xR m x0 2) 6) + 1)) (xw_lushrf (xw_landf x1 (xw_lushrf (-1) (64 - x3))) (64 - (xw_iandf (xR m x0 2) 63)))))) (fun ex ns r q => ?_) ?_
        · refine xw_ic_leF rfl (w32_cg (w32_w _)) (w32_cg rfl) (Int.not_le.mpr h5) ?_
          refine xw_aload_n rfl rfl rfl ?_
          refine xw_gfV (qi := 0) rfl (xw_obd g0) xk11_0 rfl ?_
          refine xw_iload rfl rfl ?_
          refine xw_iconst rfl ?_
          refine xw_iadd rfl ?_
          refine xw_dup2 rfl rfl rfl ?_
          refine xw_laldc (n := (xw_le B (xw_rf x0 0))) (v := ((xw_u m (xw_rf x0 0) (xw_ishrf (xR m x0 2) 6) (xw_lorf (xJ m (xw_rf x0 0) (xw_ishrf (xR m x0 2) 6)) (xw_lshlf (xw_landf x1 (xw_lushrf (-1) (64 - x3))) (xw_iandf (xR m x0 2) 63)))) (xw_rf x0 0) ((xw_ishrf (xR m x0 2) 6) + 1))) (v' := (xJ (xw_u m (xw_rf x0 0) (xw_ishrf (xR m x0 2) 6) (xw_lorf (xJ m (xw_rf x0 0) (xw_ishrf (xR m x0 2) 6)) (xw_lshlf (xw_landf x1 (xw_lushrf (-1) (64 - x3))) (xw_iandf (xR m x0 2) 63)))) (xw_rf x0 0) ((xw_ishrf (xR m x0 2) 6) + 1))) rfl hB (xw_obd g4) rfl g6 rfl rfl ?_
          refine xw_lload rfl rfl ?_
          refine xw_bipush (e := 64) rfl (by decide +kernel) ?_
          refine xw_iload rfl rfl ?_
          refine xw_isub rfl ?_
          refine xw_lushr (z := (xw_lushrf (xw_landf x1 (xw_lushrf (-1) (64 - x3))) (64 - (xw_iandf (xR m x0 2) 63)))) rfl (xw_lushre _ _) ?_
          refine xw_lor (z := (xw_lorf (xJ (xw_u m (xw_rf x0 0) (xw_ishrf (xR m x0 2) 6) (xw_lorf (xJ m (xw_rf x0 0) (xw_ishrf (xR m x0 2) 6)) (xw_lshlf (xw_landf x1 (xw_lushrf (-1) (64 - x3))) (xw_iandf (xR m x0 2) 63)))) (xw_rf x0 0) ((xw_ishrf (xR m x0 2) 6) + 1)) (xw_lushrf (xw_landf x1 (xw_lushrf (-1) (64 - x3))) (64 - (xw_iandf (xR m x0 2) 63))))) rfl (xw_lore _ _) ?_
          refine xw_last (n := (xw_le B (xw_rf x0 0))) rfl hB (xw_obd g4) rfl g6 ?_
          refine xw_lo (L2 := [(0, xa x0), (3, xi x3)]) (List.forall_mem_cons.mpr ⟨rfl, List.forall_mem_cons.mpr ⟨rfl, fun _ h => absurd h List.not_mem_nil⟩⟩) ?_
          exact q
        exact ygk152_104 hB _ _ _ c3
      · refine xS_of (pc' := 104) (L' := [(0, xa x0), (3, xi x3)]) (st' := []) (m' := (xw_u m (xw_rf x0 0) (xw_ishrf (xR m x0 2) 6) (xw_lorf (xJ m (xw_rf x0 0) (xw_ishrf (xR m x0 2) 6)) (xw_lshlf (xw_landf x1 (xw_lushrf (-1) (64 - x3))) (xw_iandf (xR m x0 2) 63))))) (fun ex ns r q => ?_) ?_
        · refine xw_ic_leT rfl (w32_cg (w32_w _)) (w32_cg rfl) (Int.not_lt.mp h5) ?_
          refine xw_lo (L2 := [(0, xa x0), (3, xi x3)]) (List.forall_mem_cons.mpr ⟨rfl, List.forall_mem_cons.mpr ⟨rfl, fun _ h => absurd h List.not_mem_nil⟩⟩) ?_
          exact q
        exact ygk152_104 hB _ _ _ c3
  · refine xS_of (pc' := 29) (L' := [(0, xa x0), (1, xj x1), (3, xi x3)]) (st' := []) (m' := m) (fun ex ns r q => ?_) ?_
    · refine xw_if_neT rfl (w32_cg (w32_xR _ _ _)) h1 ?_
      exact q
    exact xS_ret (v := 0) rfl rfl rfl rfl
theorem ygf152 {B : Nat} (hB : B ≤ 512) {xs : Nat → Int32} {SL d : Nat} : ∀ t p0 p1 m, w64 p0 = p0 → w32 p1 = p1 → xS B xs SL (d + 0) 152 (8, none, [], 12) 0 0 [(0, xa t), (1, xj p0), (3, xi p1)] [] m (yf152 B t p0 p1 m) := by
  intro t p0 p1 m cp0 cp1
  unfold yf152
  refine xS_g (fun g0 => ?_)
  refine xS_of (pc' := 10) (L' := [(0, xa t), (1, xj p0), (3, xi p1)]) (st' := [xi (w32 ((xR m t 1) - (xR m t 2))), xi p1]) (m' := m) (fun ex ns r q => ?_) ?_
  · refine xw_iload_n rfl rfl ?_
    refine xw_aload_n rfl rfl rfl ?_
    refine xw_gfIc (v := (m t 1)) (v' := (xR m t 1)) rfl (xw_obd g0) xk11_1 (qi := 1) rfl rfl rfl ?_
    refine xw_aload_n rfl rfl rfl ?_
    refine xw_gfIc (v := (m t 2)) (v' := (xR m t 2)) rfl (xw_obd g0) xk11_2 (qi := 2) rfl rfl rfl ?_
    refine xw_isub rfl ?_
    refine xw_cst (st' := [xi (w32 ((xR m t 1) - (xR m t 2))), xi p1]) (xw_sc (xi_c rfl) (xw_sc rfl rfl)) ?_
    exact q
  refine xS_if (fun h1 => ?_) (fun h1 => ?_)
  · refine xS_of (pc' := 18) (L' := [(0, xa t), (1, xj p0), (3, xi p1)]) (st' := []) (m' := (xw_u m t 3 1)) (fun ex ns r q => ?_) ?_
    · refine xw_ic_leF rfl (w32_cg cp1) (w32_cg (w32_w _)) (Int.not_le.mpr h1) ?_
      refine xw_aload_n rfl rfl rfl ?_
      refine xw_iconst rfl ?_
      refine xw_pfI rfl (xw_obd g0) xk11_3 (qi := 3) rfl (xw_okZ rfl (Or.inr rfl)) ?_
      refine xw_lo (L2 := [(0, xa t), (1, xj p0), (3, xi p1)]) (List.forall_mem_cons.mpr ⟨rfl, List.forall_mem_cons.mpr ⟨rfl, List.forall_mem_cons.mpr ⟨rfl, fun _ h => absurd h List.not_mem_nil⟩⟩⟩) ?_
      exact q
    exact ygk152_18 hB _ _ _ _ cp0 cp1
  · refine xS_of (pc' := 18) (L' := [(0, xa t), (1, xj p0), (3, xi p1)]) (st' := []) (m' := m) (fun ex ns r q => ?_) ?_
    · refine xw_ic_leT rfl (w32_cg cp1) (w32_cg (w32_w _)) (Int.not_lt.mp h1) ?_
      refine xw_lo (L2 := [(0, xa t), (1, xj p0), (3, xi p1)]) (List.forall_mem_cons.mpr ⟨rfl, List.forall_mem_cons.mpr ⟨rfl, List.forall_mem_cons.mpr ⟨rfl, fun _ h => absurd h List.not_mem_nil⟩⟩⟩) ?_
      exact q
    exact ygk152_18 hB _ _ _ _ cp0 cp1
theorem ygf150 {B : Nat} (hB : B ≤ 512) {xs : Nat → Int32} {SL d : Nat} : ∀ p0 p1 m, w32 p0 = p0 → w32 p1 = p1 → xS B xs SL (d + 3) 150 (3, none, [], 11) 0 0 [(0, xa 508), (1, xi p0), (2, xi p1)] [] m (yf150 B p0 p1 m) := by
  intro p0 p1 m cp0 cp1
  unfold yf150
  refine xS_of (pc' := 4) (L' := [(0, xa 508), (1, xi p0), (2, xi p1)]) (st' := [xa 518]) (m' := m) (fun ex ns r q => ?_) ?_
  · refine xw_aload_n rfl rfl rfl ?_
    refine xw_gfR (n := 518) (e := 518) rfl (xw_obd (by decide +kernel)) (by decide +kernel) (by decide +kernel) rfl ?_
    refine xw_lo (L2 := [(0, xa 508), (1, xi p0), (2, xi p1)]) (List.forall_mem_cons.mpr ⟨rfl, List.forall_mem_cons.mpr ⟨rfl, List.forall_mem_cons.mpr ⟨rfl, fun _ h => absurd h List.not_mem_nil⟩⟩⟩) ?_
    exact q
  refine xS_call (q := 151) (n := 1) (kq := 0) (as := [xa 518]) (st1 := []) rfl rfl rfl rfl rfl rfl rfl rfl rfl rfl (fun _ => xw_rcv1 (t := 11) (xw_obd (by decide +kernel)) rfl) rfl (List.forall_mem_cons.mpr ⟨rfl, fun _ h => absurd h List.not_mem_nil⟩) (ygf151 hB _ _) (fun v1 m1 cv1 => ?_)
  refine xS_of (pc' := 15) (L' := [(0, xa 508), (2, xi p1)]) (st' := [xi 8, xj p0, xa 518]) (m' := m1) (fun ex ns r q => ?_) ?_
  · refine xw_aload_n rfl rfl rfl ?_
    refine xw_gfR (n := 518) (e := 518) rfl (xw_obd (by decide +kernel)) (by decide +kernel) (by decide +kernel) rfl ?_
    refine xw_iload_n rfl rfl ?_
    refine xw_i2l rfl (w32_cg cp0) ?_
    refine xw_bipush (e := 8) rfl (by decide +kernel) ?_
    refine xw_lo (L2 := [(0, xa 508), (2, xi p1)]) (List.forall_mem_cons.mpr ⟨rfl, List.forall_mem_cons.mpr ⟨rfl, fun _ h => absurd h List.not_mem_nil⟩⟩) ?_
    exact q
  refine xS_call (q := 152) (n := 3) (kq := 0) (as := [xa 518, xj p0, xi 8]) (st1 := []) rfl rfl rfl rfl rfl rfl rfl rfl rfl rfl (fun _ => xw_rcv1 (t := 11) (xw_obd (by decide +kernel)) rfl) rfl (List.forall_mem_cons.mpr ⟨rfl, List.forall_mem_cons.mpr ⟨rfl, List.forall_mem_cons.mpr ⟨rfl, fun _ h => absurd h List.not_mem_nil⟩⟩⟩) (ygf152 hB _ _ _ _ (w64_32 cp0) rfl) (fun v2 m2 cv2 => ?_)
  refine xS_of (pc' := 29) (L' := [(0, xa 508), (2, xi p1)]) (st' := [xi 24, xj (xR m2 508 8), xa 518]) (m' := m2) (fun ex ns r q => ?_) ?_
  · refine xw_aload_n rfl rfl rfl ?_
    refine xw_gfR (n := 518) (e := 518) rfl (xw_obd (by decide +kernel)) (by decide +kernel) (by decide +kernel) rfl ?_
    refine xw_aload_n rfl rfl rfl ?_
    refine xw_gfIc (v := (m2 508 8)) (v' := (xR m2 508 8)) rfl (xw_obd (by decide +kernel)) xk10_8 (qi := 8) rfl rfl rfl ?_
    refine xw_i2l rfl (w32_cg (w32_xR _ _ _)) ?_
    refine xw_bipush (e := 24) rfl (by decide +kernel) ?_
    refine xw_lo (L2 := [(0, xa 508), (2, xi p1)]) (List.forall_mem_cons.mpr ⟨rfl, List.forall_mem_cons.mpr ⟨rfl, fun _ h => absurd h List.not_mem_nil⟩⟩) ?_
    exact q
  refine xS_call (q := 152) (n := 3) (kq := 0) (as := [xa 518, xj (xR m2 508 8), xi 24]) (st1 := []) rfl rfl rfl rfl rfl rfl rfl rfl rfl rfl (fun _ => xw_rcv1 (t := 11) (xw_obd (by decide +kernel)) rfl) rfl (List.forall_mem_cons.mpr ⟨rfl, List.forall_mem_cons.mpr ⟨rfl, List.forall_mem_cons.mpr ⟨rfl, fun _ h => absurd h List.not_mem_nil⟩⟩⟩) (ygf152 hB _ _ _ _ (w64_32 (w32_xR _ _ _)) rfl) (fun v3 m3 cv3 => ?_)
  refine xS_of (pc' := 40) (L' := []) (st' := [xi 32, xj p1, xa 518]) (m' := m3) (fun ex ns r q => ?_) ?_
  · refine xw_aload_n rfl rfl rfl ?_
    refine xw_gfR (n := 518) (e := 518) rfl (xw_obd (by decide +kernel)) (by decide +kernel) (by decide +kernel) rfl ?_
    refine xw_iload_n rfl rfl ?_
    refine xw_i2l rfl (w32_cg cp1) ?_
    refine xw_bipush (e := 32) rfl (by decide +kernel) ?_
    refine xw_lo (L2 := []) (fun _ h => absurd h List.not_mem_nil) ?_
    exact q
  refine xS_call (q := 152) (n := 3) (kq := 0) (as := [xa 518, xj p1, xi 32]) (st1 := []) rfl rfl rfl rfl rfl rfl rfl rfl rfl rfl (fun _ => xw_rcv1 (t := 11) (xw_obd (by decide +kernel)) rfl) rfl (List.forall_mem_cons.mpr ⟨rfl, List.forall_mem_cons.mpr ⟨rfl, List.forall_mem_cons.mpr ⟨rfl, fun _ h => absurd h List.not_mem_nil⟩⟩⟩) (ygf152 hB _ _ _ _ (w64_32 cp1) rfl) (fun v4 m4 cv4 => ?_)
  exact xS_ret (v := 0) rfl rfl rfl rfl
theorem ysl155_2 {B : Nat} (hB : B ≤ 512) {xs : Nat → Int32} {SL d : Nat} {r2 : Int → Int → Int → Int → xw_M → xP} (hr2 : ∀ x0 x1 x2 x3 m, w32 x2 = x2 → w32 x3 = x3 → xS B xs SL (d + 1) 155 (4, none, [], 12) 0 2 [(0, xa x0), (1, xa x1), (2, xi x2), (3, xi x3)] [] m (r2 x0 x1 x2 x3 m)) : ∀ x0 x1 x2 x3 m, w32 x2 = x2 → w32 x3 = x3 → xS B xs SL (d + 1) 155 (4, none, [], 12) 0 2 [(0, xa x0), (1, xa x1), (2, xi x2), (3, xi x3)] [] m (yl155_2 B r2 x0 x1 x2 x3 m) := by
  intro x0 x1 x2 x3 m c2 c3
  unfold yl155_2
  refine xS_of (pc' := 4) (L' := [(0, xa x0), (1, xa x1), (2, xi x2), (3, xi x3)]) (st' := [xi x2, xi x3]) (m' := m) (fun ex ns r q => ?_) ?_
  · refine xw_iload_n rfl rfl ?_
    refine xw_iload_n rfl rfl ?_
    exact q
  refine xS_if (fun h0 => ?_) (fun h0 => ?_)
  · refine xS_g (fun g1 => ?_)
    refine xS_g (fun g2 => ?_)
    refine xS_g (fun g3 => ?_)
    refine xS_of (pc' := 14) (L' := [(0, xa x0), (1, xa x1), (2, xi x2), (3, xi x3)]) (st' := [xi 8, xj (xR m x1 x3), xa x0]) (m' := m) (fun ex ns r q => ?_) ?_
    · refine xw_ic_geF rfl (w32_cg c3) (w32_cg c2) (Int.not_le.mpr h0) ?_
      refine xw_aload_n rfl rfl rfl ?_
      refine xw_aload_n rfl rfl rfl ?_
      refine xw_iload_n rfl rfl ?_
      refine xw_baldc (n := (xw_le B x1)) (v := (m x1 x3)) (v' := (xR m x1 x3)) rfl hB (xw_obd g2) rfl g1 rfl rfl ?_
      refine xw_i2l rfl (w32_cg (w32_xR _ _ _)) ?_
      refine xw_bipush (e := 8) rfl (by decide +kernel) ?_
      refine xw_lo (L2 := [(0, xa x0), (1, xa x1), (2, xi x2), (3, xi x3)]) (List.forall_mem_cons.mpr ⟨rfl, List.forall_mem_cons.mpr ⟨rfl, List.forall_mem_cons.mpr ⟨rfl, List.forall_mem_cons.mpr ⟨rfl, fun _ h => absurd h List.not_mem_nil⟩⟩⟩⟩) ?_
      exact q
    refine xS_call (q := 152) (n := 3) (kq := 0) (as := [xa x0, xj (xR m x1 x3), xi 8]) (st1 := []) rfl rfl rfl rfl rfl rfl rfl rfl rfl rfl (fun _ => xw_rcv1 (t := 11) (xw_obd g3) rfl) rfl (List.forall_mem_cons.mpr ⟨rfl, List.forall_mem_cons.mpr ⟨rfl, List.forall_mem_cons.mpr ⟨rfl, fun _ h => absurd h List.not_mem_nil⟩⟩⟩) (ygf152 hB _ _ _ _ (w64_32 (w32_xR _ _ _)) rfl) (fun v1 m1 cv1 => ?_)
    refine xS_of (pc' := 2) (L' := [(0, xa x0), (1, xa x1), (2, xi x2), (3, xi (w32 (x3 + 1)))]) (st' := []) (m' := m1) (fun ex ns r q => ?_) ?_
    · refine xw_iincc (z := (w32 (x3 + 1))) (L' := [(3, xi (w32 (x3 + 1))), (0, xa x0), (1, xa x1), (2, xi x2)]) rfl rfl (by decide) rfl rfl ?_
      refine xw_goto rfl ?_
      refine xw_lo (L2 := [(0, xa x0), (1, xa x1), (2, xi x2), (3, xi (w32 (x3 + 1)))]) (List.forall_mem_cons.mpr ⟨rfl, List.forall_mem_cons.mpr ⟨rfl, List.forall_mem_cons.mpr ⟨rfl, List.forall_mem_cons.mpr ⟨rfl, fun _ h => absurd h List.not_mem_nil⟩⟩⟩⟩) ?_
      exact q
    exact hr2 _ _ _ _ _ c2 (w32_w _)
  · refine xS_of (pc' := 23) (L' := [(0, xa x0), (1, xa x1), (2, xi x2), (3, xi x3)]) (st' := []) (m' := m) (fun ex ns r q => ?_) ?_
    · refine xw_ic_geT rfl (w32_cg c3) (w32_cg c2) (Int.not_lt.mp h0) ?_
      exact q
    exact xS_ret (v := 0) rfl rfl rfl rfl
theorem ygl155_2 {B : Nat} (hB : B ≤ 512) {xs : Nat → Int32} {SL d : Nat} : ∀ n x0 x1 x2 x3 m, w32 x2 = x2 → w32 x3 = x3 → xS B xs SL (d + 1) 155 (4, none, [], 12) 0 2 [(0, xa x0), (1, xa x1), (2, xi x2), (3, xi x3)] [] m (xl4 (yl155_2 B) n x0 x1 x2 x3 m) := by
  intro n
  induction n with
  | zero => intro x0 x1 x2 x3 m c2 c3; exact xS_none
  | succ n ih => exact ysl155_2 hB ih
theorem ygf155 {B : Nat} (hB : B ≤ 512) {xs : Nat → Int32} {SL d : Nat} : ∀ t p0 p1 m, w32 p1 = p1 → xS B xs SL (d + 1) 155 (4, none, [], 12) 0 0 [(0, xa t), (1, xa p0), (2, xi p1)] [] m (yf155 B t p0 p1 m) := by
  intro t p0 p1 m cp1
  unfold yf155
  refine xS_of (pc' := 2) (L' := [(0, xa t), (1, xa p0), (2, xi p1), (3, xi 0)]) (st' := []) (m' := m) (fun ex ns r q => ?_) ?_
  · refine xw_iconst rfl ?_
    refine xw_istore_n (L' := [(3, xi 0), (0, xa t), (1, xa p0), (2, xi p1)]) rfl (by decide) rfl ?_
    refine xw_lo (L2 := [(0, xa t), (1, xa p0), (2, xi p1), (3, xi 0)]) (List.forall_mem_cons.mpr ⟨rfl, List.forall_mem_cons.mpr ⟨rfl, List.forall_mem_cons.mpr ⟨rfl, List.forall_mem_cons.mpr ⟨rfl, fun _ h => absurd h List.not_mem_nil⟩⟩⟩⟩) ?_
    exact q
  exact ygl155_2 hB 1000000 _ _ _ _ _ cp1 rfl
theorem ysl154_86 {B : Nat} (hB : B ≤ 512) {xs : Nat → Int32} {SL d : Nat} {r47 : Int → Int → Int → xw_M → xP} (hr47 : ∀ x0 x1 x2 m, w32 x2 = x2 → xS B xs SL (d + 2) 154 (4, none, [], 4) 0 47 [(0, xa x0), (1, xa x1), (2, xi x2)] [] m (r47 x0 x1 x2 m)) {r86 : Int → Int → Int → Int → xw_M → xP} (hr86 : ∀ x0 x1 x2 x3 m, w32 x2 = x2 → w32 x3 = x3 → xS B xs SL (d + 2) 154 (4, none, [], 4) 0 86 [(0, xa x0), (1, xa x1), (2, xi x2), (3, xi x3)] [] m (r86 x0 x1 x2 x3 m)) : ∀ x0 x1 x2 x3 m, w32 x2 = x2 → w32 x3 = x3 → xS B xs SL (d + 2) 154 (4, none, [], 4) 0 86 [(0, xa x0), (1, xa x1), (2, xi x2), (3, xi x3)] [] m (yl154_86 B r47 r86 x0 x1 x2 x3 m) := by
  intro x0 x1 x2 x3 m c2 c3
  unfold yl154_86
  refine xS_g (fun g0 => ?_)
  refine xS_of (pc' := 91) (L' := [(0, xa x0), (1, xa x1), (2, xi x2), (3, xi x3)]) (st' := [xi (xR m x0 11), xi x3]) (m' := m) (fun ex ns r q => ?_) ?_
  · refine xw_iload_n rfl rfl ?_
    refine xw_aload_n rfl rfl rfl ?_
    refine xw_gfIc (v := (m x0 11)) (v' := (xR m x0 11)) rfl (xw_obd g0) xk3_11 (qi := 11) rfl rfl rfl ?_
    exact q
  refine xS_if (fun h1 => ?_) (fun h1 => ?_)
  · refine xS_g (fun g2 => ?_)
    refine xS_g (fun g3 => ?_)
    refine xS_g (fun g4 => ?_)
    refine xS_g (fun g5 => ?_)
    refine xS_g (fun g6 => ?_)
    refine xS_g (fun g7 => ?_)
    refine xS_of (pc' := 106) (L' := [(0, xa x0), (1, xa x1), (2, xi x2), (3, xi x3)]) (st' := [xi 32, xj (xR m (xw_rf (xw_rf x0 3) x2) x3), xa x1]) (m' := m) (fun ex ns r q => ?_) ?_
    · refine xw_ic_geF rfl (w32_cg c3) (w32_cg (w32_xR _ _ _)) (Int.not_le.mpr h1) ?_
      refine xw_aload_n rfl rfl rfl ?_
      refine xw_aload_n rfl rfl rfl ?_
      refine xw_gfV (qi := 3) rfl (xw_obd g0) xk3_3 rfl ?_
      refine xw_iload_n rfl rfl ?_
      refine xw_aald (t := 20) (n := (xw_le B (xw_rf x0 3))) (q := xw_kd (xw_rf x0 3) x2 - 5) (e := (xw_rf (xw_rf x0 3) x2)) rfl hB (xw_obd g4) (by decide) rfl g2 (by have := g3; omega) (xw_rfn g3) ?_
      refine xw_iload_n rfl rfl ?_
      refine xw_ialdc (n := (xw_le B (xw_rf (xw_rf x0 3) x2))) (v := (m (xw_rf (xw_rf x0 3) x2) x3)) (v' := (xR m (xw_rf (xw_rf x0 3) x2) x3)) rfl hB (xw_obd g6) rfl g5 rfl rfl ?_
      refine xw_i2l rfl (w32_cg (w32_xR _ _ _)) ?_
      refine xw_bipush (e := 32) rfl (by decide +kernel) ?_
      refine xw_lo (L2 := [(0, xa x0), (1, xa x1), (2, xi x2), (3, xi x3)]) (List.forall_mem_cons.mpr ⟨rfl, List.forall_mem_cons.mpr ⟨rfl, List.forall_mem_cons.mpr ⟨rfl, List.forall_mem_cons.mpr ⟨rfl, fun _ h => absurd h List.not_mem_nil⟩⟩⟩⟩) ?_
      exact q
    refine xS_call (q := 152) (n := 3) (kq := 0) (as := [xa x1, xj (xR m (xw_rf (xw_rf x0 3) x2) x3), xi 32]) (st1 := []) rfl rfl rfl rfl rfl rfl rfl rfl rfl rfl (fun _ => xw_rcv1 (t := 11) (xw_obd g7) rfl) rfl (List.forall_mem_cons.mpr ⟨rfl, List.forall_mem_cons.mpr ⟨rfl, List.forall_mem_cons.mpr ⟨rfl, fun _ h => absurd h List.not_mem_nil⟩⟩⟩) (ygf152 hB _ _ _ _ (w64_32 (w32_xR _ _ _)) rfl) (fun v1 m1 cv1 => ?_)
    refine xS_of (pc' := 86) (L' := [(0, xa x0), (1, xa x1), (2, xi x2), (3, xi (w32 (x3 + 1)))]) (st' := []) (m' := m1) (fun ex ns r q => ?_) ?_
    · refine xw_iincc (z := (w32 (x3 + 1))) (L' := [(3, xi (w32 (x3 + 1))), (0, xa x0), (1, xa x1), (2, xi x2)]) rfl rfl (by decide) rfl rfl ?_
      refine xw_goto rfl ?_
      refine xw_lo (L2 := [(0, xa x0), (1, xa x1), (2, xi x2), (3, xi (w32 (x3 + 1)))]) (List.forall_mem_cons.mpr ⟨rfl, List.forall_mem_cons.mpr ⟨rfl, List.forall_mem_cons.mpr ⟨rfl, List.forall_mem_cons.mpr ⟨rfl, fun _ h => absurd h List.not_mem_nil⟩⟩⟩⟩) ?_
      exact q
    exact hr86 _ _ _ _ _ c2 (w32_w _)
  · refine xS_of (pc' := 47) (L' := [(0, xa x0), (1, xa x1), (2, xi (w32 (x2 + 1)))]) (st' := []) (m' := m) (fun ex ns r q => ?_) ?_
    · refine xw_ic_geT rfl (w32_cg c3) (w32_cg (w32_xR _ _ _)) (Int.not_lt.mp h1) ?_
      refine xw_iincc (z := (w32 (x2 + 1))) (L' := [(2, xi (w32 (x2 + 1))), (0, xa x0), (1, xa x1), (3, xi x3)]) rfl rfl (by decide) rfl rfl ?_
      refine xw_goto rfl ?_
      refine xw_lo (L2 := [(0, xa x0), (1, xa x1), (2, xi (w32 (x2 + 1)))]) (List.forall_mem_cons.mpr ⟨rfl, List.forall_mem_cons.mpr ⟨rfl, List.forall_mem_cons.mpr ⟨rfl, fun _ h => absurd h List.not_mem_nil⟩⟩⟩) ?_
      exact q
    exact hr47 _ _ _ _ (w32_w _)
theorem ygl154_86 {B : Nat} (hB : B ≤ 512) {xs : Nat → Int32} {SL d : Nat} {r47 : Int → Int → Int → xw_M → xP} (hr47 : ∀ x0 x1 x2 m, w32 x2 = x2 → xS B xs SL (d + 2) 154 (4, none, [], 4) 0 47 [(0, xa x0), (1, xa x1), (2, xi x2)] [] m (r47 x0 x1 x2 m)) : ∀ n x0 x1 x2 x3 m, w32 x2 = x2 → w32 x3 = x3 → xS B xs SL (d + 2) 154 (4, none, [], 4) 0 86 [(0, xa x0), (1, xa x1), (2, xi x2), (3, xi x3)] [] m (xl4 (yl154_86 B r47) n x0 x1 x2 x3 m) := by
  intro n
  induction n with
  | zero => intro x0 x1 x2 x3 m c2 c3; exact xS_none
  | succ n ih => exact ysl154_86 hB hr47 ih
theorem ysl154_47 {B : Nat} (hB : B ≤ 512) {xs : Nat → Int32} {SL d : Nat} {r47 : Int → Int → Int → xw_M → xP} (hr47 : ∀ x0 x1 x2 m, w32 x2 = x2 → xS B xs SL (d + 2) 154 (4, none, [], 4) 0 47 [(0, xa x0), (1, xa x1), (2, xi x2)] [] m (r47 x0 x1 x2 m)) : ∀ x0 x1 x2 m, w32 x2 = x2 → xS B xs SL (d + 2) 154 (4, none, [], 4) 0 47 [(0, xa x0), (1, xa x1), (2, xi x2)] [] m (yl154_47 B r47 x0 x1 x2 m) := by
  intro x0 x1 x2 m c2
  unfold yl154_47
  refine xS_g (fun g0 => ?_)
  refine xS_of (pc' := 52) (L' := [(0, xa x0), (1, xa x1), (2, xi x2)]) (st' := [xi (xR m x0 10), xi x2]) (m' := m) (fun ex ns r q => ?_) ?_
  · refine xw_iload_n rfl rfl ?_
    refine xw_aload_n rfl rfl rfl ?_
    refine xw_gfIc (v := (m x0 10)) (v' := (xR m x0 10)) rfl (xw_obd g0) xk3_10 (qi := 10) rfl rfl rfl ?_
    exact q
  refine xS_if (fun h1 => ?_) (fun h1 => ?_)
  · refine xS_g (fun g2 => ?_)
    refine xS_g (fun g3 => ?_)
    refine xS_g (fun g4 => ?_)
    refine xS_of (pc' := 65) (L' := [(0, xa x0), (1, xa x1), (2, xi x2)]) (st' := [xi 8, xj (xR m (xw_rf x0 2) x2), xa x1]) (m' := m) (fun ex ns r q => ?_) ?_
    · refine xw_ic_geF rfl (w32_cg c2) (w32_cg (w32_xR _ _ _)) (Int.not_le.mpr h1) ?_
      refine xw_aload_n rfl rfl rfl ?_
      refine xw_aload_n rfl rfl rfl ?_
      refine xw_gfV (qi := 2) rfl (xw_obd g0) xk3_2 rfl ?_
      refine xw_iload_n rfl rfl ?_
      refine xw_ialdc (n := (xw_le B (xw_rf x0 2))) (v := (m (xw_rf x0 2) x2)) (v' := (xR m (xw_rf x0 2) x2)) rfl hB (xw_obd g3) rfl g2 rfl rfl ?_
      refine xw_i2l rfl (w32_cg (w32_xR _ _ _)) ?_
      refine xw_bipush (e := 8) rfl (by decide +kernel) ?_
      refine xw_lo (L2 := [(0, xa x0), (1, xa x1), (2, xi x2)]) (List.forall_mem_cons.mpr ⟨rfl, List.forall_mem_cons.mpr ⟨rfl, List.forall_mem_cons.mpr ⟨rfl, fun _ h => absurd h List.not_mem_nil⟩⟩⟩) ?_
      exact q
    refine xS_call (q := 152) (n := 3) (kq := 0) (as := [xa x1, xj (xR m (xw_rf x0 2) x2), xi 8]) (st1 := []) rfl rfl rfl rfl rfl rfl rfl rfl rfl rfl (fun _ => xw_rcv1 (t := 11) (xw_obd g4) rfl) rfl (List.forall_mem_cons.mpr ⟨rfl, List.forall_mem_cons.mpr ⟨rfl, List.forall_mem_cons.mpr ⟨rfl, fun _ h => absurd h List.not_mem_nil⟩⟩⟩) (ygf152 hB _ _ _ _ (w64_32 (w32_xR _ _ _)) rfl) (fun v1 m1 cv1 => ?_)
    refine xS_g (fun g5 => ?_)
    refine xS_g (fun g6 => ?_)
    refine xS_g (fun g7 => ?_)
    refine xS_of (pc' := 81) (L' := [(0, xa x0), (1, xa x1), (2, xi x2)]) (st' := [xi (xR m1 (xw_rf x0 2) x2), xa (xw_rf (xw_rf x0 1) x2), xa x1]) (m' := m1) (fun ex ns r q => ?_) ?_
    · refine xw_aload_n rfl rfl rfl ?_
      refine xw_aload_n rfl rfl rfl ?_
      refine xw_gfV (qi := 1) rfl (xw_obd g0) xk3_1 rfl ?_
      refine xw_iload_n rfl rfl ?_
      refine xw_aald (t := 22) (n := (xw_le B (xw_rf x0 1))) (q := xw_kd (xw_rf x0 1) x2 - 5) (e := (xw_rf (xw_rf x0 1) x2)) rfl hB (xw_obd g7) (by decide) rfl g5 (by have := g6; omega) (xw_rfn g6) ?_
      refine xw_aload_n rfl rfl rfl ?_
      refine xw_gfV (qi := 2) rfl (xw_obd g0) xk3_2 rfl ?_
      refine xw_iload_n rfl rfl ?_
      refine xw_ialdc (n := (xw_le B (xw_rf x0 2))) (v := (m1 (xw_rf x0 2) x2)) (v' := (xR m1 (xw_rf x0 2) x2)) rfl hB (xw_obd g3) rfl g2 rfl rfl ?_
      refine xw_lo (L2 := [(0, xa x0), (1, xa x1), (2, xi x2)]) (List.forall_mem_cons.mpr ⟨rfl, List.forall_mem_cons.mpr ⟨rfl, List.forall_mem_cons.mpr ⟨rfl, fun _ h => absurd h List.not_mem_nil⟩⟩⟩) ?_
      exact q
    refine xS_call (q := 155) (n := 3) (kq := 0) (as := [xa x1, xa (xw_rf (xw_rf x0 1) x2), xi (xR m1 (xw_rf x0 2) x2)]) (st1 := []) rfl rfl rfl rfl rfl rfl rfl rfl rfl rfl (fun _ => xw_rcv1 (t := 11) (xw_obd g4) rfl) rfl (List.forall_mem_cons.mpr ⟨rfl, List.forall_mem_cons.mpr ⟨rfl, List.forall_mem_cons.mpr ⟨rfl, fun _ h => absurd h List.not_mem_nil⟩⟩⟩) (ygf155 hB _ _ _ _ (w32_xR _ _ _)) (fun v2 m2 cv2 => ?_)
    refine xS_of (pc' := 86) (L' := [(0, xa x0), (1, xa x1), (2, xi x2), (3, xi 0)]) (st' := []) (m' := m2) (fun ex ns r q => ?_) ?_
    · refine xw_iconst rfl ?_
      refine xw_istore_n (L' := [(3, xi 0), (0, xa x0), (1, xa x1), (2, xi x2)]) rfl (by decide) rfl ?_
      refine xw_lo (L2 := [(0, xa x0), (1, xa x1), (2, xi x2), (3, xi 0)]) (List.forall_mem_cons.mpr ⟨rfl, List.forall_mem_cons.mpr ⟨rfl, List.forall_mem_cons.mpr ⟨rfl, List.forall_mem_cons.mpr ⟨rfl, fun _ h => absurd h List.not_mem_nil⟩⟩⟩⟩) ?_
      exact q
    exact ygl154_86 hB hr47 1000000 _ _ _ _ _ c2 rfl
  · refine xS_of (pc' := 121) (L' := [(0, xa x0), (1, xa x1), (2, xi x2)]) (st' := []) (m' := m) (fun ex ns r q => ?_) ?_
    · refine xw_ic_geT rfl (w32_cg c2) (w32_cg (w32_xR _ _ _)) (Int.not_lt.mp h1) ?_
      exact q
    exact xS_ret (v := 0) rfl rfl rfl rfl
theorem ygl154_47 {B : Nat} (hB : B ≤ 512) {xs : Nat → Int32} {SL d : Nat} : ∀ n x0 x1 x2 m, w32 x2 = x2 → xS B xs SL (d + 2) 154 (4, none, [], 4) 0 47 [(0, xa x0), (1, xa x1), (2, xi x2)] [] m (xl3 (yl154_47 B) n x0 x1 x2 m) := by
  intro n
  induction n with
  | zero => intro x0 x1 x2 m c2; exact xS_none
  | succ n ih => exact ysl154_47 hB ih
theorem ygf154 {B : Nat} (hB : B ≤ 512) {xs : Nat → Int32} {SL d : Nat} : ∀ t p0 m, xS B xs SL (d + 2) 154 (4, none, [], 4) 0 0 [(0, xa t), (1, xa p0)] [] m (yf154 B t p0 m) := by
  intro t p0 m
  unfold yf154
  refine xS_g (fun g0 => ?_)
  refine xS_g (fun g1 => ?_)
  refine xS_of (pc' := 8) (L' := [(0, xa t), (1, xa p0)]) (st' := [xi 8, xj (xR m t 9), xa p0]) (m' := m) (fun ex ns r q => ?_) ?_
  · refine xw_aload_n rfl rfl rfl ?_
    refine xw_aload_n rfl rfl rfl ?_
    refine xw_gfIc (v := (m t 9)) (v' := (xR m t 9)) rfl (xw_obd g0) xk3_9 (qi := 9) rfl rfl rfl ?_
    refine xw_i2l rfl (w32_cg (w32_xR _ _ _)) ?_
    refine xw_bipush (e := 8) rfl (by decide +kernel) ?_
    refine xw_lo (L2 := [(0, xa t), (1, xa p0)]) (List.forall_mem_cons.mpr ⟨rfl, List.forall_mem_cons.mpr ⟨rfl, fun _ h => absurd h List.not_mem_nil⟩⟩) ?_
    exact q
  refine xS_call (q := 152) (n := 3) (kq := 0) (as := [xa p0, xj (xR m t 9), xi 8]) (st1 := []) rfl rfl rfl rfl rfl rfl rfl rfl rfl rfl (fun _ => xw_rcv1 (t := 11) (xw_obd g1) rfl) rfl (List.forall_mem_cons.mpr ⟨rfl, List.forall_mem_cons.mpr ⟨rfl, List.forall_mem_cons.mpr ⟨rfl, fun _ h => absurd h List.not_mem_nil⟩⟩⟩) (ygf152 hB _ _ _ _ (w64_32 (w32_xR _ _ _)) rfl) (fun v1 m1 cv1 => ?_)
  refine xS_of (pc' := 19) (L' := [(0, xa t), (1, xa p0)]) (st' := [xi 8, xj (xR m1 t 10), xa p0]) (m' := m1) (fun ex ns r q => ?_) ?_
  · refine xw_aload_n rfl rfl rfl ?_
    refine xw_aload_n rfl rfl rfl ?_
    refine xw_gfIc (v := (m1 t 10)) (v' := (xR m1 t 10)) rfl (xw_obd g0) xk3_10 (qi := 10) rfl rfl rfl ?_
    refine xw_i2l rfl (w32_cg (w32_xR _ _ _)) ?_
    refine xw_bipush (e := 8) rfl (by decide +kernel) ?_
    refine xw_lo (L2 := [(0, xa t), (1, xa p0)]) (List.forall_mem_cons.mpr ⟨rfl, List.forall_mem_cons.mpr ⟨rfl, fun _ h => absurd h List.not_mem_nil⟩⟩) ?_
    exact q
  refine xS_call (q := 152) (n := 3) (kq := 0) (as := [xa p0, xj (xR m1 t 10), xi 8]) (st1 := []) rfl rfl rfl rfl rfl rfl rfl rfl rfl rfl (fun _ => xw_rcv1 (t := 11) (xw_obd g1) rfl) rfl (List.forall_mem_cons.mpr ⟨rfl, List.forall_mem_cons.mpr ⟨rfl, List.forall_mem_cons.mpr ⟨rfl, fun _ h => absurd h List.not_mem_nil⟩⟩⟩) (ygf152 hB _ _ _ _ (w64_32 (w32_xR _ _ _)) rfl) (fun v2 m2 cv2 => ?_)
  refine xS_of (pc' := 30) (L' := [(0, xa t), (1, xa p0)]) (st' := [xi 16, xj (xR m2 t 11), xa p0]) (m' := m2) (fun ex ns r q => ?_) ?_
  · refine xw_aload_n rfl rfl rfl ?_
    refine xw_aload_n rfl rfl rfl ?_
    refine xw_gfIc (v := (m2 t 11)) (v' := (xR m2 t 11)) rfl (xw_obd g0) xk3_11 (qi := 11) rfl rfl rfl ?_
    refine xw_i2l rfl (w32_cg (w32_xR _ _ _)) ?_
    refine xw_bipush (e := 16) rfl (by decide +kernel) ?_
    refine xw_lo (L2 := [(0, xa t), (1, xa p0)]) (List.forall_mem_cons.mpr ⟨rfl, List.forall_mem_cons.mpr ⟨rfl, fun _ h => absurd h List.not_mem_nil⟩⟩) ?_
    exact q
  refine xS_call (q := 152) (n := 3) (kq := 0) (as := [xa p0, xj (xR m2 t 11), xi 16]) (st1 := []) rfl rfl rfl rfl rfl rfl rfl rfl rfl rfl (fun _ => xw_rcv1 (t := 11) (xw_obd g1) rfl) rfl (List.forall_mem_cons.mpr ⟨rfl, List.forall_mem_cons.mpr ⟨rfl, List.forall_mem_cons.mpr ⟨rfl, fun _ h => absurd h List.not_mem_nil⟩⟩⟩) (ygf152 hB _ _ _ _ (w64_32 (w32_xR _ _ _)) rfl) (fun v3 m3 cv3 => ?_)
  refine xS_of (pc' := 42) (L' := [(0, xa t), (1, xa p0)]) (st' := [xi (xR m3 t 9), xa (xw_rf t 0), xa p0]) (m' := m3) (fun ex ns r q => ?_) ?_
  · refine xw_aload_n rfl rfl rfl ?_
    refine xw_aload_n rfl rfl rfl ?_
    refine xw_gfV (qi := 0) rfl (xw_obd g0) xk3_0 rfl ?_
    refine xw_aload_n rfl rfl rfl ?_
    refine xw_gfIc (v := (m3 t 9)) (v' := (xR m3 t 9)) rfl (xw_obd g0) xk3_9 (qi := 9) rfl rfl rfl ?_
    refine xw_lo (L2 := [(0, xa t), (1, xa p0)]) (List.forall_mem_cons.mpr ⟨rfl, List.forall_mem_cons.mpr ⟨rfl, fun _ h => absurd h List.not_mem_nil⟩⟩) ?_
    exact q
  refine xS_call (q := 155) (n := 3) (kq := 0) (as := [xa p0, xa (xw_rf t 0), xi (xR m3 t 9)]) (st1 := []) rfl rfl rfl rfl rfl rfl rfl rfl rfl rfl (fun _ => xw_rcv1 (t := 11) (xw_obd g1) rfl) rfl (List.forall_mem_cons.mpr ⟨rfl, List.forall_mem_cons.mpr ⟨rfl, List.forall_mem_cons.mpr ⟨rfl, fun _ h => absurd h List.not_mem_nil⟩⟩⟩) (ygf155 hB _ _ _ _ (w32_xR _ _ _)) (fun v4 m4 cv4 => ?_)
  refine xS_of (pc' := 47) (L' := [(0, xa t), (1, xa p0), (2, xi 0)]) (st' := []) (m' := m4) (fun ex ns r q => ?_) ?_
  · refine xw_iconst rfl ?_
    refine xw_istore_n (L' := [(2, xi 0), (0, xa t), (1, xa p0)]) rfl (by decide) rfl ?_
    refine xw_lo (L2 := [(0, xa t), (1, xa p0), (2, xi 0)]) (List.forall_mem_cons.mpr ⟨rfl, List.forall_mem_cons.mpr ⟨rfl, List.forall_mem_cons.mpr ⟨rfl, fun _ h => absurd h List.not_mem_nil⟩⟩⟩) ?_
    exact q
  exact ygl154_47 hB 1000000 _ _ _ _ rfl
theorem ysl153_28 {B : Nat} (hB : B ≤ 512) {xs : Nat → Int32} {SL d : Nat} {r28 : Int → Int → xw_M → xP} (hr28 : ∀ x1 x2 m, w32 x2 = x2 → xS B xs SL (d + 3) 153 (3, none, [], 3) 0 28 [(0, xa 3), (1, xa x1), (2, xi x2)] [] m (r28 x1 x2 m)) : ∀ x1 x2 m, w32 x2 = x2 → xS B xs SL (d + 3) 153 (3, none, [], 3) 0 28 [(0, xa 3), (1, xa x1), (2, xi x2)] [] m (yl153_28 B r28 x1 x2 m) := by
  intro x1 x2 m c2
  unfold yl153_28
  refine xS_of (pc' := 33) (L' := [(0, xa 3), (1, xa x1), (2, xi x2)]) (st' := [xi (xR m 3 2), xi x2]) (m' := m) (fun ex ns r q => ?_) ?_
  · refine xw_iload_n rfl rfl ?_
    refine xw_aload_n rfl rfl rfl ?_
    refine xw_gfIc (v := (m 3 2)) (v' := (xR m 3 2)) rfl (xw_obd (by decide +kernel)) xk2_2 (qi := 2) rfl rfl rfl ?_
    exact q
  refine xS_if (fun h0 => ?_) (fun h0 => ?_)
  · refine xS_g (fun g1 => ?_)
    refine xS_g (fun g2 => ?_)
    refine xS_of (pc' := 46) (L' := [(0, xa 3), (1, xa x1), (2, xi x2)]) (st' := [xi 8, xj (xR m 14 x2), xa x1]) (m' := m) (fun ex ns r q => ?_) ?_
    · refine xw_ic_geF rfl (w32_cg c2) (w32_cg (w32_xR _ _ _)) (Int.not_le.mpr h0) ?_
      refine xw_aload_n rfl rfl rfl ?_
      refine xw_aload_n rfl rfl rfl ?_
      refine xw_gfR (n := 14) (e := 14) rfl (xw_obd (by decide +kernel)) (by decide +kernel) (by decide +kernel) rfl ?_
      refine xw_iload_n rfl rfl ?_
      refine xw_ialdc (n := 8) (v := (m 14 x2)) (v' := (xR m 14 x2)) rfl hB (xw_obd (by decide +kernel)) rfl g1 rfl rfl ?_
      refine xw_i2l rfl (w32_cg (w32_xR _ _ _)) ?_
      refine xw_bipush (e := 8) rfl (by decide +kernel) ?_
      refine xw_lo (L2 := [(0, xa 3), (1, xa x1), (2, xi x2)]) (List.forall_mem_cons.mpr ⟨rfl, List.forall_mem_cons.mpr ⟨rfl, List.forall_mem_cons.mpr ⟨rfl, fun _ h => absurd h List.not_mem_nil⟩⟩⟩) ?_
      exact q
    refine xS_call (q := 152) (n := 3) (kq := 0) (as := [xa x1, xj (xR m 14 x2), xi 8]) (st1 := []) rfl rfl rfl rfl rfl rfl rfl rfl rfl rfl (fun _ => xw_rcv1 (t := 11) (xw_obd g2) rfl) rfl (List.forall_mem_cons.mpr ⟨rfl, List.forall_mem_cons.mpr ⟨rfl, List.forall_mem_cons.mpr ⟨rfl, fun _ h => absurd h List.not_mem_nil⟩⟩⟩) (ygf152 hB _ _ _ _ (w64_32 (w32_xR _ _ _)) rfl) (fun v1 m1 cv1 => ?_)
    refine xS_of (pc' := 62) (L' := [(0, xa 3), (1, xa x1), (2, xi x2)]) (st' := [xi (xR m1 14 x2), xa (6 + x2), xa x1]) (m' := m1) (fun ex ns r q => ?_) ?_
    · refine xw_aload_n rfl rfl rfl ?_
      refine xw_aload_n rfl rfl rfl ?_
      refine xw_gfR (n := 5) (e := 5) rfl (xw_obd (by decide +kernel)) (by decide +kernel) (by decide +kernel) rfl ?_
      refine xw_iload_n rfl rfl ?_
      refine xw_aald (t := 22) (n := 8) (q := 6 + 1 * (x2).toNat) (e := (6 + x2)) rfl hB (xw_obd (by decide +kernel)) (by decide) rfl g1 (show 11 + 1 * (x2 : Int).toNat = 6 + 1 * (x2 : Int).toNat + 5 from by omega) (by have := g1; omega) ?_
      refine xw_aload_n rfl rfl rfl ?_
      refine xw_gfR (n := 14) (e := 14) rfl (xw_obd (by decide +kernel)) (by decide +kernel) (by decide +kernel) rfl ?_
      refine xw_iload_n rfl rfl ?_
      refine xw_ialdc (n := 8) (v := (m1 14 x2)) (v' := (xR m1 14 x2)) rfl hB (xw_obd (by decide +kernel)) rfl g1 rfl rfl ?_
      refine xw_lo (L2 := [(0, xa 3), (1, xa x1), (2, xi x2)]) (List.forall_mem_cons.mpr ⟨rfl, List.forall_mem_cons.mpr ⟨rfl, List.forall_mem_cons.mpr ⟨rfl, fun _ h => absurd h List.not_mem_nil⟩⟩⟩) ?_
      exact q
    refine xS_call (q := 155) (n := 3) (kq := 0) (as := [xa x1, xa (6 + x2), xi (xR m1 14 x2)]) (st1 := []) rfl rfl rfl rfl rfl rfl rfl rfl rfl rfl (fun _ => xw_rcv1 (t := 11) (xw_obd g2) rfl) rfl (List.forall_mem_cons.mpr ⟨rfl, List.forall_mem_cons.mpr ⟨rfl, List.forall_mem_cons.mpr ⟨rfl, fun _ h => absurd h List.not_mem_nil⟩⟩⟩) (ygf155 hB _ _ _ _ (w32_xR _ _ _)) (fun v2 m2 cv2 => ?_)
    refine xS_of (pc' := 28) (L' := [(0, xa 3), (1, xa x1), (2, xi (w32 (x2 + 1)))]) (st' := []) (m' := m2) (fun ex ns r q => ?_) ?_
    · refine xw_iincc (z := (w32 (x2 + 1))) (L' := [(2, xi (w32 (x2 + 1))), (0, xa 3), (1, xa x1)]) rfl rfl (by decide) rfl rfl ?_
      refine xw_goto rfl ?_
      refine xw_lo (L2 := [(0, xa 3), (1, xa x1), (2, xi (w32 (x2 + 1)))]) (List.forall_mem_cons.mpr ⟨rfl, List.forall_mem_cons.mpr ⟨rfl, List.forall_mem_cons.mpr ⟨rfl, fun _ h => absurd h List.not_mem_nil⟩⟩⟩) ?_
      exact q
    exact hr28 _ _ _ (w32_w _)
  · refine xS_of (pc' := 71) (L' := [(0, xa 3), (1, xa x1), (2, xi x2)]) (st' := []) (m' := m) (fun ex ns r q => ?_) ?_
    · refine xw_ic_geT rfl (w32_cg c2) (w32_cg (w32_xR _ _ _)) (Int.not_lt.mp h0) ?_
      exact q
    exact xS_ret (v := 0) rfl rfl rfl rfl
theorem ygl153_28 {B : Nat} (hB : B ≤ 512) {xs : Nat → Int32} {SL d : Nat} : ∀ n x1 x2 m, w32 x2 = x2 → xS B xs SL (d + 3) 153 (3, none, [], 3) 0 28 [(0, xa 3), (1, xa x1), (2, xi x2)] [] m (xl2 (yl153_28 B) n x1 x2 m) := by
  intro n
  induction n with
  | zero => intro x1 x2 m c2; exact xS_none
  | succ n ih => exact ysl153_28 hB ih
theorem ysl153_2 {B : Nat} (hB : B ≤ 512) {xs : Nat → Int32} {SL d : Nat} {r2 : Int → Int → xw_M → xP} (hr2 : ∀ x1 x2 m, w32 x2 = x2 → xS B xs SL (d + 3) 153 (3, none, [], 3) 0 2 [(0, xa 3), (1, xa x1), (2, xi x2)] [] m (r2 x1 x2 m)) : ∀ x1 x2 m, w32 x2 = x2 → xS B xs SL (d + 3) 153 (3, none, [], 3) 0 2 [(0, xa 3), (1, xa x1), (2, xi x2)] [] m (yl153_2 B r2 x1 x2 m) := by
  intro x1 x2 m c2
  unfold yl153_2
  refine xS_of (pc' := 7) (L' := [(0, xa 3), (1, xa x1), (2, xi x2)]) (st' := [xi (xR m 3 1), xi x2]) (m' := m) (fun ex ns r q => ?_) ?_
  · refine xw_iload_n rfl rfl ?_
    refine xw_aload_n rfl rfl rfl ?_
    refine xw_gfIc (v := (m 3 1)) (v' := (xR m 3 1)) rfl (xw_obd (by decide +kernel)) xk2_1 (qi := 1) rfl rfl rfl ?_
    exact q
  refine xS_if (fun h0 => ?_) (fun h0 => ?_)
  · refine xS_g (fun g1 => ?_)
    refine xS_g (fun g2 => ?_)
    refine xS_of (pc' := 17) (L' := [(0, xa 3), (1, xa x1), (2, xi x2)]) (st' := [xa x1, xa (15 + (26 * x2))]) (m' := m) (fun ex ns r q => ?_) ?_
    · refine xw_ic_geF rfl (w32_cg c2) (w32_cg (w32_xR _ _ _)) (Int.not_le.mpr h0) ?_
      refine xw_aload_n rfl rfl rfl ?_
      refine xw_gfR (n := 4) (e := 4) rfl (xw_obd (by decide +kernel)) (by decide +kernel) (by decide +kernel) rfl ?_
      refine xw_iload_n rfl rfl ?_
      refine xw_aald (t := 23) (n := 8) (q := 15 + 26 * (x2).toNat) (e := (15 + (26 * x2))) rfl hB (xw_obd (by decide +kernel)) (by decide) rfl g1 (show 20 + 26 * (x2 : Int).toNat = 15 + 26 * (x2 : Int).toNat + 5 from by omega) (by have := g1; omega) ?_
      refine xw_aload_n rfl rfl rfl ?_
      refine xw_lo (L2 := [(0, xa 3), (1, xa x1), (2, xi x2)]) (List.forall_mem_cons.mpr ⟨rfl, List.forall_mem_cons.mpr ⟨rfl, List.forall_mem_cons.mpr ⟨rfl, fun _ h => absurd h List.not_mem_nil⟩⟩⟩) ?_
      exact q
    refine xS_call (q := 154) (n := 2) (kq := 0) (as := [xa (15 + (26 * x2)), xa x1]) (st1 := []) rfl rfl rfl rfl rfl rfl rfl rfl rfl rfl (fun _ => xw_rcv1 (t := 3) (xw_obd g2) rfl) rfl (List.forall_mem_cons.mpr ⟨rfl, List.forall_mem_cons.mpr ⟨rfl, fun _ h => absurd h List.not_mem_nil⟩⟩) (ygf154 hB _ _ _) (fun v1 m1 cv1 => ?_)
    refine xS_of (pc' := 2) (L' := [(0, xa 3), (1, xa x1), (2, xi (w32 (x2 + 1)))]) (st' := []) (m' := m1) (fun ex ns r q => ?_) ?_
    · refine xw_iincc (z := (w32 (x2 + 1))) (L' := [(2, xi (w32 (x2 + 1))), (0, xa 3), (1, xa x1)]) rfl rfl (by decide) rfl rfl ?_
      refine xw_goto rfl ?_
      refine xw_lo (L2 := [(0, xa 3), (1, xa x1), (2, xi (w32 (x2 + 1)))]) (List.forall_mem_cons.mpr ⟨rfl, List.forall_mem_cons.mpr ⟨rfl, List.forall_mem_cons.mpr ⟨rfl, fun _ h => absurd h List.not_mem_nil⟩⟩⟩) ?_
      exact q
    exact hr2 _ _ _ (w32_w _)
  · refine xS_of (pc' := 28) (L' := [(0, xa 3), (1, xa x1), (2, xi 0)]) (st' := []) (m' := m) (fun ex ns r q => ?_) ?_
    · refine xw_ic_geT rfl (w32_cg c2) (w32_cg (w32_xR _ _ _)) (Int.not_lt.mp h0) ?_
      refine xw_iconst rfl ?_
      refine xw_istore_n (L' := [(2, xi 0), (0, xa 3), (1, xa x1)]) rfl (by decide) rfl ?_
      refine xw_lo (L2 := [(0, xa 3), (1, xa x1), (2, xi 0)]) (List.forall_mem_cons.mpr ⟨rfl, List.forall_mem_cons.mpr ⟨rfl, List.forall_mem_cons.mpr ⟨rfl, fun _ h => absurd h List.not_mem_nil⟩⟩⟩) ?_
      exact q
    exact ygl153_28 hB 1000000 _ _ _ rfl
theorem ygl153_2 {B : Nat} (hB : B ≤ 512) {xs : Nat → Int32} {SL d : Nat} : ∀ n x1 x2 m, w32 x2 = x2 → xS B xs SL (d + 3) 153 (3, none, [], 3) 0 2 [(0, xa 3), (1, xa x1), (2, xi x2)] [] m (xl2 (yl153_2 B) n x1 x2 m) := by
  intro n
  induction n with
  | zero => intro x1 x2 m c2; exact xS_none
  | succ n ih => exact ysl153_2 hB ih
theorem ygf153 {B : Nat} (hB : B ≤ 512) {xs : Nat → Int32} {SL d : Nat} : ∀ p0 m, xS B xs SL (d + 3) 153 (3, none, [], 3) 0 0 [(0, xa 3), (1, xa p0)] [] m (yf153 B p0 m) := by
  intro p0 m
  unfold yf153
  refine xS_of (pc' := 2) (L' := [(0, xa 3), (1, xa p0), (2, xi 0)]) (st' := []) (m' := m) (fun ex ns r q => ?_) ?_
  · refine xw_iconst rfl ?_
    refine xw_istore_n (L' := [(2, xi 0), (0, xa 3), (1, xa p0)]) rfl (by decide) rfl ?_
    refine xw_lo (L2 := [(0, xa 3), (1, xa p0), (2, xi 0)]) (List.forall_mem_cons.mpr ⟨rfl, List.forall_mem_cons.mpr ⟨rfl, List.forall_mem_cons.mpr ⟨rfl, fun _ h => absurd h List.not_mem_nil⟩⟩⟩) ?_
    exact q
  exact ygl153_2 hB 1000000 _ _ _ rfl
theorem ygf156 {B : Nat} (hB : B ≤ 512) {xs : Nat → Int32} {SL d : Nat} : ∀ m, xS B xs SL (d + 0) 156 (1, (some .int), [], 11) 1 0 [(0, xa 508)] [] m (yf156 B m) := by
  intro m
  unfold yf156
  refine xS_g (fun g0 => ?_)
  refine xS_of (pc' := 15) (L' := [(0, xa 508)]) (st' := [xi ((w32 (((xR m 518 2) + 32768) - 1)) / 32768)]) (m' := m) (fun ex ns r q => ?_) ?_
  · refine xw_aload_n rfl rfl rfl ?_
    refine xw_gfR (n := 518) (e := 518) rfl (xw_obd (by decide +kernel)) (by decide +kernel) (by decide +kernel) rfl ?_
    refine xw_gfIc (v := (m 518 2)) (v' := (xR m 518 2)) rfl (xw_obd (by decide +kernel)) xk11_2 (qi := 2) rfl rfl rfl ?_
    refine xw_ldc (e := 32768) rfl (by decide +kernel) ?_
    refine xw_iadd rfl ?_
    refine xw_iconst rfl ?_
    refine xw_isub rfl ?_
    refine xw_ldc (e := 32768) rfl (by decide +kernel) ?_
    refine xw_cst (st' := [xi 32768, xi (w32 (((xR m 518 2) + 32768) - 1))]) (xw_sc rfl (xw_sc (xi_c rfl) rfl)) ?_
    refine xw_idiv (z := ((w32 (((xR m 518 2) + 32768) - 1)) / 32768)) rfl (xw_idivn ⟨(by decide), (w32_cg rfl).2⟩) (xw_idive ⟨g0, (w32_cg (w32_w _)).2⟩ ⟨(by decide), (w32_cg rfl).2⟩) ?_
    exact q
  exact xS_ret (v := ((w32 (((xR m 518 2) + 32768) - 1)) / 32768)) rfl rfl xw_rtI (w32_dv (w32_w _) ⟨g0, (by decide)⟩)
theorem ysl158_25 {B : Nat} (hB : B ≤ 512) {xs : Nat → Int32} {SL d : Nat} {r10 : Int → xw_M → xP} (hr10 : ∀ x1 m, w32 x1 = x1 → xS B xs SL (d + 1) 158 (3, none, [], 11) 0 10 [(0, xa 508), (1, xi x1)] [] m (r10 x1 m)) {r25 : Int → Int → xw_M → xP} (hr25 : ∀ x1 x2 m, w32 x1 = x1 → w32 x2 = x2 → xS B xs SL (d + 1) 158 (3, none, [], 11) 0 25 [(0, xa 508), (1, xi x1), (2, xi x2)] [] m (r25 x1 x2 m)) : ∀ x1 x2 m, w32 x1 = x1 → w32 x2 = x2 → xS B xs SL (d + 1) 158 (3, none, [], 11) 0 25 [(0, xa 508), (1, xi x1), (2, xi x2)] [] m (yl158_25 B r10 r25 x1 x2 m) := by
  intro x1 x2 m c1 c2
  unfold yl158_25
  refine xS_g (fun g0 => ?_)
  refine xS_of (pc' := 39) (L' := [(0, xa 508), (1, xi x1), (2, xi x2)]) (st' := [xi (w32 ((xR m 514 x1) + (xR m 515 x1))), xi x2]) (m' := m) (fun ex ns r q => ?_) ?_
  · refine xw_iload_n rfl rfl ?_
    refine xw_aload_n rfl rfl rfl ?_
    refine xw_gfR (n := 514) (e := 514) rfl (xw_obd (by decide +kernel)) (by decide +kernel) (by decide +kernel) rfl ?_
    refine xw_iload_n rfl rfl ?_
    refine xw_ialdc (n := 200) (v := (m 514 x1)) (v' := (xR m 514 x1)) rfl hB (xw_obd (by decide +kernel)) rfl g0 rfl rfl ?_
    refine xw_aload_n rfl rfl rfl ?_
    refine xw_gfR (n := 515) (e := 515) rfl (xw_obd (by decide +kernel)) (by decide +kernel) (by decide +kernel) rfl ?_
    refine xw_iload_n rfl rfl ?_
    refine xw_ialdc (n := 200) (v := (m 515 x1)) (v' := (xR m 515 x1)) rfl hB (xw_obd (by decide +kernel)) rfl g0 rfl rfl ?_
    refine xw_iadd rfl ?_
    refine xw_cst (st' := [xi (w32 ((xR m 514 x1) + (xR m 515 x1))), xi x2]) (xw_sc (xi_c rfl) (xw_sc rfl rfl)) ?_
    exact q
  refine xS_if (fun h1 => ?_) (fun h1 => ?_)
  · refine xS_g (fun g2 => ?_)
    refine xS_of (pc' := 25) (L' := [(0, xa 508), (1, xi x1), (2, xi (w32 (x2 + 1)))]) (st' := []) (m' := (xw_u m 510 x2 ((xR m 510 x2) + 1))) (fun ex ns r q => ?_) ?_
    · refine xw_ic_geF rfl (w32_cg c2) (w32_cg (w32_w _)) (Int.not_le.mpr h1) ?_
      refine xw_aload_n rfl rfl rfl ?_
      refine xw_gfR (n := 510) (e := 510) rfl (xw_obd (by decide +kernel)) (by decide +kernel) (by decide +kernel) rfl ?_
      refine xw_iload_n rfl rfl ?_
      refine xw_dup2 rfl rfl rfl ?_
      refine xw_ialdc (n := 512) (v := (m 510 x2)) (v' := (xR m 510 x2)) rfl hB (xw_obd (by decide +kernel)) rfl g2 rfl rfl ?_
      refine xw_iconst rfl ?_
      refine xw_iadd rfl ?_
      refine xw_iast (n := 512) rfl hB (xw_obd (by decide +kernel)) rfl g2 ?_
      refine xw_iincc (z := (w32 (x2 + 1))) (L' := [(2, xi (w32 (x2 + 1))), (0, xa 508), (1, xi x1)]) rfl rfl (by decide) rfl rfl ?_
      refine xw_goto rfl ?_
      refine xw_lo (L2 := [(0, xa 508), (1, xi x1), (2, xi (w32 (x2 + 1)))]) (List.forall_mem_cons.mpr ⟨rfl, List.forall_mem_cons.mpr ⟨rfl, List.forall_mem_cons.mpr ⟨rfl, fun _ h => absurd h List.not_mem_nil⟩⟩⟩) ?_
      exact q
    exact hr25 _ _ _ c1 (w32_w _)
  · refine xS_of (pc' := 10) (L' := [(0, xa 508), (1, xi (w32 (x1 + 1)))]) (st' := []) (m' := m) (fun ex ns r q => ?_) ?_
    · refine xw_ic_geT rfl (w32_cg c2) (w32_cg (w32_w _)) (Int.not_lt.mp h1) ?_
      refine xw_iincc (z := (w32 (x1 + 1))) (L' := [(1, xi (w32 (x1 + 1))), (0, xa 508), (2, xi x2)]) rfl rfl (by decide) rfl rfl ?_
      refine xw_goto rfl ?_
      refine xw_lo (L2 := [(0, xa 508), (1, xi (w32 (x1 + 1)))]) (List.forall_mem_cons.mpr ⟨rfl, List.forall_mem_cons.mpr ⟨rfl, fun _ h => absurd h List.not_mem_nil⟩⟩) ?_
      exact q
    exact hr10 _ _ (w32_w _)
theorem ygl158_25 {B : Nat} (hB : B ≤ 512) {xs : Nat → Int32} {SL d : Nat} {r10 : Int → xw_M → xP} (hr10 : ∀ x1 m, w32 x1 = x1 → xS B xs SL (d + 1) 158 (3, none, [], 11) 0 10 [(0, xa 508), (1, xi x1)] [] m (r10 x1 m)) : ∀ n x1 x2 m, w32 x1 = x1 → w32 x2 = x2 → xS B xs SL (d + 1) 158 (3, none, [], 11) 0 25 [(0, xa 508), (1, xi x1), (2, xi x2)] [] m (xl2 (yl158_25 B r10) n x1 x2 m) := by
  intro n
  induction n with
  | zero => intro x1 x2 m c1 c2; exact xS_none
  | succ n ih => exact ysl158_25 hB hr10 ih
theorem ysl158_10 {B : Nat} (hB : B ≤ 512) {xs : Nat → Int32} {SL d : Nat} {r10 : Int → xw_M → xP} (hr10 : ∀ x1 m, w32 x1 = x1 → xS B xs SL (d + 1) 158 (3, none, [], 11) 0 10 [(0, xa 508), (1, xi x1)] [] m (r10 x1 m)) : ∀ x1 m, w32 x1 = x1 → xS B xs SL (d + 1) 158 (3, none, [], 11) 0 10 [(0, xa 508), (1, xi x1)] [] m (yl158_10 B r10 x1 m) := by
  intro x1 m c1
  unfold yl158_10
  refine xS_of (pc' := 15) (L' := [(0, xa 508), (1, xi x1)]) (st' := [xi (xR m 508 14), xi x1]) (m' := m) (fun ex ns r q => ?_) ?_
  · refine xw_iload_n rfl rfl ?_
    refine xw_aload_n rfl rfl rfl ?_
    refine xw_gfIc (v := (m 508 14)) (v' := (xR m 508 14)) rfl (xw_obd (by decide +kernel)) xk10_14 (qi := 14) rfl rfl rfl ?_
    exact q
  refine xS_if (fun h0 => ?_) (fun h0 => ?_)
  · refine xS_g (fun g1 => ?_)
    refine xS_of (pc' := 25) (L' := [(0, xa 508), (1, xi x1), (2, xi (xR m 514 x1))]) (st' := []) (m' := m) (fun ex ns r q => ?_) ?_
    · refine xw_ic_geF rfl (w32_cg c1) (w32_cg (w32_xR _ _ _)) (Int.not_le.mpr h0) ?_
      refine xw_aload_n rfl rfl rfl ?_
      refine xw_gfR (n := 514) (e := 514) rfl (xw_obd (by decide +kernel)) (by decide +kernel) (by decide +kernel) rfl ?_
      refine xw_iload_n rfl rfl ?_
      refine xw_ialdc (n := 200) (v := (m 514 x1)) (v' := (xR m 514 x1)) rfl hB (xw_obd (by decide +kernel)) rfl g1 rfl rfl ?_
      refine xw_istore_n (L' := [(2, xi (xR m 514 x1)), (0, xa 508), (1, xi x1)]) rfl (by decide) rfl ?_
      refine xw_lo (L2 := [(0, xa 508), (1, xi x1), (2, xi (xR m 514 x1))]) (List.forall_mem_cons.mpr ⟨rfl, List.forall_mem_cons.mpr ⟨rfl, List.forall_mem_cons.mpr ⟨rfl, fun _ h => absurd h List.not_mem_nil⟩⟩⟩) ?_
      exact q
    exact ygl158_25 hB hr10 1000000 _ _ _ c1 (w32_xR _ _ _)
  · refine xS_of (pc' := 64) (L' := [(0, xa 508), (1, xi x1)]) (st' := []) (m' := m) (fun ex ns r q => ?_) ?_
    · refine xw_ic_geT rfl (w32_cg c1) (w32_cg (w32_xR _ _ _)) (Int.not_lt.mp h0) ?_
      exact q
    exact xS_ret (v := 0) rfl rfl rfl rfl
theorem ygl158_10 {B : Nat} (hB : B ≤ 512) {xs : Nat → Int32} {SL d : Nat} : ∀ n x1 m, w32 x1 = x1 → xS B xs SL (d + 1) 158 (3, none, [], 11) 0 10 [(0, xa 508), (1, xi x1)] [] m (xl1 (yl158_10 B) n x1 m) := by
  intro n
  induction n with
  | zero => intro x1 m c1; exact xS_none
  | succ n ih => exact ysl158_10 hB ih
theorem ygf158 {B : Nat} (hB : B ≤ 512) {xs : Nat → Int32} {SL d : Nat} : ∀ m, xS B xs SL (d + 1) 158 (3, none, [], 11) 0 0 [(0, xa 508)] [] m (yf158 B m) := by
  intro m
  unfold yf158
  refine xS_of (pc' := 5) (L' := [(0, xa 508)]) (st' := [xi 0, xa 510]) (m' := m) (fun ex ns r q => ?_) ?_
  · refine xw_aload_n rfl rfl rfl ?_
    refine xw_gfR (n := 510) (e := 510) rfl (xw_obd (by decide +kernel)) (by decide +kernel) (by decide +kernel) rfl ?_
    refine xw_iconst rfl ?_
    refine xw_lo (L2 := [(0, xa 508)]) (List.forall_mem_cons.mpr ⟨rfl, fun _ h => absurd h List.not_mem_nil⟩) ?_
    exact q
  refine xS_call (q := 31) (n := 2) (kq := 0) (as := [xa 510, xi 0]) (st1 := []) rfl rfl rfl rfl rfl rfl rfl rfl rfl rfl (fun _ => xw_rcv0 rfl) rfl (List.forall_mem_cons.mpr ⟨rfl, List.forall_mem_cons.mpr ⟨rfl, fun _ h => absurd h List.not_mem_nil⟩⟩) (ygf31 hB _ _ _ rfl) (fun v1 m1 cv1 => ?_)
  refine xS_of (pc' := 10) (L' := [(0, xa 508), (1, xi 0)]) (st' := []) (m' := m1) (fun ex ns r q => ?_) ?_
  · refine xw_iconst rfl ?_
    refine xw_istore_n (L' := [(1, xi 0), (0, xa 508)]) rfl (by decide) rfl ?_
    refine xw_lo (L2 := [(0, xa 508), (1, xi 0)]) (List.forall_mem_cons.mpr ⟨rfl, List.forall_mem_cons.mpr ⟨rfl, fun _ h => absurd h List.not_mem_nil⟩⟩) ?_
    exact q
  exact ygl158_10 hB 1000000 _ _ rfl
theorem ysl157_20 {B : Nat} (hB : B ≤ 512) {xs : Nat → Int32} {SL d : Nat} {r20 : Int → Int → Int → xw_M → xP} (hr20 : ∀ x1 x2 x3 m, w32 x1 = x1 → w32 x2 = x2 → w32 x3 = x3 → xS B xs SL (d + 2) 157 (4, (some .int), [], 11) 1 20 [(0, xa 508), (1, xi x1), (2, xi x2), (3, xi x3)] [] m (r20 x1 x2 x3 m)) : ∀ x1 x2 x3 m, w32 x1 = x1 → w32 x2 = x2 → w32 x3 = x3 → xS B xs SL (d + 2) 157 (4, (some .int), [], 11) 1 20 [(0, xa 508), (1, xi x1), (2, xi x2), (3, xi x3)] [] m (yl157_20 B r20 x1 x2 x3 m) := by
  intro x1 x2 x3 m c1 c2 c3
  unfold yl157_20
  refine xS_of (pc' := 25) (L' := [(0, xa 508), (1, xi x1), (2, xi x2), (3, xi x3)]) (st' := [xi (xR m 508 0), xi x3]) (m' := m) (fun ex ns r q => ?_) ?_
  · refine xw_iload_n rfl rfl ?_
    refine xw_aload_n rfl rfl rfl ?_
    refine xw_gfIc (v := (m 508 0)) (v' := (xR m 508 0)) rfl (xw_obd (by decide +kernel)) xk10_0 (qi := 0) rfl rfl rfl ?_
    exact q
  refine xS_if (fun h0 => ?_) (fun h0 => ?_)
  · refine xS_g (fun g1 => ?_)
    refine xS_of (pc' := 34) (L' := [(0, xa 508), (1, xi x1), (2, xi x2), (3, xi x3)]) (st' := [xi (xR m 510 x3)]) (m' := m) (fun ex ns r q => ?_) ?_
    · refine xw_ic_geF rfl (w32_cg c3) (w32_cg (w32_xR _ _ _)) (Int.not_le.mpr h0) ?_
      refine xw_aload_n rfl rfl rfl ?_
      refine xw_gfR (n := 510) (e := 510) rfl (xw_obd (by decide +kernel)) (by decide +kernel) (by decide +kernel) rfl ?_
      refine xw_iload_n rfl rfl ?_
      refine xw_ialdc (n := 512) (v := (m 510 x3)) (v' := (xR m 510 x3)) rfl hB (xw_obd (by decide +kernel)) rfl g1 rfl rfl ?_
      exact q
    refine xS_if (fun h2 => ?_) (fun h2 => ?_)
    · refine xS_of (pc' := 47) (L' := [(2, xi (w32 (x2 + 1))), (0, xa 508), (1, xi x1), (3, xi x3)]) (st' := [xi x1, xi (w32 (x2 + 1))]) (m' := m) (fun ex ns r q => ?_) ?_
      · refine xw_if_neF rfl (w32_cg (w32_xR _ _ _)) h2 ?_
        refine xw_iload_n rfl rfl ?_
        refine xw_iconst rfl ?_
        refine xw_iadd rfl ?_
        refine xw_goto rfl ?_
        refine xw_cst (st' := [xi (w32 (x2 + 1))]) (xw_sc (xi_c rfl) rfl) ?_
        refine xw_istore_n (L' := [(2, xi (w32 (x2 + 1))), (0, xa 508), (1, xi x1), (3, xi x3)]) rfl (by decide) rfl ?_
        refine xw_iload_n rfl rfl ?_
        refine xw_iload_n rfl rfl ?_
        exact q
      refine xS_if (fun h3 => ?_) (fun h3 => ?_)
      · refine xS_of (pc' := 20) (L' := [(0, xa 508), (1, xi x1), (2, xi (w32 (x2 + 1))), (3, xi (w32 (x3 + 1)))]) (st' := []) (m' := m) (fun ex ns r q => ?_) ?_
        · refine xw_ic_ltT rfl (w32_cg (w32_w _)) (w32_cg c1) h3 ?_
          refine xw_iincc (z := (w32 (x3 + 1))) (L' := [(3, xi (w32 (x3 + 1))), (2, xi (w32 (x2 + 1))), (0, xa 508), (1, xi x1)]) rfl rfl (by decide) rfl rfl ?_
          refine xw_goto rfl ?_
          refine xw_lo (L2 := [(0, xa 508), (1, xi x1), (2, xi (w32 (x2 + 1))), (3, xi (w32 (x3 + 1)))]) (List.forall_mem_cons.mpr ⟨rfl, List.forall_mem_cons.mpr ⟨rfl, List.forall_mem_cons.mpr ⟨rfl, List.forall_mem_cons.mpr ⟨rfl, fun _ h => absurd h List.not_mem_nil⟩⟩⟩⟩) ?_
          exact q
        exact hr20 _ _ _ _ c1 (w32_w _) (w32_w _)
      · refine xS_of (pc' := 55) (L' := [(2, xi (w32 (x2 + 1))), (0, xa 508), (1, xi x1), (3, xi x3)]) (st' := [xi (w32 ((x3 - x1) + 1))]) (m' := m) (fun ex ns r q => ?_) ?_
        · refine xw_ic_ltF rfl (w32_cg (w32_w _)) (w32_cg c1) h3 ?_
          refine xw_iload_n rfl rfl ?_
          refine xw_iload_n rfl rfl ?_
          refine xw_isub rfl ?_
          refine xw_iconst rfl ?_
          refine xw_iadd rfl ?_
          refine xw_cst (st' := [xi (w32 ((x3 - x1) + 1))]) (xw_sc (xi_c rfl) rfl) ?_
          exact q
        exact xS_ret (v := (w32 ((x3 - x1) + 1))) rfl rfl xw_rtI (w32_w _)
    · refine xS_of (pc' := 47) (L' := [(2, xi 0), (0, xa 508), (1, xi x1), (3, xi x3)]) (st' := [xi x1, xi 0]) (m' := m) (fun ex ns r q => ?_) ?_
      · refine xw_if_neT rfl (w32_cg (w32_xR _ _ _)) h2 ?_
        refine xw_iconst rfl ?_
        refine xw_istore_n (L' := [(2, xi 0), (0, xa 508), (1, xi x1), (3, xi x3)]) rfl (by decide) rfl ?_
        refine xw_iload_n rfl rfl ?_
        refine xw_iload_n rfl rfl ?_
        exact q
      refine xS_if (fun h3 => ?_) (fun h3 => ?_)
      · refine xS_of (pc' := 20) (L' := [(0, xa 508), (1, xi x1), (2, xi 0), (3, xi (w32 (x3 + 1)))]) (st' := []) (m' := m) (fun ex ns r q => ?_) ?_
        · refine xw_ic_ltT rfl (w32_cg rfl) (w32_cg c1) h3 ?_
          refine xw_iincc (z := (w32 (x3 + 1))) (L' := [(3, xi (w32 (x3 + 1))), (2, xi 0), (0, xa 508), (1, xi x1)]) rfl rfl (by decide) rfl rfl ?_
          refine xw_goto rfl ?_
          refine xw_lo (L2 := [(0, xa 508), (1, xi x1), (2, xi 0), (3, xi (w32 (x3 + 1)))]) (List.forall_mem_cons.mpr ⟨rfl, List.forall_mem_cons.mpr ⟨rfl, List.forall_mem_cons.mpr ⟨rfl, List.forall_mem_cons.mpr ⟨rfl, fun _ h => absurd h List.not_mem_nil⟩⟩⟩⟩) ?_
          exact q
        exact hr20 _ _ _ _ c1 rfl (w32_w _)
      · refine xS_of (pc' := 55) (L' := [(2, xi 0), (0, xa 508), (1, xi x1), (3, xi x3)]) (st' := [xi (w32 ((x3 - x1) + 1))]) (m' := m) (fun ex ns r q => ?_) ?_
        · refine xw_ic_ltF rfl (w32_cg rfl) (w32_cg c1) h3 ?_
          refine xw_iload_n rfl rfl ?_
          refine xw_iload_n rfl rfl ?_
          refine xw_isub rfl ?_
          refine xw_iconst rfl ?_
          refine xw_iadd rfl ?_
          refine xw_cst (st' := [xi (w32 ((x3 - x1) + 1))]) (xw_sc (xi_c rfl) rfl) ?_
          exact q
        exact xS_ret (v := (w32 ((x3 - x1) + 1))) rfl rfl xw_rtI (w32_w _)
  · refine xS_of (pc' := 63) (L' := [(0, xa 508), (1, xi x1), (2, xi x2), (3, xi x3)]) (st' := [xi (-1)]) (m' := m) (fun ex ns r q => ?_) ?_
    · refine xw_ic_geT rfl (w32_cg c3) (w32_cg (w32_xR _ _ _)) (Int.not_lt.mp h0) ?_
      refine xw_iconst rfl ?_
      exact q
    exact xS_ret (v := (-1)) rfl rfl xw_rtI rfl
theorem ygl157_20 {B : Nat} (hB : B ≤ 512) {xs : Nat → Int32} {SL d : Nat} : ∀ n x1 x2 x3 m, w32 x1 = x1 → w32 x2 = x2 → w32 x3 = x3 → xS B xs SL (d + 2) 157 (4, (some .int), [], 11) 1 20 [(0, xa 508), (1, xi x1), (2, xi x2), (3, xi x3)] [] m (xl3 (yl157_20 B) n x1 x2 x3 m) := by
  intro n
  induction n with
  | zero => intro x1 x2 x3 m c1 c2 c3; exact xS_none
  | succ n ih => exact ysl157_20 hB ih
theorem ygf157 {B : Nat} (hB : B ≤ 512) {xs : Nat → Int32} {SL d : Nat} : ∀ p0 m, w32 p0 = p0 → xS B xs SL (d + 2) 157 (4, (some .int), [], 11) 1 0 [(0, xa 508), (1, xi p0)] [] m (yf157 B p0 m) := by
  intro p0 m cp0
  unfold yf157
  refine xS_of (pc' := 7) (L' := [(0, xa 508), (1, xi p0)]) (st' := [xi (xR m 518 3)]) (m' := m) (fun ex ns r q => ?_) ?_
  · refine xw_aload_n rfl rfl rfl ?_
    refine xw_gfR (n := 518) (e := 518) rfl (xw_obd (by decide +kernel)) (by decide +kernel) (by decide +kernel) rfl ?_
    refine xw_gfIc (v := (m 518 3)) (v' := (xR m 518 3)) rfl (xw_obd (by decide +kernel)) xk11_3 (qi := 3) rfl rfl rfl ?_
    exact q
  refine xS_if (fun h0 => ?_) (fun h0 => ?_)
  · refine xS_of (pc' := 13) (L' := [(0, xa 508), (1, xi p0)]) (st' := [xa 508]) (m' := m) (fun ex ns r q => ?_) ?_
    · refine xw_if_eqT rfl (w32_cg (w32_xR _ _ _)) h0 ?_
      refine xw_aload_n rfl rfl rfl ?_
      refine xw_lo (L2 := [(0, xa 508), (1, xi p0)]) (List.forall_mem_cons.mpr ⟨rfl, List.forall_mem_cons.mpr ⟨rfl, fun _ h => absurd h List.not_mem_nil⟩⟩) ?_
      exact q
    refine xS_call (q := 158) (n := 1) (kq := 0) (as := [xa 508]) (st1 := []) rfl rfl rfl rfl rfl rfl rfl rfl rfl rfl (fun _ => xw_rcv1 (t := 10) (xw_obd (by decide +kernel)) rfl) rfl (List.forall_mem_cons.mpr ⟨rfl, fun _ h => absurd h List.not_mem_nil⟩) (ygf158 hB _) (fun v1 m1 cv1 => ?_)
    refine xS_of (pc' := 20) (L' := [(0, xa 508), (1, xi p0), (2, xi 0), (3, xi 2)]) (st' := []) (m' := m1) (fun ex ns r q => ?_) ?_
    · refine xw_iconst rfl ?_
      refine xw_istore_n (L' := [(2, xi 0), (0, xa 508), (1, xi p0)]) rfl (by decide) rfl ?_
      refine xw_iconst rfl ?_
      refine xw_istore_n (L' := [(3, xi 2), (2, xi 0), (0, xa 508), (1, xi p0)]) rfl (by decide) rfl ?_
      refine xw_lo (L2 := [(0, xa 508), (1, xi p0), (2, xi 0), (3, xi 2)]) (List.forall_mem_cons.mpr ⟨rfl, List.forall_mem_cons.mpr ⟨rfl, List.forall_mem_cons.mpr ⟨rfl, List.forall_mem_cons.mpr ⟨rfl, fun _ h => absurd h List.not_mem_nil⟩⟩⟩⟩) ?_
      exact q
    exact ygl157_20 hB 1000000 _ _ _ _ cp0 rfl rfl
  · refine xS_of (pc' := 11) (L' := [(0, xa 508), (1, xi p0)]) (st' := [xi (-1)]) (m' := m) (fun ex ns r q => ?_) ?_
    · refine xw_if_eqF rfl (w32_cg (w32_xR _ _ _)) h0 ?_
      refine xw_iconst rfl ?_
      exact q
    exact xS_ret (v := (-1)) rfl rfl xw_rtI rfl
theorem ygf159 {B : Nat} (hB : B ≤ 512) {xs : Nat → Int32} {SL d : Nat} : ∀ p0 p1 p2 m, w32 p0 = p0 → w32 p1 = p1 → w32 p2 = p2 → xS B xs SL (d + 0) 159 (4, none, [], 11) 0 0 [(0, xa 508), (1, xi p0), (2, xi p1), (3, xi p2)] [] m (yf159 B p0 p1 p2 m) := by
  intro p0 p1 p2 m cp0 cp1 cp2
  unfold yf159
  refine xS_g (fun g0 => ?_)
  refine xS_of (pc' := 40) (L' := [(0, xa 508), (1, xi p0), (2, xi p1), (3, xi p2)]) (st' := []) (m' := (xw_u (xw_u (xw_u (xw_u m 513 (xR m 508 14) p0) 514 (xR m 508 14) p1) 515 (xR m 508 14) p2) 508 14 ((xR m 508 14) + 1))) (fun ex ns r q => ?_) ?_
  · refine xw_aload_n rfl rfl rfl ?_
    refine xw_gfR (n := 513) (e := 513) rfl (xw_obd (by decide +kernel)) (by decide +kernel) (by decide +kernel) rfl ?_
    refine xw_aload_n rfl rfl rfl ?_
    refine xw_gfIc (v := (m 508 14)) (v' := (xR m 508 14)) rfl (xw_obd (by decide +kernel)) xk10_14 (qi := 14) rfl rfl rfl ?_
    refine xw_iload_n rfl rfl ?_
    refine xw_iast (n := 200) rfl hB (xw_obd (by decide +kernel)) rfl g0 ?_
    refine xw_aload_n rfl rfl rfl ?_
    refine xw_gfR (n := 514) (e := 514) rfl (xw_obd (by decide +kernel)) (by decide +kernel) (by decide +kernel) rfl ?_
    refine xw_aload_n rfl rfl rfl ?_
    refine xw_gfIc (v := (m 508 14)) (v' := (xR m 508 14)) rfl (xw_obd (by decide +kernel)) xk10_14 (qi := 14) rfl (xw_un (fun e => absurd e.1 (by decide)) rfl) rfl ?_
    refine xw_iload_n rfl rfl ?_
    refine xw_iast (n := 200) rfl hB (xw_obd (by decide +kernel)) rfl g0 ?_
    refine xw_aload_n rfl rfl rfl ?_
    refine xw_gfR (n := 515) (e := 515) rfl (xw_obd (by decide +kernel)) (by decide +kernel) (by decide +kernel) rfl ?_
    refine xw_aload_n rfl rfl rfl ?_
    refine xw_gfIc (v := (m 508 14)) (v' := (xR m 508 14)) rfl (xw_obd (by decide +kernel)) xk10_14 (qi := 14) rfl (xw_un (fun e => absurd e.1 (by decide)) (xw_un (fun e => absurd e.1 (by decide)) rfl)) rfl ?_
    refine xw_iload_n rfl rfl ?_
    refine xw_iast (n := 200) rfl hB (xw_obd (by decide +kernel)) rfl g0 ?_
    refine xw_aload_n rfl rfl rfl ?_
    refine xw_dup rfl rfl ?_
    refine xw_gfIc (v := (m 508 14)) (v' := (xR m 508 14)) rfl (xw_obd (by decide +kernel)) xk10_14 (qi := 14) rfl (xw_un (fun e => absurd e.1 (by decide)) (xw_un (fun e => absurd e.1 (by decide)) (xw_un (fun e => absurd e.1 (by decide)) rfl))) rfl ?_
    refine xw_iconst rfl ?_
    refine xw_iadd rfl ?_
    refine xw_pfI rfl (xw_obd (by decide +kernel)) xk10_14 (qi := 14) rfl (xw_okI rfl) ?_
    exact q
  exact xS_ret (v := 0) rfl rfl rfl rfl
theorem ygk161_48 {B : Nat} (hB : B ≤ 512) {xs : Nat → Int32} {SL d : Nat} : ∀ m, xS B xs SL (d + 0) 161 (4, (some .boolean), [], 11) 4 48 [(0, xa 508)] [] m (yk161_48 B m) := by
  intro m
  unfold yk161_48
  refine xS_of (pc' := 52) (L' := [(0, xa 508)]) (st' := [xi (xR m 508 18)]) (m' := m) (fun ex ns r q => ?_) ?_
  · refine xw_aload_n rfl rfl rfl ?_
    refine xw_gfIc (v := (m 508 18)) (v' := (xR m 508 18)) rfl (xw_obd (by decide +kernel)) xk10_18 (qi := 18) rfl rfl rfl ?_
    exact q
  refine xS_if (fun h0 => ?_) (fun h0 => ?_)
  · refine xS_of (pc' := 60) (L' := [(0, xa 508)]) (st' := [xi 0]) (m' := m) (fun ex ns r q => ?_) ?_
    · refine xw_if_eqT rfl (w32_cg (w32_xR _ _ _)) h0 ?_
      refine xw_iconst rfl ?_
      exact q
    exact xS_ret (v := 0) rfl rfl (xw_rtZ (Or.inl rfl)) (Or.inl rfl)
  · refine xS_of (pc' := 60) (L' := [(0, xa 508)]) (st' := [xi 1]) (m' := m) (fun ex ns r q => ?_) ?_
    · refine xw_if_eqF rfl (w32_cg (w32_xR _ _ _)) h0 ?_
      refine xw_iconst rfl ?_
      refine xw_goto rfl ?_
      exact q
    exact xS_ret (v := 1) rfl rfl (xw_rtZ (Or.inr rfl)) (Or.inr rfl)
theorem ygf161 {B : Nat} (hB : B ≤ 512) {xs : Nat → Int32} {SL d : Nat} : ∀ p0 p1 p2 m, w32 p1 = p1 → w32 p2 = p2 → xS B xs SL (d + 0) 161 (4, (some .boolean), [], 11) 4 0 [(0, xa 508), (1, xa p0), (2, xi p1), (3, xi p2)] [] m (yf161 B p0 p1 p2 m) := by
  intro p0 p1 p2 m cp1 cp2
  unfold yf161
  refine xS_g (fun g0 => ?_)
  refine xS_g (fun g1 => ?_)
  refine xS_of (pc' := 35) (L' := [(0, xa 508), (1, xa p0), (2, xi p1), (3, xi p2)]) (st' := [xi (xR (xw_cp m p0 (p1 * 512) 516 (p2 * 512) 512) 508 18)]) (m' := (xw_u (xw_cp m p0 (p1 * 512) 516 (p2 * 512) 512) 508 19 ((xR (xw_cp m p0 (p1 * 512) 516 (p2 * 512) 512) 508 19) + 1))) (fun ex ns r q => ?_) ?_
  · refine xw_aload_n rfl rfl rfl ?_
    refine xw_iload_n rfl rfl ?_
    refine xw_sipush (e := 512) rfl (by decide +kernel) ?_
    refine xw_imul rfl ?_
    refine xw_aload_n rfl rfl rfl ?_
    refine xw_gfR (n := 516) (e := 516) rfl (xw_obd (by decide +kernel)) (by decide +kernel) (by decide +kernel) rfl ?_
    refine xw_iload_n rfl rfl ?_
    refine xw_sipush (e := 512) rfl (by decide +kernel) ?_
    refine xw_imul rfl ?_
    refine xw_sipush (e := 512) rfl (by decide +kernel) ?_
    refine xw_acopy (t := 17) (ls := (xw_le B p0)) (ld := (xw_le B 516)) rfl rfl hB (xw_obd g1) (xw_obd (by decide +kernel)) rfl rfl g0 rfl ?_
    refine xw_aload_n rfl rfl rfl ?_
    refine xw_dup rfl rfl ?_
    refine xw_gfIc (v := ((xw_cp m p0 (p1 * 512) 516 (p2 * 512) 512) 508 19)) (v' := (xR (xw_cp m p0 (p1 * 512) 516 (p2 * 512) 512) 508 19)) rfl (xw_obd (by decide +kernel)) xk10_19 (qi := 19) rfl rfl rfl ?_
    refine xw_iconst rfl ?_
    refine xw_iadd rfl ?_
    refine xw_pfI rfl (xw_obd (by decide +kernel)) xk10_19 (qi := 19) rfl (xw_okI rfl) ?_
    refine xw_aload_n rfl rfl rfl ?_
    refine xw_gfIc (v := ((xw_cp m p0 (p1 * 512) 516 (p2 * 512) 512) 508 18)) (v' := (xR (xw_cp m p0 (p1 * 512) 516 (p2 * 512) 512) 508 18)) rfl (xw_obd (by decide +kernel)) xk10_18 (qi := 18) rfl (xw_un (fun e => absurd e.2 (by decide)) rfl) rfl ?_
    exact q
  refine xS_if (fun h2 => ?_) (fun h2 => ?_)
  · refine xS_of (pc' := 48) (L' := [(0, xa 508)]) (st' := []) (m' := (xw_u (xw_u (xw_cp m p0 (p1 * 512) 516 (p2 * 512) 512) 508 19 ((xR (xw_cp m p0 (p1 * 512) 516 (p2 * 512) 512) 508 19) + 1)) 508 18 ((xR (xw_cp m p0 (p1 * 512) 516 (p2 * 512) 512) 508 18) - 1))) (fun ex ns r q => ?_) ?_
    · refine xw_if_leF rfl (w32_cg (w32_xR _ _ _)) (Int.not_le.mpr h2) ?_
      refine xw_aload_n rfl rfl rfl ?_
      refine xw_dup rfl rfl ?_
      refine xw_gfIc (v := ((xw_cp m p0 (p1 * 512) 516 (p2 * 512) 512) 508 18)) (v' := (xR (xw_cp m p0 (p1 * 512) 516 (p2 * 512) 512) 508 18)) rfl (xw_obd (by decide +kernel)) xk10_18 (qi := 18) rfl (xw_un (fun e => absurd e.2 (by decide)) rfl) rfl ?_
      refine xw_iconst rfl ?_
      refine xw_isub rfl ?_
      refine xw_pfI rfl (xw_obd (by decide +kernel)) xk10_18 (qi := 18) rfl (xw_okI rfl) ?_
      refine xw_lo (L2 := [(0, xa 508)]) (List.forall_mem_cons.mpr ⟨rfl, fun _ h => absurd h List.not_mem_nil⟩) ?_
      exact q
    exact ygk161_48 hB _
  · refine xS_of (pc' := 48) (L' := [(0, xa 508)]) (st' := []) (m' := (xw_u (xw_cp m p0 (p1 * 512) 516 (p2 * 512) 512) 508 19 ((xR (xw_cp m p0 (p1 * 512) 516 (p2 * 512) 512) 508 19) + 1))) (fun ex ns r q => ?_) ?_
    · refine xw_if_leT rfl (w32_cg (w32_xR _ _ _)) (Int.not_lt.mp h2) ?_
      refine xw_lo (L2 := [(0, xa 508)]) (List.forall_mem_cons.mpr ⟨rfl, fun _ h => absurd h List.not_mem_nil⟩) ?_
      exact q
    exact ygk161_48 hB _
theorem ysl162_127 {B : Nat} (hB : B ≤ 512) {xs : Nat → Int32} {SL d : Nat} {r127 : Int → xw_M → xP} (hr127 : ∀ x1 m, w32 x1 = x1 → xS B xs SL (d + 3) 162 (2, none, [], 11) 0 127 [(0, xa 508), (1, xi x1)] [] m (r127 x1 m)) : ∀ x1 m, w32 x1 = x1 → xS B xs SL (d + 3) 162 (2, none, [], 11) 0 127 [(0, xa 508), (1, xi x1)] [] m (yl162_127 B r127 x1 m) := by
  intro x1 m c1
  unfold yl162_127
  refine xS_of (pc' := 132) (L' := [(0, xa 508), (1, xi x1)]) (st' := [xi (xR m 508 14), xi x1]) (m' := m) (fun ex ns r q => ?_) ?_
  · refine xw_iload_n rfl rfl ?_
    refine xw_aload_n rfl rfl rfl ?_
    refine xw_gfIc (v := (m 508 14)) (v' := (xR m 508 14)) rfl (xw_obd (by decide +kernel)) xk10_14 (qi := 14) rfl rfl rfl ?_
    exact q
  refine xS_if (fun h0 => ?_) (fun h0 => ?_)
  · refine xS_g (fun g1 => ?_)
    refine xS_of (pc' := 148) (L' := [(0, xa 508), (1, xi x1)]) (st' := [xi 8, xj (xR m 513 x1), xa 524]) (m' := m) (fun ex ns r q => ?_) ?_
    · refine xw_ic_geF rfl (w32_cg c1) (w32_cg (w32_xR _ _ _)) (Int.not_le.mpr h0) ?_
      refine xw_aload_n rfl rfl rfl ?_
      refine xw_gfR (n := 524) (e := 524) rfl (xw_obd (by decide +kernel)) (by decide +kernel) (by decide +kernel) rfl ?_
      refine xw_aload_n rfl rfl rfl ?_
      refine xw_gfR (n := 513) (e := 513) rfl (xw_obd (by decide +kernel)) (by decide +kernel) (by decide +kernel) rfl ?_
      refine xw_iload_n rfl rfl ?_
      refine xw_ialdc (n := 200) (v := (m 513 x1)) (v' := (xR m 513 x1)) rfl hB (xw_obd (by decide +kernel)) rfl g1 rfl rfl ?_
      refine xw_i2l rfl (w32_cg (w32_xR _ _ _)) ?_
      refine xw_bipush (e := 8) rfl (by decide +kernel) ?_
      refine xw_lo (L2 := [(0, xa 508), (1, xi x1)]) (List.forall_mem_cons.mpr ⟨rfl, List.forall_mem_cons.mpr ⟨rfl, fun _ h => absurd h List.not_mem_nil⟩⟩) ?_
      exact q
    refine xS_call (q := 152) (n := 3) (kq := 0) (as := [xa 524, xj (xR m 513 x1), xi 8]) (st1 := []) rfl rfl rfl rfl rfl rfl rfl rfl rfl rfl (fun _ => xw_rcv1 (t := 11) (xw_obd (by decide +kernel)) rfl) rfl (List.forall_mem_cons.mpr ⟨rfl, List.forall_mem_cons.mpr ⟨rfl, List.forall_mem_cons.mpr ⟨rfl, fun _ h => absurd h List.not_mem_nil⟩⟩⟩) (ygf152 hB _ _ _ _ (w64_32 (w32_xR _ _ _)) rfl) (fun v1 m1 cv1 => ?_)
    refine xS_of (pc' := 164) (L' := [(0, xa 508), (1, xi x1)]) (st' := [xi 16, xj (xR m1 514 x1), xa 524]) (m' := m1) (fun ex ns r q => ?_) ?_
    · refine xw_aload_n rfl rfl rfl ?_
      refine xw_gfR (n := 524) (e := 524) rfl (xw_obd (by decide +kernel)) (by decide +kernel) (by decide +kernel) rfl ?_
      refine xw_aload_n rfl rfl rfl ?_
      refine xw_gfR (n := 514) (e := 514) rfl (xw_obd (by decide +kernel)) (by decide +kernel) (by decide +kernel) rfl ?_
      refine xw_iload_n rfl rfl ?_
      refine xw_ialdc (n := 200) (v := (m1 514 x1)) (v' := (xR m1 514 x1)) rfl hB (xw_obd (by decide +kernel)) rfl g1 rfl rfl ?_
      refine xw_i2l rfl (w32_cg (w32_xR _ _ _)) ?_
      refine xw_bipush (e := 16) rfl (by decide +kernel) ?_
      refine xw_lo (L2 := [(0, xa 508), (1, xi x1)]) (List.forall_mem_cons.mpr ⟨rfl, List.forall_mem_cons.mpr ⟨rfl, fun _ h => absurd h List.not_mem_nil⟩⟩) ?_
      exact q
    refine xS_call (q := 152) (n := 3) (kq := 0) (as := [xa 524, xj (xR m1 514 x1), xi 16]) (st1 := []) rfl rfl rfl rfl rfl rfl rfl rfl rfl rfl (fun _ => xw_rcv1 (t := 11) (xw_obd (by decide +kernel)) rfl) rfl (List.forall_mem_cons.mpr ⟨rfl, List.forall_mem_cons.mpr ⟨rfl, List.forall_mem_cons.mpr ⟨rfl, fun _ h => absurd h List.not_mem_nil⟩⟩⟩) (ygf152 hB _ _ _ _ (w64_32 (w32_xR _ _ _)) rfl) (fun v2 m2 cv2 => ?_)
    refine xS_of (pc' := 180) (L' := [(0, xa 508), (1, xi x1)]) (st' := [xi 16, xj (xR m2 515 x1), xa 524]) (m' := m2) (fun ex ns r q => ?_) ?_
    · refine xw_aload_n rfl rfl rfl ?_
      refine xw_gfR (n := 524) (e := 524) rfl (xw_obd (by decide +kernel)) (by decide +kernel) (by decide +kernel) rfl ?_
      refine xw_aload_n rfl rfl rfl ?_
      refine xw_gfR (n := 515) (e := 515) rfl (xw_obd (by decide +kernel)) (by decide +kernel) (by decide +kernel) rfl ?_
      refine xw_iload_n rfl rfl ?_
      refine xw_ialdc (n := 200) (v := (m2 515 x1)) (v' := (xR m2 515 x1)) rfl hB (xw_obd (by decide +kernel)) rfl g1 rfl rfl ?_
      refine xw_i2l rfl (w32_cg (w32_xR _ _ _)) ?_
      refine xw_bipush (e := 16) rfl (by decide +kernel) ?_
      refine xw_lo (L2 := [(0, xa 508), (1, xi x1)]) (List.forall_mem_cons.mpr ⟨rfl, List.forall_mem_cons.mpr ⟨rfl, fun _ h => absurd h List.not_mem_nil⟩⟩) ?_
      exact q
    refine xS_call (q := 152) (n := 3) (kq := 0) (as := [xa 524, xj (xR m2 515 x1), xi 16]) (st1 := []) rfl rfl rfl rfl rfl rfl rfl rfl rfl rfl (fun _ => xw_rcv1 (t := 11) (xw_obd (by decide +kernel)) rfl) rfl (List.forall_mem_cons.mpr ⟨rfl, List.forall_mem_cons.mpr ⟨rfl, List.forall_mem_cons.mpr ⟨rfl, fun _ h => absurd h List.not_mem_nil⟩⟩⟩) (ygf152 hB _ _ _ _ (w64_32 (w32_xR _ _ _)) rfl) (fun v3 m3 cv3 => ?_)
    refine xS_of (pc' := 127) (L' := [(0, xa 508), (1, xi (w32 (x1 + 1)))]) (st' := []) (m' := m3) (fun ex ns r q => ?_) ?_
    · refine xw_iincc (z := (w32 (x1 + 1))) (L' := [(1, xi (w32 (x1 + 1))), (0, xa 508)]) rfl rfl (by decide) rfl rfl ?_
      refine xw_goto rfl ?_
      refine xw_lo (L2 := [(0, xa 508), (1, xi (w32 (x1 + 1)))]) (List.forall_mem_cons.mpr ⟨rfl, List.forall_mem_cons.mpr ⟨rfl, fun _ h => absurd h List.not_mem_nil⟩⟩) ?_
      exact q
    exact hr127 _ _ (w32_w _)
  · refine xS_of (pc' := 189) (L' := [(0, xa 508), (1, xi x1)]) (st' := []) (m' := m) (fun ex ns r q => ?_) ?_
    · refine xw_ic_geT rfl (w32_cg c1) (w32_cg (w32_xR _ _ _)) (Int.not_lt.mp h0) ?_
      exact q
    exact xS_ret (v := 0) rfl rfl rfl rfl
theorem ygl162_127 {B : Nat} (hB : B ≤ 512) {xs : Nat → Int32} {SL d : Nat} : ∀ n x1 m, w32 x1 = x1 → xS B xs SL (d + 3) 162 (2, none, [], 11) 0 127 [(0, xa 508), (1, xi x1)] [] m (xl1 (yl162_127 B) n x1 m) := by
  intro n
  induction n with
  | zero => intro x1 m c1; exact xS_none
  | succ n ih => exact ysl162_127 hB ih
theorem ysl162_79 {B : Nat} (hB : B ≤ 512) {xs : Nat → Int32} {SL d : Nat} {r79 : Int → xw_M → xP} (hr79 : ∀ x1 m, w32 x1 = x1 → xS B xs SL (d + 3) 162 (2, none, [], 11) 0 79 [(0, xa 508), (1, xi x1)] [] m (r79 x1 m)) : ∀ x1 m, w32 x1 = x1 → xS B xs SL (d + 3) 162 (2, none, [], 11) 0 79 [(0, xa 508), (1, xi x1)] [] m (yl162_79 B r79 x1 m) := by
  intro x1 m c1
  unfold yl162_79
  refine xS_of (pc' := 84) (L' := [(0, xa 508), (1, xi x1)]) (st' := [xi (xR m 508 11), xi x1]) (m' := m) (fun ex ns r q => ?_) ?_
  · refine xw_iload_n rfl rfl ?_
    refine xw_aload_n rfl rfl rfl ?_
    refine xw_gfIc (v := (m 508 11)) (v' := (xR m 508 11)) rfl (xw_obd (by decide +kernel)) xk10_11 (qi := 11) rfl rfl rfl ?_
    exact q
  refine xS_if (fun h0 => ?_) (fun h0 => ?_)
  · refine xS_g (fun g1 => ?_)
    refine xS_of (pc' := 100) (L' := [(0, xa 508), (1, xi x1)]) (st' := [xi 32, xj (xR m 511 x1), xa 524]) (m' := m) (fun ex ns r q => ?_) ?_
    · refine xw_ic_geF rfl (w32_cg c1) (w32_cg (w32_xR _ _ _)) (Int.not_le.mpr h0) ?_
      refine xw_aload_n rfl rfl rfl ?_
      refine xw_gfR (n := 524) (e := 524) rfl (xw_obd (by decide +kernel)) (by decide +kernel) (by decide +kernel) rfl ?_
      refine xw_aload_n rfl rfl rfl ?_
      refine xw_gfR (n := 511) (e := 511) rfl (xw_obd (by decide +kernel)) (by decide +kernel) (by decide +kernel) rfl ?_
      refine xw_iload_n rfl rfl ?_
      refine xw_ialdc (n := 16) (v := (m 511 x1)) (v' := (xR m 511 x1)) rfl hB (xw_obd (by decide +kernel)) rfl g1 rfl rfl ?_
      refine xw_i2l rfl (w32_cg (w32_xR _ _ _)) ?_
      refine xw_bipush (e := 32) rfl (by decide +kernel) ?_
      refine xw_lo (L2 := [(0, xa 508), (1, xi x1)]) (List.forall_mem_cons.mpr ⟨rfl, List.forall_mem_cons.mpr ⟨rfl, fun _ h => absurd h List.not_mem_nil⟩⟩) ?_
      exact q
    refine xS_call (q := 152) (n := 3) (kq := 0) (as := [xa 524, xj (xR m 511 x1), xi 32]) (st1 := []) rfl rfl rfl rfl rfl rfl rfl rfl rfl rfl (fun _ => xw_rcv1 (t := 11) (xw_obd (by decide +kernel)) rfl) rfl (List.forall_mem_cons.mpr ⟨rfl, List.forall_mem_cons.mpr ⟨rfl, List.forall_mem_cons.mpr ⟨rfl, fun _ h => absurd h List.not_mem_nil⟩⟩⟩) (ygf152 hB _ _ _ _ (w64_32 (w32_xR _ _ _)) rfl) (fun v1 m1 cv1 => ?_)
    refine xS_of (pc' := 116) (L' := [(0, xa 508), (1, xi x1)]) (st' := [xi 32, xj (xR m1 512 x1), xa 524]) (m' := m1) (fun ex ns r q => ?_) ?_
    · refine xw_aload_n rfl rfl rfl ?_
      refine xw_gfR (n := 524) (e := 524) rfl (xw_obd (by decide +kernel)) (by decide +kernel) (by decide +kernel) rfl ?_
      refine xw_aload_n rfl rfl rfl ?_
      refine xw_gfR (n := 512) (e := 512) rfl (xw_obd (by decide +kernel)) (by decide +kernel) (by decide +kernel) rfl ?_
      refine xw_iload_n rfl rfl ?_
      refine xw_ialdc (n := 16) (v := (m1 512 x1)) (v' := (xR m1 512 x1)) rfl hB (xw_obd (by decide +kernel)) rfl g1 rfl rfl ?_
      refine xw_i2l rfl (w32_cg (w32_xR _ _ _)) ?_
      refine xw_bipush (e := 32) rfl (by decide +kernel) ?_
      refine xw_lo (L2 := [(0, xa 508), (1, xi x1)]) (List.forall_mem_cons.mpr ⟨rfl, List.forall_mem_cons.mpr ⟨rfl, fun _ h => absurd h List.not_mem_nil⟩⟩) ?_
      exact q
    refine xS_call (q := 152) (n := 3) (kq := 0) (as := [xa 524, xj (xR m1 512 x1), xi 32]) (st1 := []) rfl rfl rfl rfl rfl rfl rfl rfl rfl rfl (fun _ => xw_rcv1 (t := 11) (xw_obd (by decide +kernel)) rfl) rfl (List.forall_mem_cons.mpr ⟨rfl, List.forall_mem_cons.mpr ⟨rfl, List.forall_mem_cons.mpr ⟨rfl, fun _ h => absurd h List.not_mem_nil⟩⟩⟩) (ygf152 hB _ _ _ _ (w64_32 (w32_xR _ _ _)) rfl) (fun v2 m2 cv2 => ?_)
    refine xS_of (pc' := 79) (L' := [(0, xa 508), (1, xi (w32 (x1 + 1)))]) (st' := []) (m' := m2) (fun ex ns r q => ?_) ?_
    · refine xw_iincc (z := (w32 (x1 + 1))) (L' := [(1, xi (w32 (x1 + 1))), (0, xa 508)]) rfl rfl (by decide) rfl rfl ?_
      refine xw_goto rfl ?_
      refine xw_lo (L2 := [(0, xa 508), (1, xi (w32 (x1 + 1)))]) (List.forall_mem_cons.mpr ⟨rfl, List.forall_mem_cons.mpr ⟨rfl, fun _ h => absurd h List.not_mem_nil⟩⟩) ?_
      exact q
    exact hr79 _ _ (w32_w _)
  · refine xS_of (pc' := 127) (L' := [(0, xa 508), (1, xi 0)]) (st' := []) (m' := m) (fun ex ns r q => ?_) ?_
    · refine xw_ic_geT rfl (w32_cg c1) (w32_cg (w32_xR _ _ _)) (Int.not_lt.mp h0) ?_
      refine xw_iconst rfl ?_
      refine xw_istore_n (L' := [(1, xi 0), (0, xa 508)]) rfl (by decide) rfl ?_
      refine xw_lo (L2 := [(0, xa 508), (1, xi 0)]) (List.forall_mem_cons.mpr ⟨rfl, List.forall_mem_cons.mpr ⟨rfl, fun _ h => absurd h List.not_mem_nil⟩⟩) ?_
      exact q
    exact ygl162_127 hB 1000000 _ _ rfl
theorem ygl162_79 {B : Nat} (hB : B ≤ 512) {xs : Nat → Int32} {SL d : Nat} : ∀ n x1 m, w32 x1 = x1 → xS B xs SL (d + 3) 162 (2, none, [], 11) 0 79 [(0, xa 508), (1, xi x1)] [] m (xl1 (yl162_79 B) n x1 m) := by
  intro n
  induction n with
  | zero => intro x1 m c1; exact xS_none
  | succ n ih => exact ysl162_79 hB ih
theorem ygf162 {B : Nat} (hB : B ≤ 512) {xs : Nat → Int32} {SL d : Nat} : ∀ m, xS B xs SL (d + 3) 162 (2, none, [], 11) 0 0 [(0, xa 508)] [] m (yf162 B m) := by
  intro m
  unfold yf162
  refine xS_of (pc' := 4) (L' := [(0, xa 508)]) (st' := [xa 524]) (m' := m) (fun ex ns r q => ?_) ?_
  · refine xw_aload_n rfl rfl rfl ?_
    refine xw_gfR (n := 524) (e := 524) rfl (xw_obd (by decide +kernel)) (by decide +kernel) (by decide +kernel) rfl ?_
    refine xw_lo (L2 := [(0, xa 508)]) (List.forall_mem_cons.mpr ⟨rfl, fun _ h => absurd h List.not_mem_nil⟩) ?_
    exact q
  refine xS_call (q := 151) (n := 1) (kq := 0) (as := [xa 524]) (st1 := []) rfl rfl rfl rfl rfl rfl rfl rfl rfl rfl (fun _ => xw_rcv1 (t := 11) (xw_obd (by decide +kernel)) rfl) rfl (List.forall_mem_cons.mpr ⟨rfl, fun _ h => absurd h List.not_mem_nil⟩) (ygf151 hB _ _) (fun v1 m1 cv1 => ?_)
  refine xS_of (pc' := 18) (L' := [(0, xa 508)]) (st' := [xi 32, xj (xR m1 508 8), xa 524]) (m' := m1) (fun ex ns r q => ?_) ?_
  · refine xw_aload_n rfl rfl rfl ?_
    refine xw_gfR (n := 524) (e := 524) rfl (xw_obd (by decide +kernel)) (by decide +kernel) (by decide +kernel) rfl ?_
    refine xw_aload_n rfl rfl rfl ?_
    refine xw_gfIc (v := (m1 508 8)) (v' := (xR m1 508 8)) rfl (xw_obd (by decide +kernel)) xk10_8 (qi := 8) rfl rfl rfl ?_
    refine xw_i2l rfl (w32_cg (w32_xR _ _ _)) ?_
    refine xw_bipush (e := 32) rfl (by decide +kernel) ?_
    refine xw_lo (L2 := [(0, xa 508)]) (List.forall_mem_cons.mpr ⟨rfl, fun _ h => absurd h List.not_mem_nil⟩) ?_
    exact q
  refine xS_call (q := 152) (n := 3) (kq := 0) (as := [xa 524, xj (xR m1 508 8), xi 32]) (st1 := []) rfl rfl rfl rfl rfl rfl rfl rfl rfl rfl (fun _ => xw_rcv1 (t := 11) (xw_obd (by decide +kernel)) rfl) rfl (List.forall_mem_cons.mpr ⟨rfl, List.forall_mem_cons.mpr ⟨rfl, List.forall_mem_cons.mpr ⟨rfl, fun _ h => absurd h List.not_mem_nil⟩⟩⟩) (ygf152 hB _ _ _ _ (w64_32 (w32_xR _ _ _)) rfl) (fun v2 m2 cv2 => ?_)
  refine xS_of (pc' := 32) (L' := [(0, xa 508)]) (st' := [xi 32, xj (xR m2 508 9), xa 524]) (m' := m2) (fun ex ns r q => ?_) ?_
  · refine xw_aload_n rfl rfl rfl ?_
    refine xw_gfR (n := 524) (e := 524) rfl (xw_obd (by decide +kernel)) (by decide +kernel) (by decide +kernel) rfl ?_
    refine xw_aload_n rfl rfl rfl ?_
    refine xw_gfIc (v := (m2 508 9)) (v' := (xR m2 508 9)) rfl (xw_obd (by decide +kernel)) xk10_9 (qi := 9) rfl rfl rfl ?_
    refine xw_i2l rfl (w32_cg (w32_xR _ _ _)) ?_
    refine xw_bipush (e := 32) rfl (by decide +kernel) ?_
    refine xw_lo (L2 := [(0, xa 508)]) (List.forall_mem_cons.mpr ⟨rfl, fun _ h => absurd h List.not_mem_nil⟩) ?_
    exact q
  refine xS_call (q := 152) (n := 3) (kq := 0) (as := [xa 524, xj (xR m2 508 9), xi 32]) (st1 := []) rfl rfl rfl rfl rfl rfl rfl rfl rfl rfl (fun _ => xw_rcv1 (t := 11) (xw_obd (by decide +kernel)) rfl) rfl (List.forall_mem_cons.mpr ⟨rfl, List.forall_mem_cons.mpr ⟨rfl, List.forall_mem_cons.mpr ⟨rfl, fun _ h => absurd h List.not_mem_nil⟩⟩⟩) (ygf152 hB _ _ _ _ (w64_32 (w32_xR _ _ _)) rfl) (fun v3 m3 cv3 => ?_)
  refine xS_of (pc' := 46) (L' := [(0, xa 508)]) (st' := [xi 32, xj (xR m3 508 10), xa 524]) (m' := m3) (fun ex ns r q => ?_) ?_
  · refine xw_aload_n rfl rfl rfl ?_
    refine xw_gfR (n := 524) (e := 524) rfl (xw_obd (by decide +kernel)) (by decide +kernel) (by decide +kernel) rfl ?_
    refine xw_aload_n rfl rfl rfl ?_
    refine xw_gfIc (v := (m3 508 10)) (v' := (xR m3 508 10)) rfl (xw_obd (by decide +kernel)) xk10_10 (qi := 10) rfl rfl rfl ?_
    refine xw_i2l rfl (w32_cg (w32_xR _ _ _)) ?_
    refine xw_bipush (e := 32) rfl (by decide +kernel) ?_
    refine xw_lo (L2 := [(0, xa 508)]) (List.forall_mem_cons.mpr ⟨rfl, fun _ h => absurd h List.not_mem_nil⟩) ?_
    exact q
  refine xS_call (q := 152) (n := 3) (kq := 0) (as := [xa 524, xj (xR m3 508 10), xi 32]) (st1 := []) rfl rfl rfl rfl rfl rfl rfl rfl rfl rfl (fun _ => xw_rcv1 (t := 11) (xw_obd (by decide +kernel)) rfl) rfl (List.forall_mem_cons.mpr ⟨rfl, List.forall_mem_cons.mpr ⟨rfl, List.forall_mem_cons.mpr ⟨rfl, fun _ h => absurd h List.not_mem_nil⟩⟩⟩) (ygf152 hB _ _ _ _ (w64_32 (w32_xR _ _ _)) rfl) (fun v4 m4 cv4 => ?_)
  refine xS_of (pc' := 60) (L' := [(0, xa 508)]) (st' := [xi 16, xj (xR m4 508 11), xa 524]) (m' := m4) (fun ex ns r q => ?_) ?_
  · refine xw_aload_n rfl rfl rfl ?_
    refine xw_gfR (n := 524) (e := 524) rfl (xw_obd (by decide +kernel)) (by decide +kernel) (by decide +kernel) rfl ?_
    refine xw_aload_n rfl rfl rfl ?_
    refine xw_gfIc (v := (m4 508 11)) (v' := (xR m4 508 11)) rfl (xw_obd (by decide +kernel)) xk10_11 (qi := 11) rfl rfl rfl ?_
    refine xw_i2l rfl (w32_cg (w32_xR _ _ _)) ?_
    refine xw_bipush (e := 16) rfl (by decide +kernel) ?_
    refine xw_lo (L2 := [(0, xa 508)]) (List.forall_mem_cons.mpr ⟨rfl, fun _ h => absurd h List.not_mem_nil⟩) ?_
    exact q
  refine xS_call (q := 152) (n := 3) (kq := 0) (as := [xa 524, xj (xR m4 508 11), xi 16]) (st1 := []) rfl rfl rfl rfl rfl rfl rfl rfl rfl rfl (fun _ => xw_rcv1 (t := 11) (xw_obd (by decide +kernel)) rfl) rfl (List.forall_mem_cons.mpr ⟨rfl, List.forall_mem_cons.mpr ⟨rfl, List.forall_mem_cons.mpr ⟨rfl, fun _ h => absurd h List.not_mem_nil⟩⟩⟩) (ygf152 hB _ _ _ _ (w64_32 (w32_xR _ _ _)) rfl) (fun v5 m5 cv5 => ?_)
  refine xS_of (pc' := 74) (L' := [(0, xa 508)]) (st' := [xi 16, xj (xR m5 508 14), xa 524]) (m' := m5) (fun ex ns r q => ?_) ?_
  · refine xw_aload_n rfl rfl rfl ?_
    refine xw_gfR (n := 524) (e := 524) rfl (xw_obd (by decide +kernel)) (by decide +kernel) (by decide +kernel) rfl ?_
    refine xw_aload_n rfl rfl rfl ?_
    refine xw_gfIc (v := (m5 508 14)) (v' := (xR m5 508 14)) rfl (xw_obd (by decide +kernel)) xk10_14 (qi := 14) rfl rfl rfl ?_
    refine xw_i2l rfl (w32_cg (w32_xR _ _ _)) ?_
    refine xw_bipush (e := 16) rfl (by decide +kernel) ?_
    refine xw_lo (L2 := [(0, xa 508)]) (List.forall_mem_cons.mpr ⟨rfl, fun _ h => absurd h List.not_mem_nil⟩) ?_
    exact q
  refine xS_call (q := 152) (n := 3) (kq := 0) (as := [xa 524, xj (xR m5 508 14), xi 16]) (st1 := []) rfl rfl rfl rfl rfl rfl rfl rfl rfl rfl (fun _ => xw_rcv1 (t := 11) (xw_obd (by decide +kernel)) rfl) rfl (List.forall_mem_cons.mpr ⟨rfl, List.forall_mem_cons.mpr ⟨rfl, List.forall_mem_cons.mpr ⟨rfl, fun _ h => absurd h List.not_mem_nil⟩⟩⟩) (ygf152 hB _ _ _ _ (w64_32 (w32_xR _ _ _)) rfl) (fun v6 m6 cv6 => ?_)
  refine xS_of (pc' := 79) (L' := [(0, xa 508), (1, xi 0)]) (st' := []) (m' := m6) (fun ex ns r q => ?_) ?_
  · refine xw_iconst rfl ?_
    refine xw_istore_n (L' := [(1, xi 0), (0, xa 508)]) rfl (by decide) rfl ?_
    refine xw_lo (L2 := [(0, xa 508), (1, xi 0)]) (List.forall_mem_cons.mpr ⟨rfl, List.forall_mem_cons.mpr ⟨rfl, fun _ h => absurd h List.not_mem_nil⟩⟩) ?_
    exact q
  exact ygl162_79 hB 1000000 _ _ rfl
theorem ysl160_2 {B : Nat} (hB : B ≤ 512) {xs : Nat → Int32} {SL d : Nat} {r2 : Int → Int → Int → xw_M → xP} (hr2 : ∀ x1 x2 x3 m, w32 x1 = x1 → w32 x2 = x2 → w32 x3 = x3 → xS B xs SL (d + 4) 160 (4, (some .boolean), [], 11) 4 2 [(0, xa 508), (1, xi x1), (2, xi x2), (3, xi x3)] [] m (r2 x1 x2 x3 m)) : ∀ x1 x2 x3 m, w32 x1 = x1 → w32 x2 = x2 → w32 x3 = x3 → xS B xs SL (d + 4) 160 (4, (some .boolean), [], 11) 4 2 [(0, xa 508), (1, xi x1), (2, xi x2), (3, xi x3)] [] m (yl160_2 B r2 x1 x2 x3 m) := by
  intro x1 x2 x3 m c1 c2 c3
  unfold yl160_2
  refine xS_of (pc' := 4) (L' := [(0, xa 508), (1, xi x1), (2, xi x2), (3, xi x3)]) (st' := [xi x2, xi x3]) (m' := m) (fun ex ns r q => ?_) ?_
  · refine xw_iload_n rfl rfl ?_
    refine xw_iload_n rfl rfl ?_
    exact q
  refine xS_if (fun h0 => ?_) (fun h0 => ?_)
  · refine xS_of (pc' := 16) (L' := [(0, xa 508), (1, xi x1), (2, xi x2), (3, xi x3)]) (st' := [xi (w32 (x1 + x3)), xi x3, xa 517, xa 508]) (m' := m) (fun ex ns r q => ?_) ?_
    · refine xw_ic_geF rfl (w32_cg c3) (w32_cg c2) (Int.not_le.mpr h0) ?_
      refine xw_aload_n rfl rfl rfl ?_
      refine xw_aload_n rfl rfl rfl ?_
      refine xw_gfR (n := 517) (e := 517) rfl (xw_obd (by decide +kernel)) (by decide +kernel) (by decide +kernel) rfl ?_
      refine xw_iload_n rfl rfl ?_
      refine xw_iload_n rfl rfl ?_
      refine xw_iload_n rfl rfl ?_
      refine xw_iadd rfl ?_
      refine xw_cst (st' := [xi (w32 (x1 + x3)), xi x3, xa 517, xa 508]) (xw_sc (xi_c rfl) (xw_sc rfl (xw_sc rfl (xw_sc rfl rfl)))) ?_
      refine xw_lo (L2 := [(0, xa 508), (1, xi x1), (2, xi x2), (3, xi x3)]) (List.forall_mem_cons.mpr ⟨rfl, List.forall_mem_cons.mpr ⟨rfl, List.forall_mem_cons.mpr ⟨rfl, List.forall_mem_cons.mpr ⟨rfl, fun _ h => absurd h List.not_mem_nil⟩⟩⟩⟩) ?_
      exact q
    refine xS_call (q := 161) (n := 4) (kq := 4) (as := [xa 508, xa 517, xi x3, xi (w32 (x1 + x3))]) (st1 := []) rfl rfl rfl rfl rfl rfl rfl rfl rfl rfl (fun _ => xw_rcv1 (t := 10) (xw_obd (by decide +kernel)) rfl) rfl (List.forall_mem_cons.mpr ⟨rfl, List.forall_mem_cons.mpr ⟨rfl, List.forall_mem_cons.mpr ⟨rfl, List.forall_mem_cons.mpr ⟨rfl, fun _ h => absurd h List.not_mem_nil⟩⟩⟩⟩) (ygf161 hB _ _ _ _ c3 (w32_w _)) (fun v1 m1 cv1 => ?_)
    refine xS_if (fun h1 => ?_) (fun h1 => ?_)
    · refine xS_of (pc' := 23) (L' := [(0, xa 508), (1, xi x1), (2, xi x2), (3, xi x3)]) (st' := [xi 0]) (m' := m1) (fun ex ns r q => ?_) ?_
      · refine xw_if_neF rfl (w32_cg (w32_of (xw_zr cv1))) h1 ?_
        refine xw_iconst rfl ?_
        exact q
      exact xS_ret (v := 0) rfl rfl (xw_rtZ (Or.inl rfl)) (Or.inl rfl)
    · refine xS_of (pc' := 2) (L' := [(0, xa 508), (1, xi x1), (2, xi x2), (3, xi (w32 (x3 + 1)))]) (st' := []) (m' := m1) (fun ex ns r q => ?_) ?_
      · refine xw_if_neT rfl (w32_cg (w32_of (xw_zr cv1))) h1 ?_
        refine xw_iincc (z := (w32 (x3 + 1))) (L' := [(3, xi (w32 (x3 + 1))), (0, xa 508), (1, xi x1), (2, xi x2)]) rfl rfl (by decide) rfl rfl ?_
        refine xw_goto rfl ?_
        refine xw_lo (L2 := [(0, xa 508), (1, xi x1), (2, xi x2), (3, xi (w32 (x3 + 1)))]) (List.forall_mem_cons.mpr ⟨rfl, List.forall_mem_cons.mpr ⟨rfl, List.forall_mem_cons.mpr ⟨rfl, List.forall_mem_cons.mpr ⟨rfl, fun _ h => absurd h List.not_mem_nil⟩⟩⟩⟩) ?_
        exact q
      exact hr2 _ _ _ _ c1 c2 (w32_w _)
  · refine xS_of (pc' := 41) (L' := [(0, xa 508)]) (st' := [xa 508]) (m' := (xw_u m 508 8 ((xR m 508 8) + 1))) (fun ex ns r q => ?_) ?_
    · refine xw_ic_geT rfl (w32_cg c3) (w32_cg c2) (Int.not_lt.mp h0) ?_
      refine xw_aload_n rfl rfl rfl ?_
      refine xw_dup rfl rfl ?_
      refine xw_gfIc (v := (m 508 8)) (v' := (xR m 508 8)) rfl (xw_obd (by decide +kernel)) xk10_8 (qi := 8) rfl rfl rfl ?_
      refine xw_iconst rfl ?_
      refine xw_iadd rfl ?_
      refine xw_pfI rfl (xw_obd (by decide +kernel)) xk10_8 (qi := 8) rfl (xw_okI rfl) ?_
      refine xw_aload_n rfl rfl rfl ?_
      refine xw_lo (L2 := [(0, xa 508)]) (List.forall_mem_cons.mpr ⟨rfl, fun _ h => absurd h List.not_mem_nil⟩) ?_
      exact q
    refine xS_call (q := 162) (n := 1) (kq := 0) (as := [xa 508]) (st1 := []) rfl rfl rfl rfl rfl rfl rfl rfl rfl rfl (fun _ => xw_rcv1 (t := 10) (xw_obd (by decide +kernel)) rfl) rfl (List.forall_mem_cons.mpr ⟨rfl, fun _ h => absurd h List.not_mem_nil⟩) (ygf162 hB _) (fun v2 m2 cv2 => ?_)
    refine xS_of (pc' := 56) (L' := []) (st' := [xi (xw_iandf (xR m2 508 8) 1), xi 0, xa 509, xa 508]) (m' := m2) (fun ex ns r q => ?_) ?_
    · refine xw_aload_n rfl rfl rfl ?_
      refine xw_aload_n rfl rfl rfl ?_
      refine xw_gfR (n := 509) (e := 509) rfl (xw_obd (by decide +kernel)) (by decide +kernel) (by decide +kernel) rfl ?_
      refine xw_iconst rfl ?_
      refine xw_aload_n rfl rfl rfl ?_
      refine xw_gfIc (v := (m2 508 8)) (v' := (xR m2 508 8)) rfl (xw_obd (by decide +kernel)) xk10_8 (qi := 8) rfl rfl rfl ?_
      refine xw_iconst rfl ?_
      refine xw_iand (z := (xw_iandf (xR m2 508 8) 1)) rfl (xw_iande _ _) ?_
      refine xw_lo (L2 := []) (fun _ h => absurd h List.not_mem_nil) ?_
      exact q
    refine xS_call (q := 161) (n := 4) (kq := 4) (as := [xa 508, xa 509, xi 0, xi (xw_iandf (xR m2 508 8) 1)]) (st1 := []) rfl rfl rfl rfl rfl rfl rfl rfl rfl rfl (fun _ => xw_rcv1 (t := 10) (xw_obd (by decide +kernel)) rfl) rfl (List.forall_mem_cons.mpr ⟨rfl, List.forall_mem_cons.mpr ⟨rfl, List.forall_mem_cons.mpr ⟨rfl, List.forall_mem_cons.mpr ⟨rfl, fun _ h => absurd h List.not_mem_nil⟩⟩⟩⟩) (ygf161 hB _ _ _ _ rfl (w32_ti _)) (fun v3 m3 cv3 => ?_)
    exact xS_ret (v := v3) rfl rfl (xw_rtZ cv3) cv3
theorem ygl160_2 {B : Nat} (hB : B ≤ 512) {xs : Nat → Int32} {SL d : Nat} : ∀ n x1 x2 x3 m, w32 x1 = x1 → w32 x2 = x2 → w32 x3 = x3 → xS B xs SL (d + 4) 160 (4, (some .boolean), [], 11) 4 2 [(0, xa 508), (1, xi x1), (2, xi x2), (3, xi x3)] [] m (xl3 (yl160_2 B) n x1 x2 x3 m) := by
  intro n
  induction n with
  | zero => intro x1 x2 x3 m c1 c2 c3; exact xS_none
  | succ n ih => exact ysl160_2 hB ih
theorem ygf160 {B : Nat} (hB : B ≤ 512) {xs : Nat → Int32} {SL d : Nat} : ∀ p0 p1 m, w32 p0 = p0 → w32 p1 = p1 → xS B xs SL (d + 4) 160 (4, (some .boolean), [], 11) 4 0 [(0, xa 508), (1, xi p0), (2, xi p1)] [] m (yf160 B p0 p1 m) := by
  intro p0 p1 m cp0 cp1
  unfold yf160
  refine xS_of (pc' := 2) (L' := [(0, xa 508), (1, xi p0), (2, xi p1), (3, xi 0)]) (st' := []) (m' := m) (fun ex ns r q => ?_) ?_
  · refine xw_iconst rfl ?_
    refine xw_istore_n (L' := [(3, xi 0), (0, xa 508), (1, xi p0), (2, xi p1)]) rfl (by decide) rfl ?_
    refine xw_lo (L2 := [(0, xa 508), (1, xi p0), (2, xi p1), (3, xi 0)]) (List.forall_mem_cons.mpr ⟨rfl, List.forall_mem_cons.mpr ⟨rfl, List.forall_mem_cons.mpr ⟨rfl, List.forall_mem_cons.mpr ⟨rfl, fun _ h => absurd h List.not_mem_nil⟩⟩⟩⟩) ?_
    exact q
  exact ygl160_2 hB 1000000 _ _ _ _ cp0 cp1 rfl
theorem ygf163 {B : Nat} (hB : B ≤ 512) {xs : Nat → Int32} {SL d : Nat} : ∀ m, xS B xs SL (d + 2) 163 (1, (some .int), [], 1) 1 0 [(0, xa 0)] [] m (yf163 B m) := by
  intro m
  unfold yf163
  refine xS_of (pc' := 1) (L' := [(0, xa 0)]) (st' := [xa 0]) (m' := m) (fun ex ns r q => ?_) ?_
  · refine xw_aload_n rfl rfl rfl ?_
    refine xw_lo (L2 := [(0, xa 0)]) (List.forall_mem_cons.mpr ⟨rfl, fun _ h => absurd h List.not_mem_nil⟩) ?_
    exact q
  refine xS_call (q := 13) (n := 1) (kq := 0) (as := [xa 0]) (st1 := []) rfl rfl rfl rfl rfl rfl rfl rfl rfl rfl (fun _ => xw_rcv1 (t := 0) (xw_obd (by decide +kernel)) rfl) rfl (List.forall_mem_cons.mpr ⟨rfl, fun _ h => absurd h List.not_mem_nil⟩) (ygf13 hB _) (fun v1 m1 cv1 => ?_)
  refine xS_of (pc' := 11) (L' := [(0, xa 0)]) (st' := [xi (-3)]) (m' := (xw_u m1 0 14 2)) (fun ex ns r q => ?_) ?_
  · refine xw_aload_n rfl rfl rfl ?_
    refine xw_iconst rfl ?_
    refine xw_pfI rfl (xw_obd (by decide +kernel)) xk0_14 (qi := 14) rfl (xw_okI rfl) ?_
    refine xw_bipush (e := (-3)) rfl (by decide +kernel) ?_
    exact q
  exact xS_ret (v := (-3)) rfl rfl xw_rtI rfl
theorem ygk147_17 {B : Nat} (hB : B ≤ 512) {xs : Nat → Int32} {SL d : Nat} : ∀ m, xS B xs SL (d + 5) 147 (3, (some .int), [], 1) 1 17 [(0, xa 0)] [] m (yk147_17 B m) := by
  intro m
  unfold yk147_17
  refine xS_of (pc' := 22) (L' := [(0, xa 0)]) (st' := [xi 1]) (m' := m) (fun ex ns r q => ?_) ?_
  · refine xw_iconst rfl ?_
    refine xw_goto rfl ?_
    refine xw_lo (L2 := [(0, xa 0)]) (List.forall_mem_cons.mpr ⟨rfl, fun _ h => absurd h List.not_mem_nil⟩) ?_
    exact q
  refine xS_call (q := 39) (n := 1) (kq := 0) (as := [xi 1]) (st1 := []) rfl rfl rfl rfl rfl rfl rfl rfl rfl rfl (fun _ => xw_rcv0 rfl) rfl (List.forall_mem_cons.mpr ⟨rfl, fun _ h => absurd h List.not_mem_nil⟩) (ygf39 hB _ _ rfl) (fun v1 m1 cv1 => ?_)
  refine xS_of (pc' := 29) (L' := [(0, xa 0)]) (st' := [xa 3]) (m' := m1) (fun ex ns r q => ?_) ?_
  · refine xw_aload_n rfl rfl rfl ?_
    refine xw_gfR (n := 3) (e := 3) rfl (xw_obd (by decide +kernel)) (by decide +kernel) (by decide +kernel) rfl ?_
    refine xw_lo (L2 := [(0, xa 0)]) (List.forall_mem_cons.mpr ⟨rfl, fun _ h => absurd h List.not_mem_nil⟩) ?_
    exact q
  refine xS_call (q := 26) (n := 1) (kq := 0) (as := [xa 3]) (st1 := []) rfl rfl rfl rfl rfl rfl rfl rfl rfl rfl (fun _ => xw_rcv1 (t := 2) (xw_obd (by decide +kernel)) rfl) rfl (List.forall_mem_cons.mpr ⟨rfl, fun _ h => absurd h List.not_mem_nil⟩) (ygf26 hB _) (fun v2 m2 cv2 => ?_)
  refine xS_of (pc' := 41) (L' := [(0, xa 0)]) (st' := [xa 3, xi 1, xa 508]) (m' := m2) (fun ex ns r q => ?_) ?_
  · refine xw_aload_n rfl rfl rfl ?_
    refine xw_gfR (n := 508) (e := 508) rfl (xw_obd (by decide +kernel)) (by decide +kernel) (by decide +kernel) rfl ?_
    refine xw_iconst rfl ?_
    refine xw_aload_n rfl rfl rfl ?_
    refine xw_gfR (n := 3) (e := 3) rfl (xw_obd (by decide +kernel)) (by decide +kernel) (by decide +kernel) rfl ?_
    refine xw_lo (L2 := [(0, xa 0)]) (List.forall_mem_cons.mpr ⟨rfl, fun _ h => absurd h List.not_mem_nil⟩) ?_
    exact q
  refine xS_call (q := 149) (n := 1) (kq := 1) (as := [xa 3]) (st1 := [xi 1, xa 508]) rfl rfl rfl rfl rfl rfl rfl rfl rfl rfl (fun _ => xw_rcv1 (t := 2) (xw_obd (by decide +kernel)) rfl) rfl (List.forall_mem_cons.mpr ⟨rfl, fun _ h => absurd h List.not_mem_nil⟩) (ygf149 hB _) (fun v3 m3 cv3 => ?_)
  refine xS_of (pc' := 44) (L' := [(0, xa 0)]) (st' := [xi v3, xi 1, xa 508]) (m' := m3) (fun ex ns r q => ?_) ?_
  · refine xw_lo (L2 := [(0, xa 0)]) (List.forall_mem_cons.mpr ⟨rfl, fun _ h => absurd h List.not_mem_nil⟩) ?_
    exact q
  refine xS_call (q := 150) (n := 3) (kq := 0) (as := [xa 508, xi 1, xi v3]) (st1 := []) rfl rfl rfl rfl rfl rfl rfl rfl rfl rfl (fun _ => xw_rcv1 (t := 10) (xw_obd (by decide +kernel)) rfl) rfl (List.forall_mem_cons.mpr ⟨rfl, List.forall_mem_cons.mpr ⟨rfl, List.forall_mem_cons.mpr ⟨rfl, fun _ h => absurd h List.not_mem_nil⟩⟩⟩) (ygf150 hB _ _ _ rfl cv3) (fun v4 m4 cv4 => ?_)
  refine xS_of (pc' := 58) (L' := [(0, xa 0)]) (st' := [xa 518, xa 3]) (m' := m4) (fun ex ns r q => ?_) ?_
  · refine xw_aload_n rfl rfl rfl ?_
    refine xw_gfR (n := 3) (e := 3) rfl (xw_obd (by decide +kernel)) (by decide +kernel) (by decide +kernel) rfl ?_
    refine xw_aload_n rfl rfl rfl ?_
    refine xw_gfR (n := 508) (e := 508) rfl (xw_obd (by decide +kernel)) (by decide +kernel) (by decide +kernel) rfl ?_
    refine xw_gfR (n := 518) (e := 518) rfl (xw_obd (by decide +kernel)) (by decide +kernel) (by decide +kernel) rfl ?_
    refine xw_lo (L2 := [(0, xa 0)]) (List.forall_mem_cons.mpr ⟨rfl, fun _ h => absurd h List.not_mem_nil⟩) ?_
    exact q
  refine xS_call (q := 153) (n := 2) (kq := 0) (as := [xa 3, xa 518]) (st1 := []) rfl rfl rfl rfl rfl rfl rfl rfl rfl rfl (fun _ => xw_rcv1 (t := 2) (xw_obd (by decide +kernel)) rfl) rfl (List.forall_mem_cons.mpr ⟨rfl, List.forall_mem_cons.mpr ⟨rfl, fun _ h => absurd h List.not_mem_nil⟩⟩) (ygf153 hB _ _) (fun v5 m5 cv5 => ?_)
  refine xS_of (pc' := 65) (L' := [(0, xa 0)]) (st' := [xa 508]) (m' := m5) (fun ex ns r q => ?_) ?_
  · refine xw_aload_n rfl rfl rfl ?_
    refine xw_gfR (n := 508) (e := 508) rfl (xw_obd (by decide +kernel)) (by decide +kernel) (by decide +kernel) rfl ?_
    refine xw_lo (L2 := [(0, xa 0)]) (List.forall_mem_cons.mpr ⟨rfl, fun _ h => absurd h List.not_mem_nil⟩) ?_
    exact q
  refine xS_call (q := 156) (n := 1) (kq := 1) (as := [xa 508]) (st1 := []) rfl rfl rfl rfl rfl rfl rfl rfl rfl rfl (fun _ => xw_rcv1 (t := 10) (xw_obd (by decide +kernel)) rfl) rfl (List.forall_mem_cons.mpr ⟨rfl, fun _ h => absurd h List.not_mem_nil⟩) (ygf156 hB _) (fun v6 m6 cv6 => ?_)
  refine xS_of (pc' := 74) (L' := [(0, xa 0), (1, xi v6)]) (st' := [xi v6, xa 508]) (m' := m6) (fun ex ns r q => ?_) ?_
  · refine xw_istore_n (L' := [(1, xi v6), (0, xa 0)]) rfl (by decide) rfl ?_
    refine xw_aload_n rfl rfl rfl ?_
    refine xw_gfR (n := 508) (e := 508) rfl (xw_obd (by decide +kernel)) (by decide +kernel) (by decide +kernel) rfl ?_
    refine xw_iload_n rfl rfl ?_
    refine xw_lo (L2 := [(0, xa 0), (1, xi v6)]) (List.forall_mem_cons.mpr ⟨rfl, List.forall_mem_cons.mpr ⟨rfl, fun _ h => absurd h List.not_mem_nil⟩⟩) ?_
    exact q
  refine xS_call (q := 157) (n := 2) (kq := 1) (as := [xa 508, xi v6]) (st1 := []) rfl rfl rfl rfl rfl rfl rfl rfl rfl rfl (fun _ => xw_rcv1 (t := 10) (xw_obd (by decide +kernel)) rfl) rfl (List.forall_mem_cons.mpr ⟨rfl, List.forall_mem_cons.mpr ⟨rfl, fun _ h => absurd h List.not_mem_nil⟩⟩) (ygf157 hB _ _ cv6) (fun v7 m7 cv7 => ?_)
  refine xS_of (pc' := 80) (L' := [(2, xi v7), (0, xa 0), (1, xi v6)]) (st' := [xi (-1), xi v7]) (m' := m7) (fun ex ns r q => ?_) ?_
  · refine xw_istore_n (L' := [(2, xi v7), (0, xa 0), (1, xi v6)]) rfl (by decide) rfl ?_
    refine xw_iload_n rfl rfl ?_
    refine xw_iconst rfl ?_
    exact q
  refine xS_if (fun h0 => ?_) (fun h0 => ?_)
  · refine xS_of (pc' := 85) (L' := [(2, xi v7), (0, xa 0), (1, xi v6)]) (st' := [xi (-2)]) (m' := m7) (fun ex ns r q => ?_) ?_
    · refine xw_ic_neF rfl (w32_cg cv7) (w32_cg rfl) h0 ?_
      refine xw_bipush (e := (-2)) rfl (by decide +kernel) ?_
      exact q
    exact xS_ret (v := (-2)) rfl rfl xw_rtI rfl
  · refine xS_of (pc' := 93) (L' := [(0, xa 0), (1, xi v6), (2, xi v7)]) (st' := [xi v6, xi v7, xi 1, xa 508]) (m' := m7) (fun ex ns r q => ?_) ?_
    · refine xw_ic_neT rfl (w32_cg cv7) (w32_cg rfl) h0 ?_
      refine xw_aload_n rfl rfl rfl ?_
      refine xw_gfR (n := 508) (e := 508) rfl (xw_obd (by decide +kernel)) (by decide +kernel) (by decide +kernel) rfl ?_
      refine xw_iconst rfl ?_
      refine xw_iload_n rfl rfl ?_
      refine xw_iload_n rfl rfl ?_
      refine xw_lo (L2 := [(0, xa 0), (1, xi v6), (2, xi v7)]) (List.forall_mem_cons.mpr ⟨rfl, List.forall_mem_cons.mpr ⟨rfl, List.forall_mem_cons.mpr ⟨rfl, fun _ h => absurd h List.not_mem_nil⟩⟩⟩) ?_
      exact q
    refine xS_call (q := 159) (n := 4) (kq := 0) (as := [xa 508, xi 1, xi v7, xi v6]) (st1 := []) rfl rfl rfl rfl rfl rfl rfl rfl rfl rfl (fun _ => xw_rcv1 (t := 10) (xw_obd (by decide +kernel)) rfl) rfl (List.forall_mem_cons.mpr ⟨rfl, List.forall_mem_cons.mpr ⟨rfl, List.forall_mem_cons.mpr ⟨rfl, List.forall_mem_cons.mpr ⟨rfl, fun _ h => absurd h List.not_mem_nil⟩⟩⟩⟩) (ygf159 hB _ _ _ _ rfl cv7 cv6) (fun v8 m8 cv8 => ?_)
    refine xS_of (pc' := 102) (L' := [(0, xa 0), (1, xi v6)]) (st' := [xi v6, xi v7, xa 508]) (m' := m8) (fun ex ns r q => ?_) ?_
    · refine xw_aload_n rfl rfl rfl ?_
      refine xw_gfR (n := 508) (e := 508) rfl (xw_obd (by decide +kernel)) (by decide +kernel) (by decide +kernel) rfl ?_
      refine xw_iload_n rfl rfl ?_
      refine xw_iload_n rfl rfl ?_
      refine xw_lo (L2 := [(0, xa 0), (1, xi v6)]) (List.forall_mem_cons.mpr ⟨rfl, List.forall_mem_cons.mpr ⟨rfl, fun _ h => absurd h List.not_mem_nil⟩⟩) ?_
      exact q
    refine xS_call (q := 160) (n := 3) (kq := 4) (as := [xa 508, xi v7, xi v6]) (st1 := []) rfl rfl rfl rfl rfl rfl rfl rfl rfl rfl (fun _ => xw_rcv1 (t := 10) (xw_obd (by decide +kernel)) rfl) rfl (List.forall_mem_cons.mpr ⟨rfl, List.forall_mem_cons.mpr ⟨rfl, List.forall_mem_cons.mpr ⟨rfl, fun _ h => absurd h List.not_mem_nil⟩⟩⟩) (ygf160 hB _ _ _ cv7 cv6) (fun v9 m9 cv9 => ?_)
    refine xS_if (fun h1 => ?_) (fun h1 => ?_)
    · refine xS_of (pc' := 109) (L' := []) (st' := [xa 0]) (m' := m9) (fun ex ns r q => ?_) ?_
      · refine xw_if_neF rfl (w32_cg (w32_of (xw_zr cv9))) h1 ?_
        refine xw_aload_n rfl rfl rfl ?_
        refine xw_lo (L2 := []) (fun _ h => absurd h List.not_mem_nil) ?_
        exact q
      refine xS_call (q := 163) (n := 1) (kq := 1) (as := [xa 0]) (st1 := []) rfl rfl rfl rfl rfl rfl rfl rfl rfl rfl (fun _ => xw_rcv1 (t := 0) (xw_obd (by decide +kernel)) rfl) rfl (List.forall_mem_cons.mpr ⟨rfl, fun _ h => absurd h List.not_mem_nil⟩) (ygf163 hB _) (fun v10 m10 cv10 => ?_)
      exact xS_ret (v := v10) rfl rfl xw_rtI cv10
    · refine xS_of (pc' := 119) (L' := [(1, xi v6)]) (st' := [xa 0]) (m' := (xw_u m9 0 14 1)) (fun ex ns r q => ?_) ?_
      · refine xw_if_neT rfl (w32_cg (w32_of (xw_zr cv9))) h1 ?_
        refine xw_aload_n rfl rfl rfl ?_
        refine xw_iconst rfl ?_
        refine xw_pfI rfl (xw_obd (by decide +kernel)) xk0_14 (qi := 14) rfl (xw_okI rfl) ?_
        refine xw_aload_n rfl rfl rfl ?_
        refine xw_lo (L2 := [(1, xi v6)]) (List.forall_mem_cons.mpr ⟨rfl, fun _ h => absurd h List.not_mem_nil⟩) ?_
        exact q
      refine xS_call (q := 30) (n := 1) (kq := 0) (as := [xa 0]) (st1 := []) rfl rfl rfl rfl rfl rfl rfl rfl rfl rfl (fun _ => xw_rcv1 (t := 0) (xw_obd (by decide +kernel)) rfl) rfl (List.forall_mem_cons.mpr ⟨rfl, fun _ h => absurd h List.not_mem_nil⟩) (ygf30 hB _) (fun v11 m11 cv11 => ?_)
      refine xS_of (pc' := 125) (L' := [(1, xi v6)]) (st' := [xi (w32 (v6 + 1))]) (m' := m11) (fun ex ns r q => ?_) ?_
      · refine xw_iload_n rfl rfl ?_
        refine xw_iconst rfl ?_
        refine xw_iadd rfl ?_
        refine xw_cst (st' := [xi (w32 (v6 + 1))]) (xw_sc (xi_c rfl) rfl) ?_
        exact q
      exact xS_ret (v := (w32 (v6 + 1))) rfl rfl xw_rtI (w32_w _)
theorem ygf147 {B : Nat} (hB : B ≤ 512) {xs : Nat → Int32} {SL d : Nat} : ∀ m, xS B xs SL (d + 5) 147 (3, (some .int), [], 1) 1 0 [(0, xa 0)] [] m (yf147 B m) := by
  intro m
  unfold yf147
  refine xS_of (pc' := 4) (L' := [(0, xa 0)]) (st' := [xi (xR m 0 14)]) (m' := m) (fun ex ns r q => ?_) ?_
  · refine xw_aload_n rfl rfl rfl ?_
    refine xw_gfIc (v := (m 0 14)) (v' := (xR m 0 14)) rfl (xw_obd (by decide +kernel)) xk0_14 (qi := 14) rfl rfl rfl ?_
    exact q
  refine xS_if (fun h0 => ?_) (fun h0 => ?_)
  · refine xS_of (pc' := 11) (L' := [(0, xa 0)]) (st' := [xa 3]) (m' := m) (fun ex ns r q => ?_) ?_
    · refine xw_if_neF rfl (w32_cg (w32_xR _ _ _)) h0 ?_
      refine xw_aload_n rfl rfl rfl ?_
      refine xw_gfR (n := 3) (e := 3) rfl (xw_obd (by decide +kernel)) (by decide +kernel) (by decide +kernel) rfl ?_
      refine xw_lo (L2 := [(0, xa 0)]) (List.forall_mem_cons.mpr ⟨rfl, fun _ h => absurd h List.not_mem_nil⟩) ?_
      exact q
    refine xS_call (q := 148) (n := 1) (kq := 4) (as := [xa 3]) (st1 := []) rfl rfl rfl rfl rfl rfl rfl rfl rfl rfl (fun _ => xw_rcv1 (t := 2) (xw_obd (by decide +kernel)) rfl) rfl (List.forall_mem_cons.mpr ⟨rfl, fun _ h => absurd h List.not_mem_nil⟩) (ygf148 hB _) (fun v1 m1 cv1 => ?_)
    refine xS_if (fun h1 => ?_) (fun h1 => ?_)
    · refine xS_of (pc' := 17) (L' := [(0, xa 0)]) (st' := []) (m' := m1) (fun ex ns r q => ?_) ?_
      · refine xw_if_neF rfl (w32_cg (w32_of (xw_zr cv1))) h1 ?_
        refine xw_lo (L2 := [(0, xa 0)]) (List.forall_mem_cons.mpr ⟨rfl, fun _ h => absurd h List.not_mem_nil⟩) ?_
        exact q
      exact ygk147_17 hB _
    · refine xS_of (pc' := 22) (L' := [(0, xa 0)]) (st' := [xi 0]) (m' := m1) (fun ex ns r q => ?_) ?_
      · refine xw_if_neT rfl (w32_cg (w32_of (xw_zr cv1))) h1 ?_
        refine xw_iconst rfl ?_
        refine xw_lo (L2 := [(0, xa 0)]) (List.forall_mem_cons.mpr ⟨rfl, fun _ h => absurd h List.not_mem_nil⟩) ?_
        exact q
      refine xS_call (q := 39) (n := 1) (kq := 0) (as := [xi 0]) (st1 := []) rfl rfl rfl rfl rfl rfl rfl rfl rfl rfl (fun _ => xw_rcv0 rfl) rfl (List.forall_mem_cons.mpr ⟨rfl, fun _ h => absurd h List.not_mem_nil⟩) (ygf39 hB _ _ rfl) (fun v2 m2 cv2 => ?_)
      refine xS_of (pc' := 29) (L' := [(0, xa 0)]) (st' := [xa 3]) (m' := m2) (fun ex ns r q => ?_) ?_
      · refine xw_aload_n rfl rfl rfl ?_
        refine xw_gfR (n := 3) (e := 3) rfl (xw_obd (by decide +kernel)) (by decide +kernel) (by decide +kernel) rfl ?_
        refine xw_lo (L2 := [(0, xa 0)]) (List.forall_mem_cons.mpr ⟨rfl, fun _ h => absurd h List.not_mem_nil⟩) ?_
        exact q
      refine xS_call (q := 26) (n := 1) (kq := 0) (as := [xa 3]) (st1 := []) rfl rfl rfl rfl rfl rfl rfl rfl rfl rfl (fun _ => xw_rcv1 (t := 2) (xw_obd (by decide +kernel)) rfl) rfl (List.forall_mem_cons.mpr ⟨rfl, fun _ h => absurd h List.not_mem_nil⟩) (ygf26 hB _) (fun v3 m3 cv3 => ?_)
      refine xS_of (pc' := 41) (L' := [(0, xa 0)]) (st' := [xa 3, xi 1, xa 508]) (m' := m3) (fun ex ns r q => ?_) ?_
      · refine xw_aload_n rfl rfl rfl ?_
        refine xw_gfR (n := 508) (e := 508) rfl (xw_obd (by decide +kernel)) (by decide +kernel) (by decide +kernel) rfl ?_
        refine xw_iconst rfl ?_
        refine xw_aload_n rfl rfl rfl ?_
        refine xw_gfR (n := 3) (e := 3) rfl (xw_obd (by decide +kernel)) (by decide +kernel) (by decide +kernel) rfl ?_
        refine xw_lo (L2 := [(0, xa 0)]) (List.forall_mem_cons.mpr ⟨rfl, fun _ h => absurd h List.not_mem_nil⟩) ?_
        exact q
      refine xS_call (q := 149) (n := 1) (kq := 1) (as := [xa 3]) (st1 := [xi 1, xa 508]) rfl rfl rfl rfl rfl rfl rfl rfl rfl rfl (fun _ => xw_rcv1 (t := 2) (xw_obd (by decide +kernel)) rfl) rfl (List.forall_mem_cons.mpr ⟨rfl, fun _ h => absurd h List.not_mem_nil⟩) (ygf149 hB _) (fun v4 m4 cv4 => ?_)
      refine xS_of (pc' := 44) (L' := [(0, xa 0)]) (st' := [xi v4, xi 1, xa 508]) (m' := m4) (fun ex ns r q => ?_) ?_
      · refine xw_lo (L2 := [(0, xa 0)]) (List.forall_mem_cons.mpr ⟨rfl, fun _ h => absurd h List.not_mem_nil⟩) ?_
        exact q
      refine xS_call (q := 150) (n := 3) (kq := 0) (as := [xa 508, xi 1, xi v4]) (st1 := []) rfl rfl rfl rfl rfl rfl rfl rfl rfl rfl (fun _ => xw_rcv1 (t := 10) (xw_obd (by decide +kernel)) rfl) rfl (List.forall_mem_cons.mpr ⟨rfl, List.forall_mem_cons.mpr ⟨rfl, List.forall_mem_cons.mpr ⟨rfl, fun _ h => absurd h List.not_mem_nil⟩⟩⟩) (ygf150 hB _ _ _ rfl cv4) (fun v5 m5 cv5 => ?_)
      refine xS_of (pc' := 58) (L' := [(0, xa 0)]) (st' := [xa 518, xa 3]) (m' := m5) (fun ex ns r q => ?_) ?_
      · refine xw_aload_n rfl rfl rfl ?_
        refine xw_gfR (n := 3) (e := 3) rfl (xw_obd (by decide +kernel)) (by decide +kernel) (by decide +kernel) rfl ?_
        refine xw_aload_n rfl rfl rfl ?_
        refine xw_gfR (n := 508) (e := 508) rfl (xw_obd (by decide +kernel)) (by decide +kernel) (by decide +kernel) rfl ?_
        refine xw_gfR (n := 518) (e := 518) rfl (xw_obd (by decide +kernel)) (by decide +kernel) (by decide +kernel) rfl ?_
        refine xw_lo (L2 := [(0, xa 0)]) (List.forall_mem_cons.mpr ⟨rfl, fun _ h => absurd h List.not_mem_nil⟩) ?_
        exact q
      refine xS_call (q := 153) (n := 2) (kq := 0) (as := [xa 3, xa 518]) (st1 := []) rfl rfl rfl rfl rfl rfl rfl rfl rfl rfl (fun _ => xw_rcv1 (t := 2) (xw_obd (by decide +kernel)) rfl) rfl (List.forall_mem_cons.mpr ⟨rfl, List.forall_mem_cons.mpr ⟨rfl, fun _ h => absurd h List.not_mem_nil⟩⟩) (ygf153 hB _ _) (fun v6 m6 cv6 => ?_)
      refine xS_of (pc' := 65) (L' := [(0, xa 0)]) (st' := [xa 508]) (m' := m6) (fun ex ns r q => ?_) ?_
      · refine xw_aload_n rfl rfl rfl ?_
        refine xw_gfR (n := 508) (e := 508) rfl (xw_obd (by decide +kernel)) (by decide +kernel) (by decide +kernel) rfl ?_
        refine xw_lo (L2 := [(0, xa 0)]) (List.forall_mem_cons.mpr ⟨rfl, fun _ h => absurd h List.not_mem_nil⟩) ?_
        exact q
      refine xS_call (q := 156) (n := 1) (kq := 1) (as := [xa 508]) (st1 := []) rfl rfl rfl rfl rfl rfl rfl rfl rfl rfl (fun _ => xw_rcv1 (t := 10) (xw_obd (by decide +kernel)) rfl) rfl (List.forall_mem_cons.mpr ⟨rfl, fun _ h => absurd h List.not_mem_nil⟩) (ygf156 hB _) (fun v7 m7 cv7 => ?_)
      refine xS_of (pc' := 74) (L' := [(0, xa 0), (1, xi v7)]) (st' := [xi v7, xa 508]) (m' := m7) (fun ex ns r q => ?_) ?_
      · refine xw_istore_n (L' := [(1, xi v7), (0, xa 0)]) rfl (by decide) rfl ?_
        refine xw_aload_n rfl rfl rfl ?_
        refine xw_gfR (n := 508) (e := 508) rfl (xw_obd (by decide +kernel)) (by decide +kernel) (by decide +kernel) rfl ?_
        refine xw_iload_n rfl rfl ?_
        refine xw_lo (L2 := [(0, xa 0), (1, xi v7)]) (List.forall_mem_cons.mpr ⟨rfl, List.forall_mem_cons.mpr ⟨rfl, fun _ h => absurd h List.not_mem_nil⟩⟩) ?_
        exact q
      refine xS_call (q := 157) (n := 2) (kq := 1) (as := [xa 508, xi v7]) (st1 := []) rfl rfl rfl rfl rfl rfl rfl rfl rfl rfl (fun _ => xw_rcv1 (t := 10) (xw_obd (by decide +kernel)) rfl) rfl (List.forall_mem_cons.mpr ⟨rfl, List.forall_mem_cons.mpr ⟨rfl, fun _ h => absurd h List.not_mem_nil⟩⟩) (ygf157 hB _ _ cv7) (fun v8 m8 cv8 => ?_)
      refine xS_of (pc' := 80) (L' := [(2, xi v8), (0, xa 0), (1, xi v7)]) (st' := [xi (-1), xi v8]) (m' := m8) (fun ex ns r q => ?_) ?_
      · refine xw_istore_n (L' := [(2, xi v8), (0, xa 0), (1, xi v7)]) rfl (by decide) rfl ?_
        refine xw_iload_n rfl rfl ?_
        refine xw_iconst rfl ?_
        exact q
      refine xS_if (fun h2 => ?_) (fun h2 => ?_)
      · refine xS_of (pc' := 85) (L' := [(2, xi v8), (0, xa 0), (1, xi v7)]) (st' := [xi (-2)]) (m' := m8) (fun ex ns r q => ?_) ?_
        · refine xw_ic_neF rfl (w32_cg cv8) (w32_cg rfl) h2 ?_
          refine xw_bipush (e := (-2)) rfl (by decide +kernel) ?_
          exact q
        exact xS_ret (v := (-2)) rfl rfl xw_rtI rfl
      · refine xS_of (pc' := 93) (L' := [(0, xa 0), (1, xi v7), (2, xi v8)]) (st' := [xi v7, xi v8, xi 1, xa 508]) (m' := m8) (fun ex ns r q => ?_) ?_
        · refine xw_ic_neT rfl (w32_cg cv8) (w32_cg rfl) h2 ?_
          refine xw_aload_n rfl rfl rfl ?_
          refine xw_gfR (n := 508) (e := 508) rfl (xw_obd (by decide +kernel)) (by decide +kernel) (by decide +kernel) rfl ?_
          refine xw_iconst rfl ?_
          refine xw_iload_n rfl rfl ?_
          refine xw_iload_n rfl rfl ?_
          refine xw_lo (L2 := [(0, xa 0), (1, xi v7), (2, xi v8)]) (List.forall_mem_cons.mpr ⟨rfl, List.forall_mem_cons.mpr ⟨rfl, List.forall_mem_cons.mpr ⟨rfl, fun _ h => absurd h List.not_mem_nil⟩⟩⟩) ?_
          exact q
        refine xS_call (q := 159) (n := 4) (kq := 0) (as := [xa 508, xi 1, xi v8, xi v7]) (st1 := []) rfl rfl rfl rfl rfl rfl rfl rfl rfl rfl (fun _ => xw_rcv1 (t := 10) (xw_obd (by decide +kernel)) rfl) rfl (List.forall_mem_cons.mpr ⟨rfl, List.forall_mem_cons.mpr ⟨rfl, List.forall_mem_cons.mpr ⟨rfl, List.forall_mem_cons.mpr ⟨rfl, fun _ h => absurd h List.not_mem_nil⟩⟩⟩⟩) (ygf159 hB _ _ _ _ rfl cv8 cv7) (fun v9 m9 cv9 => ?_)
        refine xS_of (pc' := 102) (L' := [(0, xa 0), (1, xi v7)]) (st' := [xi v7, xi v8, xa 508]) (m' := m9) (fun ex ns r q => ?_) ?_
        · refine xw_aload_n rfl rfl rfl ?_
          refine xw_gfR (n := 508) (e := 508) rfl (xw_obd (by decide +kernel)) (by decide +kernel) (by decide +kernel) rfl ?_
          refine xw_iload_n rfl rfl ?_
          refine xw_iload_n rfl rfl ?_
          refine xw_lo (L2 := [(0, xa 0), (1, xi v7)]) (List.forall_mem_cons.mpr ⟨rfl, List.forall_mem_cons.mpr ⟨rfl, fun _ h => absurd h List.not_mem_nil⟩⟩) ?_
          exact q
        refine xS_call (q := 160) (n := 3) (kq := 4) (as := [xa 508, xi v8, xi v7]) (st1 := []) rfl rfl rfl rfl rfl rfl rfl rfl rfl rfl (fun _ => xw_rcv1 (t := 10) (xw_obd (by decide +kernel)) rfl) rfl (List.forall_mem_cons.mpr ⟨rfl, List.forall_mem_cons.mpr ⟨rfl, List.forall_mem_cons.mpr ⟨rfl, fun _ h => absurd h List.not_mem_nil⟩⟩⟩) (ygf160 hB _ _ _ cv8 cv7) (fun v10 m10 cv10 => ?_)
        refine xS_if (fun h3 => ?_) (fun h3 => ?_)
        · refine xS_of (pc' := 109) (L' := []) (st' := [xa 0]) (m' := m10) (fun ex ns r q => ?_) ?_
          · refine xw_if_neF rfl (w32_cg (w32_of (xw_zr cv10))) h3 ?_
            refine xw_aload_n rfl rfl rfl ?_
            refine xw_lo (L2 := []) (fun _ h => absurd h List.not_mem_nil) ?_
            exact q
          refine xS_call (q := 163) (n := 1) (kq := 1) (as := [xa 0]) (st1 := []) rfl rfl rfl rfl rfl rfl rfl rfl rfl rfl (fun _ => xw_rcv1 (t := 0) (xw_obd (by decide +kernel)) rfl) rfl (List.forall_mem_cons.mpr ⟨rfl, fun _ h => absurd h List.not_mem_nil⟩) (ygf163 hB _) (fun v11 m11 cv11 => ?_)
          exact xS_ret (v := v11) rfl rfl xw_rtI cv11
        · refine xS_of (pc' := 119) (L' := [(1, xi v7)]) (st' := [xa 0]) (m' := (xw_u m10 0 14 1)) (fun ex ns r q => ?_) ?_
          · refine xw_if_neT rfl (w32_cg (w32_of (xw_zr cv10))) h3 ?_
            refine xw_aload_n rfl rfl rfl ?_
            refine xw_iconst rfl ?_
            refine xw_pfI rfl (xw_obd (by decide +kernel)) xk0_14 (qi := 14) rfl (xw_okI rfl) ?_
            refine xw_aload_n rfl rfl rfl ?_
            refine xw_lo (L2 := [(1, xi v7)]) (List.forall_mem_cons.mpr ⟨rfl, fun _ h => absurd h List.not_mem_nil⟩) ?_
            exact q
          refine xS_call (q := 30) (n := 1) (kq := 0) (as := [xa 0]) (st1 := []) rfl rfl rfl rfl rfl rfl rfl rfl rfl rfl (fun _ => xw_rcv1 (t := 0) (xw_obd (by decide +kernel)) rfl) rfl (List.forall_mem_cons.mpr ⟨rfl, fun _ h => absurd h List.not_mem_nil⟩) (ygf30 hB _) (fun v12 m12 cv12 => ?_)
          refine xS_of (pc' := 125) (L' := [(1, xi v7)]) (st' := [xi (w32 (v7 + 1))]) (m' := m12) (fun ex ns r q => ?_) ?_
          · refine xw_iload_n rfl rfl ?_
            refine xw_iconst rfl ?_
            refine xw_iadd rfl ?_
            refine xw_cst (st' := [xi (w32 (v7 + 1))]) (xw_sc (xi_c rfl) rfl) ?_
            exact q
          exact xS_ret (v := (w32 (v7 + 1))) rfl rfl xw_rtI (w32_w _)
  · refine xS_of (pc' := 17) (L' := [(0, xa 0)]) (st' := []) (m' := m) (fun ex ns r q => ?_) ?_
    · refine xw_if_neT rfl (w32_cg (w32_xR _ _ _)) h0 ?_
      refine xw_lo (L2 := [(0, xa 0)]) (List.forall_mem_cons.mpr ⟨rfl, fun _ h => absurd h List.not_mem_nil⟩) ?_
      exact q
    exact ygk147_17 hB _

theorem ygf166 {B : Nat} (hB : B ≤ 512) {xs : Nat → Int32} {SL d : Nat} : ∀ m, xS B xs SL (d + 1) 166 (1, none, [], 1) 0 0 [(0, xa 0)] [] m (yf166 B m) := by
  intro m
  unfold yf166
  refine xS_of (pc' := 5) (L' := [(0, xa 0)]) (st' := [xi 1, xi (xR m 0 14)]) (m' := m) (fun ex ns r q => ?_) ?_
  · refine xw_aload_n rfl rfl rfl ?_
    refine xw_gfIc (v := (m 0 14)) (v' := (xR m 0 14)) rfl (xw_obd (by decide +kernel)) xk0_14 (qi := 14) rfl rfl rfl ?_
    refine xw_iconst rfl ?_
    exact q
  refine xS_if (fun h0 => ?_) (fun h0 => ?_)
  · refine xS_of (pc' := 13) (L' := []) (st' := [xi 0]) (m' := m) (fun ex ns r q => ?_) ?_
    · refine xw_ic_eqT rfl (w32_cg (w32_xR _ _ _)) (w32_cg rfl) h0 ?_
      refine xw_iconst rfl ?_
      refine xw_lo (L2 := []) (fun _ h => absurd h List.not_mem_nil) ?_
      exact q
    refine xS_call (q := 39) (n := 1) (kq := 0) (as := [xi 0]) (st1 := []) rfl rfl rfl rfl rfl rfl rfl rfl rfl rfl (fun _ => xw_rcv0 rfl) rfl (List.forall_mem_cons.mpr ⟨rfl, fun _ h => absurd h List.not_mem_nil⟩) (ygf39 hB _ _ rfl) (fun v1 m1 cv1 => ?_)
    exact xS_ret (v := 0) rfl rfl rfl rfl
  · refine xS_of (pc' := 13) (L' := []) (st' := [xi 1]) (m' := m) (fun ex ns r q => ?_) ?_
    · refine xw_ic_eqF rfl (w32_cg (w32_xR _ _ _)) (w32_cg rfl) h0 ?_
      refine xw_iconst rfl ?_
      refine xw_goto rfl ?_
      refine xw_lo (L2 := []) (fun _ h => absurd h List.not_mem_nil) ?_
      exact q
    refine xS_call (q := 39) (n := 1) (kq := 0) (as := [xi 1]) (st1 := []) rfl rfl rfl rfl rfl rfl rfl rfl rfl rfl (fun _ => xw_rcv0 rfl) rfl (List.forall_mem_cons.mpr ⟨rfl, fun _ h => absurd h List.not_mem_nil⟩) (ygf39 hB _ _ rfl) (fun v2 m2 cv2 => ?_)
    exact xS_ret (v := 0) rfl rfl rfl rfl
theorem ysl167_12 {B : Nat} (hB : B ≤ 512) {xs : Nat → Int32} {SL d : Nat} {r12 : Int → Int → Int → Int → Int → xw_M → xP} (hr12 : ∀ x0 x1 x2 x3 x4 m, w32 x1 = x1 → w32 x2 = x2 → w32 x3 = x3 → w32 x4 = x4 → xS B xs SL (d + 0) 167 (6, (some .int), [], 4) 1 12 [(0, xa x0), (1, xi x1), (2, xi x2), (3, xi x3), (4, xi x4)] [] m (r12 x0 x1 x2 x3 x4 m)) : ∀ x0 x1 x2 x3 x4 m, w32 x1 = x1 → w32 x2 = x2 → w32 x3 = x3 → w32 x4 = x4 → xS B xs SL (d + 0) 167 (6, (some .int), [], 4) 1 12 [(0, xa x0), (1, xi x1), (2, xi x2), (3, xi x3), (4, xi x4)] [] m (yl167_12 B r12 x0 x1 x2 x3 x4 m) := by
  intro x0 x1 x2 x3 x4 m c1 c2 c3 c4
  unfold yl167_12
  refine xS_of (pc' := 16) (L' := [(0, xa x0), (1, xi x1), (2, xi x2), (3, xi x3), (4, xi x4)]) (st' := [xi 32, xi x4]) (m' := m) (fun ex ns r q => ?_) ?_
  · refine xw_iload rfl rfl ?_
    refine xw_bipush (e := 32) rfl (by decide +kernel) ?_
    exact q
  refine xS_if (fun h0 => ?_) (fun h0 => ?_)
  · refine xS_of (pc' := 21) (L' := [(0, xa x0), (1, xi x1), (2, xi x2), (3, xi x3), (4, xi x4)]) (st' := [xi x3, xi x2]) (m' := m) (fun ex ns r q => ?_) ?_
    · refine xw_ic_geF rfl (w32_cg c4) (w32_cg rfl) (Int.not_le.mpr h0) ?_
      refine xw_iload_n rfl rfl ?_
      refine xw_iload_n rfl rfl ?_
      exact q
    refine xS_if (fun h1 => ?_) (fun h1 => ?_)
    · refine xS_of (pc' := 80) (L' := [(0, xa x0), (1, xi x1), (2, xi x2), (3, xi x3), (4, xi x4)]) (st' := [xi (-1)]) (m' := m) (fun ex ns r q => ?_) ?_
      · refine xw_ic_gtT rfl (w32_cg c2) (w32_cg c3) h1 ?_
        refine xw_iconst rfl ?_
        exact q
      exact xS_ret (v := (-1)) rfl rfl xw_rtI rfl
    · refine xS_g (fun g2 => ?_)
      refine xS_g (fun g3 => ?_)
      refine xS_g (fun g4 => ?_)
      refine xS_g (fun g5 => ?_)
      refine xS_g (fun g6 => ?_)
      refine xS_g (fun g7 => ?_)
      refine xS_g (fun g8 => ?_)
      refine xS_of (pc' := 41) (L' := [(5, xi ((w32 (x2 + x3)) / 2)), (0, xa x0), (1, xi x1), (2, xi x2), (3, xi x3), (4, xi x4)]) (st' := [xi x1, xi (xR m (xw_rf (xw_rf x0 3) 0) ((w32 (x2 + x3)) / 2))]) (m' := m) (fun ex ns r q => ?_) ?_
      · refine xw_ic_gtF rfl (w32_cg c2) (w32_cg c3) h1 ?_
        refine xw_iload_n rfl rfl ?_
        refine xw_iload_n rfl rfl ?_
        refine xw_iadd rfl ?_
        refine xw_iconst rfl ?_
        refine xw_cst (st' := [xi 2, xi (w32 (x2 + x3))]) (xw_sc rfl (xw_sc (xi_c rfl) rfl)) ?_
        refine xw_idiv (z := ((w32 (x2 + x3)) / 2)) rfl (xw_idivn ⟨(by decide), (w32_cg rfl).2⟩) (xw_idive ⟨g2, (w32_cg (w32_w _)).2⟩ ⟨(by decide), (w32_cg rfl).2⟩) ?_
        refine xw_istore (L' := [(5, xi ((w32 (x2 + x3)) / 2)), (0, xa x0), (1, xi x1), (2, xi x2), (3, xi x3), (4, xi x4)]) rfl (by decide) rfl ?_
        refine xw_aload_n rfl rfl rfl ?_
        refine xw_gfV (qi := 3) rfl (xw_obd g3) xk3_3 rfl ?_
        refine xw_iconst rfl ?_
        refine xw_aald (t := 20) (n := (xw_le B (xw_rf x0 3))) (q := xw_kd (xw_rf x0 3) 0 - 5) (e := (xw_rf (xw_rf x0 3) 0)) rfl hB (xw_obd g6) (by decide) rfl g4 (by have := g5; omega) (xw_rfn g5) ?_
        refine xw_iload rfl rfl ?_
        refine xw_ialdc (n := (xw_le B (xw_rf (xw_rf x0 3) 0))) (v := (m (xw_rf (xw_rf x0 3) 0) ((w32 (x2 + x3)) / 2))) (v' := (xR m (xw_rf (xw_rf x0 3) 0) ((w32 (x2 + x3)) / 2))) rfl hB (xw_obd g8) rfl g7 rfl rfl ?_
        refine xw_iload_n rfl rfl ?_
        exact q
      refine xS_if (fun h9 => ?_) (fun h9 => ?_)
      · refine xS_of (pc' := 46) (L' := [(5, xi ((w32 (x2 + x3)) / 2)), (0, xa x0), (1, xi x1), (2, xi x2), (3, xi x3), (4, xi x4)]) (st' := [xi ((w32 (x2 + x3)) / 2)]) (m' := m) (fun ex ns r q => ?_) ?_
        · refine xw_ic_neF rfl (w32_cg (w32_xR _ _ _)) (w32_cg c1) h9 ?_
          refine xw_iload rfl rfl ?_
          exact q
        exact xS_ret (v := ((w32 (x2 + x3)) / 2)) rfl rfl xw_rtI (w32_dv (w32_w _) ⟨g2, (by decide)⟩)
      · refine xS_of (pc' := 57) (L' := [(5, xi ((w32 (x2 + x3)) / 2)), (0, xa x0), (1, xi x1), (2, xi x2), (3, xi x3), (4, xi x4)]) (st' := [xi x1, xi (xR m (xw_rf (xw_rf x0 3) 0) ((w32 (x2 + x3)) / 2))]) (m' := m) (fun ex ns r q => ?_) ?_
        · refine xw_ic_neT rfl (w32_cg (w32_xR _ _ _)) (w32_cg c1) h9 ?_
          refine xw_aload_n rfl rfl rfl ?_
          refine xw_gfV (qi := 3) rfl (xw_obd g3) xk3_3 rfl ?_
          refine xw_iconst rfl ?_
          refine xw_aald (t := 20) (n := (xw_le B (xw_rf x0 3))) (q := xw_kd (xw_rf x0 3) 0 - 5) (e := (xw_rf (xw_rf x0 3) 0)) rfl hB (xw_obd g6) (by decide) rfl g4 (by have := g5; omega) (xw_rfn g5) ?_
          refine xw_iload rfl rfl ?_
          refine xw_ialdc (n := (xw_le B (xw_rf (xw_rf x0 3) 0))) (v := (m (xw_rf (xw_rf x0 3) 0) ((w32 (x2 + x3)) / 2))) (v' := (xR m (xw_rf (xw_rf x0 3) 0) ((w32 (x2 + x3)) / 2))) rfl hB (xw_obd g8) rfl g7 rfl rfl ?_
          refine xw_iload_n rfl rfl ?_
          exact q
        refine xS_if (fun h10 => ?_) (fun h10 => ?_)
        · refine xS_of (pc' := 12) (L' := [(0, xa x0), (1, xi x1), (2, xi (w32 (((w32 (x2 + x3)) / 2) + 1))), (3, xi x3), (4, xi (w32 (x4 + 1)))]) (st' := []) (m' := m) (fun ex ns r q => ?_) ?_
          · refine xw_ic_geF rfl (w32_cg (w32_xR _ _ _)) (w32_cg c1) (Int.not_le.mpr h10) ?_
            refine xw_iload rfl rfl ?_
            refine xw_iconst rfl ?_
            refine xw_iadd rfl ?_
            refine xw_cst (st' := [xi (w32 (((w32 (x2 + x3)) / 2) + 1))]) (xw_sc (xi_c rfl) rfl) ?_
            refine xw_istore_n (L' := [(2, xi (w32 (((w32 (x2 + x3)) / 2) + 1))), (5, xi ((w32 (x2 + x3)) / 2)), (0, xa x0), (1, xi x1), (3, xi x3), (4, xi x4)]) rfl (by decide) rfl ?_
            refine xw_goto rfl ?_
            refine xw_iincc (z := (w32 (x4 + 1))) (L' := [(4, xi (w32 (x4 + 1))), (2, xi (w32 (((w32 (x2 + x3)) / 2) + 1))), (5, xi ((w32 (x2 + x3)) / 2)), (0, xa x0), (1, xi x1), (3, xi x3)]) rfl rfl (by decide) rfl rfl ?_
            refine xw_goto rfl ?_
            refine xw_lo (L2 := [(0, xa x0), (1, xi x1), (2, xi (w32 (((w32 (x2 + x3)) / 2) + 1))), (3, xi x3), (4, xi (w32 (x4 + 1)))]) (List.forall_mem_cons.mpr ⟨rfl, List.forall_mem_cons.mpr ⟨rfl, List.forall_mem_cons.mpr ⟨rfl, List.forall_mem_cons.mpr ⟨rfl, List.forall_mem_cons.mpr ⟨rfl, fun _ h => absurd h List.not_mem_nil⟩⟩⟩⟩⟩) ?_
            exact q
          exact hr12 _ _ _ _ _ _ c1 (w32_w _) c3 (w32_w _)
        · refine xS_of (pc' := 12) (L' := [(0, xa x0), (1, xi x1), (2, xi x2), (3, xi (w32 (((w32 (x2 + x3)) / 2) - 1))), (4, xi (w32 (x4 + 1)))]) (st' := []) (m' := m) (fun ex ns r q => ?_) ?_
          · refine xw_ic_geT rfl (w32_cg (w32_xR _ _ _)) (w32_cg c1) (Int.not_lt.mp h10) ?_
            refine xw_iload rfl rfl ?_
            refine xw_iconst rfl ?_
            refine xw_isub rfl ?_
            refine xw_cst (st' := [xi (w32 (((w32 (x2 + x3)) / 2) - 1))]) (xw_sc (xi_c rfl) rfl) ?_
            refine xw_istore_n (L' := [(3, xi (w32 (((w32 (x2 + x3)) / 2) - 1))), (5, xi ((w32 (x2 + x3)) / 2)), (0, xa x0), (1, xi x1), (2, xi x2), (4, xi x4)]) rfl (by decide) rfl ?_
            refine xw_iincc (z := (w32 (x4 + 1))) (L' := [(4, xi (w32 (x4 + 1))), (3, xi (w32 (((w32 (x2 + x3)) / 2) - 1))), (5, xi ((w32 (x2 + x3)) / 2)), (0, xa x0), (1, xi x1), (2, xi x2)]) rfl rfl (by decide) rfl rfl ?_
            refine xw_goto rfl ?_
            refine xw_lo (L2 := [(0, xa x0), (1, xi x1), (2, xi x2), (3, xi (w32 (((w32 (x2 + x3)) / 2) - 1))), (4, xi (w32 (x4 + 1)))]) (List.forall_mem_cons.mpr ⟨rfl, List.forall_mem_cons.mpr ⟨rfl, List.forall_mem_cons.mpr ⟨rfl, List.forall_mem_cons.mpr ⟨rfl, List.forall_mem_cons.mpr ⟨rfl, fun _ h => absurd h List.not_mem_nil⟩⟩⟩⟩⟩) ?_
            exact q
          exact hr12 _ _ _ _ _ _ c1 c2 (w32_w _) (w32_w _)
  · refine xS_of (pc' := 80) (L' := [(0, xa x0), (1, xi x1), (2, xi x2), (3, xi x3), (4, xi x4)]) (st' := [xi (-1)]) (m' := m) (fun ex ns r q => ?_) ?_
    · refine xw_ic_geT rfl (w32_cg c4) (w32_cg rfl) (Int.not_lt.mp h0) ?_
      refine xw_iconst rfl ?_
      exact q
    exact xS_ret (v := (-1)) rfl rfl xw_rtI rfl
theorem ygl167_12 {B : Nat} (hB : B ≤ 512) {xs : Nat → Int32} {SL d : Nat} : ∀ n x0 x1 x2 x3 x4 m, w32 x1 = x1 → w32 x2 = x2 → w32 x3 = x3 → w32 x4 = x4 → xS B xs SL (d + 0) 167 (6, (some .int), [], 4) 1 12 [(0, xa x0), (1, xi x1), (2, xi x2), (3, xi x3), (4, xi x4)] [] m (xl5 (yl167_12 B) n x0 x1 x2 x3 x4 m) := by
  intro n
  induction n with
  | zero => intro x0 x1 x2 x3 x4 m c1 c2 c3 c4; exact xS_none
  | succ n ih => exact ysl167_12 hB ih
theorem ygf167 {B : Nat} (hB : B ≤ 512) {xs : Nat → Int32} {SL d : Nat} : ∀ t p0 m, w32 p0 = p0 → xS B xs SL (d + 0) 167 (6, (some .int), [], 4) 1 0 [(0, xa t), (1, xi p0)] [] m (yf167 B t p0 m) := by
  intro t p0 m cp0
  unfold yf167
  refine xS_g (fun g0 => ?_)
  refine xS_of (pc' := 12) (L' := [(0, xa t), (1, xi p0), (2, xi 0), (3, xi (w32 ((xR m t 11) - 1))), (4, xi 0)]) (st' := []) (m' := m) (fun ex ns r q => ?_) ?_
  · refine xw_iconst rfl ?_
    refine xw_istore_n (L' := [(2, xi 0), (0, xa t), (1, xi p0)]) rfl (by decide) rfl ?_
    refine xw_aload_n rfl rfl rfl ?_
    refine xw_gfIc (v := (m t 11)) (v' := (xR m t 11)) rfl (xw_obd g0) xk3_11 (qi := 11) rfl rfl rfl ?_
    refine xw_iconst rfl ?_
    refine xw_isub rfl ?_
    refine xw_cst (st' := [xi (w32 ((xR m t 11) - 1))]) (xw_sc (xi_c rfl) rfl) ?_
    refine xw_istore_n (L' := [(3, xi (w32 ((xR m t 11) - 1))), (2, xi 0), (0, xa t), (1, xi p0)]) rfl (by decide) rfl ?_
    refine xw_iconst rfl ?_
    refine xw_istore (L' := [(4, xi 0), (3, xi (w32 ((xR m t 11) - 1))), (2, xi 0), (0, xa t), (1, xi p0)]) rfl (by decide) rfl ?_
    refine xw_lo (L2 := [(0, xa t), (1, xi p0), (2, xi 0), (3, xi (w32 ((xR m t 11) - 1))), (4, xi 0)]) (List.forall_mem_cons.mpr ⟨rfl, List.forall_mem_cons.mpr ⟨rfl, List.forall_mem_cons.mpr ⟨rfl, List.forall_mem_cons.mpr ⟨rfl, List.forall_mem_cons.mpr ⟨rfl, fun _ h => absurd h List.not_mem_nil⟩⟩⟩⟩⟩) ?_
    exact q
  exact ygl167_12 hB 1000000 _ _ _ _ _ _ cp0 rfl (w32_w _) rfl
theorem ygk165_19 {B : Nat} (hB : B ≤ 512) {xs : Nat → Int32} {SL d : Nat} : ∀ x1 x2 m, w32 x1 = x1 → w32 x2 = x2 → xS B xs SL (d + 2) 165 (4, (some .boolean), [], 1) 4 19 [(0, xa 0), (1, xi x1), (2, xi x2)] [] m (yk165_19 B x1 x2 m) := by
  intro x1 x2 m c1 c2
  unfold yk165_19
  refine xS_of (pc' := 20) (L' := [(0, xa 0), (1, xi x1), (2, xi x2)]) (st' := [xi 0]) (m' := m) (fun ex ns r q => ?_) ?_
  · refine xw_iconst rfl ?_
    refine xw_lo (L2 := [(0, xa 0), (1, xi x1), (2, xi x2)]) (List.forall_mem_cons.mpr ⟨rfl, List.forall_mem_cons.mpr ⟨rfl, List.forall_mem_cons.mpr ⟨rfl, fun _ h => absurd h List.not_mem_nil⟩⟩⟩) ?_
    exact q
  refine xS_call (q := 43) (n := 1) (kq := 0) (as := [xi 0]) (st1 := []) rfl rfl rfl rfl rfl rfl rfl rfl rfl rfl (fun _ => xw_rcv0 rfl) rfl (List.forall_mem_cons.mpr ⟨rfl, fun _ h => absurd h List.not_mem_nil⟩) (ygf43 hB _ _ rfl) (fun v1 m1 cv1 => ?_)
  refine xS_of (pc' := 24) (L' := [(0, xa 0), (1, xi x1), (2, xi x2)]) (st' := [xa 0]) (m' := m1) (fun ex ns r q => ?_) ?_
  · refine xw_aload_n rfl rfl rfl ?_
    refine xw_lo (L2 := [(0, xa 0), (1, xi x1), (2, xi x2)]) (List.forall_mem_cons.mpr ⟨rfl, List.forall_mem_cons.mpr ⟨rfl, List.forall_mem_cons.mpr ⟨rfl, fun _ h => absurd h List.not_mem_nil⟩⟩⟩) ?_
    exact q
  refine xS_call (q := 166) (n := 1) (kq := 0) (as := [xa 0]) (st1 := []) rfl rfl rfl rfl rfl rfl rfl rfl rfl rfl (fun _ => xw_rcv1 (t := 0) (xw_obd (by decide +kernel)) rfl) rfl (List.forall_mem_cons.mpr ⟨rfl, fun _ h => absurd h List.not_mem_nil⟩) (ygf166 hB _) (fun v2 m2 cv2 => ?_)
  refine xS_g (fun g0 => ?_)
  refine xS_g (fun g1 => ?_)
  refine xS_of (pc' := 37) (L' := [(0, xa 0), (1, xi x1)]) (st' := [xi x2, xa (15 + (26 * x1))]) (m' := m2) (fun ex ns r q => ?_) ?_
  · refine xw_aload_n rfl rfl rfl ?_
    refine xw_gfR (n := 3) (e := 3) rfl (xw_obd (by decide +kernel)) (by decide +kernel) (by decide +kernel) rfl ?_
    refine xw_gfR (n := 4) (e := 4) rfl (xw_obd (by decide +kernel)) (by decide +kernel) (by decide +kernel) rfl ?_
    refine xw_iload_n rfl rfl ?_
    refine xw_aald (t := 23) (n := 8) (q := 15 + 26 * (x1).toNat) (e := (15 + (26 * x1))) rfl hB (xw_obd (by decide +kernel)) (by decide) rfl g0 (show 20 + 26 * (x1 : Int).toNat = 15 + 26 * (x1 : Int).toNat + 5 from by omega) (by have := g0; omega) ?_
    refine xw_iload_n rfl rfl ?_
    refine xw_lo (L2 := [(0, xa 0), (1, xi x1)]) (List.forall_mem_cons.mpr ⟨rfl, List.forall_mem_cons.mpr ⟨rfl, fun _ h => absurd h List.not_mem_nil⟩⟩) ?_
    exact q
  refine xS_call (q := 167) (n := 2) (kq := 1) (as := [xa (15 + (26 * x1)), xi x2]) (st1 := []) rfl rfl rfl rfl rfl rfl rfl rfl rfl rfl (fun _ => xw_rcv1 (t := 3) (xw_obd g1) rfl) rfl (List.forall_mem_cons.mpr ⟨rfl, List.forall_mem_cons.mpr ⟨rfl, fun _ h => absurd h List.not_mem_nil⟩⟩) (ygf167 hB _ _ _ c2) (fun v3 m3 cv3 => ?_)
  refine xS_of (pc' := 43) (L' := [(3, xi v3), (0, xa 0), (1, xi x1)]) (st' := [xi (-1), xi v3]) (m' := m3) (fun ex ns r q => ?_) ?_
  · refine xw_istore_n (L' := [(3, xi v3), (0, xa 0), (1, xi x1)]) rfl (by decide) rfl ?_
    refine xw_iload_n rfl rfl ?_
    refine xw_iconst rfl ?_
    exact q
  refine xS_if (fun h2 => ?_) (fun h2 => ?_)
  · refine xS_of (pc' := 47) (L' := [(3, xi v3), (0, xa 0), (1, xi x1)]) (st' := [xi 0]) (m' := m3) (fun ex ns r q => ?_) ?_
    · refine xw_ic_neF rfl (w32_cg cv3) (w32_cg rfl) h2 ?_
      refine xw_iconst rfl ?_
      exact q
    exact xS_ret (v := 0) rfl rfl (xw_rtZ (Or.inl rfl)) (Or.inl rfl)
  · refine xS_of (pc' := 56) (L' := [(3, xi v3), (0, xa 0), (1, xi x1)]) (st' := [xi 1]) (m' := (xw_u m3 417 x1 v3)) (fun ex ns r q => ?_) ?_
    · refine xw_ic_neT rfl (w32_cg cv3) (w32_cg rfl) h2 ?_
      refine xw_aload_n rfl rfl rfl ?_
      refine xw_gfR (n := 417) (e := 417) rfl (xw_obd (by decide +kernel)) (by decide +kernel) (by decide +kernel) rfl ?_
      refine xw_iload_n rfl rfl ?_
      refine xw_iload_n rfl rfl ?_
      refine xw_iast (n := 8) rfl hB (xw_obd (by decide +kernel)) rfl g0 ?_
      refine xw_iconst rfl ?_
      exact q
    exact xS_ret (v := 1) rfl rfl (xw_rtZ (Or.inr rfl)) (Or.inr rfl)
theorem ygf165 {B : Nat} (hB : B ≤ 512) {xs : Nat → Int32} {SL d : Nat} : ∀ p0 p1 m, w32 p0 = p0 → w32 p1 = p1 → xS B xs SL (d + 2) 165 (4, (some .boolean), [], 1) 4 0 [(0, xa 0), (1, xi p0), (2, xi p1)] [] m (yf165 B p0 p1 m) := by
  intro p0 p1 m cp0 cp1
  unfold yf165
  refine xS_of (pc' := 1) (L' := [(0, xa 0), (1, xi p0), (2, xi p1)]) (st' := [xi p0]) (m' := m) (fun ex ns r q => ?_) ?_
  · refine xw_iload_n rfl rfl ?_
    exact q
  refine xS_if (fun h0 => ?_) (fun h0 => ?_)
  · refine xS_of (pc' := 19) (L' := [(0, xa 0), (1, xi p0), (2, xi p1)]) (st' := []) (m' := m) (fun ex ns r q => ?_) ?_
    · refine xw_if_ltT rfl (w32_cg cp0) h0 ?_
      refine xw_lo (L2 := [(0, xa 0), (1, xi p0), (2, xi p1)]) (List.forall_mem_cons.mpr ⟨rfl, List.forall_mem_cons.mpr ⟨rfl, List.forall_mem_cons.mpr ⟨rfl, fun _ h => absurd h List.not_mem_nil⟩⟩⟩) ?_
      exact q
    exact ygk165_19 hB _ _ _ cp0 cp1
  · refine xS_of (pc' := 12) (L' := [(0, xa 0), (1, xi p0), (2, xi p1)]) (st' := [xi (xR m 3 1), xi p0]) (m' := m) (fun ex ns r q => ?_) ?_
    · refine xw_if_ltF rfl (w32_cg cp0) h0 ?_
      refine xw_iload_n rfl rfl ?_
      refine xw_aload_n rfl rfl rfl ?_
      refine xw_gfR (n := 3) (e := 3) rfl (xw_obd (by decide +kernel)) (by decide +kernel) (by decide +kernel) rfl ?_
      refine xw_gfIc (v := (m 3 1)) (v' := (xR m 3 1)) rfl (xw_obd (by decide +kernel)) xk2_1 (qi := 1) rfl rfl rfl ?_
      exact q
    refine xS_if (fun h1 => ?_) (fun h1 => ?_)
    · refine xS_of (pc' := 20) (L' := [(0, xa 0), (1, xi p0), (2, xi p1)]) (st' := [xi 1]) (m' := m) (fun ex ns r q => ?_) ?_
      · refine xw_ic_geF rfl (w32_cg cp0) (w32_cg (w32_xR _ _ _)) (Int.not_le.mpr h1) ?_
        refine xw_iconst rfl ?_
        refine xw_goto rfl ?_
        refine xw_lo (L2 := [(0, xa 0), (1, xi p0), (2, xi p1)]) (List.forall_mem_cons.mpr ⟨rfl, List.forall_mem_cons.mpr ⟨rfl, List.forall_mem_cons.mpr ⟨rfl, fun _ h => absurd h List.not_mem_nil⟩⟩⟩) ?_
        exact q
      refine xS_call (q := 43) (n := 1) (kq := 0) (as := [xi 1]) (st1 := []) rfl rfl rfl rfl rfl rfl rfl rfl rfl rfl (fun _ => xw_rcv0 rfl) rfl (List.forall_mem_cons.mpr ⟨rfl, fun _ h => absurd h List.not_mem_nil⟩) (ygf43 hB _ _ rfl) (fun v1 m1 cv1 => ?_)
      refine xS_of (pc' := 24) (L' := [(0, xa 0), (1, xi p0), (2, xi p1)]) (st' := [xa 0]) (m' := m1) (fun ex ns r q => ?_) ?_
      · refine xw_aload_n rfl rfl rfl ?_
        refine xw_lo (L2 := [(0, xa 0), (1, xi p0), (2, xi p1)]) (List.forall_mem_cons.mpr ⟨rfl, List.forall_mem_cons.mpr ⟨rfl, List.forall_mem_cons.mpr ⟨rfl, fun _ h => absurd h List.not_mem_nil⟩⟩⟩) ?_
        exact q
      refine xS_call (q := 166) (n := 1) (kq := 0) (as := [xa 0]) (st1 := []) rfl rfl rfl rfl rfl rfl rfl rfl rfl rfl (fun _ => xw_rcv1 (t := 0) (xw_obd (by decide +kernel)) rfl) rfl (List.forall_mem_cons.mpr ⟨rfl, fun _ h => absurd h List.not_mem_nil⟩) (ygf166 hB _) (fun v2 m2 cv2 => ?_)
      refine xS_g (fun g2 => ?_)
      refine xS_g (fun g3 => ?_)
      refine xS_of (pc' := 37) (L' := [(0, xa 0), (1, xi p0)]) (st' := [xi p1, xa (15 + (26 * p0))]) (m' := m2) (fun ex ns r q => ?_) ?_
      · refine xw_aload_n rfl rfl rfl ?_
        refine xw_gfR (n := 3) (e := 3) rfl (xw_obd (by decide +kernel)) (by decide +kernel) (by decide +kernel) rfl ?_
        refine xw_gfR (n := 4) (e := 4) rfl (xw_obd (by decide +kernel)) (by decide +kernel) (by decide +kernel) rfl ?_
        refine xw_iload_n rfl rfl ?_
        refine xw_aald (t := 23) (n := 8) (q := 15 + 26 * (p0).toNat) (e := (15 + (26 * p0))) rfl hB (xw_obd (by decide +kernel)) (by decide) rfl g2 (show 20 + 26 * (p0 : Int).toNat = 15 + 26 * (p0 : Int).toNat + 5 from by omega) (by have := g2; omega) ?_
        refine xw_iload_n rfl rfl ?_
        refine xw_lo (L2 := [(0, xa 0), (1, xi p0)]) (List.forall_mem_cons.mpr ⟨rfl, List.forall_mem_cons.mpr ⟨rfl, fun _ h => absurd h List.not_mem_nil⟩⟩) ?_
        exact q
      refine xS_call (q := 167) (n := 2) (kq := 1) (as := [xa (15 + (26 * p0)), xi p1]) (st1 := []) rfl rfl rfl rfl rfl rfl rfl rfl rfl rfl (fun _ => xw_rcv1 (t := 3) (xw_obd g3) rfl) rfl (List.forall_mem_cons.mpr ⟨rfl, List.forall_mem_cons.mpr ⟨rfl, fun _ h => absurd h List.not_mem_nil⟩⟩) (ygf167 hB _ _ _ cp1) (fun v3 m3 cv3 => ?_)
      refine xS_of (pc' := 43) (L' := [(3, xi v3), (0, xa 0), (1, xi p0)]) (st' := [xi (-1), xi v3]) (m' := m3) (fun ex ns r q => ?_) ?_
      · refine xw_istore_n (L' := [(3, xi v3), (0, xa 0), (1, xi p0)]) rfl (by decide) rfl ?_
        refine xw_iload_n rfl rfl ?_
        refine xw_iconst rfl ?_
        exact q
      refine xS_if (fun h4 => ?_) (fun h4 => ?_)
      · refine xS_of (pc' := 47) (L' := [(3, xi v3), (0, xa 0), (1, xi p0)]) (st' := [xi 0]) (m' := m3) (fun ex ns r q => ?_) ?_
        · refine xw_ic_neF rfl (w32_cg cv3) (w32_cg rfl) h4 ?_
          refine xw_iconst rfl ?_
          exact q
        exact xS_ret (v := 0) rfl rfl (xw_rtZ (Or.inl rfl)) (Or.inl rfl)
      · refine xS_of (pc' := 56) (L' := [(3, xi v3), (0, xa 0), (1, xi p0)]) (st' := [xi 1]) (m' := (xw_u m3 417 p0 v3)) (fun ex ns r q => ?_) ?_
        · refine xw_ic_neT rfl (w32_cg cv3) (w32_cg rfl) h4 ?_
          refine xw_aload_n rfl rfl rfl ?_
          refine xw_gfR (n := 417) (e := 417) rfl (xw_obd (by decide +kernel)) (by decide +kernel) (by decide +kernel) rfl ?_
          refine xw_iload_n rfl rfl ?_
          refine xw_iload_n rfl rfl ?_
          refine xw_iast (n := 8) rfl hB (xw_obd (by decide +kernel)) rfl g2 ?_
          refine xw_iconst rfl ?_
          exact q
        exact xS_ret (v := 1) rfl rfl (xw_rtZ (Or.inr rfl)) (Or.inr rfl)
    · refine xS_of (pc' := 19) (L' := [(0, xa 0), (1, xi p0), (2, xi p1)]) (st' := []) (m' := m) (fun ex ns r q => ?_) ?_
      · refine xw_ic_geT rfl (w32_cg cp0) (w32_cg (w32_xR _ _ _)) (Int.not_lt.mp h1) ?_
        refine xw_lo (L2 := [(0, xa 0), (1, xi p0), (2, xi p1)]) (List.forall_mem_cons.mpr ⟨rfl, List.forall_mem_cons.mpr ⟨rfl, List.forall_mem_cons.mpr ⟨rfl, fun _ h => absurd h List.not_mem_nil⟩⟩⟩) ?_
        exact q
      exact ygk165_19 hB _ _ _ cp0 cp1

theorem ygk169_19 {B : Nat} (hB : B ≤ 512) {xs : Nat → Int32} {SL d : Nat} : ∀ x1 x2 m, w32 x1 = x1 → w64 x2 = x2 → xS B xs SL (d + 2) 169 (6, (some .long), [], 1) 2 19 [(0, xa 0), (1, xi x1), (2, xj x2)] [] m (yk169_19 B x1 x2 m) := by
  intro x1 x2 m c1 c2
  unfold yk169_19
  refine xS_of (pc' := 20) (L' := [(0, xa 0), (1, xi x1), (2, xj x2)]) (st' := [xi 0]) (m' := m) (fun ex ns r q => ?_) ?_
  · refine xw_iconst rfl ?_
    refine xw_lo (L2 := [(0, xa 0), (1, xi x1), (2, xj x2)]) (List.forall_mem_cons.mpr ⟨rfl, List.forall_mem_cons.mpr ⟨rfl, List.forall_mem_cons.mpr ⟨rfl, fun _ h => absurd h List.not_mem_nil⟩⟩⟩) ?_
    exact q
  refine xS_call (q := 43) (n := 1) (kq := 0) (as := [xi 0]) (st1 := []) rfl rfl rfl rfl rfl rfl rfl rfl rfl rfl (fun _ => xw_rcv0 rfl) rfl (List.forall_mem_cons.mpr ⟨rfl, fun _ h => absurd h List.not_mem_nil⟩) (ygf43 hB _ _ rfl) (fun v1 m1 cv1 => ?_)
  refine xS_of (pc' := 24) (L' := [(0, xa 0), (1, xi x1), (2, xj x2)]) (st' := [xa 0]) (m' := m1) (fun ex ns r q => ?_) ?_
  · refine xw_aload_n rfl rfl rfl ?_
    refine xw_lo (L2 := [(0, xa 0), (1, xi x1), (2, xj x2)]) (List.forall_mem_cons.mpr ⟨rfl, List.forall_mem_cons.mpr ⟨rfl, List.forall_mem_cons.mpr ⟨rfl, fun _ h => absurd h List.not_mem_nil⟩⟩⟩) ?_
    exact q
  refine xS_call (q := 166) (n := 1) (kq := 0) (as := [xa 0]) (st1 := []) rfl rfl rfl rfl rfl rfl rfl rfl rfl rfl (fun _ => xw_rcv1 (t := 0) (xw_obd (by decide +kernel)) rfl) rfl (List.forall_mem_cons.mpr ⟨rfl, fun _ h => absurd h List.not_mem_nil⟩) (ygf166 hB _) (fun v2 m2 cv2 => ?_)
  refine xS_g (fun g0 => ?_)
  refine xS_of (pc' := 44) (L' := [(4, xj (xJ m2 418 x1)), (0, xa 0), (1, xi x1), (2, xj x2)]) (st' := [xj (xJ m2 418 x1)]) (m' := (xw_u m2 418 x1 x2)) (fun ex ns r q => ?_) ?_
  · refine xw_aload_n rfl rfl rfl ?_
    refine xw_gfR (n := 418) (e := 418) rfl (xw_obd (by decide +kernel)) (by decide +kernel) (by decide +kernel) rfl ?_
    refine xw_iload_n rfl rfl ?_
    refine xw_laldc (n := 8) (v := (m2 418 x1)) (v' := (xJ m2 418 x1)) rfl hB (xw_obd (by decide +kernel)) rfl g0 rfl rfl ?_
    refine xw_lstore (L' := [(4, xj (xJ m2 418 x1)), (0, xa 0), (1, xi x1), (2, xj x2)]) rfl (by decide) rfl ?_
    refine xw_aload_n rfl rfl rfl ?_
    refine xw_gfR (n := 418) (e := 418) rfl (xw_obd (by decide +kernel)) (by decide +kernel) (by decide +kernel) rfl ?_
    refine xw_iload_n rfl rfl ?_
    refine xw_lload_n rfl rfl ?_
    refine xw_last (n := 8) rfl hB (xw_obd (by decide +kernel)) rfl g0 ?_
    refine xw_lload rfl rfl ?_
    exact q
  exact xS_ret (v := (xJ m2 418 x1)) rfl rfl rfl (w64_xJ _ _ _)
theorem ygf169 {B : Nat} (hB : B ≤ 512) {xs : Nat → Int32} {SL d : Nat} : ∀ p0 p1 m, w32 p0 = p0 → w64 p1 = p1 → xS B xs SL (d + 2) 169 (6, (some .long), [], 1) 2 0 [(0, xa 0), (1, xi p0), (2, xj p1)] [] m (yf169 B p0 p1 m) := by
  intro p0 p1 m cp0 cp1
  unfold yf169
  refine xS_of (pc' := 1) (L' := [(0, xa 0), (1, xi p0), (2, xj p1)]) (st' := [xi p0]) (m' := m) (fun ex ns r q => ?_) ?_
  · refine xw_iload_n rfl rfl ?_
    exact q
  refine xS_if (fun h0 => ?_) (fun h0 => ?_)
  · refine xS_of (pc' := 19) (L' := [(0, xa 0), (1, xi p0), (2, xj p1)]) (st' := []) (m' := m) (fun ex ns r q => ?_) ?_
    · refine xw_if_ltT rfl (w32_cg cp0) h0 ?_
      refine xw_lo (L2 := [(0, xa 0), (1, xi p0), (2, xj p1)]) (List.forall_mem_cons.mpr ⟨rfl, List.forall_mem_cons.mpr ⟨rfl, List.forall_mem_cons.mpr ⟨rfl, fun _ h => absurd h List.not_mem_nil⟩⟩⟩) ?_
      exact q
    exact ygk169_19 hB _ _ _ cp0 cp1
  · refine xS_of (pc' := 12) (L' := [(0, xa 0), (1, xi p0), (2, xj p1)]) (st' := [xi (xR m 3 2), xi p0]) (m' := m) (fun ex ns r q => ?_) ?_
    · refine xw_if_ltF rfl (w32_cg cp0) h0 ?_
      refine xw_iload_n rfl rfl ?_
      refine xw_aload_n rfl rfl rfl ?_
      refine xw_gfR (n := 3) (e := 3) rfl (xw_obd (by decide +kernel)) (by decide +kernel) (by decide +kernel) rfl ?_
      refine xw_gfIc (v := (m 3 2)) (v' := (xR m 3 2)) rfl (xw_obd (by decide +kernel)) xk2_2 (qi := 2) rfl rfl rfl ?_
      exact q
    refine xS_if (fun h1 => ?_) (fun h1 => ?_)
    · refine xS_of (pc' := 20) (L' := [(0, xa 0), (1, xi p0), (2, xj p1)]) (st' := [xi 1]) (m' := m) (fun ex ns r q => ?_) ?_
      · refine xw_ic_geF rfl (w32_cg cp0) (w32_cg (w32_xR _ _ _)) (Int.not_le.mpr h1) ?_
        refine xw_iconst rfl ?_
        refine xw_goto rfl ?_
        refine xw_lo (L2 := [(0, xa 0), (1, xi p0), (2, xj p1)]) (List.forall_mem_cons.mpr ⟨rfl, List.forall_mem_cons.mpr ⟨rfl, List.forall_mem_cons.mpr ⟨rfl, fun _ h => absurd h List.not_mem_nil⟩⟩⟩) ?_
        exact q
      refine xS_call (q := 43) (n := 1) (kq := 0) (as := [xi 1]) (st1 := []) rfl rfl rfl rfl rfl rfl rfl rfl rfl rfl (fun _ => xw_rcv0 rfl) rfl (List.forall_mem_cons.mpr ⟨rfl, fun _ h => absurd h List.not_mem_nil⟩) (ygf43 hB _ _ rfl) (fun v1 m1 cv1 => ?_)
      refine xS_of (pc' := 24) (L' := [(0, xa 0), (1, xi p0), (2, xj p1)]) (st' := [xa 0]) (m' := m1) (fun ex ns r q => ?_) ?_
      · refine xw_aload_n rfl rfl rfl ?_
        refine xw_lo (L2 := [(0, xa 0), (1, xi p0), (2, xj p1)]) (List.forall_mem_cons.mpr ⟨rfl, List.forall_mem_cons.mpr ⟨rfl, List.forall_mem_cons.mpr ⟨rfl, fun _ h => absurd h List.not_mem_nil⟩⟩⟩) ?_
        exact q
      refine xS_call (q := 166) (n := 1) (kq := 0) (as := [xa 0]) (st1 := []) rfl rfl rfl rfl rfl rfl rfl rfl rfl rfl (fun _ => xw_rcv1 (t := 0) (xw_obd (by decide +kernel)) rfl) rfl (List.forall_mem_cons.mpr ⟨rfl, fun _ h => absurd h List.not_mem_nil⟩) (ygf166 hB _) (fun v2 m2 cv2 => ?_)
      refine xS_g (fun g2 => ?_)
      refine xS_of (pc' := 44) (L' := [(4, xj (xJ m2 418 p0)), (0, xa 0), (1, xi p0), (2, xj p1)]) (st' := [xj (xJ m2 418 p0)]) (m' := (xw_u m2 418 p0 p1)) (fun ex ns r q => ?_) ?_
      · refine xw_aload_n rfl rfl rfl ?_
        refine xw_gfR (n := 418) (e := 418) rfl (xw_obd (by decide +kernel)) (by decide +kernel) (by decide +kernel) rfl ?_
        refine xw_iload_n rfl rfl ?_
        refine xw_laldc (n := 8) (v := (m2 418 p0)) (v' := (xJ m2 418 p0)) rfl hB (xw_obd (by decide +kernel)) rfl g2 rfl rfl ?_
        refine xw_lstore (L' := [(4, xj (xJ m2 418 p0)), (0, xa 0), (1, xi p0), (2, xj p1)]) rfl (by decide) rfl ?_
        refine xw_aload_n rfl rfl rfl ?_
        refine xw_gfR (n := 418) (e := 418) rfl (xw_obd (by decide +kernel)) (by decide +kernel) (by decide +kernel) rfl ?_
        refine xw_iload_n rfl rfl ?_
        refine xw_lload_n rfl rfl ?_
        refine xw_last (n := 8) rfl hB (xw_obd (by decide +kernel)) rfl g2 ?_
        refine xw_lload rfl rfl ?_
        exact q
      exact xS_ret (v := (xJ m2 418 p0)) rfl rfl rfl (w64_xJ _ _ _)
    · refine xS_of (pc' := 19) (L' := [(0, xa 0), (1, xi p0), (2, xj p1)]) (st' := []) (m' := m) (fun ex ns r q => ?_) ?_
      · refine xw_ic_geT rfl (w32_cg cp0) (w32_cg (w32_xR _ _ _)) (Int.not_lt.mp h1) ?_
        refine xw_lo (L2 := [(0, xa 0), (1, xi p0), (2, xj p1)]) (List.forall_mem_cons.mpr ⟨rfl, List.forall_mem_cons.mpr ⟨rfl, List.forall_mem_cons.mpr ⟨rfl, fun _ h => absurd h List.not_mem_nil⟩⟩⟩) ?_
        exact q
      exact ygk169_19 hB _ _ _ cp0 cp1

theorem ygk172_31 {B : Nat} (hB : B ≤ 512) {xs : Nat → Int32} {SL d : Nat} : ∀ m, xS B xs SL (d + 2) 172 (2, none, [], 1) 0 31 [] [] m (yk172_31 B m) := by
  intro m
  unfold yk172_31
  refine xS_of (pc' := 36) (L' := []) (st' := [xi 1]) (m' := m) (fun ex ns r q => ?_) ?_
  · refine xw_iconst rfl ?_
    refine xw_goto rfl ?_
    refine xw_lo (L2 := []) (fun _ h => absurd h List.not_mem_nil) ?_
    exact q
  refine xS_call (q := 39) (n := 1) (kq := 0) (as := [xi 1]) (st1 := []) rfl rfl rfl rfl rfl rfl rfl rfl rfl rfl (fun _ => xw_rcv0 rfl) rfl (List.forall_mem_cons.mpr ⟨rfl, fun _ h => absurd h List.not_mem_nil⟩) (ygf39 hB _ _ rfl) (fun v1 m1 cv1 => ?_)
  exact xS_ret (v := 0) rfl rfl rfl rfl
theorem ygf172 {B : Nat} (hB : B ≤ 512) {xs : Nat → Int32} {SL d : Nat} : ∀ p0 m, w32 p0 = p0 → xS B xs SL (d + 2) 172 (2, none, [], 1) 0 0 [(0, xa 0), (1, xi p0)] [] m (yf172 B p0 m) := by
  intro p0 m cp0
  unfold yf172
  refine xS_of (pc' := 1) (L' := [(0, xa 0), (1, xi p0)]) (st' := [xa 0]) (m' := m) (fun ex ns r q => ?_) ?_
  · refine xw_aload_n rfl rfl rfl ?_
    refine xw_lo (L2 := [(0, xa 0), (1, xi p0)]) (List.forall_mem_cons.mpr ⟨rfl, List.forall_mem_cons.mpr ⟨rfl, fun _ h => absurd h List.not_mem_nil⟩⟩) ?_
    exact q
  refine xS_call (q := 166) (n := 1) (kq := 0) (as := [xa 0]) (st1 := []) rfl rfl rfl rfl rfl rfl rfl rfl rfl rfl (fun _ => xw_rcv1 (t := 0) (xw_obd (by decide +kernel)) rfl) rfl (List.forall_mem_cons.mpr ⟨rfl, fun _ h => absurd h List.not_mem_nil⟩) (ygf166 hB _) (fun v1 m1 cv1 => ?_)
  refine xS_of (pc' := 16) (L' := [(0, xa 0), (1, xi p0)]) (st' := [xi 8192, xi (w32 ((xR m1 373 5) + p0))]) (m' := m1) (fun ex ns r q => ?_) ?_
  · refine xw_aload_n rfl rfl rfl ?_
    refine xw_gfR (n := 373) (e := 373) rfl (xw_obd (by decide +kernel)) (by decide +kernel) (by decide +kernel) rfl ?_
    refine xw_gfIc (v := (m1 373 5)) (v' := (xR m1 373 5)) rfl (xw_obd (by decide +kernel)) xk8_5 (qi := 5) rfl rfl rfl ?_
    refine xw_iload_n rfl rfl ?_
    refine xw_iadd rfl ?_
    refine xw_sipush (e := 8192) rfl (by decide +kernel) ?_
    refine xw_cst (st' := [xi 8192, xi (w32 ((xR m1 373 5) + p0))]) (xw_sc rfl (xw_sc (xi_c rfl) rfl)) ?_
    exact q
  refine xS_if (fun h0 => ?_) (fun h0 => ?_)
  · refine xS_of (pc' := 31) (L' := []) (st' := []) (m' := m1) (fun ex ns r q => ?_) ?_
    · refine xw_ic_gtT rfl (w32_cg (w32_w _)) (w32_cg rfl) h0 ?_
      refine xw_lo (L2 := []) (fun _ h => absurd h List.not_mem_nil) ?_
      exact q
    exact ygk172_31 hB _
  · refine xS_of (pc' := 28) (L' := [(0, xa 0), (1, xi p0)]) (st' := [xi 20000, xi (w32 ((xR m1 0 15) + p0))]) (m' := m1) (fun ex ns r q => ?_) ?_
    · refine xw_ic_gtF rfl (w32_cg (w32_w _)) (w32_cg rfl) h0 ?_
      refine xw_aload_n rfl rfl rfl ?_
      refine xw_gfIc (v := (m1 0 15)) (v' := (xR m1 0 15)) rfl (xw_obd (by decide +kernel)) xk0_15 (qi := 15) rfl rfl rfl ?_
      refine xw_iload_n rfl rfl ?_
      refine xw_iadd rfl ?_
      refine xw_sipush (e := 20000) rfl (by decide +kernel) ?_
      refine xw_cst (st' := [xi 20000, xi (w32 ((xR m1 0 15) + p0))]) (xw_sc rfl (xw_sc (xi_c rfl) rfl)) ?_
      exact q
    refine xS_if (fun h1 => ?_) (fun h1 => ?_)
    · refine xS_of (pc' := 31) (L' := []) (st' := []) (m' := m1) (fun ex ns r q => ?_) ?_
      · refine xw_ic_leF rfl (w32_cg (w32_w _)) (w32_cg rfl) (Int.not_le.mpr h1) ?_
        refine xw_lo (L2 := []) (fun _ h => absurd h List.not_mem_nil) ?_
        exact q
      exact ygk172_31 hB _
    · refine xS_of (pc' := 36) (L' := []) (st' := [xi 0]) (m' := m1) (fun ex ns r q => ?_) ?_
      · refine xw_ic_leT rfl (w32_cg (w32_w _)) (w32_cg rfl) (Int.not_lt.mp h1) ?_
        refine xw_iconst rfl ?_
        refine xw_lo (L2 := []) (fun _ h => absurd h List.not_mem_nil) ?_
        exact q
      refine xS_call (q := 39) (n := 1) (kq := 0) (as := [xi 0]) (st1 := []) rfl rfl rfl rfl rfl rfl rfl rfl rfl rfl (fun _ => xw_rcv0 rfl) rfl (List.forall_mem_cons.mpr ⟨rfl, fun _ h => absurd h List.not_mem_nil⟩) (ygf39 hB _ _ rfl) (fun v2 m2 cv2 => ?_)
      exact xS_ret (v := 0) rfl rfl rfl rfl
theorem ysl171_76 {B : Nat} (hB : B ≤ 512) {xs : Nat → Int32} {SL d : Nat} {r27 : Int → Int → xw_M → xP} (hr27 : ∀ x1 x2 m, w32 x1 = x1 → w32 x2 = x2 → xS B xs SL (d + 3) 171 (4, (some .int), [], 1) 1 27 [(0, xa 0), (1, xi x1), (2, xi x2)] [] m (r27 x1 x2 m)) {r76 : Int → Int → Int → xw_M → xP} (hr76 : ∀ x1 x2 x3 m, w32 x1 = x1 → w32 x2 = x2 → w32 x3 = x3 → xS B xs SL (d + 3) 171 (4, (some .int), [], 1) 1 76 [(0, xa 0), (1, xi x1), (2, xi x2), (3, xi x3)] [] m (r76 x1 x2 x3 m)) : ∀ x1 x2 x3 m, w32 x1 = x1 → w32 x2 = x2 → w32 x3 = x3 → xS B xs SL (d + 3) 171 (4, (some .int), [], 1) 1 76 [(0, xa 0), (1, xi x1), (2, xi x2), (3, xi x3)] [] m (yl171_76 B r27 r76 x1 x2 x3 m) := by
  intro x1 x2 x3 m c1 c2 c3
  unfold yl171_76
  refine xS_of (pc' := 84) (L' := [(0, xa 0), (1, xi x1), (2, xi x2), (3, xi x3)]) (st' := [xi (xR m 3 2), xi x3]) (m' := m) (fun ex ns r q => ?_) ?_
  · refine xw_iload_n rfl rfl ?_
    refine xw_aload_n rfl rfl rfl ?_
    refine xw_gfR (n := 3) (e := 3) rfl (xw_obd (by decide +kernel)) (by decide +kernel) (by decide +kernel) rfl ?_
    refine xw_gfIc (v := (m 3 2)) (v' := (xR m 3 2)) rfl (xw_obd (by decide +kernel)) xk2_2 (qi := 2) rfl rfl rfl ?_
    exact q
  refine xS_if (fun h0 => ?_) (fun h0 => ?_)
  · refine xS_g (fun g1 => ?_)
    refine xS_g (fun g2 => ?_)
    refine xS_g (fun g3 => ?_)
    refine xS_of (pc' := 76) (L' := [(0, xa 0), (1, xi x1), (2, xi x2), (3, xi (w32 (x3 + 1)))]) (st' := []) (m' := (xw_u m (385 + x3) (xR m 373 5) (xJ m 418 x3))) (fun ex ns r q => ?_) ?_
    · refine xw_ic_geF rfl (w32_cg c3) (w32_cg (w32_xR _ _ _)) (Int.not_le.mpr h0) ?_
      refine xw_aload_n rfl rfl rfl ?_
      refine xw_gfR (n := 373) (e := 373) rfl (xw_obd (by decide +kernel)) (by decide +kernel) (by decide +kernel) rfl ?_
      refine xw_gfR (n := 384) (e := 384) rfl (xw_obd (by decide +kernel)) (by decide +kernel) (by decide +kernel) rfl ?_
      refine xw_iload_n rfl rfl ?_
      refine xw_aald (t := 21) (n := 8) (q := 385 + 1 * (x3).toNat) (e := (385 + x3)) rfl hB (xw_obd (by decide +kernel)) (by decide) rfl g1 (show 390 + 1 * (x3 : Int).toNat = 385 + 1 * (x3 : Int).toNat + 5 from by omega) (by have := g1; omega) ?_
      refine xw_aload_n rfl rfl rfl ?_
      refine xw_gfR (n := 373) (e := 373) rfl (xw_obd (by decide +kernel)) (by decide +kernel) (by decide +kernel) rfl ?_
      refine xw_gfIc (v := (m 373 5)) (v' := (xR m 373 5)) rfl (xw_obd (by decide +kernel)) xk8_5 (qi := 5) rfl rfl rfl ?_
      refine xw_aload_n rfl rfl rfl ?_
      refine xw_gfR (n := 418) (e := 418) rfl (xw_obd (by decide +kernel)) (by decide +kernel) (by decide +kernel) rfl ?_
      refine xw_iload_n rfl rfl ?_
      refine xw_laldc (n := 8) (v := (m 418 x3)) (v' := (xJ m 418 x3)) rfl hB (xw_obd (by decide +kernel)) rfl g1 rfl rfl ?_
      refine xw_last (n := (xw_le B (385 + x3))) rfl hB (xw_obd g3) rfl g2 ?_
      refine xw_iincc (z := (w32 (x3 + 1))) (L' := [(3, xi (w32 (x3 + 1))), (0, xa 0), (1, xi x1), (2, xi x2)]) rfl rfl (by decide) rfl rfl ?_
      refine xw_goto rfl ?_
      refine xw_lo (L2 := [(0, xa 0), (1, xi x1), (2, xi x2), (3, xi (w32 (x3 + 1)))]) (List.forall_mem_cons.mpr ⟨rfl, List.forall_mem_cons.mpr ⟨rfl, List.forall_mem_cons.mpr ⟨rfl, List.forall_mem_cons.mpr ⟨rfl, fun _ h => absurd h List.not_mem_nil⟩⟩⟩⟩) ?_
      exact q
    exact hr76 _ _ _ _ c1 c2 (w32_w _)
  · refine xS_of (pc' := 27) (L' := [(0, xa 0), (1, xi x1), (2, xi (w32 (x2 + 1)))]) (st' := []) (m' := (xw_u m 373 5 ((xR m 373 5) + 1))) (fun ex ns r q => ?_) ?_
    · refine xw_ic_geT rfl (w32_cg c3) (w32_cg (w32_xR _ _ _)) (Int.not_lt.mp h0) ?_
      refine xw_aload_n rfl rfl rfl ?_
      refine xw_gfR (n := 373) (e := 373) rfl (xw_obd (by decide +kernel)) (by decide +kernel) (by decide +kernel) rfl ?_
      refine xw_dup rfl rfl ?_
      refine xw_gfIc (v := (m 373 5)) (v' := (xR m 373 5)) rfl (xw_obd (by decide +kernel)) xk8_5 (qi := 5) rfl rfl rfl ?_
      refine xw_iconst rfl ?_
      refine xw_iadd rfl ?_
      refine xw_pfI rfl (xw_obd (by decide +kernel)) xk8_5 (qi := 5) rfl (xw_okI rfl) ?_
      refine xw_iincc (z := (w32 (x2 + 1))) (L' := [(2, xi (w32 (x2 + 1))), (0, xa 0), (1, xi x1), (3, xi x3)]) rfl rfl (by decide) rfl rfl ?_
      refine xw_goto rfl ?_
      refine xw_lo (L2 := [(0, xa 0), (1, xi x1), (2, xi (w32 (x2 + 1)))]) (List.forall_mem_cons.mpr ⟨rfl, List.forall_mem_cons.mpr ⟨rfl, List.forall_mem_cons.mpr ⟨rfl, fun _ h => absurd h List.not_mem_nil⟩⟩⟩) ?_
      exact q
    exact hr27 _ _ _ c1 (w32_w _)
theorem ygl171_76 {B : Nat} (hB : B ≤ 512) {xs : Nat → Int32} {SL d : Nat} {r27 : Int → Int → xw_M → xP} (hr27 : ∀ x1 x2 m, w32 x1 = x1 → w32 x2 = x2 → xS B xs SL (d + 3) 171 (4, (some .int), [], 1) 1 27 [(0, xa 0), (1, xi x1), (2, xi x2)] [] m (r27 x1 x2 m)) : ∀ n x1 x2 x3 m, w32 x1 = x1 → w32 x2 = x2 → w32 x3 = x3 → xS B xs SL (d + 3) 171 (4, (some .int), [], 1) 1 76 [(0, xa 0), (1, xi x1), (2, xi x2), (3, xi x3)] [] m (xl3 (yl171_76 B r27) n x1 x2 x3 m) := by
  intro n
  induction n with
  | zero => intro x1 x2 x3 m c1 c2 c3; exact xS_none
  | succ n ih => exact ysl171_76 hB hr27 ih
theorem ysl171_34 {B : Nat} (hB : B ≤ 512) {xs : Nat → Int32} {SL d : Nat} {r27 : Int → Int → xw_M → xP} (hr27 : ∀ x1 x2 m, w32 x1 = x1 → w32 x2 = x2 → xS B xs SL (d + 3) 171 (4, (some .int), [], 1) 1 27 [(0, xa 0), (1, xi x1), (2, xi x2)] [] m (r27 x1 x2 m)) {r34 : Int → Int → Int → xw_M → xP} (hr34 : ∀ x1 x2 x3 m, w32 x1 = x1 → w32 x2 = x2 → w32 x3 = x3 → xS B xs SL (d + 3) 171 (4, (some .int), [], 1) 1 34 [(0, xa 0), (1, xi x1), (2, xi x2), (3, xi x3)] [] m (r34 x1 x2 x3 m)) : ∀ x1 x2 x3 m, w32 x1 = x1 → w32 x2 = x2 → w32 x3 = x3 → xS B xs SL (d + 3) 171 (4, (some .int), [], 1) 1 34 [(0, xa 0), (1, xi x1), (2, xi x2), (3, xi x3)] [] m (yl171_34 B r27 r34 x1 x2 x3 m) := by
  intro x1 x2 x3 m c1 c2 c3
  unfold yl171_34
  refine xS_of (pc' := 42) (L' := [(0, xa 0), (1, xi x1), (2, xi x2), (3, xi x3)]) (st' := [xi (xR m 3 1), xi x3]) (m' := m) (fun ex ns r q => ?_) ?_
  · refine xw_iload_n rfl rfl ?_
    refine xw_aload_n rfl rfl rfl ?_
    refine xw_gfR (n := 3) (e := 3) rfl (xw_obd (by decide +kernel)) (by decide +kernel) (by decide +kernel) rfl ?_
    refine xw_gfIc (v := (m 3 1)) (v' := (xR m 3 1)) rfl (xw_obd (by decide +kernel)) xk2_1 (qi := 1) rfl rfl rfl ?_
    exact q
  refine xS_if (fun h0 => ?_) (fun h0 => ?_)
  · refine xS_g (fun g1 => ?_)
    refine xS_g (fun g2 => ?_)
    refine xS_g (fun g3 => ?_)
    refine xS_of (pc' := 34) (L' := [(0, xa 0), (1, xi x1), (2, xi x2), (3, xi (w32 (x3 + 1)))]) (st' := []) (m' := (xw_u m (376 + x3) (xR m 373 5) (xR m 417 x3))) (fun ex ns r q => ?_) ?_
    · refine xw_ic_geF rfl (w32_cg c3) (w32_cg (w32_xR _ _ _)) (Int.not_le.mpr h0) ?_
      refine xw_aload_n rfl rfl rfl ?_
      refine xw_gfR (n := 373) (e := 373) rfl (xw_obd (by decide +kernel)) (by decide +kernel) (by decide +kernel) rfl ?_
      refine xw_gfR (n := 375) (e := 375) rfl (xw_obd (by decide +kernel)) (by decide +kernel) (by decide +kernel) rfl ?_
      refine xw_iload_n rfl rfl ?_
      refine xw_aald (t := 20) (n := 8) (q := 376 + 1 * (x3).toNat) (e := (376 + x3)) rfl hB (xw_obd (by decide +kernel)) (by decide) rfl g1 (show 381 + 1 * (x3 : Int).toNat = 376 + 1 * (x3 : Int).toNat + 5 from by omega) (by have := g1; omega) ?_
      refine xw_aload_n rfl rfl rfl ?_
      refine xw_gfR (n := 373) (e := 373) rfl (xw_obd (by decide +kernel)) (by decide +kernel) (by decide +kernel) rfl ?_
      refine xw_gfIc (v := (m 373 5)) (v' := (xR m 373 5)) rfl (xw_obd (by decide +kernel)) xk8_5 (qi := 5) rfl rfl rfl ?_
      refine xw_aload_n rfl rfl rfl ?_
      refine xw_gfR (n := 417) (e := 417) rfl (xw_obd (by decide +kernel)) (by decide +kernel) (by decide +kernel) rfl ?_
      refine xw_iload_n rfl rfl ?_
      refine xw_ialdc (n := 8) (v := (m 417 x3)) (v' := (xR m 417 x3)) rfl hB (xw_obd (by decide +kernel)) rfl g1 rfl rfl ?_
      refine xw_iast (n := (xw_le B (376 + x3))) rfl hB (xw_obd g3) rfl g2 ?_
      refine xw_iincc (z := (w32 (x3 + 1))) (L' := [(3, xi (w32 (x3 + 1))), (0, xa 0), (1, xi x1), (2, xi x2)]) rfl rfl (by decide) rfl rfl ?_
      refine xw_goto rfl ?_
      refine xw_lo (L2 := [(0, xa 0), (1, xi x1), (2, xi x2), (3, xi (w32 (x3 + 1)))]) (List.forall_mem_cons.mpr ⟨rfl, List.forall_mem_cons.mpr ⟨rfl, List.forall_mem_cons.mpr ⟨rfl, List.forall_mem_cons.mpr ⟨rfl, fun _ h => absurd h List.not_mem_nil⟩⟩⟩⟩) ?_
      exact q
    exact hr34 _ _ _ _ c1 c2 (w32_w _)
  · refine xS_of (pc' := 76) (L' := [(0, xa 0), (1, xi x1), (2, xi x2), (3, xi 0)]) (st' := []) (m' := m) (fun ex ns r q => ?_) ?_
    · refine xw_ic_geT rfl (w32_cg c3) (w32_cg (w32_xR _ _ _)) (Int.not_lt.mp h0) ?_
      refine xw_iconst rfl ?_
      refine xw_istore_n (L' := [(3, xi 0), (0, xa 0), (1, xi x1), (2, xi x2)]) rfl (by decide) rfl ?_
      refine xw_lo (L2 := [(0, xa 0), (1, xi x1), (2, xi x2), (3, xi 0)]) (List.forall_mem_cons.mpr ⟨rfl, List.forall_mem_cons.mpr ⟨rfl, List.forall_mem_cons.mpr ⟨rfl, List.forall_mem_cons.mpr ⟨rfl, fun _ h => absurd h List.not_mem_nil⟩⟩⟩⟩) ?_
      exact q
    exact ygl171_76 hB hr27 1000000 _ _ _ _ c1 c2 rfl
theorem ygl171_34 {B : Nat} (hB : B ≤ 512) {xs : Nat → Int32} {SL d : Nat} {r27 : Int → Int → xw_M → xP} (hr27 : ∀ x1 x2 m, w32 x1 = x1 → w32 x2 = x2 → xS B xs SL (d + 3) 171 (4, (some .int), [], 1) 1 27 [(0, xa 0), (1, xi x1), (2, xi x2)] [] m (r27 x1 x2 m)) : ∀ n x1 x2 x3 m, w32 x1 = x1 → w32 x2 = x2 → w32 x3 = x3 → xS B xs SL (d + 3) 171 (4, (some .int), [], 1) 1 34 [(0, xa 0), (1, xi x1), (2, xi x2), (3, xi x3)] [] m (xl3 (yl171_34 B r27) n x1 x2 x3 m) := by
  intro n
  induction n with
  | zero => intro x1 x2 x3 m c1 c2 c3; exact xS_none
  | succ n ih => exact ysl171_34 hB hr27 ih
theorem ysl171_27 {B : Nat} (hB : B ≤ 512) {xs : Nat → Int32} {SL d : Nat} {r27 : Int → Int → xw_M → xP} (hr27 : ∀ x1 x2 m, w32 x1 = x1 → w32 x2 = x2 → xS B xs SL (d + 3) 171 (4, (some .int), [], 1) 1 27 [(0, xa 0), (1, xi x1), (2, xi x2)] [] m (r27 x1 x2 m)) : ∀ x1 x2 m, w32 x1 = x1 → w32 x2 = x2 → xS B xs SL (d + 3) 171 (4, (some .int), [], 1) 1 27 [(0, xa 0), (1, xi x1), (2, xi x2)] [] m (yl171_27 B r27 x1 x2 m) := by
  intro x1 x2 m c1 c2
  unfold yl171_27
  refine xS_of (pc' := 29) (L' := [(0, xa 0), (1, xi x1), (2, xi x2)]) (st' := [xi x1, xi x2]) (m' := m) (fun ex ns r q => ?_) ?_
  · refine xw_iload_n rfl rfl ?_
    refine xw_iload_n rfl rfl ?_
    exact q
  refine xS_if (fun h0 => ?_) (fun h0 => ?_)
  · refine xS_of (pc' := 34) (L' := [(0, xa 0), (1, xi x1), (2, xi x2), (3, xi 0)]) (st' := []) (m' := m) (fun ex ns r q => ?_) ?_
    · refine xw_ic_geF rfl (w32_cg c2) (w32_cg c1) (Int.not_le.mpr h0) ?_
      refine xw_iconst rfl ?_
      refine xw_istore_n (L' := [(3, xi 0), (0, xa 0), (1, xi x1), (2, xi x2)]) rfl (by decide) rfl ?_
      refine xw_lo (L2 := [(0, xa 0), (1, xi x1), (2, xi x2), (3, xi 0)]) (List.forall_mem_cons.mpr ⟨rfl, List.forall_mem_cons.mpr ⟨rfl, List.forall_mem_cons.mpr ⟨rfl, List.forall_mem_cons.mpr ⟨rfl, fun _ h => absurd h List.not_mem_nil⟩⟩⟩⟩) ?_
      exact q
    exact ygl171_34 hB hr27 1000000 _ _ _ _ c1 c2 rfl
  · refine xS_of (pc' := 152) (L' := [(0, xa 0), (1, xi x1), (2, xi x2)]) (st' := [xi (xR m 373 5)]) (m' := (xw_u m 0 15 ((xR m 0 15) + x1))) (fun ex ns r q => ?_) ?_
    · refine xw_ic_geT rfl (w32_cg c2) (w32_cg c1) (Int.not_lt.mp h0) ?_
      refine xw_aload_n rfl rfl rfl ?_
      refine xw_dup rfl rfl ?_
      refine xw_gfIc (v := (m 0 15)) (v' := (xR m 0 15)) rfl (xw_obd (by decide +kernel)) xk0_15 (qi := 15) rfl rfl rfl ?_
      refine xw_iload_n rfl rfl ?_
      refine xw_iadd rfl ?_
      refine xw_pfI rfl (xw_obd (by decide +kernel)) xk0_15 (qi := 15) rfl (xw_okI rfl) ?_
      refine xw_aload_n rfl rfl rfl ?_
      refine xw_gfR (n := 373) (e := 373) rfl (xw_obd (by decide +kernel)) (by decide +kernel) (by decide +kernel) rfl ?_
      refine xw_gfIc (v := (m 373 5)) (v' := (xR m 373 5)) rfl (xw_obd (by decide +kernel)) xk8_5 (qi := 5) rfl (xw_un (fun e => absurd e.1 (by decide)) rfl) rfl ?_
      exact q
    exact xS_ret (v := (xR m 373 5)) rfl rfl xw_rtI (w32_xR _ _ _)
theorem ygl171_27 {B : Nat} (hB : B ≤ 512) {xs : Nat → Int32} {SL d : Nat} : ∀ n x1 x2 m, w32 x1 = x1 → w32 x2 = x2 → xS B xs SL (d + 3) 171 (4, (some .int), [], 1) 1 27 [(0, xa 0), (1, xi x1), (2, xi x2)] [] m (xl2 (yl171_27 B) n x1 x2 m) := by
  intro n
  induction n with
  | zero => intro x1 x2 m c1 c2; exact xS_none
  | succ n ih => exact ysl171_27 hB ih
theorem ygk171_16 {B : Nat} (hB : B ≤ 512) {xs : Nat → Int32} {SL d : Nat} : ∀ x1 m, w32 x1 = x1 → xS B xs SL (d + 3) 171 (4, (some .int), [], 1) 1 16 [(0, xa 0), (1, xi x1)] [] m (yk171_16 B x1 m) := by
  intro x1 m c1
  unfold yk171_16
  refine xS_of (pc' := 17) (L' := [(0, xa 0), (1, xi x1)]) (st' := [xi 0]) (m' := m) (fun ex ns r q => ?_) ?_
  · refine xw_iconst rfl ?_
    refine xw_lo (L2 := [(0, xa 0), (1, xi x1)]) (List.forall_mem_cons.mpr ⟨rfl, List.forall_mem_cons.mpr ⟨rfl, fun _ h => absurd h List.not_mem_nil⟩⟩) ?_
    exact q
  refine xS_call (q := 43) (n := 1) (kq := 0) (as := [xi 0]) (st1 := []) rfl rfl rfl rfl rfl rfl rfl rfl rfl rfl (fun _ => xw_rcv0 rfl) rfl (List.forall_mem_cons.mpr ⟨rfl, fun _ h => absurd h List.not_mem_nil⟩) (ygf43 hB _ _ rfl) (fun v1 m1 cv1 => ?_)
  refine xS_of (pc' := 22) (L' := [(0, xa 0), (1, xi x1)]) (st' := [xi x1, xa 0]) (m' := m1) (fun ex ns r q => ?_) ?_
  · refine xw_aload_n rfl rfl rfl ?_
    refine xw_iload_n rfl rfl ?_
    refine xw_lo (L2 := [(0, xa 0), (1, xi x1)]) (List.forall_mem_cons.mpr ⟨rfl, List.forall_mem_cons.mpr ⟨rfl, fun _ h => absurd h List.not_mem_nil⟩⟩) ?_
    exact q
  refine xS_call (q := 172) (n := 2) (kq := 0) (as := [xa 0, xi x1]) (st1 := []) rfl rfl rfl rfl rfl rfl rfl rfl rfl rfl (fun _ => xw_rcv1 (t := 0) (xw_obd (by decide +kernel)) rfl) rfl (List.forall_mem_cons.mpr ⟨rfl, List.forall_mem_cons.mpr ⟨rfl, fun _ h => absurd h List.not_mem_nil⟩⟩) (ygf172 hB _ _ c1) (fun v2 m2 cv2 => ?_)
  refine xS_of (pc' := 27) (L' := [(0, xa 0), (1, xi x1), (2, xi 0)]) (st' := []) (m' := m2) (fun ex ns r q => ?_) ?_
  · refine xw_iconst rfl ?_
    refine xw_istore_n (L' := [(2, xi 0), (0, xa 0), (1, xi x1)]) rfl (by decide) rfl ?_
    refine xw_lo (L2 := [(0, xa 0), (1, xi x1), (2, xi 0)]) (List.forall_mem_cons.mpr ⟨rfl, List.forall_mem_cons.mpr ⟨rfl, List.forall_mem_cons.mpr ⟨rfl, fun _ h => absurd h List.not_mem_nil⟩⟩⟩) ?_
    exact q
  exact ygl171_27 hB 1000000 _ _ _ c1 rfl
theorem ygf171 {B : Nat} (hB : B ≤ 512) {xs : Nat → Int32} {SL d : Nat} : ∀ p0 m, w32 p0 = p0 → xS B xs SL (d + 3) 171 (4, (some .int), [], 1) 1 0 [(0, xa 0), (1, xi p0)] [] m (yf171 B p0 m) := by
  intro p0 m cp0
  unfold yf171
  refine xS_of (pc' := 2) (L' := [(0, xa 0), (1, xi p0)]) (st' := [xi 1, xi p0]) (m' := m) (fun ex ns r q => ?_) ?_
  · refine xw_iload_n rfl rfl ?_
    refine xw_iconst rfl ?_
    exact q
  refine xS_if (fun h0 => ?_) (fun h0 => ?_)
  · refine xS_of (pc' := 16) (L' := [(0, xa 0), (1, xi p0)]) (st' := []) (m' := m) (fun ex ns r q => ?_) ?_
    · refine xw_ic_ltT rfl (w32_cg cp0) (w32_cg rfl) h0 ?_
      refine xw_lo (L2 := [(0, xa 0), (1, xi p0)]) (List.forall_mem_cons.mpr ⟨rfl, List.forall_mem_cons.mpr ⟨rfl, fun _ h => absurd h List.not_mem_nil⟩⟩) ?_
      exact q
    exact ygk171_16 hB _ _ cp0
  · refine xS_of (pc' := 9) (L' := [(0, xa 0), (1, xi p0)]) (st' := [xi 1000, xi p0]) (m' := m) (fun ex ns r q => ?_) ?_
    · refine xw_ic_ltF rfl (w32_cg cp0) (w32_cg rfl) h0 ?_
      refine xw_iload_n rfl rfl ?_
      refine xw_sipush (e := 1000) rfl (by decide +kernel) ?_
      exact q
    refine xS_if (fun h1 => ?_) (fun h1 => ?_)
    · refine xS_of (pc' := 16) (L' := [(0, xa 0), (1, xi p0)]) (st' := []) (m' := m) (fun ex ns r q => ?_) ?_
      · refine xw_ic_gtT rfl (w32_cg cp0) (w32_cg rfl) h1 ?_
        refine xw_lo (L2 := [(0, xa 0), (1, xi p0)]) (List.forall_mem_cons.mpr ⟨rfl, List.forall_mem_cons.mpr ⟨rfl, fun _ h => absurd h List.not_mem_nil⟩⟩) ?_
        exact q
      exact ygk171_16 hB _ _ cp0
    · refine xS_of (pc' := 17) (L' := [(0, xa 0), (1, xi p0)]) (st' := [xi 1]) (m' := m) (fun ex ns r q => ?_) ?_
      · refine xw_ic_gtF rfl (w32_cg cp0) (w32_cg rfl) h1 ?_
        refine xw_iconst rfl ?_
        refine xw_goto rfl ?_
        refine xw_lo (L2 := [(0, xa 0), (1, xi p0)]) (List.forall_mem_cons.mpr ⟨rfl, List.forall_mem_cons.mpr ⟨rfl, fun _ h => absurd h List.not_mem_nil⟩⟩) ?_
        exact q
      refine xS_call (q := 43) (n := 1) (kq := 0) (as := [xi 1]) (st1 := []) rfl rfl rfl rfl rfl rfl rfl rfl rfl rfl (fun _ => xw_rcv0 rfl) rfl (List.forall_mem_cons.mpr ⟨rfl, fun _ h => absurd h List.not_mem_nil⟩) (ygf43 hB _ _ rfl) (fun v1 m1 cv1 => ?_)
      refine xS_of (pc' := 22) (L' := [(0, xa 0), (1, xi p0)]) (st' := [xi p0, xa 0]) (m' := m1) (fun ex ns r q => ?_) ?_
      · refine xw_aload_n rfl rfl rfl ?_
        refine xw_iload_n rfl rfl ?_
        refine xw_lo (L2 := [(0, xa 0), (1, xi p0)]) (List.forall_mem_cons.mpr ⟨rfl, List.forall_mem_cons.mpr ⟨rfl, fun _ h => absurd h List.not_mem_nil⟩⟩) ?_
        exact q
      refine xS_call (q := 172) (n := 2) (kq := 0) (as := [xa 0, xi p0]) (st1 := []) rfl rfl rfl rfl rfl rfl rfl rfl rfl rfl (fun _ => xw_rcv1 (t := 0) (xw_obd (by decide +kernel)) rfl) rfl (List.forall_mem_cons.mpr ⟨rfl, List.forall_mem_cons.mpr ⟨rfl, fun _ h => absurd h List.not_mem_nil⟩⟩) (ygf172 hB _ _ cp0) (fun v2 m2 cv2 => ?_)
      refine xS_of (pc' := 27) (L' := [(0, xa 0), (1, xi p0), (2, xi 0)]) (st' := []) (m' := m2) (fun ex ns r q => ?_) ?_
      · refine xw_iconst rfl ?_
        refine xw_istore_n (L' := [(2, xi 0), (0, xa 0), (1, xi p0)]) rfl (by decide) rfl ?_
        refine xw_lo (L2 := [(0, xa 0), (1, xi p0), (2, xi 0)]) (List.forall_mem_cons.mpr ⟨rfl, List.forall_mem_cons.mpr ⟨rfl, List.forall_mem_cons.mpr ⟨rfl, fun _ h => absurd h List.not_mem_nil⟩⟩⟩) ?_
        exact q
      exact ygl171_27 hB 1000000 _ _ _ cp0 rfl

