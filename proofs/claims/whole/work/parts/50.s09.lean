/-! the machine does what the functions say, 9 -/
theorem ygk271_234 {B : Nat} (hB : B ≤ 512) {xs : Nat → Int32} {SL d : Nat} : ∀ x1 x2 x4 m, w32 x1 = x1 → w32 x2 = x2 → w32 x4 = x4 → xS B xs SL (d + 5) 271 (6, none, [], 13) 0 234 [(0, xa 536), (1, xi x1), (2, xi x2), (4, xi x4)] [] m (yk271_234 B x1 x2 x4 m) := by
  intro x1 x2 x4 m c1 c2 c4
  unfold yk271_234
  refine xS_g (fun g0 => ?_)
  refine xS_g (fun g1 => ?_)
  refine xS_g (fun g2 => ?_)
  refine xS_g (fun g3 => ?_)
  refine xS_g (fun g4 => ?_)
  refine xS_g (fun g5 => ?_)
  refine xS_g (fun g6 => ?_)
  refine xS_of (pc' := 296) (L' := [(0, xa 536), (1, xi x1), (2, xi x2), (4, xi x4)]) (st' := []) (m' := (xw_u (xw_u (xw_u (xw_u m (xw_rf (m 536 23) 1) (xR m (m 536 23) 0) x2) (xw_rf (m 536 23) 2) (xR m (m 536 23) 0) x4) (xw_rf (m 536 23) 3) (xR m (m 536 23) 0) x1) (m 536 23) 0 ((xR m (m 536 23) 0) + 1))) (fun ex ns r q => ?_) ?_
  · refine xw_aload_n rfl rfl rfl ?_
    refine xw_gfM (v := (m 536 23)) rfl (xw_obd (by decide +kernel)) xk12_23 (qi := 23) rfl rfl ?_
    refine xw_gfV (qi := 1) rfl (xw_obd g0) xk13_1 rfl ?_
    refine xw_aload_n rfl rfl rfl ?_
    refine xw_gfM (v := (m 536 23)) rfl (xw_obd (by decide +kernel)) xk12_23 (qi := 23) rfl rfl ?_
    refine xw_gfIc (v := (m (m 536 23) 0)) (v' := (xR m (m 536 23) 0)) rfl (xw_obd g0) xk13_0 (qi := 0) rfl rfl rfl ?_
    refine xw_iload_n rfl rfl ?_
    refine xw_iast (n := (xw_le B (xw_rf (m 536 23) 1))) rfl hB (xw_obd g2) rfl g1 ?_
    refine xw_aload_n rfl rfl rfl ?_
    refine xw_gfM (v := (m 536 23)) rfl (xw_obd (by decide +kernel)) xk12_23 (qi := 23) rfl (xw_un (xw_obne (t := 16) (t' := 12) (xw_obd g2) (xw_obd (by decide +kernel)) (by decide)) rfl) ?_
    refine xw_gfV (qi := 2) rfl (xw_obd g0) xk13_2 rfl ?_
    refine xw_aload_n rfl rfl rfl ?_
    refine xw_gfM (v := (m 536 23)) rfl (xw_obd (by decide +kernel)) xk12_23 (qi := 23) rfl (xw_un (xw_obne (t := 16) (t' := 12) (xw_obd g2) (xw_obd (by decide +kernel)) (by decide)) rfl) ?_
    refine xw_gfIc (v := (m (m 536 23) 0)) (v' := (xR m (m 536 23) 0)) rfl (xw_obd g0) xk13_0 (qi := 0) rfl (xw_un (xw_obne (t := 16) (t' := 13) (xw_obd g2) (xw_obd g0) (by decide)) rfl) rfl ?_
    refine xw_iload rfl rfl ?_
    refine xw_iast (n := (xw_le B (xw_rf (m 536 23) 2))) rfl hB (xw_obd g4) rfl g3 ?_
    refine xw_aload_n rfl rfl rfl ?_
    refine xw_gfM (v := (m 536 23)) rfl (xw_obd (by decide +kernel)) xk12_23 (qi := 23) rfl (xw_un (xw_obne (t := 16) (t' := 12) (xw_obd g4) (xw_obd (by decide +kernel)) (by decide)) (xw_un (xw_obne (t := 16) (t' := 12) (xw_obd g2) (xw_obd (by decide +kernel)) (by decide)) rfl)) ?_
    refine xw_gfV (qi := 3) rfl (xw_obd g0) xk13_3 rfl ?_
    refine xw_aload_n rfl rfl rfl ?_
    refine xw_gfM (v := (m 536 23)) rfl (xw_obd (by decide +kernel)) xk12_23 (qi := 23) rfl (xw_un (xw_obne (t := 16) (t' := 12) (xw_obd g4) (xw_obd (by decide +kernel)) (by decide)) (xw_un (xw_obne (t := 16) (t' := 12) (xw_obd g2) (xw_obd (by decide +kernel)) (by decide)) rfl)) ?_
    refine xw_gfIc (v := (m (m 536 23) 0)) (v' := (xR m (m 536 23) 0)) rfl (xw_obd g0) xk13_0 (qi := 0) rfl (xw_un (xw_obne (t := 16) (t' := 13) (xw_obd g4) (xw_obd g0) (by decide)) (xw_un (xw_obne (t := 16) (t' := 13) (xw_obd g2) (xw_obd g0) (by decide)) rfl)) rfl ?_
    refine xw_iload_n rfl rfl ?_
    refine xw_iast (n := (xw_le B (xw_rf (m 536 23) 3))) rfl hB (xw_obd g6) rfl g5 ?_
    refine xw_aload_n rfl rfl rfl ?_
    refine xw_gfM (v := (m 536 23)) rfl (xw_obd (by decide +kernel)) xk12_23 (qi := 23) rfl (xw_un (xw_obne (t := 16) (t' := 12) (xw_obd g6) (xw_obd (by decide +kernel)) (by decide)) (xw_un (xw_obne (t := 16) (t' := 12) (xw_obd g4) (xw_obd (by decide +kernel)) (by decide)) (xw_un (xw_obne (t := 16) (t' := 12) (xw_obd g2) (xw_obd (by decide +kernel)) (by decide)) rfl))) ?_
    refine xw_dup rfl rfl ?_
    refine xw_gfIc (v := (m (m 536 23) 0)) (v' := (xR m (m 536 23) 0)) rfl (xw_obd g0) xk13_0 (qi := 0) rfl (xw_un (xw_obne (t := 16) (t' := 13) (xw_obd g6) (xw_obd g0) (by decide)) (xw_un (xw_obne (t := 16) (t' := 13) (xw_obd g4) (xw_obd g0) (by decide)) (xw_un (xw_obne (t := 16) (t' := 13) (xw_obd g2) (xw_obd g0) (by decide)) rfl))) rfl ?_
    refine xw_iconst rfl ?_
    refine xw_iadd rfl ?_
    refine xw_pfI rfl (xw_obd g0) xk13_0 (qi := 0) rfl (xw_okI rfl) ?_
    exact q
  exact xS_ret (v := 0) rfl rfl rfl rfl
theorem ygk271_226 {B : Nat} (hB : B ≤ 512) {xs : Nat → Int32} {SL d : Nat} : ∀ x1 x2 x4 m, w32 x1 = x1 → w32 x2 = x2 → w32 x4 = x4 → xS B xs SL (d + 5) 271 (6, none, [], 13) 0 226 [(0, xa 536), (1, xi x1), (2, xi x2), (4, xi x4)] [] m (yk271_226 B x1 x2 x4 m) := by
  intro x1 x2 x4 m c1 c2 c4
  unfold yk271_226
  refine xS_of (pc' := 229) (L' := [(0, xa 536), (1, xi x1), (2, xi x2), (4, xi x4)]) (st' := [xi 41, xa 536]) (m' := m) (fun ex ns r q => ?_) ?_
  · refine xw_aload_n rfl rfl rfl ?_
    refine xw_bipush (e := 41) rfl (by decide +kernel) ?_
    refine xw_lo (L2 := [(0, xa 536), (1, xi x1), (2, xi x2), (4, xi x4)]) (List.forall_mem_cons.mpr ⟨rfl, List.forall_mem_cons.mpr ⟨rfl, List.forall_mem_cons.mpr ⟨rfl, List.forall_mem_cons.mpr ⟨rfl, fun _ h => absurd h List.not_mem_nil⟩⟩⟩⟩) ?_
    exact q
  refine xS_call (q := 265) (n := 2) (kq := 4) (as := [xa 536, xi 41]) (st1 := []) rfl rfl rfl rfl rfl rfl rfl rfl rfl rfl (fun _ => xw_rcv1 (t := 12) (xw_obd (by decide +kernel)) rfl) rfl (List.forall_mem_cons.mpr ⟨rfl, List.forall_mem_cons.mpr ⟨rfl, fun _ h => absurd h List.not_mem_nil⟩⟩) (ygf265 hB _ _ rfl) (fun v1 m1 cv1 => ?_)
  refine xS_of (pc' := 234) (L' := [(0, xa 536), (1, xi x1), (2, xi x2), (4, xi x4)]) (st' := []) (m' := m1) (fun ex ns r q => ?_) ?_
  · refine xw_istore (L' := [(5, xi v1), (0, xa 536), (1, xi x1), (2, xi x2), (4, xi x4)]) rfl (by decide) rfl ?_
    refine xw_lo (L2 := [(0, xa 536), (1, xi x1), (2, xi x2), (4, xi x4)]) (List.forall_mem_cons.mpr ⟨rfl, List.forall_mem_cons.mpr ⟨rfl, List.forall_mem_cons.mpr ⟨rfl, List.forall_mem_cons.mpr ⟨rfl, fun _ h => absurd h List.not_mem_nil⟩⟩⟩⟩) ?_
    exact q
  exact ygk271_234 hB _ _ _ _ c1 c2 c4
theorem ygf271 {B : Nat} (hB : B ≤ 512) {xs : Nat → Int32} {SL d : Nat} : ∀ m, xS B xs SL (d + 5) 271 (6, none, [], 13) 0 0 [(0, xa 536)] [] m (yf271 B m) := by
  intro m
  unfold yf271
  refine xS_of (pc' := 8) (L' := [(0, xa 536), (1, xi (xR m 536 9))]) (st' := [xi 10, xa 536]) (m' := m) (fun ex ns r q => ?_) ?_
  · refine xw_aload_n rfl rfl rfl ?_
    refine xw_gfIc (v := (m 536 9)) (v' := (xR m 536 9)) rfl (xw_obd (by decide +kernel)) xk12_9 (qi := 9) rfl rfl rfl ?_
    refine xw_istore_n (L' := [(1, xi (xR m 536 9)), (0, xa 536)]) rfl (by decide) rfl ?_
    refine xw_aload_n rfl rfl rfl ?_
    refine xw_bipush (e := 10) rfl (by decide +kernel) ?_
    refine xw_lo (L2 := [(0, xa 536), (1, xi (xR m 536 9))]) (List.forall_mem_cons.mpr ⟨rfl, List.forall_mem_cons.mpr ⟨rfl, fun _ h => absurd h List.not_mem_nil⟩⟩) ?_
    exact q
  refine xS_call (q := 257) (n := 2) (kq := 4) (as := [xa 536, xi 10]) (st1 := []) rfl rfl rfl rfl rfl rfl rfl rfl rfl rfl (fun _ => xw_rcv1 (t := 12) (xw_obd (by decide +kernel)) rfl) rfl (List.forall_mem_cons.mpr ⟨rfl, List.forall_mem_cons.mpr ⟨rfl, fun _ h => absurd h List.not_mem_nil⟩⟩) (ygf257 hB _ _ rfl) (fun v1 m1 cv1 => ?_)
  refine xS_if (fun h0 => ?_) (fun h0 => ?_)
  · refine xS_of (pc' := 21) (L' := [(0, xa 536), (1, xi (xR m 536 9))]) (st' := [xi 12, xa 536]) (m' := m1) (fun ex ns r q => ?_) ?_
    · refine xw_if_eqT rfl (w32_cg (w32_of (xw_zr cv1))) h0 ?_
      refine xw_aload_n rfl rfl rfl ?_
      refine xw_bipush (e := 12) rfl (by decide +kernel) ?_
      refine xw_lo (L2 := [(0, xa 536), (1, xi (xR m 536 9))]) (List.forall_mem_cons.mpr ⟨rfl, List.forall_mem_cons.mpr ⟨rfl, fun _ h => absurd h List.not_mem_nil⟩⟩) ?_
      exact q
    refine xS_call (q := 257) (n := 2) (kq := 4) (as := [xa 536, xi 12]) (st1 := []) rfl rfl rfl rfl rfl rfl rfl rfl rfl rfl (fun _ => xw_rcv1 (t := 12) (xw_obd (by decide +kernel)) rfl) rfl (List.forall_mem_cons.mpr ⟨rfl, List.forall_mem_cons.mpr ⟨rfl, fun _ h => absurd h List.not_mem_nil⟩⟩) (ygf257 hB _ _ rfl) (fun v2 m2 cv2 => ?_)
    refine xS_if (fun h1 => ?_) (fun h1 => ?_)
    · refine xS_of (pc' := 34) (L' := [(0, xa 536), (1, xi (xR m 536 9))]) (st' := [xi 13, xa 536]) (m' := m2) (fun ex ns r q => ?_) ?_
      · refine xw_if_eqT rfl (w32_cg (w32_of (xw_zr cv2))) h1 ?_
        refine xw_aload_n rfl rfl rfl ?_
        refine xw_bipush (e := 13) rfl (by decide +kernel) ?_
        refine xw_lo (L2 := [(0, xa 536), (1, xi (xR m 536 9))]) (List.forall_mem_cons.mpr ⟨rfl, List.forall_mem_cons.mpr ⟨rfl, fun _ h => absurd h List.not_mem_nil⟩⟩) ?_
        exact q
      refine xS_call (q := 257) (n := 2) (kq := 4) (as := [xa 536, xi 13]) (st1 := []) rfl rfl rfl rfl rfl rfl rfl rfl rfl rfl (fun _ => xw_rcv1 (t := 12) (xw_obd (by decide +kernel)) rfl) rfl (List.forall_mem_cons.mpr ⟨rfl, List.forall_mem_cons.mpr ⟨rfl, fun _ h => absurd h List.not_mem_nil⟩⟩) (ygf257 hB _ _ rfl) (fun v3 m3 cv3 => ?_)
      refine xS_if (fun h2 => ?_) (fun h2 => ?_)
      · refine xS_of (pc' := 47) (L' := [(0, xa 536), (1, xi (xR m 536 9))]) (st' := [xi 11, xa 536]) (m' := m3) (fun ex ns r q => ?_) ?_
        · refine xw_if_eqT rfl (w32_cg (w32_of (xw_zr cv3))) h2 ?_
          refine xw_aload_n rfl rfl rfl ?_
          refine xw_bipush (e := 11) rfl (by decide +kernel) ?_
          refine xw_lo (L2 := [(0, xa 536), (1, xi (xR m 536 9))]) (List.forall_mem_cons.mpr ⟨rfl, List.forall_mem_cons.mpr ⟨rfl, fun _ h => absurd h List.not_mem_nil⟩⟩) ?_
          exact q
        refine xS_call (q := 257) (n := 2) (kq := 4) (as := [xa 536, xi 11]) (st1 := []) rfl rfl rfl rfl rfl rfl rfl rfl rfl rfl (fun _ => xw_rcv1 (t := 12) (xw_obd (by decide +kernel)) rfl) rfl (List.forall_mem_cons.mpr ⟨rfl, List.forall_mem_cons.mpr ⟨rfl, fun _ h => absurd h List.not_mem_nil⟩⟩) (ygf257 hB _ _ rfl) (fun v4 m4 cv4 => ?_)
        refine xS_if (fun h3 => ?_) (fun h3 => ?_)
        · refine xS_of (pc' := 60) (L' := [(0, xa 536), (1, xi (xR m 536 9))]) (st' := [xi 9, xa 536]) (m' := m4) (fun ex ns r q => ?_) ?_
          · refine xw_if_eqT rfl (w32_cg (w32_of (xw_zr cv4))) h3 ?_
            refine xw_aload_n rfl rfl rfl ?_
            refine xw_bipush (e := 9) rfl (by decide +kernel) ?_
            refine xw_lo (L2 := [(0, xa 536), (1, xi (xR m 536 9))]) (List.forall_mem_cons.mpr ⟨rfl, List.forall_mem_cons.mpr ⟨rfl, fun _ h => absurd h List.not_mem_nil⟩⟩) ?_
            exact q
          refine xS_call (q := 257) (n := 2) (kq := 4) (as := [xa 536, xi 9]) (st1 := []) rfl rfl rfl rfl rfl rfl rfl rfl rfl rfl (fun _ => xw_rcv1 (t := 12) (xw_obd (by decide +kernel)) rfl) rfl (List.forall_mem_cons.mpr ⟨rfl, List.forall_mem_cons.mpr ⟨rfl, fun _ h => absurd h List.not_mem_nil⟩⟩) (ygf257 hB _ _ rfl) (fun v5 m5 cv5 => ?_)
          refine xS_if (fun h4 => ?_) (fun h4 => ?_)
          · refine xS_of (pc' := 77) (L' := [(0, xa 536), (1, xi (xR m 536 9)), (2, xi 0)]) (st' := [xa 536]) (m' := m5) (fun ex ns r q => ?_) ?_
            · refine xw_if_eqT rfl (w32_cg (w32_of (xw_zr cv5))) h4 ?_
              refine xw_iconst rfl ?_
              refine xw_istore_n (L' := [(2, xi 0), (0, xa 536), (1, xi (xR m 536 9))]) rfl (by decide) rfl ?_
              refine xw_iload_n rfl rfl ?_
              refine xw_if_neF rfl (w32_cg rfl) (by decide) ?_
              refine xw_aload_n rfl rfl rfl ?_
              refine xw_lo (L2 := [(0, xa 536), (1, xi (xR m 536 9)), (2, xi 0)]) (List.forall_mem_cons.mpr ⟨rfl, List.forall_mem_cons.mpr ⟨rfl, List.forall_mem_cons.mpr ⟨rfl, fun _ h => absurd h List.not_mem_nil⟩⟩⟩) ?_
              exact q
            refine xS_call (q := 272) (n := 1) (kq := 1) (as := [xa 536]) (st1 := []) rfl rfl rfl rfl rfl rfl rfl rfl rfl rfl (fun _ => xw_rcv1 (t := 12) (xw_obd (by decide +kernel)) rfl) rfl (List.forall_mem_cons.mpr ⟨rfl, fun _ h => absurd h List.not_mem_nil⟩) (ygf272 hB _) (fun v6 m6 cv6 => ?_)
            refine xS_g (fun g5 => ?_)
            refine xS_of (pc' := 95) (L' := [(3, xi v6), (0, xa 536), (1, xi (xR m 536 9)), (2, xi 0)]) (st' := [xi 24, xi (xR m6 (m6 536 23) 0), xa 536]) (m' := m6) (fun ex ns r q => ?_) ?_
            · refine xw_goto rfl ?_
              refine xw_istore_n (L' := [(3, xi v6), (0, xa 536), (1, xi (xR m 536 9)), (2, xi 0)]) rfl (by decide) rfl ?_
              refine xw_aload_n rfl rfl rfl ?_
              refine xw_aload_n rfl rfl rfl ?_
              refine xw_gfM (v := (m6 536 23)) rfl (xw_obd (by decide +kernel)) xk12_23 (qi := 23) rfl rfl ?_
              refine xw_gfIc (v := (m6 (m6 536 23) 0)) (v' := (xR m6 (m6 536 23) 0)) rfl (xw_obd g5) xk13_0 (qi := 0) rfl rfl rfl ?_
              refine xw_bipush (e := 24) rfl (by decide +kernel) ?_
              exact q
            refine xS_if (fun h6 => ?_) (fun h6 => ?_)
            · refine xS_of (pc' := 106) (L' := [(0, xa 536), (1, xi (xR m 536 9)), (2, xi 0), (3, xi v6)]) (st' := [xi (xR m 536 9), xi 7, xi 1, xa 536]) (m' := m6) (fun ex ns r q => ?_) ?_
              · refine xw_ic_geF rfl (w32_cg (w32_xR _ _ _)) (w32_cg rfl) (Int.not_le.mpr h6) ?_
                refine xw_iconst rfl ?_
                refine xw_goto rfl ?_
                refine xw_bipush (e := 7) rfl (by decide +kernel) ?_
                refine xw_iload_n rfl rfl ?_
                refine xw_lo (L2 := [(0, xa 536), (1, xi (xR m 536 9)), (2, xi 0), (3, xi v6)]) (List.forall_mem_cons.mpr ⟨rfl, List.forall_mem_cons.mpr ⟨rfl, List.forall_mem_cons.mpr ⟨rfl, List.forall_mem_cons.mpr ⟨rfl, fun _ h => absurd h List.not_mem_nil⟩⟩⟩⟩) ?_
                exact q
              refine xS_call (q := 254) (n := 4) (kq := 4) (as := [xa 536, xi 1, xi 7, xi (xR m 536 9)]) (st1 := []) rfl rfl rfl rfl rfl rfl rfl rfl rfl rfl (fun _ => xw_rcv1 (t := 12) (xw_obd (by decide +kernel)) rfl) rfl (List.forall_mem_cons.mpr ⟨rfl, List.forall_mem_cons.mpr ⟨rfl, List.forall_mem_cons.mpr ⟨rfl, List.forall_mem_cons.mpr ⟨rfl, fun _ h => absurd h List.not_mem_nil⟩⟩⟩⟩) (ygf254 hB _ _ _ _ rfl rfl (w32_xR _ _ _)) (fun v7 m7 cv7 => ?_)
              refine xS_if (fun h7 => ?_) (fun h7 => ?_)
              · refine xS_of (pc' := 112) (L' := [(0, xa 536), (1, xi (xR m 536 9)), (2, xi 0), (3, xi v6)]) (st' := []) (m' := m7) (fun ex ns r q => ?_) ?_
                · refine xw_if_neF rfl (w32_cg (w32_of (xw_zr cv7))) h7 ?_
                  exact q
                exact xS_ret (v := 0) rfl rfl rfl rfl
              · refine xS_of (pc' := 122) (L' := [(0, xa 536), (1, xi (xR m 536 9)), (2, xi 0)]) (st' := [xi v6, xa 536]) (m' := m7) (fun ex ns r q => ?_) ?_
                · refine xw_if_neT rfl (w32_cg (w32_of (xw_zr cv7))) h7 ?_
                  refine xw_iconst rfl ?_
                  refine xw_istore (L' := [(4, xi 0), (0, xa 536), (1, xi (xR m 536 9)), (2, xi 0), (3, xi v6)]) rfl (by decide) rfl ?_
                  refine xw_iload_n rfl rfl ?_
                  refine xw_if_neF rfl (w32_cg rfl) (by decide) ?_
                  refine xw_aload_n rfl rfl rfl ?_
                  refine xw_iload_n rfl rfl ?_
                  refine xw_lo (L2 := [(0, xa 536), (1, xi (xR m 536 9)), (2, xi 0)]) (List.forall_mem_cons.mpr ⟨rfl, List.forall_mem_cons.mpr ⟨rfl, List.forall_mem_cons.mpr ⟨rfl, fun _ h => absurd h List.not_mem_nil⟩⟩⟩) ?_
                  exact q
                refine xS_call (q := 273) (n := 2) (kq := 1) (as := [xa 536, xi v6]) (st1 := []) rfl rfl rfl rfl rfl rfl rfl rfl rfl rfl (fun _ => xw_rcv1 (t := 12) (xw_obd (by decide +kernel)) rfl) rfl (List.forall_mem_cons.mpr ⟨rfl, List.forall_mem_cons.mpr ⟨rfl, fun _ h => absurd h List.not_mem_nil⟩⟩) (ygf273 hB _ _ cv6) (fun v8 m8 cv8 => ?_)
                refine xS_of (pc' := 234) (L' := [(0, xa 536), (1, xi (xR m 536 9)), (2, xi 0), (4, xi v8)]) (st' := []) (m' := m8) (fun ex ns r q => ?_) ?_
                · refine xw_istore (L' := [(4, xi v8), (0, xa 536), (1, xi (xR m 536 9)), (2, xi 0)]) rfl (by decide) rfl ?_
                  refine xw_goto rfl ?_
                  refine xw_lo (L2 := [(0, xa 536), (1, xi (xR m 536 9)), (2, xi 0), (4, xi v8)]) (List.forall_mem_cons.mpr ⟨rfl, List.forall_mem_cons.mpr ⟨rfl, List.forall_mem_cons.mpr ⟨rfl, List.forall_mem_cons.mpr ⟨rfl, fun _ h => absurd h List.not_mem_nil⟩⟩⟩⟩) ?_
                  exact q
                exact ygk271_234 hB _ _ _ _ (w32_xR _ _ _) rfl cv8
            · refine xS_of (pc' := 106) (L' := [(0, xa 536), (1, xi (xR m 536 9)), (2, xi 0), (3, xi v6)]) (st' := [xi (xR m 536 9), xi 7, xi 0, xa 536]) (m' := m6) (fun ex ns r q => ?_) ?_
              · refine xw_ic_geT rfl (w32_cg (w32_xR _ _ _)) (w32_cg rfl) (Int.not_lt.mp h6) ?_
                refine xw_iconst rfl ?_
                refine xw_bipush (e := 7) rfl (by decide +kernel) ?_
                refine xw_iload_n rfl rfl ?_
                refine xw_lo (L2 := [(0, xa 536), (1, xi (xR m 536 9)), (2, xi 0), (3, xi v6)]) (List.forall_mem_cons.mpr ⟨rfl, List.forall_mem_cons.mpr ⟨rfl, List.forall_mem_cons.mpr ⟨rfl, List.forall_mem_cons.mpr ⟨rfl, fun _ h => absurd h List.not_mem_nil⟩⟩⟩⟩) ?_
                exact q
              refine xS_call (q := 254) (n := 4) (kq := 4) (as := [xa 536, xi 0, xi 7, xi (xR m 536 9)]) (st1 := []) rfl rfl rfl rfl rfl rfl rfl rfl rfl rfl (fun _ => xw_rcv1 (t := 12) (xw_obd (by decide +kernel)) rfl) rfl (List.forall_mem_cons.mpr ⟨rfl, List.forall_mem_cons.mpr ⟨rfl, List.forall_mem_cons.mpr ⟨rfl, List.forall_mem_cons.mpr ⟨rfl, fun _ h => absurd h List.not_mem_nil⟩⟩⟩⟩) (ygf254 hB _ _ _ _ rfl rfl (w32_xR _ _ _)) (fun v9 m9 cv9 => ?_)
              refine xS_if (fun h7 => ?_) (fun h7 => ?_)
              · refine xS_of (pc' := 112) (L' := [(0, xa 536), (1, xi (xR m 536 9)), (2, xi 0), (3, xi v6)]) (st' := []) (m' := m9) (fun ex ns r q => ?_) ?_
                · refine xw_if_neF rfl (w32_cg (w32_of (xw_zr cv9))) h7 ?_
                  exact q
                exact xS_ret (v := 0) rfl rfl rfl rfl
              · refine xS_of (pc' := 122) (L' := [(0, xa 536), (1, xi (xR m 536 9)), (2, xi 0)]) (st' := [xi v6, xa 536]) (m' := m9) (fun ex ns r q => ?_) ?_
                · refine xw_if_neT rfl (w32_cg (w32_of (xw_zr cv9))) h7 ?_
                  refine xw_iconst rfl ?_
                  refine xw_istore (L' := [(4, xi 0), (0, xa 536), (1, xi (xR m 536 9)), (2, xi 0), (3, xi v6)]) rfl (by decide) rfl ?_
                  refine xw_iload_n rfl rfl ?_
                  refine xw_if_neF rfl (w32_cg rfl) (by decide) ?_
                  refine xw_aload_n rfl rfl rfl ?_
                  refine xw_iload_n rfl rfl ?_
                  refine xw_lo (L2 := [(0, xa 536), (1, xi (xR m 536 9)), (2, xi 0)]) (List.forall_mem_cons.mpr ⟨rfl, List.forall_mem_cons.mpr ⟨rfl, List.forall_mem_cons.mpr ⟨rfl, fun _ h => absurd h List.not_mem_nil⟩⟩⟩) ?_
                  exact q
                refine xS_call (q := 273) (n := 2) (kq := 1) (as := [xa 536, xi v6]) (st1 := []) rfl rfl rfl rfl rfl rfl rfl rfl rfl rfl (fun _ => xw_rcv1 (t := 12) (xw_obd (by decide +kernel)) rfl) rfl (List.forall_mem_cons.mpr ⟨rfl, List.forall_mem_cons.mpr ⟨rfl, fun _ h => absurd h List.not_mem_nil⟩⟩) (ygf273 hB _ _ cv6) (fun v10 m10 cv10 => ?_)
                refine xS_of (pc' := 234) (L' := [(0, xa 536), (1, xi (xR m 536 9)), (2, xi 0), (4, xi v10)]) (st' := []) (m' := m10) (fun ex ns r q => ?_) ?_
                · refine xw_istore (L' := [(4, xi v10), (0, xa 536), (1, xi (xR m 536 9)), (2, xi 0)]) rfl (by decide) rfl ?_
                  refine xw_goto rfl ?_
                  refine xw_lo (L2 := [(0, xa 536), (1, xi (xR m 536 9)), (2, xi 0), (4, xi v10)]) (List.forall_mem_cons.mpr ⟨rfl, List.forall_mem_cons.mpr ⟨rfl, List.forall_mem_cons.mpr ⟨rfl, List.forall_mem_cons.mpr ⟨rfl, fun _ h => absurd h List.not_mem_nil⟩⟩⟩⟩) ?_
                  exact q
                exact ygk271_234 hB _ _ _ _ (w32_xR _ _ _) rfl cv10
          · refine xS_g (fun g5 => ?_)
            refine xS_of (pc' := 95) (L' := [(3, xi 0), (2, xi 5), (0, xa 536), (1, xi (xR m 536 9))]) (st' := [xi 24, xi (xR m5 (m5 536 23) 0), xa 536]) (m' := m5) (fun ex ns r q => ?_) ?_
            · refine xw_if_eqF rfl (w32_cg (w32_of (xw_zr cv5))) h4 ?_
              refine xw_iconst rfl ?_
              refine xw_goto rfl ?_
              refine xw_istore_n (L' := [(2, xi 5), (0, xa 536), (1, xi (xR m 536 9))]) rfl (by decide) rfl ?_
              refine xw_iload_n rfl rfl ?_
              refine xw_if_neT rfl (w32_cg rfl) (by decide) ?_
              refine xw_iconst rfl ?_
              refine xw_istore_n (L' := [(3, xi 0), (2, xi 5), (0, xa 536), (1, xi (xR m 536 9))]) rfl (by decide) rfl ?_
              refine xw_aload_n rfl rfl rfl ?_
              refine xw_aload_n rfl rfl rfl ?_
              refine xw_gfM (v := (m5 536 23)) rfl (xw_obd (by decide +kernel)) xk12_23 (qi := 23) rfl rfl ?_
              refine xw_gfIc (v := (m5 (m5 536 23) 0)) (v' := (xR m5 (m5 536 23) 0)) rfl (xw_obd g5) xk13_0 (qi := 0) rfl rfl rfl ?_
              refine xw_bipush (e := 24) rfl (by decide +kernel) ?_
              exact q
            refine xS_if (fun h6 => ?_) (fun h6 => ?_)
            · refine xS_of (pc' := 106) (L' := [(0, xa 536), (1, xi (xR m 536 9)), (2, xi 5), (3, xi 0)]) (st' := [xi (xR m 536 9), xi 7, xi 1, xa 536]) (m' := m5) (fun ex ns r q => ?_) ?_
              · refine xw_ic_geF rfl (w32_cg (w32_xR _ _ _)) (w32_cg rfl) (Int.not_le.mpr h6) ?_
                refine xw_iconst rfl ?_
                refine xw_goto rfl ?_
                refine xw_bipush (e := 7) rfl (by decide +kernel) ?_
                refine xw_iload_n rfl rfl ?_
                refine xw_lo (L2 := [(0, xa 536), (1, xi (xR m 536 9)), (2, xi 5), (3, xi 0)]) (List.forall_mem_cons.mpr ⟨rfl, List.forall_mem_cons.mpr ⟨rfl, List.forall_mem_cons.mpr ⟨rfl, List.forall_mem_cons.mpr ⟨rfl, fun _ h => absurd h List.not_mem_nil⟩⟩⟩⟩) ?_
                exact q
              refine xS_call (q := 254) (n := 4) (kq := 4) (as := [xa 536, xi 1, xi 7, xi (xR m 536 9)]) (st1 := []) rfl rfl rfl rfl rfl rfl rfl rfl rfl rfl (fun _ => xw_rcv1 (t := 12) (xw_obd (by decide +kernel)) rfl) rfl (List.forall_mem_cons.mpr ⟨rfl, List.forall_mem_cons.mpr ⟨rfl, List.forall_mem_cons.mpr ⟨rfl, List.forall_mem_cons.mpr ⟨rfl, fun _ h => absurd h List.not_mem_nil⟩⟩⟩⟩) (ygf254 hB _ _ _ _ rfl rfl (w32_xR _ _ _)) (fun v11 m11 cv11 => ?_)
              refine xS_if (fun h7 => ?_) (fun h7 => ?_)
              · refine xS_of (pc' := 112) (L' := [(0, xa 536), (1, xi (xR m 536 9)), (2, xi 5), (3, xi 0)]) (st' := []) (m' := m11) (fun ex ns r q => ?_) ?_
                · refine xw_if_neF rfl (w32_cg (w32_of (xw_zr cv11))) h7 ?_
                  exact q
                exact xS_ret (v := 0) rfl rfl rfl rfl
              · refine xS_of (pc' := 133) (L' := [(0, xa 536), (1, xi (xR m 536 9)), (2, xi 5), (4, xi 0)]) (st' := [xi 40, xa 536]) (m' := m11) (fun ex ns r q => ?_) ?_
                · refine xw_if_neT rfl (w32_cg (w32_of (xw_zr cv11))) h7 ?_
                  refine xw_iconst rfl ?_
                  refine xw_istore (L' := [(4, xi 0), (0, xa 536), (1, xi (xR m 536 9)), (2, xi 5), (3, xi 0)]) rfl (by decide) rfl ?_
                  refine xw_iload_n rfl rfl ?_
                  refine xw_if_neT rfl (w32_cg rfl) (by decide) ?_
                  refine xw_aload_n rfl rfl rfl ?_
                  refine xw_bipush (e := 40) rfl (by decide +kernel) ?_
                  refine xw_lo (L2 := [(0, xa 536), (1, xi (xR m 536 9)), (2, xi 5), (4, xi 0)]) (List.forall_mem_cons.mpr ⟨rfl, List.forall_mem_cons.mpr ⟨rfl, List.forall_mem_cons.mpr ⟨rfl, List.forall_mem_cons.mpr ⟨rfl, fun _ h => absurd h List.not_mem_nil⟩⟩⟩⟩) ?_
                  exact q
                refine xS_call (q := 265) (n := 2) (kq := 4) (as := [xa 536, xi 40]) (st1 := []) rfl rfl rfl rfl rfl rfl rfl rfl rfl rfl (fun _ => xw_rcv1 (t := 12) (xw_obd (by decide +kernel)) rfl) rfl (List.forall_mem_cons.mpr ⟨rfl, List.forall_mem_cons.mpr ⟨rfl, fun _ h => absurd h List.not_mem_nil⟩⟩) (ygf265 hB _ _ rfl) (fun v12 m12 cv12 => ?_)
                refine xS_of (pc' := 139) (L' := [(0, xa 536), (1, xi (xR m 536 9)), (2, xi 5), (4, xi 0)]) (st' := [xa 536]) (m' := m12) (fun ex ns r q => ?_) ?_
                · refine xw_istore (L' := [(5, xi v12), (0, xa 536), (1, xi (xR m 536 9)), (2, xi 5), (4, xi 0)]) rfl (by decide) rfl ?_
                  refine xw_aload_n rfl rfl rfl ?_
                  refine xw_lo (L2 := [(0, xa 536), (1, xi (xR m 536 9)), (2, xi 5), (4, xi 0)]) (List.forall_mem_cons.mpr ⟨rfl, List.forall_mem_cons.mpr ⟨rfl, List.forall_mem_cons.mpr ⟨rfl, List.forall_mem_cons.mpr ⟨rfl, fun _ h => absurd h List.not_mem_nil⟩⟩⟩⟩) ?_
                  exact q
                refine xS_call (q := 248) (n := 1) (kq := 0) (as := [xa 536]) (st1 := []) rfl rfl rfl rfl rfl rfl rfl rfl rfl rfl (fun _ => xw_rcv1 (t := 12) (xw_obd (by decide +kernel)) rfl) rfl (List.forall_mem_cons.mpr ⟨rfl, fun _ h => absurd h List.not_mem_nil⟩) (ygf248 hB _) (fun v13 m13 cv13 => ?_)
                refine xS_of (pc' := 215) (L' := [(0, xa 536), (1, xi (xR m 536 9)), (2, xi 5)]) (st' := [xa 536]) (m' := m13) (fun ex ns r q => ?_) ?_
                · refine xw_iload_n rfl rfl ?_
                  refine xw_iconst rfl ?_
                  refine xw_ic_geT rfl (w32_cg rfl) (w32_cg rfl) (Int.not_lt.mp (by decide)) ?_
                  refine xw_iload_n rfl rfl ?_
                  refine xw_iconst rfl ?_
                  refine xw_ic_neT rfl (w32_cg rfl) (w32_cg rfl) (by decide) ?_
                  refine xw_aload_n rfl rfl rfl ?_
                  refine xw_lo (L2 := [(0, xa 536), (1, xi (xR m 536 9)), (2, xi 5)]) (List.forall_mem_cons.mpr ⟨rfl, List.forall_mem_cons.mpr ⟨rfl, List.forall_mem_cons.mpr ⟨rfl, fun _ h => absurd h List.not_mem_nil⟩⟩⟩) ?_
                  exact q
                refine xS_call (q := 272) (n := 1) (kq := 1) (as := [xa 536]) (st1 := []) rfl rfl rfl rfl rfl rfl rfl rfl rfl rfl (fun _ => xw_rcv1 (t := 12) (xw_obd (by decide +kernel)) rfl) rfl (List.forall_mem_cons.mpr ⟨rfl, fun _ h => absurd h List.not_mem_nil⟩) (ygf272 hB _) (fun v14 m14 cv14 => ?_)
                refine xS_of (pc' := 221) (L' := [(0, xa 536), (1, xi (xR m 536 9)), (2, xi 5)]) (st' := [xi v14, xa 536]) (m' := m14) (fun ex ns r q => ?_) ?_
                · refine xw_istore_n (L' := [(3, xi v14), (0, xa 536), (1, xi (xR m 536 9)), (2, xi 5)]) rfl (by decide) rfl ?_
                  refine xw_aload_n rfl rfl rfl ?_
                  refine xw_iload_n rfl rfl ?_
                  refine xw_lo (L2 := [(0, xa 536), (1, xi (xR m 536 9)), (2, xi 5)]) (List.forall_mem_cons.mpr ⟨rfl, List.forall_mem_cons.mpr ⟨rfl, List.forall_mem_cons.mpr ⟨rfl, fun _ h => absurd h List.not_mem_nil⟩⟩⟩) ?_
                  exact q
                refine xS_call (q := 273) (n := 2) (kq := 1) (as := [xa 536, xi v14]) (st1 := []) rfl rfl rfl rfl rfl rfl rfl rfl rfl rfl (fun _ => xw_rcv1 (t := 12) (xw_obd (by decide +kernel)) rfl) rfl (List.forall_mem_cons.mpr ⟨rfl, List.forall_mem_cons.mpr ⟨rfl, fun _ h => absurd h List.not_mem_nil⟩⟩) (ygf273 hB _ _ cv14) (fun v15 m15 cv15 => ?_)
                refine xS_of (pc' := 226) (L' := [(0, xa 536), (1, xi (xR m 536 9)), (2, xi 5), (4, xi v15)]) (st' := []) (m' := m15) (fun ex ns r q => ?_) ?_
                · refine xw_istore (L' := [(4, xi v15), (0, xa 536), (1, xi (xR m 536 9)), (2, xi 5)]) rfl (by decide) rfl ?_
                  refine xw_lo (L2 := [(0, xa 536), (1, xi (xR m 536 9)), (2, xi 5), (4, xi v15)]) (List.forall_mem_cons.mpr ⟨rfl, List.forall_mem_cons.mpr ⟨rfl, List.forall_mem_cons.mpr ⟨rfl, List.forall_mem_cons.mpr ⟨rfl, fun _ h => absurd h List.not_mem_nil⟩⟩⟩⟩) ?_
                  exact q
                exact ygk271_226 hB _ _ _ _ (w32_xR _ _ _) rfl cv15
            · refine xS_of (pc' := 106) (L' := [(0, xa 536), (1, xi (xR m 536 9)), (2, xi 5), (3, xi 0)]) (st' := [xi (xR m 536 9), xi 7, xi 0, xa 536]) (m' := m5) (fun ex ns r q => ?_) ?_
              · refine xw_ic_geT rfl (w32_cg (w32_xR _ _ _)) (w32_cg rfl) (Int.not_lt.mp h6) ?_
                refine xw_iconst rfl ?_
                refine xw_bipush (e := 7) rfl (by decide +kernel) ?_
                refine xw_iload_n rfl rfl ?_
                refine xw_lo (L2 := [(0, xa 536), (1, xi (xR m 536 9)), (2, xi 5), (3, xi 0)]) (List.forall_mem_cons.mpr ⟨rfl, List.forall_mem_cons.mpr ⟨rfl, List.forall_mem_cons.mpr ⟨rfl, List.forall_mem_cons.mpr ⟨rfl, fun _ h => absurd h List.not_mem_nil⟩⟩⟩⟩) ?_
                exact q
              refine xS_call (q := 254) (n := 4) (kq := 4) (as := [xa 536, xi 0, xi 7, xi (xR m 536 9)]) (st1 := []) rfl rfl rfl rfl rfl rfl rfl rfl rfl rfl (fun _ => xw_rcv1 (t := 12) (xw_obd (by decide +kernel)) rfl) rfl (List.forall_mem_cons.mpr ⟨rfl, List.forall_mem_cons.mpr ⟨rfl, List.forall_mem_cons.mpr ⟨rfl, List.forall_mem_cons.mpr ⟨rfl, fun _ h => absurd h List.not_mem_nil⟩⟩⟩⟩) (ygf254 hB _ _ _ _ rfl rfl (w32_xR _ _ _)) (fun v16 m16 cv16 => ?_)
              refine xS_if (fun h7 => ?_) (fun h7 => ?_)
              · refine xS_of (pc' := 112) (L' := [(0, xa 536), (1, xi (xR m 536 9)), (2, xi 5), (3, xi 0)]) (st' := []) (m' := m16) (fun ex ns r q => ?_) ?_
                · refine xw_if_neF rfl (w32_cg (w32_of (xw_zr cv16))) h7 ?_
                  exact q
                exact xS_ret (v := 0) rfl rfl rfl rfl
              · refine xS_of (pc' := 133) (L' := [(0, xa 536), (1, xi (xR m 536 9)), (2, xi 5), (4, xi 0)]) (st' := [xi 40, xa 536]) (m' := m16) (fun ex ns r q => ?_) ?_
                · refine xw_if_neT rfl (w32_cg (w32_of (xw_zr cv16))) h7 ?_
                  refine xw_iconst rfl ?_
                  refine xw_istore (L' := [(4, xi 0), (0, xa 536), (1, xi (xR m 536 9)), (2, xi 5), (3, xi 0)]) rfl (by decide) rfl ?_
                  refine xw_iload_n rfl rfl ?_
                  refine xw_if_neT rfl (w32_cg rfl) (by decide) ?_
                  refine xw_aload_n rfl rfl rfl ?_
                  refine xw_bipush (e := 40) rfl (by decide +kernel) ?_
                  refine xw_lo (L2 := [(0, xa 536), (1, xi (xR m 536 9)), (2, xi 5), (4, xi 0)]) (List.forall_mem_cons.mpr ⟨rfl, List.forall_mem_cons.mpr ⟨rfl, List.forall_mem_cons.mpr ⟨rfl, List.forall_mem_cons.mpr ⟨rfl, fun _ h => absurd h List.not_mem_nil⟩⟩⟩⟩) ?_
                  exact q
                refine xS_call (q := 265) (n := 2) (kq := 4) (as := [xa 536, xi 40]) (st1 := []) rfl rfl rfl rfl rfl rfl rfl rfl rfl rfl (fun _ => xw_rcv1 (t := 12) (xw_obd (by decide +kernel)) rfl) rfl (List.forall_mem_cons.mpr ⟨rfl, List.forall_mem_cons.mpr ⟨rfl, fun _ h => absurd h List.not_mem_nil⟩⟩) (ygf265 hB _ _ rfl) (fun v17 m17 cv17 => ?_)
                refine xS_of (pc' := 139) (L' := [(0, xa 536), (1, xi (xR m 536 9)), (2, xi 5), (4, xi 0)]) (st' := [xa 536]) (m' := m17) (fun ex ns r q => ?_) ?_
                · refine xw_istore (L' := [(5, xi v17), (0, xa 536), (1, xi (xR m 536 9)), (2, xi 5), (4, xi 0)]) rfl (by decide) rfl ?_
                  refine xw_aload_n rfl rfl rfl ?_
                  refine xw_lo (L2 := [(0, xa 536), (1, xi (xR m 536 9)), (2, xi 5), (4, xi 0)]) (List.forall_mem_cons.mpr ⟨rfl, List.forall_mem_cons.mpr ⟨rfl, List.forall_mem_cons.mpr ⟨rfl, List.forall_mem_cons.mpr ⟨rfl, fun _ h => absurd h List.not_mem_nil⟩⟩⟩⟩) ?_
                  exact q
                refine xS_call (q := 248) (n := 1) (kq := 0) (as := [xa 536]) (st1 := []) rfl rfl rfl rfl rfl rfl rfl rfl rfl rfl (fun _ => xw_rcv1 (t := 12) (xw_obd (by decide +kernel)) rfl) rfl (List.forall_mem_cons.mpr ⟨rfl, fun _ h => absurd h List.not_mem_nil⟩) (ygf248 hB _) (fun v18 m18 cv18 => ?_)
                refine xS_of (pc' := 215) (L' := [(0, xa 536), (1, xi (xR m 536 9)), (2, xi 5)]) (st' := [xa 536]) (m' := m18) (fun ex ns r q => ?_) ?_
                · refine xw_iload_n rfl rfl ?_
                  refine xw_iconst rfl ?_
                  refine xw_ic_geT rfl (w32_cg rfl) (w32_cg rfl) (Int.not_lt.mp (by decide)) ?_
                  refine xw_iload_n rfl rfl ?_
                  refine xw_iconst rfl ?_
                  refine xw_ic_neT rfl (w32_cg rfl) (w32_cg rfl) (by decide) ?_
                  refine xw_aload_n rfl rfl rfl ?_
                  refine xw_lo (L2 := [(0, xa 536), (1, xi (xR m 536 9)), (2, xi 5)]) (List.forall_mem_cons.mpr ⟨rfl, List.forall_mem_cons.mpr ⟨rfl, List.forall_mem_cons.mpr ⟨rfl, fun _ h => absurd h List.not_mem_nil⟩⟩⟩) ?_
                  exact q
                refine xS_call (q := 272) (n := 1) (kq := 1) (as := [xa 536]) (st1 := []) rfl rfl rfl rfl rfl rfl rfl rfl rfl rfl (fun _ => xw_rcv1 (t := 12) (xw_obd (by decide +kernel)) rfl) rfl (List.forall_mem_cons.mpr ⟨rfl, fun _ h => absurd h List.not_mem_nil⟩) (ygf272 hB _) (fun v19 m19 cv19 => ?_)
                refine xS_of (pc' := 221) (L' := [(0, xa 536), (1, xi (xR m 536 9)), (2, xi 5)]) (st' := [xi v19, xa 536]) (m' := m19) (fun ex ns r q => ?_) ?_
                · refine xw_istore_n (L' := [(3, xi v19), (0, xa 536), (1, xi (xR m 536 9)), (2, xi 5)]) rfl (by decide) rfl ?_
                  refine xw_aload_n rfl rfl rfl ?_
                  refine xw_iload_n rfl rfl ?_
                  refine xw_lo (L2 := [(0, xa 536), (1, xi (xR m 536 9)), (2, xi 5)]) (List.forall_mem_cons.mpr ⟨rfl, List.forall_mem_cons.mpr ⟨rfl, List.forall_mem_cons.mpr ⟨rfl, fun _ h => absurd h List.not_mem_nil⟩⟩⟩) ?_
                  exact q
                refine xS_call (q := 273) (n := 2) (kq := 1) (as := [xa 536, xi v19]) (st1 := []) rfl rfl rfl rfl rfl rfl rfl rfl rfl rfl (fun _ => xw_rcv1 (t := 12) (xw_obd (by decide +kernel)) rfl) rfl (List.forall_mem_cons.mpr ⟨rfl, List.forall_mem_cons.mpr ⟨rfl, fun _ h => absurd h List.not_mem_nil⟩⟩) (ygf273 hB _ _ cv19) (fun v20 m20 cv20 => ?_)
                refine xS_of (pc' := 226) (L' := [(0, xa 536), (1, xi (xR m 536 9)), (2, xi 5), (4, xi v20)]) (st' := []) (m' := m20) (fun ex ns r q => ?_) ?_
                · refine xw_istore (L' := [(4, xi v20), (0, xa 536), (1, xi (xR m 536 9)), (2, xi 5)]) rfl (by decide) rfl ?_
                  refine xw_lo (L2 := [(0, xa 536), (1, xi (xR m 536 9)), (2, xi 5), (4, xi v20)]) (List.forall_mem_cons.mpr ⟨rfl, List.forall_mem_cons.mpr ⟨rfl, List.forall_mem_cons.mpr ⟨rfl, List.forall_mem_cons.mpr ⟨rfl, fun _ h => absurd h List.not_mem_nil⟩⟩⟩⟩) ?_
                  exact q
                exact ygk271_226 hB _ _ _ _ (w32_xR _ _ _) rfl cv20
        · refine xS_g (fun g4 => ?_)
          refine xS_of (pc' := 95) (L' := [(3, xi 0), (2, xi 4), (0, xa 536), (1, xi (xR m 536 9))]) (st' := [xi 24, xi (xR m4 (m4 536 23) 0), xa 536]) (m' := m4) (fun ex ns r q => ?_) ?_
          · refine xw_if_eqF rfl (w32_cg (w32_of (xw_zr cv4))) h3 ?_
            refine xw_iconst rfl ?_
            refine xw_goto rfl ?_
            refine xw_istore_n (L' := [(2, xi 4), (0, xa 536), (1, xi (xR m 536 9))]) rfl (by decide) rfl ?_
            refine xw_iload_n rfl rfl ?_
            refine xw_if_neT rfl (w32_cg rfl) (by decide) ?_
            refine xw_iconst rfl ?_
            refine xw_istore_n (L' := [(3, xi 0), (2, xi 4), (0, xa 536), (1, xi (xR m 536 9))]) rfl (by decide) rfl ?_
            refine xw_aload_n rfl rfl rfl ?_
            refine xw_aload_n rfl rfl rfl ?_
            refine xw_gfM (v := (m4 536 23)) rfl (xw_obd (by decide +kernel)) xk12_23 (qi := 23) rfl rfl ?_
            refine xw_gfIc (v := (m4 (m4 536 23) 0)) (v' := (xR m4 (m4 536 23) 0)) rfl (xw_obd g4) xk13_0 (qi := 0) rfl rfl rfl ?_
            refine xw_bipush (e := 24) rfl (by decide +kernel) ?_
            exact q
          refine xS_if (fun h5 => ?_) (fun h5 => ?_)
          · refine xS_of (pc' := 106) (L' := [(0, xa 536), (1, xi (xR m 536 9)), (2, xi 4), (3, xi 0)]) (st' := [xi (xR m 536 9), xi 7, xi 1, xa 536]) (m' := m4) (fun ex ns r q => ?_) ?_
            · refine xw_ic_geF rfl (w32_cg (w32_xR _ _ _)) (w32_cg rfl) (Int.not_le.mpr h5) ?_
              refine xw_iconst rfl ?_
              refine xw_goto rfl ?_
              refine xw_bipush (e := 7) rfl (by decide +kernel) ?_
              refine xw_iload_n rfl rfl ?_
              refine xw_lo (L2 := [(0, xa 536), (1, xi (xR m 536 9)), (2, xi 4), (3, xi 0)]) (List.forall_mem_cons.mpr ⟨rfl, List.forall_mem_cons.mpr ⟨rfl, List.forall_mem_cons.mpr ⟨rfl, List.forall_mem_cons.mpr ⟨rfl, fun _ h => absurd h List.not_mem_nil⟩⟩⟩⟩) ?_
              exact q
            refine xS_call (q := 254) (n := 4) (kq := 4) (as := [xa 536, xi 1, xi 7, xi (xR m 536 9)]) (st1 := []) rfl rfl rfl rfl rfl rfl rfl rfl rfl rfl (fun _ => xw_rcv1 (t := 12) (xw_obd (by decide +kernel)) rfl) rfl (List.forall_mem_cons.mpr ⟨rfl, List.forall_mem_cons.mpr ⟨rfl, List.forall_mem_cons.mpr ⟨rfl, List.forall_mem_cons.mpr ⟨rfl, fun _ h => absurd h List.not_mem_nil⟩⟩⟩⟩) (ygf254 hB _ _ _ _ rfl rfl (w32_xR _ _ _)) (fun v21 m21 cv21 => ?_)
            refine xS_if (fun h6 => ?_) (fun h6 => ?_)
            · refine xS_of (pc' := 112) (L' := [(0, xa 536), (1, xi (xR m 536 9)), (2, xi 4), (3, xi 0)]) (st' := []) (m' := m21) (fun ex ns r q => ?_) ?_
              · refine xw_if_neF rfl (w32_cg (w32_of (xw_zr cv21))) h6 ?_
                exact q
              exact xS_ret (v := 0) rfl rfl rfl rfl
            · refine xS_of (pc' := 133) (L' := [(0, xa 536), (1, xi (xR m 536 9)), (2, xi 4), (4, xi 0)]) (st' := [xi 40, xa 536]) (m' := m21) (fun ex ns r q => ?_) ?_
              · refine xw_if_neT rfl (w32_cg (w32_of (xw_zr cv21))) h6 ?_
                refine xw_iconst rfl ?_
                refine xw_istore (L' := [(4, xi 0), (0, xa 536), (1, xi (xR m 536 9)), (2, xi 4), (3, xi 0)]) rfl (by decide) rfl ?_
                refine xw_iload_n rfl rfl ?_
                refine xw_if_neT rfl (w32_cg rfl) (by decide) ?_
                refine xw_aload_n rfl rfl rfl ?_
                refine xw_bipush (e := 40) rfl (by decide +kernel) ?_
                refine xw_lo (L2 := [(0, xa 536), (1, xi (xR m 536 9)), (2, xi 4), (4, xi 0)]) (List.forall_mem_cons.mpr ⟨rfl, List.forall_mem_cons.mpr ⟨rfl, List.forall_mem_cons.mpr ⟨rfl, List.forall_mem_cons.mpr ⟨rfl, fun _ h => absurd h List.not_mem_nil⟩⟩⟩⟩) ?_
                exact q
              refine xS_call (q := 265) (n := 2) (kq := 4) (as := [xa 536, xi 40]) (st1 := []) rfl rfl rfl rfl rfl rfl rfl rfl rfl rfl (fun _ => xw_rcv1 (t := 12) (xw_obd (by decide +kernel)) rfl) rfl (List.forall_mem_cons.mpr ⟨rfl, List.forall_mem_cons.mpr ⟨rfl, fun _ h => absurd h List.not_mem_nil⟩⟩) (ygf265 hB _ _ rfl) (fun v22 m22 cv22 => ?_)
              refine xS_of (pc' := 139) (L' := [(0, xa 536), (1, xi (xR m 536 9)), (2, xi 4), (4, xi 0)]) (st' := [xa 536]) (m' := m22) (fun ex ns r q => ?_) ?_
              · refine xw_istore (L' := [(5, xi v22), (0, xa 536), (1, xi (xR m 536 9)), (2, xi 4), (4, xi 0)]) rfl (by decide) rfl ?_
                refine xw_aload_n rfl rfl rfl ?_
                refine xw_lo (L2 := [(0, xa 536), (1, xi (xR m 536 9)), (2, xi 4), (4, xi 0)]) (List.forall_mem_cons.mpr ⟨rfl, List.forall_mem_cons.mpr ⟨rfl, List.forall_mem_cons.mpr ⟨rfl, List.forall_mem_cons.mpr ⟨rfl, fun _ h => absurd h List.not_mem_nil⟩⟩⟩⟩) ?_
                exact q
              refine xS_call (q := 248) (n := 1) (kq := 0) (as := [xa 536]) (st1 := []) rfl rfl rfl rfl rfl rfl rfl rfl rfl rfl (fun _ => xw_rcv1 (t := 12) (xw_obd (by decide +kernel)) rfl) rfl (List.forall_mem_cons.mpr ⟨rfl, fun _ h => absurd h List.not_mem_nil⟩) (ygf248 hB _) (fun v23 m23 cv23 => ?_)
              refine xS_of (pc' := 203) (L' := [(0, xa 536), (1, xi (xR m 536 9)), (2, xi 4), (4, xi 0)]) (st' := [xi 42, xa 536, xa 536]) (m' := m23) (fun ex ns r q => ?_) ?_
              · refine xw_iload_n rfl rfl ?_
                refine xw_iconst rfl ?_
                refine xw_ic_geT rfl (w32_cg rfl) (w32_cg rfl) (Int.not_lt.mp (by decide)) ?_
                refine xw_iload_n rfl rfl ?_
                refine xw_iconst rfl ?_
                refine xw_ic_neF rfl (w32_cg rfl) (w32_cg rfl) (by decide) ?_
                refine xw_aload_n rfl rfl rfl ?_
                refine xw_aload_n rfl rfl rfl ?_
                refine xw_bipush (e := 42) rfl (by decide +kernel) ?_
                refine xw_lo (L2 := [(0, xa 536), (1, xi (xR m 536 9)), (2, xi 4), (4, xi 0)]) (List.forall_mem_cons.mpr ⟨rfl, List.forall_mem_cons.mpr ⟨rfl, List.forall_mem_cons.mpr ⟨rfl, List.forall_mem_cons.mpr ⟨rfl, fun _ h => absurd h List.not_mem_nil⟩⟩⟩⟩) ?_
                exact q
              refine xS_call (q := 266) (n := 2) (kq := 4) (as := [xa 536, xi 42]) (st1 := [xa 536]) rfl rfl rfl rfl rfl rfl rfl rfl rfl rfl (fun _ => xw_rcv1 (t := 12) (xw_obd (by decide +kernel)) rfl) rfl (List.forall_mem_cons.mpr ⟨rfl, List.forall_mem_cons.mpr ⟨rfl, fun _ h => absurd h List.not_mem_nil⟩⟩) (ygf266 hB _ _ rfl) (fun v24 m24 cv24 => ?_)
              refine xS_of (pc' := 206) (L' := [(0, xa 536), (1, xi (xR m 536 9)), (2, xi 4), (4, xi 0)]) (st' := [xi v24, xa 536]) (m' := m24) (fun ex ns r q => ?_) ?_
              · refine xw_lo (L2 := [(0, xa 536), (1, xi (xR m 536 9)), (2, xi 4), (4, xi 0)]) (List.forall_mem_cons.mpr ⟨rfl, List.forall_mem_cons.mpr ⟨rfl, List.forall_mem_cons.mpr ⟨rfl, List.forall_mem_cons.mpr ⟨rfl, fun _ h => absurd h List.not_mem_nil⟩⟩⟩⟩) ?_
                exact q
              refine xS_call (q := 258) (n := 2) (kq := 4) (as := [xa 536, xi v24]) (st1 := []) rfl rfl rfl rfl rfl rfl rfl rfl rfl rfl (fun _ => xw_rcv1 (t := 12) (xw_obd (by decide +kernel)) rfl) rfl (List.forall_mem_cons.mpr ⟨rfl, List.forall_mem_cons.mpr ⟨rfl, fun _ h => absurd h List.not_mem_nil⟩⟩) (ygf258 hB _ _ (w32_of (xw_zr cv24))) (fun v25 m25 cv25 => ?_)
              refine xS_of (pc' := 226) (L' := [(0, xa 536), (1, xi (xR m 536 9)), (2, xi 4), (4, xi 0)]) (st' := []) (m' := m25) (fun ex ns r q => ?_) ?_
              · refine xw_istore (L' := [(5, xi v25), (0, xa 536), (1, xi (xR m 536 9)), (2, xi 4), (4, xi 0)]) rfl (by decide) rfl ?_
                refine xw_goto rfl ?_
                refine xw_lo (L2 := [(0, xa 536), (1, xi (xR m 536 9)), (2, xi 4), (4, xi 0)]) (List.forall_mem_cons.mpr ⟨rfl, List.forall_mem_cons.mpr ⟨rfl, List.forall_mem_cons.mpr ⟨rfl, List.forall_mem_cons.mpr ⟨rfl, fun _ h => absurd h List.not_mem_nil⟩⟩⟩⟩) ?_
                exact q
              exact ygk271_226 hB _ _ _ _ (w32_xR _ _ _) rfl rfl
          · refine xS_of (pc' := 106) (L' := [(0, xa 536), (1, xi (xR m 536 9)), (2, xi 4), (3, xi 0)]) (st' := [xi (xR m 536 9), xi 7, xi 0, xa 536]) (m' := m4) (fun ex ns r q => ?_) ?_
            · refine xw_ic_geT rfl (w32_cg (w32_xR _ _ _)) (w32_cg rfl) (Int.not_lt.mp h5) ?_
              refine xw_iconst rfl ?_
              refine xw_bipush (e := 7) rfl (by decide +kernel) ?_
              refine xw_iload_n rfl rfl ?_
              refine xw_lo (L2 := [(0, xa 536), (1, xi (xR m 536 9)), (2, xi 4), (3, xi 0)]) (List.forall_mem_cons.mpr ⟨rfl, List.forall_mem_cons.mpr ⟨rfl, List.forall_mem_cons.mpr ⟨rfl, List.forall_mem_cons.mpr ⟨rfl, fun _ h => absurd h List.not_mem_nil⟩⟩⟩⟩) ?_
              exact q
            refine xS_call (q := 254) (n := 4) (kq := 4) (as := [xa 536, xi 0, xi 7, xi (xR m 536 9)]) (st1 := []) rfl rfl rfl rfl rfl rfl rfl rfl rfl rfl (fun _ => xw_rcv1 (t := 12) (xw_obd (by decide +kernel)) rfl) rfl (List.forall_mem_cons.mpr ⟨rfl, List.forall_mem_cons.mpr ⟨rfl, List.forall_mem_cons.mpr ⟨rfl, List.forall_mem_cons.mpr ⟨rfl, fun _ h => absurd h List.not_mem_nil⟩⟩⟩⟩) (ygf254 hB _ _ _ _ rfl rfl (w32_xR _ _ _)) (fun v26 m26 cv26 => ?_)
            refine xS_if (fun h6 => ?_) (fun h6 => ?_)
            · refine xS_of (pc' := 112) (L' := [(0, xa 536), (1, xi (xR m 536 9)), (2, xi 4), (3, xi 0)]) (st' := []) (m' := m26) (fun ex ns r q => ?_) ?_
              · refine xw_if_neF rfl (w32_cg (w32_of (xw_zr cv26))) h6 ?_
                exact q
              exact xS_ret (v := 0) rfl rfl rfl rfl
            · refine xS_of (pc' := 133) (L' := [(0, xa 536), (1, xi (xR m 536 9)), (2, xi 4), (4, xi 0)]) (st' := [xi 40, xa 536]) (m' := m26) (fun ex ns r q => ?_) ?_
              · refine xw_if_neT rfl (w32_cg (w32_of (xw_zr cv26))) h6 ?_
                refine xw_iconst rfl ?_
                refine xw_istore (L' := [(4, xi 0), (0, xa 536), (1, xi (xR m 536 9)), (2, xi 4), (3, xi 0)]) rfl (by decide) rfl ?_
                refine xw_iload_n rfl rfl ?_
                refine xw_if_neT rfl (w32_cg rfl) (by decide) ?_
                refine xw_aload_n rfl rfl rfl ?_
                refine xw_bipush (e := 40) rfl (by decide +kernel) ?_
                refine xw_lo (L2 := [(0, xa 536), (1, xi (xR m 536 9)), (2, xi 4), (4, xi 0)]) (List.forall_mem_cons.mpr ⟨rfl, List.forall_mem_cons.mpr ⟨rfl, List.forall_mem_cons.mpr ⟨rfl, List.forall_mem_cons.mpr ⟨rfl, fun _ h => absurd h List.not_mem_nil⟩⟩⟩⟩) ?_
                exact q
              refine xS_call (q := 265) (n := 2) (kq := 4) (as := [xa 536, xi 40]) (st1 := []) rfl rfl rfl rfl rfl rfl rfl rfl rfl rfl (fun _ => xw_rcv1 (t := 12) (xw_obd (by decide +kernel)) rfl) rfl (List.forall_mem_cons.mpr ⟨rfl, List.forall_mem_cons.mpr ⟨rfl, fun _ h => absurd h List.not_mem_nil⟩⟩) (ygf265 hB _ _ rfl) (fun v27 m27 cv27 => ?_)
              refine xS_of (pc' := 139) (L' := [(0, xa 536), (1, xi (xR m 536 9)), (2, xi 4), (4, xi 0)]) (st' := [xa 536]) (m' := m27) (fun ex ns r q => ?_) ?_
              · refine xw_istore (L' := [(5, xi v27), (0, xa 536), (1, xi (xR m 536 9)), (2, xi 4), (4, xi 0)]) rfl (by decide) rfl ?_
                refine xw_aload_n rfl rfl rfl ?_
                refine xw_lo (L2 := [(0, xa 536), (1, xi (xR m 536 9)), (2, xi 4), (4, xi 0)]) (List.forall_mem_cons.mpr ⟨rfl, List.forall_mem_cons.mpr ⟨rfl, List.forall_mem_cons.mpr ⟨rfl, List.forall_mem_cons.mpr ⟨rfl, fun _ h => absurd h List.not_mem_nil⟩⟩⟩⟩) ?_
                exact q
              refine xS_call (q := 248) (n := 1) (kq := 0) (as := [xa 536]) (st1 := []) rfl rfl rfl rfl rfl rfl rfl rfl rfl rfl (fun _ => xw_rcv1 (t := 12) (xw_obd (by decide +kernel)) rfl) rfl (List.forall_mem_cons.mpr ⟨rfl, fun _ h => absurd h List.not_mem_nil⟩) (ygf248 hB _) (fun v28 m28 cv28 => ?_)
              refine xS_of (pc' := 203) (L' := [(0, xa 536), (1, xi (xR m 536 9)), (2, xi 4), (4, xi 0)]) (st' := [xi 42, xa 536, xa 536]) (m' := m28) (fun ex ns r q => ?_) ?_
              · refine xw_iload_n rfl rfl ?_
                refine xw_iconst rfl ?_
                refine xw_ic_geT rfl (w32_cg rfl) (w32_cg rfl) (Int.not_lt.mp (by decide)) ?_
                refine xw_iload_n rfl rfl ?_
                refine xw_iconst rfl ?_
                refine xw_ic_neF rfl (w32_cg rfl) (w32_cg rfl) (by decide) ?_
                refine xw_aload_n rfl rfl rfl ?_
                refine xw_aload_n rfl rfl rfl ?_
                refine xw_bipush (e := 42) rfl (by decide +kernel) ?_
                refine xw_lo (L2 := [(0, xa 536), (1, xi (xR m 536 9)), (2, xi 4), (4, xi 0)]) (List.forall_mem_cons.mpr ⟨rfl, List.forall_mem_cons.mpr ⟨rfl, List.forall_mem_cons.mpr ⟨rfl, List.forall_mem_cons.mpr ⟨rfl, fun _ h => absurd h List.not_mem_nil⟩⟩⟩⟩) ?_
                exact q
              refine xS_call (q := 266) (n := 2) (kq := 4) (as := [xa 536, xi 42]) (st1 := [xa 536]) rfl rfl rfl rfl rfl rfl rfl rfl rfl rfl (fun _ => xw_rcv1 (t := 12) (xw_obd (by decide +kernel)) rfl) rfl (List.forall_mem_cons.mpr ⟨rfl, List.forall_mem_cons.mpr ⟨rfl, fun _ h => absurd h List.not_mem_nil⟩⟩) (ygf266 hB _ _ rfl) (fun v29 m29 cv29 => ?_)
              refine xS_of (pc' := 206) (L' := [(0, xa 536), (1, xi (xR m 536 9)), (2, xi 4), (4, xi 0)]) (st' := [xi v29, xa 536]) (m' := m29) (fun ex ns r q => ?_) ?_
              · refine xw_lo (L2 := [(0, xa 536), (1, xi (xR m 536 9)), (2, xi 4), (4, xi 0)]) (List.forall_mem_cons.mpr ⟨rfl, List.forall_mem_cons.mpr ⟨rfl, List.forall_mem_cons.mpr ⟨rfl, List.forall_mem_cons.mpr ⟨rfl, fun _ h => absurd h List.not_mem_nil⟩⟩⟩⟩) ?_
                exact q
              refine xS_call (q := 258) (n := 2) (kq := 4) (as := [xa 536, xi v29]) (st1 := []) rfl rfl rfl rfl rfl rfl rfl rfl rfl rfl (fun _ => xw_rcv1 (t := 12) (xw_obd (by decide +kernel)) rfl) rfl (List.forall_mem_cons.mpr ⟨rfl, List.forall_mem_cons.mpr ⟨rfl, fun _ h => absurd h List.not_mem_nil⟩⟩) (ygf258 hB _ _ (w32_of (xw_zr cv29))) (fun v30 m30 cv30 => ?_)
              refine xS_of (pc' := 226) (L' := [(0, xa 536), (1, xi (xR m 536 9)), (2, xi 4), (4, xi 0)]) (st' := []) (m' := m30) (fun ex ns r q => ?_) ?_
              · refine xw_istore (L' := [(5, xi v30), (0, xa 536), (1, xi (xR m 536 9)), (2, xi 4), (4, xi 0)]) rfl (by decide) rfl ?_
                refine xw_goto rfl ?_
                refine xw_lo (L2 := [(0, xa 536), (1, xi (xR m 536 9)), (2, xi 4), (4, xi 0)]) (List.forall_mem_cons.mpr ⟨rfl, List.forall_mem_cons.mpr ⟨rfl, List.forall_mem_cons.mpr ⟨rfl, List.forall_mem_cons.mpr ⟨rfl, fun _ h => absurd h List.not_mem_nil⟩⟩⟩⟩) ?_
                exact q
              exact ygk271_226 hB _ _ _ _ (w32_xR _ _ _) rfl rfl
      · refine xS_g (fun g3 => ?_)
        refine xS_of (pc' := 95) (L' := [(3, xi 0), (2, xi 3), (0, xa 536), (1, xi (xR m 536 9))]) (st' := [xi 24, xi (xR m3 (m3 536 23) 0), xa 536]) (m' := m3) (fun ex ns r q => ?_) ?_
        · refine xw_if_eqF rfl (w32_cg (w32_of (xw_zr cv3))) h2 ?_
          refine xw_iconst rfl ?_
          refine xw_goto rfl ?_
          refine xw_istore_n (L' := [(2, xi 3), (0, xa 536), (1, xi (xR m 536 9))]) rfl (by decide) rfl ?_
          refine xw_iload_n rfl rfl ?_
          refine xw_if_neT rfl (w32_cg rfl) (by decide) ?_
          refine xw_iconst rfl ?_
          refine xw_istore_n (L' := [(3, xi 0), (2, xi 3), (0, xa 536), (1, xi (xR m 536 9))]) rfl (by decide) rfl ?_
          refine xw_aload_n rfl rfl rfl ?_
          refine xw_aload_n rfl rfl rfl ?_
          refine xw_gfM (v := (m3 536 23)) rfl (xw_obd (by decide +kernel)) xk12_23 (qi := 23) rfl rfl ?_
          refine xw_gfIc (v := (m3 (m3 536 23) 0)) (v' := (xR m3 (m3 536 23) 0)) rfl (xw_obd g3) xk13_0 (qi := 0) rfl rfl rfl ?_
          refine xw_bipush (e := 24) rfl (by decide +kernel) ?_
          exact q
        refine xS_if (fun h4 => ?_) (fun h4 => ?_)
        · refine xS_of (pc' := 106) (L' := [(0, xa 536), (1, xi (xR m 536 9)), (2, xi 3), (3, xi 0)]) (st' := [xi (xR m 536 9), xi 7, xi 1, xa 536]) (m' := m3) (fun ex ns r q => ?_) ?_
          · refine xw_ic_geF rfl (w32_cg (w32_xR _ _ _)) (w32_cg rfl) (Int.not_le.mpr h4) ?_
            refine xw_iconst rfl ?_
            refine xw_goto rfl ?_
            refine xw_bipush (e := 7) rfl (by decide +kernel) ?_
            refine xw_iload_n rfl rfl ?_
            refine xw_lo (L2 := [(0, xa 536), (1, xi (xR m 536 9)), (2, xi 3), (3, xi 0)]) (List.forall_mem_cons.mpr ⟨rfl, List.forall_mem_cons.mpr ⟨rfl, List.forall_mem_cons.mpr ⟨rfl, List.forall_mem_cons.mpr ⟨rfl, fun _ h => absurd h List.not_mem_nil⟩⟩⟩⟩) ?_
            exact q
          refine xS_call (q := 254) (n := 4) (kq := 4) (as := [xa 536, xi 1, xi 7, xi (xR m 536 9)]) (st1 := []) rfl rfl rfl rfl rfl rfl rfl rfl rfl rfl (fun _ => xw_rcv1 (t := 12) (xw_obd (by decide +kernel)) rfl) rfl (List.forall_mem_cons.mpr ⟨rfl, List.forall_mem_cons.mpr ⟨rfl, List.forall_mem_cons.mpr ⟨rfl, List.forall_mem_cons.mpr ⟨rfl, fun _ h => absurd h List.not_mem_nil⟩⟩⟩⟩) (ygf254 hB _ _ _ _ rfl rfl (w32_xR _ _ _)) (fun v31 m31 cv31 => ?_)
          refine xS_if (fun h5 => ?_) (fun h5 => ?_)
          · refine xS_of (pc' := 112) (L' := [(0, xa 536), (1, xi (xR m 536 9)), (2, xi 3), (3, xi 0)]) (st' := []) (m' := m31) (fun ex ns r q => ?_) ?_
            · refine xw_if_neF rfl (w32_cg (w32_of (xw_zr cv31))) h5 ?_
              exact q
            exact xS_ret (v := 0) rfl rfl rfl rfl
          · refine xS_of (pc' := 133) (L' := [(0, xa 536), (1, xi (xR m 536 9)), (2, xi 3), (4, xi 0)]) (st' := [xi 40, xa 536]) (m' := m31) (fun ex ns r q => ?_) ?_
            · refine xw_if_neT rfl (w32_cg (w32_of (xw_zr cv31))) h5 ?_
              refine xw_iconst rfl ?_
              refine xw_istore (L' := [(4, xi 0), (0, xa 536), (1, xi (xR m 536 9)), (2, xi 3), (3, xi 0)]) rfl (by decide) rfl ?_
              refine xw_iload_n rfl rfl ?_
              refine xw_if_neT rfl (w32_cg rfl) (by decide) ?_
              refine xw_aload_n rfl rfl rfl ?_
              refine xw_bipush (e := 40) rfl (by decide +kernel) ?_
              refine xw_lo (L2 := [(0, xa 536), (1, xi (xR m 536 9)), (2, xi 3), (4, xi 0)]) (List.forall_mem_cons.mpr ⟨rfl, List.forall_mem_cons.mpr ⟨rfl, List.forall_mem_cons.mpr ⟨rfl, List.forall_mem_cons.mpr ⟨rfl, fun _ h => absurd h List.not_mem_nil⟩⟩⟩⟩) ?_
              exact q
            refine xS_call (q := 265) (n := 2) (kq := 4) (as := [xa 536, xi 40]) (st1 := []) rfl rfl rfl rfl rfl rfl rfl rfl rfl rfl (fun _ => xw_rcv1 (t := 12) (xw_obd (by decide +kernel)) rfl) rfl (List.forall_mem_cons.mpr ⟨rfl, List.forall_mem_cons.mpr ⟨rfl, fun _ h => absurd h List.not_mem_nil⟩⟩) (ygf265 hB _ _ rfl) (fun v32 m32 cv32 => ?_)
            refine xS_of (pc' := 139) (L' := [(0, xa 536), (1, xi (xR m 536 9)), (2, xi 3), (4, xi 0)]) (st' := [xa 536]) (m' := m32) (fun ex ns r q => ?_) ?_
            · refine xw_istore (L' := [(5, xi v32), (0, xa 536), (1, xi (xR m 536 9)), (2, xi 3), (4, xi 0)]) rfl (by decide) rfl ?_
              refine xw_aload_n rfl rfl rfl ?_
              refine xw_lo (L2 := [(0, xa 536), (1, xi (xR m 536 9)), (2, xi 3), (4, xi 0)]) (List.forall_mem_cons.mpr ⟨rfl, List.forall_mem_cons.mpr ⟨rfl, List.forall_mem_cons.mpr ⟨rfl, List.forall_mem_cons.mpr ⟨rfl, fun _ h => absurd h List.not_mem_nil⟩⟩⟩⟩) ?_
              exact q
            refine xS_call (q := 248) (n := 1) (kq := 0) (as := [xa 536]) (st1 := []) rfl rfl rfl rfl rfl rfl rfl rfl rfl rfl (fun _ => xw_rcv1 (t := 12) (xw_obd (by decide +kernel)) rfl) rfl (List.forall_mem_cons.mpr ⟨rfl, fun _ h => absurd h List.not_mem_nil⟩) (ygf248 hB _) (fun v33 m33 cv33 => ?_)
            refine xS_of (pc' := 148) (L' := [(0, xa 536), (1, xi (xR m 536 9)), (2, xi 3)]) (st' := [xa 536]) (m' := m33) (fun ex ns r q => ?_) ?_
            · refine xw_iload_n rfl rfl ?_
              refine xw_iconst rfl ?_
              refine xw_ic_geF rfl (w32_cg rfl) (w32_cg rfl) (Int.not_le.mpr (by decide)) ?_
              refine xw_aload_n rfl rfl rfl ?_
              refine xw_lo (L2 := [(0, xa 536), (1, xi (xR m 536 9)), (2, xi 3)]) (List.forall_mem_cons.mpr ⟨rfl, List.forall_mem_cons.mpr ⟨rfl, List.forall_mem_cons.mpr ⟨rfl, fun _ h => absurd h List.not_mem_nil⟩⟩⟩) ?_
              exact q
            refine xS_call (q := 261) (n := 1) (kq := 4) (as := [xa 536]) (st1 := []) rfl rfl rfl rfl rfl rfl rfl rfl rfl rfl (fun _ => xw_rcv1 (t := 12) (xw_obd (by decide +kernel)) rfl) rfl (List.forall_mem_cons.mpr ⟨rfl, fun _ h => absurd h List.not_mem_nil⟩) (ygf261 hB _) (fun v34 m34 cv34 => ?_)
            refine xS_if (fun h6 => ?_) (fun h6 => ?_)
            · refine xS_of (pc' := 186) (L' := [(0, xa 536), (1, xi (xR m 536 9)), (2, xi 3), (4, xi 0)]) (st' := [xi (xR m34 536 9), xi 5, xi 1, xa 536]) (m' := m34) (fun ex ns r q => ?_) ?_
              · refine xw_if_eqT rfl (w32_cg (w32_of (xw_zr cv34))) h6 ?_
                refine xw_iconst rfl ?_
                refine xw_istore (L' := [(4, xi 0), (0, xa 536), (1, xi (xR m 536 9)), (2, xi 3)]) rfl (by decide) rfl ?_
                refine xw_aload_n rfl rfl rfl ?_
                refine xw_iload rfl rfl ?_
                refine xw_if_ltF rfl (w32_cg rfl) (by decide) ?_
                refine xw_iconst rfl ?_
                refine xw_goto rfl ?_
                refine xw_iconst rfl ?_
                refine xw_aload_n rfl rfl rfl ?_
                refine xw_gfIc (v := (m34 536 9)) (v' := (xR m34 536 9)) rfl (xw_obd (by decide +kernel)) xk12_9 (qi := 9) rfl rfl rfl ?_
                refine xw_lo (L2 := [(0, xa 536), (1, xi (xR m 536 9)), (2, xi 3), (4, xi 0)]) (List.forall_mem_cons.mpr ⟨rfl, List.forall_mem_cons.mpr ⟨rfl, List.forall_mem_cons.mpr ⟨rfl, List.forall_mem_cons.mpr ⟨rfl, fun _ h => absurd h List.not_mem_nil⟩⟩⟩⟩) ?_
                exact q
              refine xS_call (q := 254) (n := 4) (kq := 4) (as := [xa 536, xi 1, xi 5, xi (xR m34 536 9)]) (st1 := []) rfl rfl rfl rfl rfl rfl rfl rfl rfl rfl (fun _ => xw_rcv1 (t := 12) (xw_obd (by decide +kernel)) rfl) rfl (List.forall_mem_cons.mpr ⟨rfl, List.forall_mem_cons.mpr ⟨rfl, List.forall_mem_cons.mpr ⟨rfl, List.forall_mem_cons.mpr ⟨rfl, fun _ h => absurd h List.not_mem_nil⟩⟩⟩⟩) (ygf254 hB _ _ _ _ rfl rfl (w32_xR _ _ _)) (fun v35 m35 cv35 => ?_)
              refine xS_of (pc' := 226) (L' := [(0, xa 536), (1, xi (xR m 536 9)), (2, xi 3), (4, xi 0)]) (st' := []) (m' := m35) (fun ex ns r q => ?_) ?_
              · refine xw_istore (L' := [(5, xi v35), (0, xa 536), (1, xi (xR m 536 9)), (2, xi 3), (4, xi 0)]) rfl (by decide) rfl ?_
                refine xw_goto rfl ?_
                refine xw_lo (L2 := [(0, xa 536), (1, xi (xR m 536 9)), (2, xi 3), (4, xi 0)]) (List.forall_mem_cons.mpr ⟨rfl, List.forall_mem_cons.mpr ⟨rfl, List.forall_mem_cons.mpr ⟨rfl, List.forall_mem_cons.mpr ⟨rfl, fun _ h => absurd h List.not_mem_nil⟩⟩⟩⟩) ?_
                exact q
              exact ygk271_226 hB _ _ _ _ (w32_xR _ _ _) rfl rfl
            · refine xS_of (pc' := 161) (L' := [(0, xa 536), (1, xi (xR m 536 9)), (2, xi 3)]) (st' := [xi (xR m34 536 19), xi 40, xa 536]) (m' := m34) (fun ex ns r q => ?_) ?_
              · refine xw_if_eqF rfl (w32_cg (w32_of (xw_zr cv34))) h6 ?_
                refine xw_aload_n rfl rfl rfl ?_
                refine xw_bipush (e := 40) rfl (by decide +kernel) ?_
                refine xw_aload_n rfl rfl rfl ?_
                refine xw_gfIc (v := (m34 536 19)) (v' := (xR m34 536 19)) rfl (xw_obd (by decide +kernel)) xk12_19 (qi := 19) rfl rfl rfl ?_
                refine xw_lo (L2 := [(0, xa 536), (1, xi (xR m 536 9)), (2, xi 3)]) (List.forall_mem_cons.mpr ⟨rfl, List.forall_mem_cons.mpr ⟨rfl, List.forall_mem_cons.mpr ⟨rfl, fun _ h => absurd h List.not_mem_nil⟩⟩⟩) ?_
                exact q
              refine xS_call (q := 262) (n := 3) (kq := 1) (as := [xa 536, xi 40, xi (xR m34 536 19)]) (st1 := []) rfl rfl rfl rfl rfl rfl rfl rfl rfl rfl (fun _ => xw_rcv1 (t := 12) (xw_obd (by decide +kernel)) rfl) rfl (List.forall_mem_cons.mpr ⟨rfl, List.forall_mem_cons.mpr ⟨rfl, List.forall_mem_cons.mpr ⟨rfl, fun _ h => absurd h List.not_mem_nil⟩⟩⟩) (ygf262 hB _ _ _ rfl (w32_xR _ _ _)) (fun v36 m36 cv36 => ?_)
              refine xS_of (pc' := 173) (L' := [(4, xi v36), (0, xa 536), (1, xi (xR m 536 9)), (2, xi 3)]) (st' := [xi v36, xa 536]) (m' := m36) (fun ex ns r q => ?_) ?_
              · refine xw_goto rfl ?_
                refine xw_istore (L' := [(4, xi v36), (0, xa 536), (1, xi (xR m 536 9)), (2, xi 3)]) rfl (by decide) rfl ?_
                refine xw_aload_n rfl rfl rfl ?_
                refine xw_iload rfl rfl ?_
                exact q
              refine xS_if (fun h7 => ?_) (fun h7 => ?_)
              · refine xS_of (pc' := 186) (L' := [(0, xa 536), (1, xi (xR m 536 9)), (2, xi 3), (4, xi v36)]) (st' := [xi (xR m36 536 9), xi 5, xi 0, xa 536]) (m' := m36) (fun ex ns r q => ?_) ?_
                · refine xw_if_ltT rfl (w32_cg cv36) h7 ?_
                  refine xw_iconst rfl ?_
                  refine xw_iconst rfl ?_
                  refine xw_aload_n rfl rfl rfl ?_
                  refine xw_gfIc (v := (m36 536 9)) (v' := (xR m36 536 9)) rfl (xw_obd (by decide +kernel)) xk12_9 (qi := 9) rfl rfl rfl ?_
                  refine xw_lo (L2 := [(0, xa 536), (1, xi (xR m 536 9)), (2, xi 3), (4, xi v36)]) (List.forall_mem_cons.mpr ⟨rfl, List.forall_mem_cons.mpr ⟨rfl, List.forall_mem_cons.mpr ⟨rfl, List.forall_mem_cons.mpr ⟨rfl, fun _ h => absurd h List.not_mem_nil⟩⟩⟩⟩) ?_
                  exact q
                refine xS_call (q := 254) (n := 4) (kq := 4) (as := [xa 536, xi 0, xi 5, xi (xR m36 536 9)]) (st1 := []) rfl rfl rfl rfl rfl rfl rfl rfl rfl rfl (fun _ => xw_rcv1 (t := 12) (xw_obd (by decide +kernel)) rfl) rfl (List.forall_mem_cons.mpr ⟨rfl, List.forall_mem_cons.mpr ⟨rfl, List.forall_mem_cons.mpr ⟨rfl, List.forall_mem_cons.mpr ⟨rfl, fun _ h => absurd h List.not_mem_nil⟩⟩⟩⟩) (ygf254 hB _ _ _ _ rfl rfl (w32_xR _ _ _)) (fun v37 m37 cv37 => ?_)
                refine xS_of (pc' := 226) (L' := [(0, xa 536), (1, xi (xR m 536 9)), (2, xi 3), (4, xi v36)]) (st' := []) (m' := m37) (fun ex ns r q => ?_) ?_
                · refine xw_istore (L' := [(5, xi v37), (0, xa 536), (1, xi (xR m 536 9)), (2, xi 3), (4, xi v36)]) rfl (by decide) rfl ?_
                  refine xw_goto rfl ?_
                  refine xw_lo (L2 := [(0, xa 536), (1, xi (xR m 536 9)), (2, xi 3), (4, xi v36)]) (List.forall_mem_cons.mpr ⟨rfl, List.forall_mem_cons.mpr ⟨rfl, List.forall_mem_cons.mpr ⟨rfl, List.forall_mem_cons.mpr ⟨rfl, fun _ h => absurd h List.not_mem_nil⟩⟩⟩⟩) ?_
                  exact q
                exact ygk271_226 hB _ _ _ _ (w32_xR _ _ _) rfl cv36
              · refine xS_of (pc' := 186) (L' := [(0, xa 536), (1, xi (xR m 536 9)), (2, xi 3), (4, xi v36)]) (st' := [xi (xR m36 536 9), xi 5, xi 1, xa 536]) (m' := m36) (fun ex ns r q => ?_) ?_
                · refine xw_if_ltF rfl (w32_cg cv36) h7 ?_
                  refine xw_iconst rfl ?_
                  refine xw_goto rfl ?_
                  refine xw_iconst rfl ?_
                  refine xw_aload_n rfl rfl rfl ?_
                  refine xw_gfIc (v := (m36 536 9)) (v' := (xR m36 536 9)) rfl (xw_obd (by decide +kernel)) xk12_9 (qi := 9) rfl rfl rfl ?_
                  refine xw_lo (L2 := [(0, xa 536), (1, xi (xR m 536 9)), (2, xi 3), (4, xi v36)]) (List.forall_mem_cons.mpr ⟨rfl, List.forall_mem_cons.mpr ⟨rfl, List.forall_mem_cons.mpr ⟨rfl, List.forall_mem_cons.mpr ⟨rfl, fun _ h => absurd h List.not_mem_nil⟩⟩⟩⟩) ?_
                  exact q
                refine xS_call (q := 254) (n := 4) (kq := 4) (as := [xa 536, xi 1, xi 5, xi (xR m36 536 9)]) (st1 := []) rfl rfl rfl rfl rfl rfl rfl rfl rfl rfl (fun _ => xw_rcv1 (t := 12) (xw_obd (by decide +kernel)) rfl) rfl (List.forall_mem_cons.mpr ⟨rfl, List.forall_mem_cons.mpr ⟨rfl, List.forall_mem_cons.mpr ⟨rfl, List.forall_mem_cons.mpr ⟨rfl, fun _ h => absurd h List.not_mem_nil⟩⟩⟩⟩) (ygf254 hB _ _ _ _ rfl rfl (w32_xR _ _ _)) (fun v38 m38 cv38 => ?_)
                refine xS_of (pc' := 226) (L' := [(0, xa 536), (1, xi (xR m 536 9)), (2, xi 3), (4, xi v36)]) (st' := []) (m' := m38) (fun ex ns r q => ?_) ?_
                · refine xw_istore (L' := [(5, xi v38), (0, xa 536), (1, xi (xR m 536 9)), (2, xi 3), (4, xi v36)]) rfl (by decide) rfl ?_
                  refine xw_goto rfl ?_
                  refine xw_lo (L2 := [(0, xa 536), (1, xi (xR m 536 9)), (2, xi 3), (4, xi v36)]) (List.forall_mem_cons.mpr ⟨rfl, List.forall_mem_cons.mpr ⟨rfl, List.forall_mem_cons.mpr ⟨rfl, List.forall_mem_cons.mpr ⟨rfl, fun _ h => absurd h List.not_mem_nil⟩⟩⟩⟩) ?_
                  exact q
                exact ygk271_226 hB _ _ _ _ (w32_xR _ _ _) rfl cv36
        · refine xS_of (pc' := 106) (L' := [(0, xa 536), (1, xi (xR m 536 9)), (2, xi 3), (3, xi 0)]) (st' := [xi (xR m 536 9), xi 7, xi 0, xa 536]) (m' := m3) (fun ex ns r q => ?_) ?_
          · refine xw_ic_geT rfl (w32_cg (w32_xR _ _ _)) (w32_cg rfl) (Int.not_lt.mp h4) ?_
            refine xw_iconst rfl ?_
            refine xw_bipush (e := 7) rfl (by decide +kernel) ?_
            refine xw_iload_n rfl rfl ?_
            refine xw_lo (L2 := [(0, xa 536), (1, xi (xR m 536 9)), (2, xi 3), (3, xi 0)]) (List.forall_mem_cons.mpr ⟨rfl, List.forall_mem_cons.mpr ⟨rfl, List.forall_mem_cons.mpr ⟨rfl, List.forall_mem_cons.mpr ⟨rfl, fun _ h => absurd h List.not_mem_nil⟩⟩⟩⟩) ?_
            exact q
          refine xS_call (q := 254) (n := 4) (kq := 4) (as := [xa 536, xi 0, xi 7, xi (xR m 536 9)]) (st1 := []) rfl rfl rfl rfl rfl rfl rfl rfl rfl rfl (fun _ => xw_rcv1 (t := 12) (xw_obd (by decide +kernel)) rfl) rfl (List.forall_mem_cons.mpr ⟨rfl, List.forall_mem_cons.mpr ⟨rfl, List.forall_mem_cons.mpr ⟨rfl, List.forall_mem_cons.mpr ⟨rfl, fun _ h => absurd h List.not_mem_nil⟩⟩⟩⟩) (ygf254 hB _ _ _ _ rfl rfl (w32_xR _ _ _)) (fun v39 m39 cv39 => ?_)
          refine xS_if (fun h5 => ?_) (fun h5 => ?_)
          · refine xS_of (pc' := 112) (L' := [(0, xa 536), (1, xi (xR m 536 9)), (2, xi 3), (3, xi 0)]) (st' := []) (m' := m39) (fun ex ns r q => ?_) ?_
            · refine xw_if_neF rfl (w32_cg (w32_of (xw_zr cv39))) h5 ?_
              exact q
            exact xS_ret (v := 0) rfl rfl rfl rfl
          · refine xS_of (pc' := 133) (L' := [(0, xa 536), (1, xi (xR m 536 9)), (2, xi 3), (4, xi 0)]) (st' := [xi 40, xa 536]) (m' := m39) (fun ex ns r q => ?_) ?_
            · refine xw_if_neT rfl (w32_cg (w32_of (xw_zr cv39))) h5 ?_
              refine xw_iconst rfl ?_
              refine xw_istore (L' := [(4, xi 0), (0, xa 536), (1, xi (xR m 536 9)), (2, xi 3), (3, xi 0)]) rfl (by decide) rfl ?_
              refine xw_iload_n rfl rfl ?_
              refine xw_if_neT rfl (w32_cg rfl) (by decide) ?_
              refine xw_aload_n rfl rfl rfl ?_
              refine xw_bipush (e := 40) rfl (by decide +kernel) ?_
              refine xw_lo (L2 := [(0, xa 536), (1, xi (xR m 536 9)), (2, xi 3), (4, xi 0)]) (List.forall_mem_cons.mpr ⟨rfl, List.forall_mem_cons.mpr ⟨rfl, List.forall_mem_cons.mpr ⟨rfl, List.forall_mem_cons.mpr ⟨rfl, fun _ h => absurd h List.not_mem_nil⟩⟩⟩⟩) ?_
              exact q
            refine xS_call (q := 265) (n := 2) (kq := 4) (as := [xa 536, xi 40]) (st1 := []) rfl rfl rfl rfl rfl rfl rfl rfl rfl rfl (fun _ => xw_rcv1 (t := 12) (xw_obd (by decide +kernel)) rfl) rfl (List.forall_mem_cons.mpr ⟨rfl, List.forall_mem_cons.mpr ⟨rfl, fun _ h => absurd h List.not_mem_nil⟩⟩) (ygf265 hB _ _ rfl) (fun v40 m40 cv40 => ?_)
            refine xS_of (pc' := 139) (L' := [(0, xa 536), (1, xi (xR m 536 9)), (2, xi 3), (4, xi 0)]) (st' := [xa 536]) (m' := m40) (fun ex ns r q => ?_) ?_
            · refine xw_istore (L' := [(5, xi v40), (0, xa 536), (1, xi (xR m 536 9)), (2, xi 3), (4, xi 0)]) rfl (by decide) rfl ?_
              refine xw_aload_n rfl rfl rfl ?_
              refine xw_lo (L2 := [(0, xa 536), (1, xi (xR m 536 9)), (2, xi 3), (4, xi 0)]) (List.forall_mem_cons.mpr ⟨rfl, List.forall_mem_cons.mpr ⟨rfl, List.forall_mem_cons.mpr ⟨rfl, List.forall_mem_cons.mpr ⟨rfl, fun _ h => absurd h List.not_mem_nil⟩⟩⟩⟩) ?_
              exact q
            refine xS_call (q := 248) (n := 1) (kq := 0) (as := [xa 536]) (st1 := []) rfl rfl rfl rfl rfl rfl rfl rfl rfl rfl (fun _ => xw_rcv1 (t := 12) (xw_obd (by decide +kernel)) rfl) rfl (List.forall_mem_cons.mpr ⟨rfl, fun _ h => absurd h List.not_mem_nil⟩) (ygf248 hB _) (fun v41 m41 cv41 => ?_)
            refine xS_of (pc' := 148) (L' := [(0, xa 536), (1, xi (xR m 536 9)), (2, xi 3)]) (st' := [xa 536]) (m' := m41) (fun ex ns r q => ?_) ?_
            · refine xw_iload_n rfl rfl ?_
              refine xw_iconst rfl ?_
              refine xw_ic_geF rfl (w32_cg rfl) (w32_cg rfl) (Int.not_le.mpr (by decide)) ?_
              refine xw_aload_n rfl rfl rfl ?_
              refine xw_lo (L2 := [(0, xa 536), (1, xi (xR m 536 9)), (2, xi 3)]) (List.forall_mem_cons.mpr ⟨rfl, List.forall_mem_cons.mpr ⟨rfl, List.forall_mem_cons.mpr ⟨rfl, fun _ h => absurd h List.not_mem_nil⟩⟩⟩) ?_
              exact q
            refine xS_call (q := 261) (n := 1) (kq := 4) (as := [xa 536]) (st1 := []) rfl rfl rfl rfl rfl rfl rfl rfl rfl rfl (fun _ => xw_rcv1 (t := 12) (xw_obd (by decide +kernel)) rfl) rfl (List.forall_mem_cons.mpr ⟨rfl, fun _ h => absurd h List.not_mem_nil⟩) (ygf261 hB _) (fun v42 m42 cv42 => ?_)
            refine xS_if (fun h6 => ?_) (fun h6 => ?_)
            · refine xS_of (pc' := 186) (L' := [(0, xa 536), (1, xi (xR m 536 9)), (2, xi 3), (4, xi 0)]) (st' := [xi (xR m42 536 9), xi 5, xi 1, xa 536]) (m' := m42) (fun ex ns r q => ?_) ?_
              · refine xw_if_eqT rfl (w32_cg (w32_of (xw_zr cv42))) h6 ?_
                refine xw_iconst rfl ?_
                refine xw_istore (L' := [(4, xi 0), (0, xa 536), (1, xi (xR m 536 9)), (2, xi 3)]) rfl (by decide) rfl ?_
                refine xw_aload_n rfl rfl rfl ?_
                refine xw_iload rfl rfl ?_
                refine xw_if_ltF rfl (w32_cg rfl) (by decide) ?_
                refine xw_iconst rfl ?_
                refine xw_goto rfl ?_
                refine xw_iconst rfl ?_
                refine xw_aload_n rfl rfl rfl ?_
                refine xw_gfIc (v := (m42 536 9)) (v' := (xR m42 536 9)) rfl (xw_obd (by decide +kernel)) xk12_9 (qi := 9) rfl rfl rfl ?_
                refine xw_lo (L2 := [(0, xa 536), (1, xi (xR m 536 9)), (2, xi 3), (4, xi 0)]) (List.forall_mem_cons.mpr ⟨rfl, List.forall_mem_cons.mpr ⟨rfl, List.forall_mem_cons.mpr ⟨rfl, List.forall_mem_cons.mpr ⟨rfl, fun _ h => absurd h List.not_mem_nil⟩⟩⟩⟩) ?_
                exact q
              refine xS_call (q := 254) (n := 4) (kq := 4) (as := [xa 536, xi 1, xi 5, xi (xR m42 536 9)]) (st1 := []) rfl rfl rfl rfl rfl rfl rfl rfl rfl rfl (fun _ => xw_rcv1 (t := 12) (xw_obd (by decide +kernel)) rfl) rfl (List.forall_mem_cons.mpr ⟨rfl, List.forall_mem_cons.mpr ⟨rfl, List.forall_mem_cons.mpr ⟨rfl, List.forall_mem_cons.mpr ⟨rfl, fun _ h => absurd h List.not_mem_nil⟩⟩⟩⟩) (ygf254 hB _ _ _ _ rfl rfl (w32_xR _ _ _)) (fun v43 m43 cv43 => ?_)
              refine xS_of (pc' := 226) (L' := [(0, xa 536), (1, xi (xR m 536 9)), (2, xi 3), (4, xi 0)]) (st' := []) (m' := m43) (fun ex ns r q => ?_) ?_
              · refine xw_istore (L' := [(5, xi v43), (0, xa 536), (1, xi (xR m 536 9)), (2, xi 3), (4, xi 0)]) rfl (by decide) rfl ?_
                refine xw_goto rfl ?_
                refine xw_lo (L2 := [(0, xa 536), (1, xi (xR m 536 9)), (2, xi 3), (4, xi 0)]) (List.forall_mem_cons.mpr ⟨rfl, List.forall_mem_cons.mpr ⟨rfl, List.forall_mem_cons.mpr ⟨rfl, List.forall_mem_cons.mpr ⟨rfl, fun _ h => absurd h List.not_mem_nil⟩⟩⟩⟩) ?_
                exact q
              exact ygk271_226 hB _ _ _ _ (w32_xR _ _ _) rfl rfl
            · refine xS_of (pc' := 161) (L' := [(0, xa 536), (1, xi (xR m 536 9)), (2, xi 3)]) (st' := [xi (xR m42 536 19), xi 40, xa 536]) (m' := m42) (fun ex ns r q => ?_) ?_
              · refine xw_if_eqF rfl (w32_cg (w32_of (xw_zr cv42))) h6 ?_
                refine xw_aload_n rfl rfl rfl ?_
                refine xw_bipush (e := 40) rfl (by decide +kernel) ?_
                refine xw_aload_n rfl rfl rfl ?_
                refine xw_gfIc (v := (m42 536 19)) (v' := (xR m42 536 19)) rfl (xw_obd (by decide +kernel)) xk12_19 (qi := 19) rfl rfl rfl ?_
                refine xw_lo (L2 := [(0, xa 536), (1, xi (xR m 536 9)), (2, xi 3)]) (List.forall_mem_cons.mpr ⟨rfl, List.forall_mem_cons.mpr ⟨rfl, List.forall_mem_cons.mpr ⟨rfl, fun _ h => absurd h List.not_mem_nil⟩⟩⟩) ?_
                exact q
              refine xS_call (q := 262) (n := 3) (kq := 1) (as := [xa 536, xi 40, xi (xR m42 536 19)]) (st1 := []) rfl rfl rfl rfl rfl rfl rfl rfl rfl rfl (fun _ => xw_rcv1 (t := 12) (xw_obd (by decide +kernel)) rfl) rfl (List.forall_mem_cons.mpr ⟨rfl, List.forall_mem_cons.mpr ⟨rfl, List.forall_mem_cons.mpr ⟨rfl, fun _ h => absurd h List.not_mem_nil⟩⟩⟩) (ygf262 hB _ _ _ rfl (w32_xR _ _ _)) (fun v44 m44 cv44 => ?_)
              refine xS_of (pc' := 173) (L' := [(4, xi v44), (0, xa 536), (1, xi (xR m 536 9)), (2, xi 3)]) (st' := [xi v44, xa 536]) (m' := m44) (fun ex ns r q => ?_) ?_
              · refine xw_goto rfl ?_
                refine xw_istore (L' := [(4, xi v44), (0, xa 536), (1, xi (xR m 536 9)), (2, xi 3)]) rfl (by decide) rfl ?_
                refine xw_aload_n rfl rfl rfl ?_
                refine xw_iload rfl rfl ?_
                exact q
              refine xS_if (fun h7 => ?_) (fun h7 => ?_)
              · refine xS_of (pc' := 186) (L' := [(0, xa 536), (1, xi (xR m 536 9)), (2, xi 3), (4, xi v44)]) (st' := [xi (xR m44 536 9), xi 5, xi 0, xa 536]) (m' := m44) (fun ex ns r q => ?_) ?_
                · refine xw_if_ltT rfl (w32_cg cv44) h7 ?_
                  refine xw_iconst rfl ?_
                  refine xw_iconst rfl ?_
                  refine xw_aload_n rfl rfl rfl ?_
                  refine xw_gfIc (v := (m44 536 9)) (v' := (xR m44 536 9)) rfl (xw_obd (by decide +kernel)) xk12_9 (qi := 9) rfl rfl rfl ?_
                  refine xw_lo (L2 := [(0, xa 536), (1, xi (xR m 536 9)), (2, xi 3), (4, xi v44)]) (List.forall_mem_cons.mpr ⟨rfl, List.forall_mem_cons.mpr ⟨rfl, List.forall_mem_cons.mpr ⟨rfl, List.forall_mem_cons.mpr ⟨rfl, fun _ h => absurd h List.not_mem_nil⟩⟩⟩⟩) ?_
                  exact q
                refine xS_call (q := 254) (n := 4) (kq := 4) (as := [xa 536, xi 0, xi 5, xi (xR m44 536 9)]) (st1 := []) rfl rfl rfl rfl rfl rfl rfl rfl rfl rfl (fun _ => xw_rcv1 (t := 12) (xw_obd (by decide +kernel)) rfl) rfl (List.forall_mem_cons.mpr ⟨rfl, List.forall_mem_cons.mpr ⟨rfl, List.forall_mem_cons.mpr ⟨rfl, List.forall_mem_cons.mpr ⟨rfl, fun _ h => absurd h List.not_mem_nil⟩⟩⟩⟩) (ygf254 hB _ _ _ _ rfl rfl (w32_xR _ _ _)) (fun v45 m45 cv45 => ?_)
                refine xS_of (pc' := 226) (L' := [(0, xa 536), (1, xi (xR m 536 9)), (2, xi 3), (4, xi v44)]) (st' := []) (m' := m45) (fun ex ns r q => ?_) ?_
                · refine xw_istore (L' := [(5, xi v45), (0, xa 536), (1, xi (xR m 536 9)), (2, xi 3), (4, xi v44)]) rfl (by decide) rfl ?_
                  refine xw_goto rfl ?_
                  refine xw_lo (L2 := [(0, xa 536), (1, xi (xR m 536 9)), (2, xi 3), (4, xi v44)]) (List.forall_mem_cons.mpr ⟨rfl, List.forall_mem_cons.mpr ⟨rfl, List.forall_mem_cons.mpr ⟨rfl, List.forall_mem_cons.mpr ⟨rfl, fun _ h => absurd h List.not_mem_nil⟩⟩⟩⟩) ?_
                  exact q
                exact ygk271_226 hB _ _ _ _ (w32_xR _ _ _) rfl cv44
              · refine xS_of (pc' := 186) (L' := [(0, xa 536), (1, xi (xR m 536 9)), (2, xi 3), (4, xi v44)]) (st' := [xi (xR m44 536 9), xi 5, xi 1, xa 536]) (m' := m44) (fun ex ns r q => ?_) ?_
                · refine xw_if_ltF rfl (w32_cg cv44) h7 ?_
                  refine xw_iconst rfl ?_
                  refine xw_goto rfl ?_
                  refine xw_iconst rfl ?_
                  refine xw_aload_n rfl rfl rfl ?_
                  refine xw_gfIc (v := (m44 536 9)) (v' := (xR m44 536 9)) rfl (xw_obd (by decide +kernel)) xk12_9 (qi := 9) rfl rfl rfl ?_
                  refine xw_lo (L2 := [(0, xa 536), (1, xi (xR m 536 9)), (2, xi 3), (4, xi v44)]) (List.forall_mem_cons.mpr ⟨rfl, List.forall_mem_cons.mpr ⟨rfl, List.forall_mem_cons.mpr ⟨rfl, List.forall_mem_cons.mpr ⟨rfl, fun _ h => absurd h List.not_mem_nil⟩⟩⟩⟩) ?_
                  exact q
                refine xS_call (q := 254) (n := 4) (kq := 4) (as := [xa 536, xi 1, xi 5, xi (xR m44 536 9)]) (st1 := []) rfl rfl rfl rfl rfl rfl rfl rfl rfl rfl (fun _ => xw_rcv1 (t := 12) (xw_obd (by decide +kernel)) rfl) rfl (List.forall_mem_cons.mpr ⟨rfl, List.forall_mem_cons.mpr ⟨rfl, List.forall_mem_cons.mpr ⟨rfl, List.forall_mem_cons.mpr ⟨rfl, fun _ h => absurd h List.not_mem_nil⟩⟩⟩⟩) (ygf254 hB _ _ _ _ rfl rfl (w32_xR _ _ _)) (fun v46 m46 cv46 => ?_)
                refine xS_of (pc' := 226) (L' := [(0, xa 536), (1, xi (xR m 536 9)), (2, xi 3), (4, xi v44)]) (st' := []) (m' := m46) (fun ex ns r q => ?_) ?_
                · refine xw_istore (L' := [(5, xi v46), (0, xa 536), (1, xi (xR m 536 9)), (2, xi 3), (4, xi v44)]) rfl (by decide) rfl ?_
                  refine xw_goto rfl ?_
                  refine xw_lo (L2 := [(0, xa 536), (1, xi (xR m 536 9)), (2, xi 3), (4, xi v44)]) (List.forall_mem_cons.mpr ⟨rfl, List.forall_mem_cons.mpr ⟨rfl, List.forall_mem_cons.mpr ⟨rfl, List.forall_mem_cons.mpr ⟨rfl, fun _ h => absurd h List.not_mem_nil⟩⟩⟩⟩) ?_
                  exact q
                exact ygk271_226 hB _ _ _ _ (w32_xR _ _ _) rfl cv44
    · refine xS_g (fun g2 => ?_)
      refine xS_of (pc' := 95) (L' := [(3, xi 0), (2, xi 2), (0, xa 536), (1, xi (xR m 536 9))]) (st' := [xi 24, xi (xR m2 (m2 536 23) 0), xa 536]) (m' := m2) (fun ex ns r q => ?_) ?_
      · refine xw_if_eqF rfl (w32_cg (w32_of (xw_zr cv2))) h1 ?_
        refine xw_iconst rfl ?_
        refine xw_goto rfl ?_
        refine xw_istore_n (L' := [(2, xi 2), (0, xa 536), (1, xi (xR m 536 9))]) rfl (by decide) rfl ?_
        refine xw_iload_n rfl rfl ?_
        refine xw_if_neT rfl (w32_cg rfl) (by decide) ?_
        refine xw_iconst rfl ?_
        refine xw_istore_n (L' := [(3, xi 0), (2, xi 2), (0, xa 536), (1, xi (xR m 536 9))]) rfl (by decide) rfl ?_
        refine xw_aload_n rfl rfl rfl ?_
        refine xw_aload_n rfl rfl rfl ?_
        refine xw_gfM (v := (m2 536 23)) rfl (xw_obd (by decide +kernel)) xk12_23 (qi := 23) rfl rfl ?_
        refine xw_gfIc (v := (m2 (m2 536 23) 0)) (v' := (xR m2 (m2 536 23) 0)) rfl (xw_obd g2) xk13_0 (qi := 0) rfl rfl rfl ?_
        refine xw_bipush (e := 24) rfl (by decide +kernel) ?_
        exact q
      refine xS_if (fun h3 => ?_) (fun h3 => ?_)
      · refine xS_of (pc' := 106) (L' := [(0, xa 536), (1, xi (xR m 536 9)), (2, xi 2), (3, xi 0)]) (st' := [xi (xR m 536 9), xi 7, xi 1, xa 536]) (m' := m2) (fun ex ns r q => ?_) ?_
        · refine xw_ic_geF rfl (w32_cg (w32_xR _ _ _)) (w32_cg rfl) (Int.not_le.mpr h3) ?_
          refine xw_iconst rfl ?_
          refine xw_goto rfl ?_
          refine xw_bipush (e := 7) rfl (by decide +kernel) ?_
          refine xw_iload_n rfl rfl ?_
          refine xw_lo (L2 := [(0, xa 536), (1, xi (xR m 536 9)), (2, xi 2), (3, xi 0)]) (List.forall_mem_cons.mpr ⟨rfl, List.forall_mem_cons.mpr ⟨rfl, List.forall_mem_cons.mpr ⟨rfl, List.forall_mem_cons.mpr ⟨rfl, fun _ h => absurd h List.not_mem_nil⟩⟩⟩⟩) ?_
          exact q
        refine xS_call (q := 254) (n := 4) (kq := 4) (as := [xa 536, xi 1, xi 7, xi (xR m 536 9)]) (st1 := []) rfl rfl rfl rfl rfl rfl rfl rfl rfl rfl (fun _ => xw_rcv1 (t := 12) (xw_obd (by decide +kernel)) rfl) rfl (List.forall_mem_cons.mpr ⟨rfl, List.forall_mem_cons.mpr ⟨rfl, List.forall_mem_cons.mpr ⟨rfl, List.forall_mem_cons.mpr ⟨rfl, fun _ h => absurd h List.not_mem_nil⟩⟩⟩⟩) (ygf254 hB _ _ _ _ rfl rfl (w32_xR _ _ _)) (fun v47 m47 cv47 => ?_)
        refine xS_if (fun h4 => ?_) (fun h4 => ?_)
        · refine xS_of (pc' := 112) (L' := [(0, xa 536), (1, xi (xR m 536 9)), (2, xi 2), (3, xi 0)]) (st' := []) (m' := m47) (fun ex ns r q => ?_) ?_
          · refine xw_if_neF rfl (w32_cg (w32_of (xw_zr cv47))) h4 ?_
            exact q
          exact xS_ret (v := 0) rfl rfl rfl rfl
        · refine xS_of (pc' := 133) (L' := [(0, xa 536), (1, xi (xR m 536 9)), (2, xi 2), (4, xi 0)]) (st' := [xi 40, xa 536]) (m' := m47) (fun ex ns r q => ?_) ?_
          · refine xw_if_neT rfl (w32_cg (w32_of (xw_zr cv47))) h4 ?_
            refine xw_iconst rfl ?_
            refine xw_istore (L' := [(4, xi 0), (0, xa 536), (1, xi (xR m 536 9)), (2, xi 2), (3, xi 0)]) rfl (by decide) rfl ?_
            refine xw_iload_n rfl rfl ?_
            refine xw_if_neT rfl (w32_cg rfl) (by decide) ?_
            refine xw_aload_n rfl rfl rfl ?_
            refine xw_bipush (e := 40) rfl (by decide +kernel) ?_
            refine xw_lo (L2 := [(0, xa 536), (1, xi (xR m 536 9)), (2, xi 2), (4, xi 0)]) (List.forall_mem_cons.mpr ⟨rfl, List.forall_mem_cons.mpr ⟨rfl, List.forall_mem_cons.mpr ⟨rfl, List.forall_mem_cons.mpr ⟨rfl, fun _ h => absurd h List.not_mem_nil⟩⟩⟩⟩) ?_
            exact q
          refine xS_call (q := 265) (n := 2) (kq := 4) (as := [xa 536, xi 40]) (st1 := []) rfl rfl rfl rfl rfl rfl rfl rfl rfl rfl (fun _ => xw_rcv1 (t := 12) (xw_obd (by decide +kernel)) rfl) rfl (List.forall_mem_cons.mpr ⟨rfl, List.forall_mem_cons.mpr ⟨rfl, fun _ h => absurd h List.not_mem_nil⟩⟩) (ygf265 hB _ _ rfl) (fun v48 m48 cv48 => ?_)
          refine xS_of (pc' := 139) (L' := [(0, xa 536), (1, xi (xR m 536 9)), (2, xi 2), (4, xi 0)]) (st' := [xa 536]) (m' := m48) (fun ex ns r q => ?_) ?_
          · refine xw_istore (L' := [(5, xi v48), (0, xa 536), (1, xi (xR m 536 9)), (2, xi 2), (4, xi 0)]) rfl (by decide) rfl ?_
            refine xw_aload_n rfl rfl rfl ?_
            refine xw_lo (L2 := [(0, xa 536), (1, xi (xR m 536 9)), (2, xi 2), (4, xi 0)]) (List.forall_mem_cons.mpr ⟨rfl, List.forall_mem_cons.mpr ⟨rfl, List.forall_mem_cons.mpr ⟨rfl, List.forall_mem_cons.mpr ⟨rfl, fun _ h => absurd h List.not_mem_nil⟩⟩⟩⟩) ?_
            exact q
          refine xS_call (q := 248) (n := 1) (kq := 0) (as := [xa 536]) (st1 := []) rfl rfl rfl rfl rfl rfl rfl rfl rfl rfl (fun _ => xw_rcv1 (t := 12) (xw_obd (by decide +kernel)) rfl) rfl (List.forall_mem_cons.mpr ⟨rfl, fun _ h => absurd h List.not_mem_nil⟩) (ygf248 hB _) (fun v49 m49 cv49 => ?_)
          refine xS_of (pc' := 148) (L' := [(0, xa 536), (1, xi (xR m 536 9)), (2, xi 2)]) (st' := [xa 536]) (m' := m49) (fun ex ns r q => ?_) ?_
          · refine xw_iload_n rfl rfl ?_
            refine xw_iconst rfl ?_
            refine xw_ic_geF rfl (w32_cg rfl) (w32_cg rfl) (Int.not_le.mpr (by decide)) ?_
            refine xw_aload_n rfl rfl rfl ?_
            refine xw_lo (L2 := [(0, xa 536), (1, xi (xR m 536 9)), (2, xi 2)]) (List.forall_mem_cons.mpr ⟨rfl, List.forall_mem_cons.mpr ⟨rfl, List.forall_mem_cons.mpr ⟨rfl, fun _ h => absurd h List.not_mem_nil⟩⟩⟩) ?_
            exact q
          refine xS_call (q := 261) (n := 1) (kq := 4) (as := [xa 536]) (st1 := []) rfl rfl rfl rfl rfl rfl rfl rfl rfl rfl (fun _ => xw_rcv1 (t := 12) (xw_obd (by decide +kernel)) rfl) rfl (List.forall_mem_cons.mpr ⟨rfl, fun _ h => absurd h List.not_mem_nil⟩) (ygf261 hB _) (fun v50 m50 cv50 => ?_)
          refine xS_if (fun h5 => ?_) (fun h5 => ?_)
          · refine xS_of (pc' := 186) (L' := [(0, xa 536), (1, xi (xR m 536 9)), (2, xi 2), (4, xi 0)]) (st' := [xi (xR m50 536 9), xi 5, xi 1, xa 536]) (m' := m50) (fun ex ns r q => ?_) ?_
            · refine xw_if_eqT rfl (w32_cg (w32_of (xw_zr cv50))) h5 ?_
              refine xw_iconst rfl ?_
              refine xw_istore (L' := [(4, xi 0), (0, xa 536), (1, xi (xR m 536 9)), (2, xi 2)]) rfl (by decide) rfl ?_
              refine xw_aload_n rfl rfl rfl ?_
              refine xw_iload rfl rfl ?_
              refine xw_if_ltF rfl (w32_cg rfl) (by decide) ?_
              refine xw_iconst rfl ?_
              refine xw_goto rfl ?_
              refine xw_iconst rfl ?_
              refine xw_aload_n rfl rfl rfl ?_
              refine xw_gfIc (v := (m50 536 9)) (v' := (xR m50 536 9)) rfl (xw_obd (by decide +kernel)) xk12_9 (qi := 9) rfl rfl rfl ?_
              refine xw_lo (L2 := [(0, xa 536), (1, xi (xR m 536 9)), (2, xi 2), (4, xi 0)]) (List.forall_mem_cons.mpr ⟨rfl, List.forall_mem_cons.mpr ⟨rfl, List.forall_mem_cons.mpr ⟨rfl, List.forall_mem_cons.mpr ⟨rfl, fun _ h => absurd h List.not_mem_nil⟩⟩⟩⟩) ?_
              exact q
            refine xS_call (q := 254) (n := 4) (kq := 4) (as := [xa 536, xi 1, xi 5, xi (xR m50 536 9)]) (st1 := []) rfl rfl rfl rfl rfl rfl rfl rfl rfl rfl (fun _ => xw_rcv1 (t := 12) (xw_obd (by decide +kernel)) rfl) rfl (List.forall_mem_cons.mpr ⟨rfl, List.forall_mem_cons.mpr ⟨rfl, List.forall_mem_cons.mpr ⟨rfl, List.forall_mem_cons.mpr ⟨rfl, fun _ h => absurd h List.not_mem_nil⟩⟩⟩⟩) (ygf254 hB _ _ _ _ rfl rfl (w32_xR _ _ _)) (fun v51 m51 cv51 => ?_)
            refine xS_of (pc' := 226) (L' := [(0, xa 536), (1, xi (xR m 536 9)), (2, xi 2), (4, xi 0)]) (st' := []) (m' := m51) (fun ex ns r q => ?_) ?_
            · refine xw_istore (L' := [(5, xi v51), (0, xa 536), (1, xi (xR m 536 9)), (2, xi 2), (4, xi 0)]) rfl (by decide) rfl ?_
              refine xw_goto rfl ?_
              refine xw_lo (L2 := [(0, xa 536), (1, xi (xR m 536 9)), (2, xi 2), (4, xi 0)]) (List.forall_mem_cons.mpr ⟨rfl, List.forall_mem_cons.mpr ⟨rfl, List.forall_mem_cons.mpr ⟨rfl, List.forall_mem_cons.mpr ⟨rfl, fun _ h => absurd h List.not_mem_nil⟩⟩⟩⟩) ?_
              exact q
            exact ygk271_226 hB _ _ _ _ (w32_xR _ _ _) rfl rfl
          · refine xS_of (pc' := 161) (L' := [(0, xa 536), (1, xi (xR m 536 9)), (2, xi 2)]) (st' := [xi (xR m50 536 19), xi 40, xa 536]) (m' := m50) (fun ex ns r q => ?_) ?_
            · refine xw_if_eqF rfl (w32_cg (w32_of (xw_zr cv50))) h5 ?_
              refine xw_aload_n rfl rfl rfl ?_
              refine xw_bipush (e := 40) rfl (by decide +kernel) ?_
              refine xw_aload_n rfl rfl rfl ?_
              refine xw_gfIc (v := (m50 536 19)) (v' := (xR m50 536 19)) rfl (xw_obd (by decide +kernel)) xk12_19 (qi := 19) rfl rfl rfl ?_
              refine xw_lo (L2 := [(0, xa 536), (1, xi (xR m 536 9)), (2, xi 2)]) (List.forall_mem_cons.mpr ⟨rfl, List.forall_mem_cons.mpr ⟨rfl, List.forall_mem_cons.mpr ⟨rfl, fun _ h => absurd h List.not_mem_nil⟩⟩⟩) ?_
              exact q
            refine xS_call (q := 262) (n := 3) (kq := 1) (as := [xa 536, xi 40, xi (xR m50 536 19)]) (st1 := []) rfl rfl rfl rfl rfl rfl rfl rfl rfl rfl (fun _ => xw_rcv1 (t := 12) (xw_obd (by decide +kernel)) rfl) rfl (List.forall_mem_cons.mpr ⟨rfl, List.forall_mem_cons.mpr ⟨rfl, List.forall_mem_cons.mpr ⟨rfl, fun _ h => absurd h List.not_mem_nil⟩⟩⟩) (ygf262 hB _ _ _ rfl (w32_xR _ _ _)) (fun v52 m52 cv52 => ?_)
            refine xS_of (pc' := 173) (L' := [(4, xi v52), (0, xa 536), (1, xi (xR m 536 9)), (2, xi 2)]) (st' := [xi v52, xa 536]) (m' := m52) (fun ex ns r q => ?_) ?_
            · refine xw_goto rfl ?_
              refine xw_istore (L' := [(4, xi v52), (0, xa 536), (1, xi (xR m 536 9)), (2, xi 2)]) rfl (by decide) rfl ?_
              refine xw_aload_n rfl rfl rfl ?_
              refine xw_iload rfl rfl ?_
              exact q
            refine xS_if (fun h6 => ?_) (fun h6 => ?_)
            · refine xS_of (pc' := 186) (L' := [(0, xa 536), (1, xi (xR m 536 9)), (2, xi 2), (4, xi v52)]) (st' := [xi (xR m52 536 9), xi 5, xi 0, xa 536]) (m' := m52) (fun ex ns r q => ?_) ?_
              · refine xw_if_ltT rfl (w32_cg cv52) h6 ?_
                refine xw_iconst rfl ?_
                refine xw_iconst rfl ?_
                refine xw_aload_n rfl rfl rfl ?_
                refine xw_gfIc (v := (m52 536 9)) (v' := (xR m52 536 9)) rfl (xw_obd (by decide +kernel)) xk12_9 (qi := 9) rfl rfl rfl ?_
                refine xw_lo (L2 := [(0, xa 536), (1, xi (xR m 536 9)), (2, xi 2), (4, xi v52)]) (List.forall_mem_cons.mpr ⟨rfl, List.forall_mem_cons.mpr ⟨rfl, List.forall_mem_cons.mpr ⟨rfl, List.forall_mem_cons.mpr ⟨rfl, fun _ h => absurd h List.not_mem_nil⟩⟩⟩⟩) ?_
                exact q
              refine xS_call (q := 254) (n := 4) (kq := 4) (as := [xa 536, xi 0, xi 5, xi (xR m52 536 9)]) (st1 := []) rfl rfl rfl rfl rfl rfl rfl rfl rfl rfl (fun _ => xw_rcv1 (t := 12) (xw_obd (by decide +kernel)) rfl) rfl (List.forall_mem_cons.mpr ⟨rfl, List.forall_mem_cons.mpr ⟨rfl, List.forall_mem_cons.mpr ⟨rfl, List.forall_mem_cons.mpr ⟨rfl, fun _ h => absurd h List.not_mem_nil⟩⟩⟩⟩) (ygf254 hB _ _ _ _ rfl rfl (w32_xR _ _ _)) (fun v53 m53 cv53 => ?_)
              refine xS_of (pc' := 226) (L' := [(0, xa 536), (1, xi (xR m 536 9)), (2, xi 2), (4, xi v52)]) (st' := []) (m' := m53) (fun ex ns r q => ?_) ?_
              · refine xw_istore (L' := [(5, xi v53), (0, xa 536), (1, xi (xR m 536 9)), (2, xi 2), (4, xi v52)]) rfl (by decide) rfl ?_
                refine xw_goto rfl ?_
                refine xw_lo (L2 := [(0, xa 536), (1, xi (xR m 536 9)), (2, xi 2), (4, xi v52)]) (List.forall_mem_cons.mpr ⟨rfl, List.forall_mem_cons.mpr ⟨rfl, List.forall_mem_cons.mpr ⟨rfl, List.forall_mem_cons.mpr ⟨rfl, fun _ h => absurd h List.not_mem_nil⟩⟩⟩⟩) ?_
                exact q
              exact ygk271_226 hB _ _ _ _ (w32_xR _ _ _) rfl cv52
            · refine xS_of (pc' := 186) (L' := [(0, xa 536), (1, xi (xR m 536 9)), (2, xi 2), (4, xi v52)]) (st' := [xi (xR m52 536 9), xi 5, xi 1, xa 536]) (m' := m52) (fun ex ns r q => ?_) ?_
              · refine xw_if_ltF rfl (w32_cg cv52) h6 ?_
                refine xw_iconst rfl ?_
                refine xw_goto rfl ?_
                refine xw_iconst rfl ?_
                refine xw_aload_n rfl rfl rfl ?_
                refine xw_gfIc (v := (m52 536 9)) (v' := (xR m52 536 9)) rfl (xw_obd (by decide +kernel)) xk12_9 (qi := 9) rfl rfl rfl ?_
                refine xw_lo (L2 := [(0, xa 536), (1, xi (xR m 536 9)), (2, xi 2), (4, xi v52)]) (List.forall_mem_cons.mpr ⟨rfl, List.forall_mem_cons.mpr ⟨rfl, List.forall_mem_cons.mpr ⟨rfl, List.forall_mem_cons.mpr ⟨rfl, fun _ h => absurd h List.not_mem_nil⟩⟩⟩⟩) ?_
                exact q
              refine xS_call (q := 254) (n := 4) (kq := 4) (as := [xa 536, xi 1, xi 5, xi (xR m52 536 9)]) (st1 := []) rfl rfl rfl rfl rfl rfl rfl rfl rfl rfl (fun _ => xw_rcv1 (t := 12) (xw_obd (by decide +kernel)) rfl) rfl (List.forall_mem_cons.mpr ⟨rfl, List.forall_mem_cons.mpr ⟨rfl, List.forall_mem_cons.mpr ⟨rfl, List.forall_mem_cons.mpr ⟨rfl, fun _ h => absurd h List.not_mem_nil⟩⟩⟩⟩) (ygf254 hB _ _ _ _ rfl rfl (w32_xR _ _ _)) (fun v54 m54 cv54 => ?_)
              refine xS_of (pc' := 226) (L' := [(0, xa 536), (1, xi (xR m 536 9)), (2, xi 2), (4, xi v52)]) (st' := []) (m' := m54) (fun ex ns r q => ?_) ?_
              · refine xw_istore (L' := [(5, xi v54), (0, xa 536), (1, xi (xR m 536 9)), (2, xi 2), (4, xi v52)]) rfl (by decide) rfl ?_
                refine xw_goto rfl ?_
                refine xw_lo (L2 := [(0, xa 536), (1, xi (xR m 536 9)), (2, xi 2), (4, xi v52)]) (List.forall_mem_cons.mpr ⟨rfl, List.forall_mem_cons.mpr ⟨rfl, List.forall_mem_cons.mpr ⟨rfl, List.forall_mem_cons.mpr ⟨rfl, fun _ h => absurd h List.not_mem_nil⟩⟩⟩⟩) ?_
                exact q
              exact ygk271_226 hB _ _ _ _ (w32_xR _ _ _) rfl cv52
      · refine xS_of (pc' := 106) (L' := [(0, xa 536), (1, xi (xR m 536 9)), (2, xi 2), (3, xi 0)]) (st' := [xi (xR m 536 9), xi 7, xi 0, xa 536]) (m' := m2) (fun ex ns r q => ?_) ?_
        · refine xw_ic_geT rfl (w32_cg (w32_xR _ _ _)) (w32_cg rfl) (Int.not_lt.mp h3) ?_
          refine xw_iconst rfl ?_
          refine xw_bipush (e := 7) rfl (by decide +kernel) ?_
          refine xw_iload_n rfl rfl ?_
          refine xw_lo (L2 := [(0, xa 536), (1, xi (xR m 536 9)), (2, xi 2), (3, xi 0)]) (List.forall_mem_cons.mpr ⟨rfl, List.forall_mem_cons.mpr ⟨rfl, List.forall_mem_cons.mpr ⟨rfl, List.forall_mem_cons.mpr ⟨rfl, fun _ h => absurd h List.not_mem_nil⟩⟩⟩⟩) ?_
          exact q
        refine xS_call (q := 254) (n := 4) (kq := 4) (as := [xa 536, xi 0, xi 7, xi (xR m 536 9)]) (st1 := []) rfl rfl rfl rfl rfl rfl rfl rfl rfl rfl (fun _ => xw_rcv1 (t := 12) (xw_obd (by decide +kernel)) rfl) rfl (List.forall_mem_cons.mpr ⟨rfl, List.forall_mem_cons.mpr ⟨rfl, List.forall_mem_cons.mpr ⟨rfl, List.forall_mem_cons.mpr ⟨rfl, fun _ h => absurd h List.not_mem_nil⟩⟩⟩⟩) (ygf254 hB _ _ _ _ rfl rfl (w32_xR _ _ _)) (fun v55 m55 cv55 => ?_)
        refine xS_if (fun h4 => ?_) (fun h4 => ?_)
        · refine xS_of (pc' := 112) (L' := [(0, xa 536), (1, xi (xR m 536 9)), (2, xi 2), (3, xi 0)]) (st' := []) (m' := m55) (fun ex ns r q => ?_) ?_
          · refine xw_if_neF rfl (w32_cg (w32_of (xw_zr cv55))) h4 ?_
            exact q
          exact xS_ret (v := 0) rfl rfl rfl rfl
        · refine xS_of (pc' := 133) (L' := [(0, xa 536), (1, xi (xR m 536 9)), (2, xi 2), (4, xi 0)]) (st' := [xi 40, xa 536]) (m' := m55) (fun ex ns r q => ?_) ?_
          · refine xw_if_neT rfl (w32_cg (w32_of (xw_zr cv55))) h4 ?_
            refine xw_iconst rfl ?_
            refine xw_istore (L' := [(4, xi 0), (0, xa 536), (1, xi (xR m 536 9)), (2, xi 2), (3, xi 0)]) rfl (by decide) rfl ?_
            refine xw_iload_n rfl rfl ?_
            refine xw_if_neT rfl (w32_cg rfl) (by decide) ?_
            refine xw_aload_n rfl rfl rfl ?_
            refine xw_bipush (e := 40) rfl (by decide +kernel) ?_
            refine xw_lo (L2 := [(0, xa 536), (1, xi (xR m 536 9)), (2, xi 2), (4, xi 0)]) (List.forall_mem_cons.mpr ⟨rfl, List.forall_mem_cons.mpr ⟨rfl, List.forall_mem_cons.mpr ⟨rfl, List.forall_mem_cons.mpr ⟨rfl, fun _ h => absurd h List.not_mem_nil⟩⟩⟩⟩) ?_
            exact q
          refine xS_call (q := 265) (n := 2) (kq := 4) (as := [xa 536, xi 40]) (st1 := []) rfl rfl rfl rfl rfl rfl rfl rfl rfl rfl (fun _ => xw_rcv1 (t := 12) (xw_obd (by decide +kernel)) rfl) rfl (List.forall_mem_cons.mpr ⟨rfl, List.forall_mem_cons.mpr ⟨rfl, fun _ h => absurd h List.not_mem_nil⟩⟩) (ygf265 hB _ _ rfl) (fun v56 m56 cv56 => ?_)
          refine xS_of (pc' := 139) (L' := [(0, xa 536), (1, xi (xR m 536 9)), (2, xi 2), (4, xi 0)]) (st' := [xa 536]) (m' := m56) (fun ex ns r q => ?_) ?_
          · refine xw_istore (L' := [(5, xi v56), (0, xa 536), (1, xi (xR m 536 9)), (2, xi 2), (4, xi 0)]) rfl (by decide) rfl ?_
            refine xw_aload_n rfl rfl rfl ?_
            refine xw_lo (L2 := [(0, xa 536), (1, xi (xR m 536 9)), (2, xi 2), (4, xi 0)]) (List.forall_mem_cons.mpr ⟨rfl, List.forall_mem_cons.mpr ⟨rfl, List.forall_mem_cons.mpr ⟨rfl, List.forall_mem_cons.mpr ⟨rfl, fun _ h => absurd h List.not_mem_nil⟩⟩⟩⟩) ?_
            exact q
          refine xS_call (q := 248) (n := 1) (kq := 0) (as := [xa 536]) (st1 := []) rfl rfl rfl rfl rfl rfl rfl rfl rfl rfl (fun _ => xw_rcv1 (t := 12) (xw_obd (by decide +kernel)) rfl) rfl (List.forall_mem_cons.mpr ⟨rfl, fun _ h => absurd h List.not_mem_nil⟩) (ygf248 hB _) (fun v57 m57 cv57 => ?_)
          refine xS_of (pc' := 148) (L' := [(0, xa 536), (1, xi (xR m 536 9)), (2, xi 2)]) (st' := [xa 536]) (m' := m57) (fun ex ns r q => ?_) ?_
          · refine xw_iload_n rfl rfl ?_
            refine xw_iconst rfl ?_
            refine xw_ic_geF rfl (w32_cg rfl) (w32_cg rfl) (Int.not_le.mpr (by decide)) ?_
            refine xw_aload_n rfl rfl rfl ?_
            refine xw_lo (L2 := [(0, xa 536), (1, xi (xR m 536 9)), (2, xi 2)]) (List.forall_mem_cons.mpr ⟨rfl, List.forall_mem_cons.mpr ⟨rfl, List.forall_mem_cons.mpr ⟨rfl, fun _ h => absurd h List.not_mem_nil⟩⟩⟩) ?_
            exact q
          refine xS_call (q := 261) (n := 1) (kq := 4) (as := [xa 536]) (st1 := []) rfl rfl rfl rfl rfl rfl rfl rfl rfl rfl (fun _ => xw_rcv1 (t := 12) (xw_obd (by decide +kernel)) rfl) rfl (List.forall_mem_cons.mpr ⟨rfl, fun _ h => absurd h List.not_mem_nil⟩) (ygf261 hB _) (fun v58 m58 cv58 => ?_)
          refine xS_if (fun h5 => ?_) (fun h5 => ?_)
          · refine xS_of (pc' := 186) (L' := [(0, xa 536), (1, xi (xR m 536 9)), (2, xi 2), (4, xi 0)]) (st' := [xi (xR m58 536 9), xi 5, xi 1, xa 536]) (m' := m58) (fun ex ns r q => ?_) ?_
            · refine xw_if_eqT rfl (w32_cg (w32_of (xw_zr cv58))) h5 ?_
              refine xw_iconst rfl ?_
              refine xw_istore (L' := [(4, xi 0), (0, xa 536), (1, xi (xR m 536 9)), (2, xi 2)]) rfl (by decide) rfl ?_
              refine xw_aload_n rfl rfl rfl ?_
              refine xw_iload rfl rfl ?_
              refine xw_if_ltF rfl (w32_cg rfl) (by decide) ?_
              refine xw_iconst rfl ?_
              refine xw_goto rfl ?_
              refine xw_iconst rfl ?_
              refine xw_aload_n rfl rfl rfl ?_
              refine xw_gfIc (v := (m58 536 9)) (v' := (xR m58 536 9)) rfl (xw_obd (by decide +kernel)) xk12_9 (qi := 9) rfl rfl rfl ?_
              refine xw_lo (L2 := [(0, xa 536), (1, xi (xR m 536 9)), (2, xi 2), (4, xi 0)]) (List.forall_mem_cons.mpr ⟨rfl, List.forall_mem_cons.mpr ⟨rfl, List.forall_mem_cons.mpr ⟨rfl, List.forall_mem_cons.mpr ⟨rfl, fun _ h => absurd h List.not_mem_nil⟩⟩⟩⟩) ?_
              exact q
            refine xS_call (q := 254) (n := 4) (kq := 4) (as := [xa 536, xi 1, xi 5, xi (xR m58 536 9)]) (st1 := []) rfl rfl rfl rfl rfl rfl rfl rfl rfl rfl (fun _ => xw_rcv1 (t := 12) (xw_obd (by decide +kernel)) rfl) rfl (List.forall_mem_cons.mpr ⟨rfl, List.forall_mem_cons.mpr ⟨rfl, List.forall_mem_cons.mpr ⟨rfl, List.forall_mem_cons.mpr ⟨rfl, fun _ h => absurd h List.not_mem_nil⟩⟩⟩⟩) (ygf254 hB _ _ _ _ rfl rfl (w32_xR _ _ _)) (fun v59 m59 cv59 => ?_)
            refine xS_of (pc' := 226) (L' := [(0, xa 536), (1, xi (xR m 536 9)), (2, xi 2), (4, xi 0)]) (st' := []) (m' := m59) (fun ex ns r q => ?_) ?_
            · refine xw_istore (L' := [(5, xi v59), (0, xa 536), (1, xi (xR m 536 9)), (2, xi 2), (4, xi 0)]) rfl (by decide) rfl ?_
              refine xw_goto rfl ?_
              refine xw_lo (L2 := [(0, xa 536), (1, xi (xR m 536 9)), (2, xi 2), (4, xi 0)]) (List.forall_mem_cons.mpr ⟨rfl, List.forall_mem_cons.mpr ⟨rfl, List.forall_mem_cons.mpr ⟨rfl, List.forall_mem_cons.mpr ⟨rfl, fun _ h => absurd h List.not_mem_nil⟩⟩⟩⟩) ?_
              exact q
            exact ygk271_226 hB _ _ _ _ (w32_xR _ _ _) rfl rfl
          · refine xS_of (pc' := 161) (L' := [(0, xa 536), (1, xi (xR m 536 9)), (2, xi 2)]) (st' := [xi (xR m58 536 19), xi 40, xa 536]) (m' := m58) (fun ex ns r q => ?_) ?_
            · refine xw_if_eqF rfl (w32_cg (w32_of (xw_zr cv58))) h5 ?_
              refine xw_aload_n rfl rfl rfl ?_
              refine xw_bipush (e := 40) rfl (by decide +kernel) ?_
              refine xw_aload_n rfl rfl rfl ?_
              refine xw_gfIc (v := (m58 536 19)) (v' := (xR m58 536 19)) rfl (xw_obd (by decide +kernel)) xk12_19 (qi := 19) rfl rfl rfl ?_
              refine xw_lo (L2 := [(0, xa 536), (1, xi (xR m 536 9)), (2, xi 2)]) (List.forall_mem_cons.mpr ⟨rfl, List.forall_mem_cons.mpr ⟨rfl, List.forall_mem_cons.mpr ⟨rfl, fun _ h => absurd h List.not_mem_nil⟩⟩⟩) ?_
              exact q
            refine xS_call (q := 262) (n := 3) (kq := 1) (as := [xa 536, xi 40, xi (xR m58 536 19)]) (st1 := []) rfl rfl rfl rfl rfl rfl rfl rfl rfl rfl (fun _ => xw_rcv1 (t := 12) (xw_obd (by decide +kernel)) rfl) rfl (List.forall_mem_cons.mpr ⟨rfl, List.forall_mem_cons.mpr ⟨rfl, List.forall_mem_cons.mpr ⟨rfl, fun _ h => absurd h List.not_mem_nil⟩⟩⟩) (ygf262 hB _ _ _ rfl (w32_xR _ _ _)) (fun v60 m60 cv60 => ?_)
            refine xS_of (pc' := 173) (L' := [(4, xi v60), (0, xa 536), (1, xi (xR m 536 9)), (2, xi 2)]) (st' := [xi v60, xa 536]) (m' := m60) (fun ex ns r q => ?_) ?_
            · refine xw_goto rfl ?_
              refine xw_istore (L' := [(4, xi v60), (0, xa 536), (1, xi (xR m 536 9)), (2, xi 2)]) rfl (by decide) rfl ?_
              refine xw_aload_n rfl rfl rfl ?_
              refine xw_iload rfl rfl ?_
              exact q
            refine xS_if (fun h6 => ?_) (fun h6 => ?_)
            · refine xS_of (pc' := 186) (L' := [(0, xa 536), (1, xi (xR m 536 9)), (2, xi 2), (4, xi v60)]) (st' := [xi (xR m60 536 9), xi 5, xi 0, xa 536]) (m' := m60) (fun ex ns r q => ?_) ?_
              · refine xw_if_ltT rfl (w32_cg cv60) h6 ?_
                refine xw_iconst rfl ?_
                refine xw_iconst rfl ?_
                refine xw_aload_n rfl rfl rfl ?_
                refine xw_gfIc (v := (m60 536 9)) (v' := (xR m60 536 9)) rfl (xw_obd (by decide +kernel)) xk12_9 (qi := 9) rfl rfl rfl ?_
                refine xw_lo (L2 := [(0, xa 536), (1, xi (xR m 536 9)), (2, xi 2), (4, xi v60)]) (List.forall_mem_cons.mpr ⟨rfl, List.forall_mem_cons.mpr ⟨rfl, List.forall_mem_cons.mpr ⟨rfl, List.forall_mem_cons.mpr ⟨rfl, fun _ h => absurd h List.not_mem_nil⟩⟩⟩⟩) ?_
                exact q
              refine xS_call (q := 254) (n := 4) (kq := 4) (as := [xa 536, xi 0, xi 5, xi (xR m60 536 9)]) (st1 := []) rfl rfl rfl rfl rfl rfl rfl rfl rfl rfl (fun _ => xw_rcv1 (t := 12) (xw_obd (by decide +kernel)) rfl) rfl (List.forall_mem_cons.mpr ⟨rfl, List.forall_mem_cons.mpr ⟨rfl, List.forall_mem_cons.mpr ⟨rfl, List.forall_mem_cons.mpr ⟨rfl, fun _ h => absurd h List.not_mem_nil⟩⟩⟩⟩) (ygf254 hB _ _ _ _ rfl rfl (w32_xR _ _ _)) (fun v61 m61 cv61 => ?_)
              refine xS_of (pc' := 226) (L' := [(0, xa 536), (1, xi (xR m 536 9)), (2, xi 2), (4, xi v60)]) (st' := []) (m' := m61) (fun ex ns r q => ?_) ?_
              · refine xw_istore (L' := [(5, xi v61), (0, xa 536), (1, xi (xR m 536 9)), (2, xi 2), (4, xi v60)]) rfl (by decide) rfl ?_
                refine xw_goto rfl ?_
                refine xw_lo (L2 := [(0, xa 536), (1, xi (xR m 536 9)), (2, xi 2), (4, xi v60)]) (List.forall_mem_cons.mpr ⟨rfl, List.forall_mem_cons.mpr ⟨rfl, List.forall_mem_cons.mpr ⟨rfl, List.forall_mem_cons.mpr ⟨rfl, fun _ h => absurd h List.not_mem_nil⟩⟩⟩⟩) ?_
                exact q
              exact ygk271_226 hB _ _ _ _ (w32_xR _ _ _) rfl cv60
            · refine xS_of (pc' := 186) (L' := [(0, xa 536), (1, xi (xR m 536 9)), (2, xi 2), (4, xi v60)]) (st' := [xi (xR m60 536 9), xi 5, xi 1, xa 536]) (m' := m60) (fun ex ns r q => ?_) ?_
              · refine xw_if_ltF rfl (w32_cg cv60) h6 ?_
                refine xw_iconst rfl ?_
                refine xw_goto rfl ?_
                refine xw_iconst rfl ?_
                refine xw_aload_n rfl rfl rfl ?_
                refine xw_gfIc (v := (m60 536 9)) (v' := (xR m60 536 9)) rfl (xw_obd (by decide +kernel)) xk12_9 (qi := 9) rfl rfl rfl ?_
                refine xw_lo (L2 := [(0, xa 536), (1, xi (xR m 536 9)), (2, xi 2), (4, xi v60)]) (List.forall_mem_cons.mpr ⟨rfl, List.forall_mem_cons.mpr ⟨rfl, List.forall_mem_cons.mpr ⟨rfl, List.forall_mem_cons.mpr ⟨rfl, fun _ h => absurd h List.not_mem_nil⟩⟩⟩⟩) ?_
                exact q
              refine xS_call (q := 254) (n := 4) (kq := 4) (as := [xa 536, xi 1, xi 5, xi (xR m60 536 9)]) (st1 := []) rfl rfl rfl rfl rfl rfl rfl rfl rfl rfl (fun _ => xw_rcv1 (t := 12) (xw_obd (by decide +kernel)) rfl) rfl (List.forall_mem_cons.mpr ⟨rfl, List.forall_mem_cons.mpr ⟨rfl, List.forall_mem_cons.mpr ⟨rfl, List.forall_mem_cons.mpr ⟨rfl, fun _ h => absurd h List.not_mem_nil⟩⟩⟩⟩) (ygf254 hB _ _ _ _ rfl rfl (w32_xR _ _ _)) (fun v62 m62 cv62 => ?_)
              refine xS_of (pc' := 226) (L' := [(0, xa 536), (1, xi (xR m 536 9)), (2, xi 2), (4, xi v60)]) (st' := []) (m' := m62) (fun ex ns r q => ?_) ?_
              · refine xw_istore (L' := [(5, xi v62), (0, xa 536), (1, xi (xR m 536 9)), (2, xi 2), (4, xi v60)]) rfl (by decide) rfl ?_
                refine xw_goto rfl ?_
                refine xw_lo (L2 := [(0, xa 536), (1, xi (xR m 536 9)), (2, xi 2), (4, xi v60)]) (List.forall_mem_cons.mpr ⟨rfl, List.forall_mem_cons.mpr ⟨rfl, List.forall_mem_cons.mpr ⟨rfl, List.forall_mem_cons.mpr ⟨rfl, fun _ h => absurd h List.not_mem_nil⟩⟩⟩⟩) ?_
                exact q
              exact ygk271_226 hB _ _ _ _ (w32_xR _ _ _) rfl cv60
  · refine xS_g (fun g1 => ?_)
    refine xS_of (pc' := 95) (L' := [(3, xi 0), (2, xi 1), (0, xa 536), (1, xi (xR m 536 9))]) (st' := [xi 24, xi (xR m1 (m1 536 23) 0), xa 536]) (m' := m1) (fun ex ns r q => ?_) ?_
    · refine xw_if_eqF rfl (w32_cg (w32_of (xw_zr cv1))) h0 ?_
      refine xw_iconst rfl ?_
      refine xw_goto rfl ?_
      refine xw_istore_n (L' := [(2, xi 1), (0, xa 536), (1, xi (xR m 536 9))]) rfl (by decide) rfl ?_
      refine xw_iload_n rfl rfl ?_
      refine xw_if_neT rfl (w32_cg rfl) (by decide) ?_
      refine xw_iconst rfl ?_
      refine xw_istore_n (L' := [(3, xi 0), (2, xi 1), (0, xa 536), (1, xi (xR m 536 9))]) rfl (by decide) rfl ?_
      refine xw_aload_n rfl rfl rfl ?_
      refine xw_aload_n rfl rfl rfl ?_
      refine xw_gfM (v := (m1 536 23)) rfl (xw_obd (by decide +kernel)) xk12_23 (qi := 23) rfl rfl ?_
      refine xw_gfIc (v := (m1 (m1 536 23) 0)) (v' := (xR m1 (m1 536 23) 0)) rfl (xw_obd g1) xk13_0 (qi := 0) rfl rfl rfl ?_
      refine xw_bipush (e := 24) rfl (by decide +kernel) ?_
      exact q
    refine xS_if (fun h2 => ?_) (fun h2 => ?_)
    · refine xS_of (pc' := 106) (L' := [(0, xa 536), (1, xi (xR m 536 9)), (2, xi 1), (3, xi 0)]) (st' := [xi (xR m 536 9), xi 7, xi 1, xa 536]) (m' := m1) (fun ex ns r q => ?_) ?_
      · refine xw_ic_geF rfl (w32_cg (w32_xR _ _ _)) (w32_cg rfl) (Int.not_le.mpr h2) ?_
        refine xw_iconst rfl ?_
        refine xw_goto rfl ?_
        refine xw_bipush (e := 7) rfl (by decide +kernel) ?_
        refine xw_iload_n rfl rfl ?_
        refine xw_lo (L2 := [(0, xa 536), (1, xi (xR m 536 9)), (2, xi 1), (3, xi 0)]) (List.forall_mem_cons.mpr ⟨rfl, List.forall_mem_cons.mpr ⟨rfl, List.forall_mem_cons.mpr ⟨rfl, List.forall_mem_cons.mpr ⟨rfl, fun _ h => absurd h List.not_mem_nil⟩⟩⟩⟩) ?_
        exact q
      refine xS_call (q := 254) (n := 4) (kq := 4) (as := [xa 536, xi 1, xi 7, xi (xR m 536 9)]) (st1 := []) rfl rfl rfl rfl rfl rfl rfl rfl rfl rfl (fun _ => xw_rcv1 (t := 12) (xw_obd (by decide +kernel)) rfl) rfl (List.forall_mem_cons.mpr ⟨rfl, List.forall_mem_cons.mpr ⟨rfl, List.forall_mem_cons.mpr ⟨rfl, List.forall_mem_cons.mpr ⟨rfl, fun _ h => absurd h List.not_mem_nil⟩⟩⟩⟩) (ygf254 hB _ _ _ _ rfl rfl (w32_xR _ _ _)) (fun v63 m63 cv63 => ?_)
      refine xS_if (fun h3 => ?_) (fun h3 => ?_)
      · refine xS_of (pc' := 112) (L' := [(0, xa 536), (1, xi (xR m 536 9)), (2, xi 1), (3, xi 0)]) (st' := []) (m' := m63) (fun ex ns r q => ?_) ?_
        · refine xw_if_neF rfl (w32_cg (w32_of (xw_zr cv63))) h3 ?_
          exact q
        exact xS_ret (v := 0) rfl rfl rfl rfl
      · refine xS_of (pc' := 133) (L' := [(0, xa 536), (1, xi (xR m 536 9)), (2, xi 1), (4, xi 0)]) (st' := [xi 40, xa 536]) (m' := m63) (fun ex ns r q => ?_) ?_
        · refine xw_if_neT rfl (w32_cg (w32_of (xw_zr cv63))) h3 ?_
          refine xw_iconst rfl ?_
          refine xw_istore (L' := [(4, xi 0), (0, xa 536), (1, xi (xR m 536 9)), (2, xi 1), (3, xi 0)]) rfl (by decide) rfl ?_
          refine xw_iload_n rfl rfl ?_
          refine xw_if_neT rfl (w32_cg rfl) (by decide) ?_
          refine xw_aload_n rfl rfl rfl ?_
          refine xw_bipush (e := 40) rfl (by decide +kernel) ?_
          refine xw_lo (L2 := [(0, xa 536), (1, xi (xR m 536 9)), (2, xi 1), (4, xi 0)]) (List.forall_mem_cons.mpr ⟨rfl, List.forall_mem_cons.mpr ⟨rfl, List.forall_mem_cons.mpr ⟨rfl, List.forall_mem_cons.mpr ⟨rfl, fun _ h => absurd h List.not_mem_nil⟩⟩⟩⟩) ?_
          exact q
        refine xS_call (q := 265) (n := 2) (kq := 4) (as := [xa 536, xi 40]) (st1 := []) rfl rfl rfl rfl rfl rfl rfl rfl rfl rfl (fun _ => xw_rcv1 (t := 12) (xw_obd (by decide +kernel)) rfl) rfl (List.forall_mem_cons.mpr ⟨rfl, List.forall_mem_cons.mpr ⟨rfl, fun _ h => absurd h List.not_mem_nil⟩⟩) (ygf265 hB _ _ rfl) (fun v64 m64 cv64 => ?_)
        refine xS_of (pc' := 139) (L' := [(0, xa 536), (1, xi (xR m 536 9)), (2, xi 1), (4, xi 0)]) (st' := [xa 536]) (m' := m64) (fun ex ns r q => ?_) ?_
        · refine xw_istore (L' := [(5, xi v64), (0, xa 536), (1, xi (xR m 536 9)), (2, xi 1), (4, xi 0)]) rfl (by decide) rfl ?_
          refine xw_aload_n rfl rfl rfl ?_
          refine xw_lo (L2 := [(0, xa 536), (1, xi (xR m 536 9)), (2, xi 1), (4, xi 0)]) (List.forall_mem_cons.mpr ⟨rfl, List.forall_mem_cons.mpr ⟨rfl, List.forall_mem_cons.mpr ⟨rfl, List.forall_mem_cons.mpr ⟨rfl, fun _ h => absurd h List.not_mem_nil⟩⟩⟩⟩) ?_
          exact q
        refine xS_call (q := 248) (n := 1) (kq := 0) (as := [xa 536]) (st1 := []) rfl rfl rfl rfl rfl rfl rfl rfl rfl rfl (fun _ => xw_rcv1 (t := 12) (xw_obd (by decide +kernel)) rfl) rfl (List.forall_mem_cons.mpr ⟨rfl, fun _ h => absurd h List.not_mem_nil⟩) (ygf248 hB _) (fun v65 m65 cv65 => ?_)
        refine xS_of (pc' := 148) (L' := [(0, xa 536), (1, xi (xR m 536 9)), (2, xi 1)]) (st' := [xa 536]) (m' := m65) (fun ex ns r q => ?_) ?_
        · refine xw_iload_n rfl rfl ?_
          refine xw_iconst rfl ?_
          refine xw_ic_geF rfl (w32_cg rfl) (w32_cg rfl) (Int.not_le.mpr (by decide)) ?_
          refine xw_aload_n rfl rfl rfl ?_
          refine xw_lo (L2 := [(0, xa 536), (1, xi (xR m 536 9)), (2, xi 1)]) (List.forall_mem_cons.mpr ⟨rfl, List.forall_mem_cons.mpr ⟨rfl, List.forall_mem_cons.mpr ⟨rfl, fun _ h => absurd h List.not_mem_nil⟩⟩⟩) ?_
          exact q
        refine xS_call (q := 261) (n := 1) (kq := 4) (as := [xa 536]) (st1 := []) rfl rfl rfl rfl rfl rfl rfl rfl rfl rfl (fun _ => xw_rcv1 (t := 12) (xw_obd (by decide +kernel)) rfl) rfl (List.forall_mem_cons.mpr ⟨rfl, fun _ h => absurd h List.not_mem_nil⟩) (ygf261 hB _) (fun v66 m66 cv66 => ?_)
        refine xS_if (fun h4 => ?_) (fun h4 => ?_)
        · refine xS_of (pc' := 186) (L' := [(0, xa 536), (1, xi (xR m 536 9)), (2, xi 1), (4, xi 0)]) (st' := [xi (xR m66 536 9), xi 5, xi 1, xa 536]) (m' := m66) (fun ex ns r q => ?_) ?_
          · refine xw_if_eqT rfl (w32_cg (w32_of (xw_zr cv66))) h4 ?_
            refine xw_iconst rfl ?_
            refine xw_istore (L' := [(4, xi 0), (0, xa 536), (1, xi (xR m 536 9)), (2, xi 1)]) rfl (by decide) rfl ?_
            refine xw_aload_n rfl rfl rfl ?_
            refine xw_iload rfl rfl ?_
            refine xw_if_ltF rfl (w32_cg rfl) (by decide) ?_
            refine xw_iconst rfl ?_
            refine xw_goto rfl ?_
            refine xw_iconst rfl ?_
            refine xw_aload_n rfl rfl rfl ?_
            refine xw_gfIc (v := (m66 536 9)) (v' := (xR m66 536 9)) rfl (xw_obd (by decide +kernel)) xk12_9 (qi := 9) rfl rfl rfl ?_
            refine xw_lo (L2 := [(0, xa 536), (1, xi (xR m 536 9)), (2, xi 1), (4, xi 0)]) (List.forall_mem_cons.mpr ⟨rfl, List.forall_mem_cons.mpr ⟨rfl, List.forall_mem_cons.mpr ⟨rfl, List.forall_mem_cons.mpr ⟨rfl, fun _ h => absurd h List.not_mem_nil⟩⟩⟩⟩) ?_
            exact q
          refine xS_call (q := 254) (n := 4) (kq := 4) (as := [xa 536, xi 1, xi 5, xi (xR m66 536 9)]) (st1 := []) rfl rfl rfl rfl rfl rfl rfl rfl rfl rfl (fun _ => xw_rcv1 (t := 12) (xw_obd (by decide +kernel)) rfl) rfl (List.forall_mem_cons.mpr ⟨rfl, List.forall_mem_cons.mpr ⟨rfl, List.forall_mem_cons.mpr ⟨rfl, List.forall_mem_cons.mpr ⟨rfl, fun _ h => absurd h List.not_mem_nil⟩⟩⟩⟩) (ygf254 hB _ _ _ _ rfl rfl (w32_xR _ _ _)) (fun v67 m67 cv67 => ?_)
          refine xS_of (pc' := 226) (L' := [(0, xa 536), (1, xi (xR m 536 9)), (2, xi 1), (4, xi 0)]) (st' := []) (m' := m67) (fun ex ns r q => ?_) ?_
          · refine xw_istore (L' := [(5, xi v67), (0, xa 536), (1, xi (xR m 536 9)), (2, xi 1), (4, xi 0)]) rfl (by decide) rfl ?_
            refine xw_goto rfl ?_
            refine xw_lo (L2 := [(0, xa 536), (1, xi (xR m 536 9)), (2, xi 1), (4, xi 0)]) (List.forall_mem_cons.mpr ⟨rfl, List.forall_mem_cons.mpr ⟨rfl, List.forall_mem_cons.mpr ⟨rfl, List.forall_mem_cons.mpr ⟨rfl, fun _ h => absurd h List.not_mem_nil⟩⟩⟩⟩) ?_
            exact q
          exact ygk271_226 hB _ _ _ _ (w32_xR _ _ _) rfl rfl
        · refine xS_of (pc' := 161) (L' := [(0, xa 536), (1, xi (xR m 536 9)), (2, xi 1)]) (st' := [xi (xR m66 536 19), xi 40, xa 536]) (m' := m66) (fun ex ns r q => ?_) ?_
          · refine xw_if_eqF rfl (w32_cg (w32_of (xw_zr cv66))) h4 ?_
            refine xw_aload_n rfl rfl rfl ?_
            refine xw_bipush (e := 40) rfl (by decide +kernel) ?_
            refine xw_aload_n rfl rfl rfl ?_
            refine xw_gfIc (v := (m66 536 19)) (v' := (xR m66 536 19)) rfl (xw_obd (by decide +kernel)) xk12_19 (qi := 19) rfl rfl rfl ?_
            refine xw_lo (L2 := [(0, xa 536), (1, xi (xR m 536 9)), (2, xi 1)]) (List.forall_mem_cons.mpr ⟨rfl, List.forall_mem_cons.mpr ⟨rfl, List.forall_mem_cons.mpr ⟨rfl, fun _ h => absurd h List.not_mem_nil⟩⟩⟩) ?_
            exact q
          refine xS_call (q := 262) (n := 3) (kq := 1) (as := [xa 536, xi 40, xi (xR m66 536 19)]) (st1 := []) rfl rfl rfl rfl rfl rfl rfl rfl rfl rfl (fun _ => xw_rcv1 (t := 12) (xw_obd (by decide +kernel)) rfl) rfl (List.forall_mem_cons.mpr ⟨rfl, List.forall_mem_cons.mpr ⟨rfl, List.forall_mem_cons.mpr ⟨rfl, fun _ h => absurd h List.not_mem_nil⟩⟩⟩) (ygf262 hB _ _ _ rfl (w32_xR _ _ _)) (fun v68 m68 cv68 => ?_)
          refine xS_of (pc' := 173) (L' := [(4, xi v68), (0, xa 536), (1, xi (xR m 536 9)), (2, xi 1)]) (st' := [xi v68, xa 536]) (m' := m68) (fun ex ns r q => ?_) ?_
          · refine xw_goto rfl ?_
            refine xw_istore (L' := [(4, xi v68), (0, xa 536), (1, xi (xR m 536 9)), (2, xi 1)]) rfl (by decide) rfl ?_
            refine xw_aload_n rfl rfl rfl ?_
            refine xw_iload rfl rfl ?_
            exact q
          refine xS_if (fun h5 => ?_) (fun h5 => ?_)
          · refine xS_of (pc' := 186) (L' := [(0, xa 536), (1, xi (xR m 536 9)), (2, xi 1), (4, xi v68)]) (st' := [xi (xR m68 536 9), xi 5, xi 0, xa 536]) (m' := m68) (fun ex ns r q => ?_) ?_
            · refine xw_if_ltT rfl (w32_cg cv68) h5 ?_
              refine xw_iconst rfl ?_
              refine xw_iconst rfl ?_
              refine xw_aload_n rfl rfl rfl ?_
              refine xw_gfIc (v := (m68 536 9)) (v' := (xR m68 536 9)) rfl (xw_obd (by decide +kernel)) xk12_9 (qi := 9) rfl rfl rfl ?_
              refine xw_lo (L2 := [(0, xa 536), (1, xi (xR m 536 9)), (2, xi 1), (4, xi v68)]) (List.forall_mem_cons.mpr ⟨rfl, List.forall_mem_cons.mpr ⟨rfl, List.forall_mem_cons.mpr ⟨rfl, List.forall_mem_cons.mpr ⟨rfl, fun _ h => absurd h List.not_mem_nil⟩⟩⟩⟩) ?_
              exact q
            refine xS_call (q := 254) (n := 4) (kq := 4) (as := [xa 536, xi 0, xi 5, xi (xR m68 536 9)]) (st1 := []) rfl rfl rfl rfl rfl rfl rfl rfl rfl rfl (fun _ => xw_rcv1 (t := 12) (xw_obd (by decide +kernel)) rfl) rfl (List.forall_mem_cons.mpr ⟨rfl, List.forall_mem_cons.mpr ⟨rfl, List.forall_mem_cons.mpr ⟨rfl, List.forall_mem_cons.mpr ⟨rfl, fun _ h => absurd h List.not_mem_nil⟩⟩⟩⟩) (ygf254 hB _ _ _ _ rfl rfl (w32_xR _ _ _)) (fun v69 m69 cv69 => ?_)
            refine xS_of (pc' := 226) (L' := [(0, xa 536), (1, xi (xR m 536 9)), (2, xi 1), (4, xi v68)]) (st' := []) (m' := m69) (fun ex ns r q => ?_) ?_
            · refine xw_istore (L' := [(5, xi v69), (0, xa 536), (1, xi (xR m 536 9)), (2, xi 1), (4, xi v68)]) rfl (by decide) rfl ?_
              refine xw_goto rfl ?_
              refine xw_lo (L2 := [(0, xa 536), (1, xi (xR m 536 9)), (2, xi 1), (4, xi v68)]) (List.forall_mem_cons.mpr ⟨rfl, List.forall_mem_cons.mpr ⟨rfl, List.forall_mem_cons.mpr ⟨rfl, List.forall_mem_cons.mpr ⟨rfl, fun _ h => absurd h List.not_mem_nil⟩⟩⟩⟩) ?_
              exact q
            exact ygk271_226 hB _ _ _ _ (w32_xR _ _ _) rfl cv68
          · refine xS_of (pc' := 186) (L' := [(0, xa 536), (1, xi (xR m 536 9)), (2, xi 1), (4, xi v68)]) (st' := [xi (xR m68 536 9), xi 5, xi 1, xa 536]) (m' := m68) (fun ex ns r q => ?_) ?_
            · refine xw_if_ltF rfl (w32_cg cv68) h5 ?_
              refine xw_iconst rfl ?_
              refine xw_goto rfl ?_
              refine xw_iconst rfl ?_
              refine xw_aload_n rfl rfl rfl ?_
              refine xw_gfIc (v := (m68 536 9)) (v' := (xR m68 536 9)) rfl (xw_obd (by decide +kernel)) xk12_9 (qi := 9) rfl rfl rfl ?_
              refine xw_lo (L2 := [(0, xa 536), (1, xi (xR m 536 9)), (2, xi 1), (4, xi v68)]) (List.forall_mem_cons.mpr ⟨rfl, List.forall_mem_cons.mpr ⟨rfl, List.forall_mem_cons.mpr ⟨rfl, List.forall_mem_cons.mpr ⟨rfl, fun _ h => absurd h List.not_mem_nil⟩⟩⟩⟩) ?_
              exact q
            refine xS_call (q := 254) (n := 4) (kq := 4) (as := [xa 536, xi 1, xi 5, xi (xR m68 536 9)]) (st1 := []) rfl rfl rfl rfl rfl rfl rfl rfl rfl rfl (fun _ => xw_rcv1 (t := 12) (xw_obd (by decide +kernel)) rfl) rfl (List.forall_mem_cons.mpr ⟨rfl, List.forall_mem_cons.mpr ⟨rfl, List.forall_mem_cons.mpr ⟨rfl, List.forall_mem_cons.mpr ⟨rfl, fun _ h => absurd h List.not_mem_nil⟩⟩⟩⟩) (ygf254 hB _ _ _ _ rfl rfl (w32_xR _ _ _)) (fun v70 m70 cv70 => ?_)
            refine xS_of (pc' := 226) (L' := [(0, xa 536), (1, xi (xR m 536 9)), (2, xi 1), (4, xi v68)]) (st' := []) (m' := m70) (fun ex ns r q => ?_) ?_
            · refine xw_istore (L' := [(5, xi v70), (0, xa 536), (1, xi (xR m 536 9)), (2, xi 1), (4, xi v68)]) rfl (by decide) rfl ?_
              refine xw_goto rfl ?_
              refine xw_lo (L2 := [(0, xa 536), (1, xi (xR m 536 9)), (2, xi 1), (4, xi v68)]) (List.forall_mem_cons.mpr ⟨rfl, List.forall_mem_cons.mpr ⟨rfl, List.forall_mem_cons.mpr ⟨rfl, List.forall_mem_cons.mpr ⟨rfl, fun _ h => absurd h List.not_mem_nil⟩⟩⟩⟩) ?_
              exact q
            exact ygk271_226 hB _ _ _ _ (w32_xR _ _ _) rfl cv68
    · refine xS_of (pc' := 106) (L' := [(0, xa 536), (1, xi (xR m 536 9)), (2, xi 1), (3, xi 0)]) (st' := [xi (xR m 536 9), xi 7, xi 0, xa 536]) (m' := m1) (fun ex ns r q => ?_) ?_
      · refine xw_ic_geT rfl (w32_cg (w32_xR _ _ _)) (w32_cg rfl) (Int.not_lt.mp h2) ?_
        refine xw_iconst rfl ?_
        refine xw_bipush (e := 7) rfl (by decide +kernel) ?_
        refine xw_iload_n rfl rfl ?_
        refine xw_lo (L2 := [(0, xa 536), (1, xi (xR m 536 9)), (2, xi 1), (3, xi 0)]) (List.forall_mem_cons.mpr ⟨rfl, List.forall_mem_cons.mpr ⟨rfl, List.forall_mem_cons.mpr ⟨rfl, List.forall_mem_cons.mpr ⟨rfl, fun _ h => absurd h List.not_mem_nil⟩⟩⟩⟩) ?_
        exact q
      refine xS_call (q := 254) (n := 4) (kq := 4) (as := [xa 536, xi 0, xi 7, xi (xR m 536 9)]) (st1 := []) rfl rfl rfl rfl rfl rfl rfl rfl rfl rfl (fun _ => xw_rcv1 (t := 12) (xw_obd (by decide +kernel)) rfl) rfl (List.forall_mem_cons.mpr ⟨rfl, List.forall_mem_cons.mpr ⟨rfl, List.forall_mem_cons.mpr ⟨rfl, List.forall_mem_cons.mpr ⟨rfl, fun _ h => absurd h List.not_mem_nil⟩⟩⟩⟩) (ygf254 hB _ _ _ _ rfl rfl (w32_xR _ _ _)) (fun v71 m71 cv71 => ?_)
      refine xS_if (fun h3 => ?_) (fun h3 => ?_)
      · refine xS_of (pc' := 112) (L' := [(0, xa 536), (1, xi (xR m 536 9)), (2, xi 1), (3, xi 0)]) (st' := []) (m' := m71) (fun ex ns r q => ?_) ?_
        · refine xw_if_neF rfl (w32_cg (w32_of (xw_zr cv71))) h3 ?_
          exact q
        exact xS_ret (v := 0) rfl rfl rfl rfl
      · refine xS_of (pc' := 133) (L' := [(0, xa 536), (1, xi (xR m 536 9)), (2, xi 1), (4, xi 0)]) (st' := [xi 40, xa 536]) (m' := m71) (fun ex ns r q => ?_) ?_
        · refine xw_if_neT rfl (w32_cg (w32_of (xw_zr cv71))) h3 ?_
          refine xw_iconst rfl ?_
          refine xw_istore (L' := [(4, xi 0), (0, xa 536), (1, xi (xR m 536 9)), (2, xi 1), (3, xi 0)]) rfl (by decide) rfl ?_
          refine xw_iload_n rfl rfl ?_
          refine xw_if_neT rfl (w32_cg rfl) (by decide) ?_
          refine xw_aload_n rfl rfl rfl ?_
          refine xw_bipush (e := 40) rfl (by decide +kernel) ?_
          refine xw_lo (L2 := [(0, xa 536), (1, xi (xR m 536 9)), (2, xi 1), (4, xi 0)]) (List.forall_mem_cons.mpr ⟨rfl, List.forall_mem_cons.mpr ⟨rfl, List.forall_mem_cons.mpr ⟨rfl, List.forall_mem_cons.mpr ⟨rfl, fun _ h => absurd h List.not_mem_nil⟩⟩⟩⟩) ?_
          exact q
        refine xS_call (q := 265) (n := 2) (kq := 4) (as := [xa 536, xi 40]) (st1 := []) rfl rfl rfl rfl rfl rfl rfl rfl rfl rfl (fun _ => xw_rcv1 (t := 12) (xw_obd (by decide +kernel)) rfl) rfl (List.forall_mem_cons.mpr ⟨rfl, List.forall_mem_cons.mpr ⟨rfl, fun _ h => absurd h List.not_mem_nil⟩⟩) (ygf265 hB _ _ rfl) (fun v72 m72 cv72 => ?_)
        refine xS_of (pc' := 139) (L' := [(0, xa 536), (1, xi (xR m 536 9)), (2, xi 1), (4, xi 0)]) (st' := [xa 536]) (m' := m72) (fun ex ns r q => ?_) ?_
        · refine xw_istore (L' := [(5, xi v72), (0, xa 536), (1, xi (xR m 536 9)), (2, xi 1), (4, xi 0)]) rfl (by decide) rfl ?_
          refine xw_aload_n rfl rfl rfl ?_
          refine xw_lo (L2 := [(0, xa 536), (1, xi (xR m 536 9)), (2, xi 1), (4, xi 0)]) (List.forall_mem_cons.mpr ⟨rfl, List.forall_mem_cons.mpr ⟨rfl, List.forall_mem_cons.mpr ⟨rfl, List.forall_mem_cons.mpr ⟨rfl, fun _ h => absurd h List.not_mem_nil⟩⟩⟩⟩) ?_
          exact q
        refine xS_call (q := 248) (n := 1) (kq := 0) (as := [xa 536]) (st1 := []) rfl rfl rfl rfl rfl rfl rfl rfl rfl rfl (fun _ => xw_rcv1 (t := 12) (xw_obd (by decide +kernel)) rfl) rfl (List.forall_mem_cons.mpr ⟨rfl, fun _ h => absurd h List.not_mem_nil⟩) (ygf248 hB _) (fun v73 m73 cv73 => ?_)
        refine xS_of (pc' := 148) (L' := [(0, xa 536), (1, xi (xR m 536 9)), (2, xi 1)]) (st' := [xa 536]) (m' := m73) (fun ex ns r q => ?_) ?_
        · refine xw_iload_n rfl rfl ?_
          refine xw_iconst rfl ?_
          refine xw_ic_geF rfl (w32_cg rfl) (w32_cg rfl) (Int.not_le.mpr (by decide)) ?_
          refine xw_aload_n rfl rfl rfl ?_
          refine xw_lo (L2 := [(0, xa 536), (1, xi (xR m 536 9)), (2, xi 1)]) (List.forall_mem_cons.mpr ⟨rfl, List.forall_mem_cons.mpr ⟨rfl, List.forall_mem_cons.mpr ⟨rfl, fun _ h => absurd h List.not_mem_nil⟩⟩⟩) ?_
          exact q
        refine xS_call (q := 261) (n := 1) (kq := 4) (as := [xa 536]) (st1 := []) rfl rfl rfl rfl rfl rfl rfl rfl rfl rfl (fun _ => xw_rcv1 (t := 12) (xw_obd (by decide +kernel)) rfl) rfl (List.forall_mem_cons.mpr ⟨rfl, fun _ h => absurd h List.not_mem_nil⟩) (ygf261 hB _) (fun v74 m74 cv74 => ?_)
        refine xS_if (fun h4 => ?_) (fun h4 => ?_)
        · refine xS_of (pc' := 186) (L' := [(0, xa 536), (1, xi (xR m 536 9)), (2, xi 1), (4, xi 0)]) (st' := [xi (xR m74 536 9), xi 5, xi 1, xa 536]) (m' := m74) (fun ex ns r q => ?_) ?_
          · refine xw_if_eqT rfl (w32_cg (w32_of (xw_zr cv74))) h4 ?_
            refine xw_iconst rfl ?_
            refine xw_istore (L' := [(4, xi 0), (0, xa 536), (1, xi (xR m 536 9)), (2, xi 1)]) rfl (by decide) rfl ?_
            refine xw_aload_n rfl rfl rfl ?_
            refine xw_iload rfl rfl ?_
            refine xw_if_ltF rfl (w32_cg rfl) (by decide) ?_
            refine xw_iconst rfl ?_
            refine xw_goto rfl ?_
            refine xw_iconst rfl ?_
            refine xw_aload_n rfl rfl rfl ?_
            refine xw_gfIc (v := (m74 536 9)) (v' := (xR m74 536 9)) rfl (xw_obd (by decide +kernel)) xk12_9 (qi := 9) rfl rfl rfl ?_
            refine xw_lo (L2 := [(0, xa 536), (1, xi (xR m 536 9)), (2, xi 1), (4, xi 0)]) (List.forall_mem_cons.mpr ⟨rfl, List.forall_mem_cons.mpr ⟨rfl, List.forall_mem_cons.mpr ⟨rfl, List.forall_mem_cons.mpr ⟨rfl, fun _ h => absurd h List.not_mem_nil⟩⟩⟩⟩) ?_
            exact q
          refine xS_call (q := 254) (n := 4) (kq := 4) (as := [xa 536, xi 1, xi 5, xi (xR m74 536 9)]) (st1 := []) rfl rfl rfl rfl rfl rfl rfl rfl rfl rfl (fun _ => xw_rcv1 (t := 12) (xw_obd (by decide +kernel)) rfl) rfl (List.forall_mem_cons.mpr ⟨rfl, List.forall_mem_cons.mpr ⟨rfl, List.forall_mem_cons.mpr ⟨rfl, List.forall_mem_cons.mpr ⟨rfl, fun _ h => absurd h List.not_mem_nil⟩⟩⟩⟩) (ygf254 hB _ _ _ _ rfl rfl (w32_xR _ _ _)) (fun v75 m75 cv75 => ?_)
          refine xS_of (pc' := 226) (L' := [(0, xa 536), (1, xi (xR m 536 9)), (2, xi 1), (4, xi 0)]) (st' := []) (m' := m75) (fun ex ns r q => ?_) ?_
          · refine xw_istore (L' := [(5, xi v75), (0, xa 536), (1, xi (xR m 536 9)), (2, xi 1), (4, xi 0)]) rfl (by decide) rfl ?_
            refine xw_goto rfl ?_
            refine xw_lo (L2 := [(0, xa 536), (1, xi (xR m 536 9)), (2, xi 1), (4, xi 0)]) (List.forall_mem_cons.mpr ⟨rfl, List.forall_mem_cons.mpr ⟨rfl, List.forall_mem_cons.mpr ⟨rfl, List.forall_mem_cons.mpr ⟨rfl, fun _ h => absurd h List.not_mem_nil⟩⟩⟩⟩) ?_
            exact q
          exact ygk271_226 hB _ _ _ _ (w32_xR _ _ _) rfl rfl
        · refine xS_of (pc' := 161) (L' := [(0, xa 536), (1, xi (xR m 536 9)), (2, xi 1)]) (st' := [xi (xR m74 536 19), xi 40, xa 536]) (m' := m74) (fun ex ns r q => ?_) ?_
          · refine xw_if_eqF rfl (w32_cg (w32_of (xw_zr cv74))) h4 ?_
            refine xw_aload_n rfl rfl rfl ?_
            refine xw_bipush (e := 40) rfl (by decide +kernel) ?_
            refine xw_aload_n rfl rfl rfl ?_
            refine xw_gfIc (v := (m74 536 19)) (v' := (xR m74 536 19)) rfl (xw_obd (by decide +kernel)) xk12_19 (qi := 19) rfl rfl rfl ?_
            refine xw_lo (L2 := [(0, xa 536), (1, xi (xR m 536 9)), (2, xi 1)]) (List.forall_mem_cons.mpr ⟨rfl, List.forall_mem_cons.mpr ⟨rfl, List.forall_mem_cons.mpr ⟨rfl, fun _ h => absurd h List.not_mem_nil⟩⟩⟩) ?_
            exact q
          refine xS_call (q := 262) (n := 3) (kq := 1) (as := [xa 536, xi 40, xi (xR m74 536 19)]) (st1 := []) rfl rfl rfl rfl rfl rfl rfl rfl rfl rfl (fun _ => xw_rcv1 (t := 12) (xw_obd (by decide +kernel)) rfl) rfl (List.forall_mem_cons.mpr ⟨rfl, List.forall_mem_cons.mpr ⟨rfl, List.forall_mem_cons.mpr ⟨rfl, fun _ h => absurd h List.not_mem_nil⟩⟩⟩) (ygf262 hB _ _ _ rfl (w32_xR _ _ _)) (fun v76 m76 cv76 => ?_)
          refine xS_of (pc' := 173) (L' := [(4, xi v76), (0, xa 536), (1, xi (xR m 536 9)), (2, xi 1)]) (st' := [xi v76, xa 536]) (m' := m76) (fun ex ns r q => ?_) ?_
          · refine xw_goto rfl ?_
            refine xw_istore (L' := [(4, xi v76), (0, xa 536), (1, xi (xR m 536 9)), (2, xi 1)]) rfl (by decide) rfl ?_
            refine xw_aload_n rfl rfl rfl ?_
            refine xw_iload rfl rfl ?_
            exact q
          refine xS_if (fun h5 => ?_) (fun h5 => ?_)
          · refine xS_of (pc' := 186) (L' := [(0, xa 536), (1, xi (xR m 536 9)), (2, xi 1), (4, xi v76)]) (st' := [xi (xR m76 536 9), xi 5, xi 0, xa 536]) (m' := m76) (fun ex ns r q => ?_) ?_
            · refine xw_if_ltT rfl (w32_cg cv76) h5 ?_
              refine xw_iconst rfl ?_
              refine xw_iconst rfl ?_
              refine xw_aload_n rfl rfl rfl ?_
              refine xw_gfIc (v := (m76 536 9)) (v' := (xR m76 536 9)) rfl (xw_obd (by decide +kernel)) xk12_9 (qi := 9) rfl rfl rfl ?_
              refine xw_lo (L2 := [(0, xa 536), (1, xi (xR m 536 9)), (2, xi 1), (4, xi v76)]) (List.forall_mem_cons.mpr ⟨rfl, List.forall_mem_cons.mpr ⟨rfl, List.forall_mem_cons.mpr ⟨rfl, List.forall_mem_cons.mpr ⟨rfl, fun _ h => absurd h List.not_mem_nil⟩⟩⟩⟩) ?_
              exact q
            refine xS_call (q := 254) (n := 4) (kq := 4) (as := [xa 536, xi 0, xi 5, xi (xR m76 536 9)]) (st1 := []) rfl rfl rfl rfl rfl rfl rfl rfl rfl rfl (fun _ => xw_rcv1 (t := 12) (xw_obd (by decide +kernel)) rfl) rfl (List.forall_mem_cons.mpr ⟨rfl, List.forall_mem_cons.mpr ⟨rfl, List.forall_mem_cons.mpr ⟨rfl, List.forall_mem_cons.mpr ⟨rfl, fun _ h => absurd h List.not_mem_nil⟩⟩⟩⟩) (ygf254 hB _ _ _ _ rfl rfl (w32_xR _ _ _)) (fun v77 m77 cv77 => ?_)
            refine xS_of (pc' := 226) (L' := [(0, xa 536), (1, xi (xR m 536 9)), (2, xi 1), (4, xi v76)]) (st' := []) (m' := m77) (fun ex ns r q => ?_) ?_
            · refine xw_istore (L' := [(5, xi v77), (0, xa 536), (1, xi (xR m 536 9)), (2, xi 1), (4, xi v76)]) rfl (by decide) rfl ?_
              refine xw_goto rfl ?_
              refine xw_lo (L2 := [(0, xa 536), (1, xi (xR m 536 9)), (2, xi 1), (4, xi v76)]) (List.forall_mem_cons.mpr ⟨rfl, List.forall_mem_cons.mpr ⟨rfl, List.forall_mem_cons.mpr ⟨rfl, List.forall_mem_cons.mpr ⟨rfl, fun _ h => absurd h List.not_mem_nil⟩⟩⟩⟩) ?_
              exact q
            exact ygk271_226 hB _ _ _ _ (w32_xR _ _ _) rfl cv76
          · refine xS_of (pc' := 186) (L' := [(0, xa 536), (1, xi (xR m 536 9)), (2, xi 1), (4, xi v76)]) (st' := [xi (xR m76 536 9), xi 5, xi 1, xa 536]) (m' := m76) (fun ex ns r q => ?_) ?_
            · refine xw_if_ltF rfl (w32_cg cv76) h5 ?_
              refine xw_iconst rfl ?_
              refine xw_goto rfl ?_
              refine xw_iconst rfl ?_
              refine xw_aload_n rfl rfl rfl ?_
              refine xw_gfIc (v := (m76 536 9)) (v' := (xR m76 536 9)) rfl (xw_obd (by decide +kernel)) xk12_9 (qi := 9) rfl rfl rfl ?_
              refine xw_lo (L2 := [(0, xa 536), (1, xi (xR m 536 9)), (2, xi 1), (4, xi v76)]) (List.forall_mem_cons.mpr ⟨rfl, List.forall_mem_cons.mpr ⟨rfl, List.forall_mem_cons.mpr ⟨rfl, List.forall_mem_cons.mpr ⟨rfl, fun _ h => absurd h List.not_mem_nil⟩⟩⟩⟩) ?_
              exact q
            refine xS_call (q := 254) (n := 4) (kq := 4) (as := [xa 536, xi 1, xi 5, xi (xR m76 536 9)]) (st1 := []) rfl rfl rfl rfl rfl rfl rfl rfl rfl rfl (fun _ => xw_rcv1 (t := 12) (xw_obd (by decide +kernel)) rfl) rfl (List.forall_mem_cons.mpr ⟨rfl, List.forall_mem_cons.mpr ⟨rfl, List.forall_mem_cons.mpr ⟨rfl, List.forall_mem_cons.mpr ⟨rfl, fun _ h => absurd h List.not_mem_nil⟩⟩⟩⟩) (ygf254 hB _ _ _ _ rfl rfl (w32_xR _ _ _)) (fun v78 m78 cv78 => ?_)
            refine xS_of (pc' := 226) (L' := [(0, xa 536), (1, xi (xR m 536 9)), (2, xi 1), (4, xi v76)]) (st' := []) (m' := m78) (fun ex ns r q => ?_) ?_
            · refine xw_istore (L' := [(5, xi v78), (0, xa 536), (1, xi (xR m 536 9)), (2, xi 1), (4, xi v76)]) rfl (by decide) rfl ?_
              refine xw_goto rfl ?_
              refine xw_lo (L2 := [(0, xa 536), (1, xi (xR m 536 9)), (2, xi 1), (4, xi v76)]) (List.forall_mem_cons.mpr ⟨rfl, List.forall_mem_cons.mpr ⟨rfl, List.forall_mem_cons.mpr ⟨rfl, List.forall_mem_cons.mpr ⟨rfl, fun _ h => absurd h List.not_mem_nil⟩⟩⟩⟩) ?_
              exact q
            exact ygk271_226 hB _ _ _ _ (w32_xR _ _ _) rfl cv76
theorem ygf278 {B : Nat} (hB : B ≤ 512) {xs : Nat → Int32} {SL d : Nat} : ∀ m, xS B xs SL (d + 3) 278 (1, (some .int), [], 13) 1 0 [(0, xa 536)] [] m (yf278 B m) := by
  intro m
  unfold yf278
  refine xS_of (pc' := 1) (L' := [(0, xa 536)]) (st' := [xa 536]) (m' := m) (fun ex ns r q => ?_) ?_
  · refine xw_aload_n rfl rfl rfl ?_
    refine xw_lo (L2 := [(0, xa 536)]) (List.forall_mem_cons.mpr ⟨rfl, fun _ h => absurd h List.not_mem_nil⟩) ?_
    exact q
  refine xS_call (q := 248) (n := 1) (kq := 0) (as := [xa 536]) (st1 := []) rfl rfl rfl rfl rfl rfl rfl rfl rfl rfl (fun _ => xw_rcv1 (t := 12) (xw_obd (by decide +kernel)) rfl) rfl (List.forall_mem_cons.mpr ⟨rfl, fun _ h => absurd h List.not_mem_nil⟩) (ygf248 hB _) (fun v1 m1 cv1 => ?_)
  refine xS_of (pc' := 10) (L' := [(0, xa 536)]) (st' := [xi 2, xi (xR m1 536 10), xa 536]) (m' := m1) (fun ex ns r q => ?_) ?_
  · refine xw_aload_n rfl rfl rfl ?_
    refine xw_aload_n rfl rfl rfl ?_
    refine xw_gfIc (v := (m1 536 10)) (v' := (xR m1 536 10)) rfl (xw_obd (by decide +kernel)) xk12_10 (qi := 10) rfl rfl rfl ?_
    refine xw_iconst rfl ?_
    exact q
  refine xS_if (fun h0 => ?_) (fun h0 => ?_)
  · refine xS_of (pc' := 18) (L' := [(0, xa 536)]) (st' := [xi 1, xa 536]) (m' := m1) (fun ex ns r q => ?_) ?_
    · refine xw_ic_neF rfl (w32_cg (w32_xR _ _ _)) (w32_cg rfl) h0 ?_
      refine xw_iconst rfl ?_
      refine xw_goto rfl ?_
      refine xw_lo (L2 := [(0, xa 536)]) (List.forall_mem_cons.mpr ⟨rfl, fun _ h => absurd h List.not_mem_nil⟩) ?_
      exact q
    refine xS_call (q := 258) (n := 2) (kq := 4) (as := [xa 536, xi 1]) (st1 := []) rfl rfl rfl rfl rfl rfl rfl rfl rfl rfl (fun _ => xw_rcv1 (t := 12) (xw_obd (by decide +kernel)) rfl) rfl (List.forall_mem_cons.mpr ⟨rfl, List.forall_mem_cons.mpr ⟨rfl, fun _ h => absurd h List.not_mem_nil⟩⟩) (ygf258 hB _ _ rfl) (fun v2 m2 cv2 => ?_)
    refine xS_if (fun h1 => ?_) (fun h1 => ?_)
    · refine xS_of (pc' := 32) (L' := [(0, xa 536)]) (st' := [xi 0]) (m' := m2) (fun ex ns r q => ?_) ?_
      · refine xw_if_eqT rfl (w32_cg (w32_of (xw_zr cv2))) h1 ?_
        refine xw_iconst rfl ?_
        exact q
      exact xS_ret (v := 0) rfl rfl xw_rtI rfl
    · refine xS_of (pc' := 32) (L' := [(0, xa 536)]) (st' := [xi (xR m2 536 12)]) (m' := m2) (fun ex ns r q => ?_) ?_
      · refine xw_if_eqF rfl (w32_cg (w32_of (xw_zr cv2))) h1 ?_
        refine xw_aload_n rfl rfl rfl ?_
        refine xw_gfIc (v := (m2 536 12)) (v' := (xR m2 536 12)) rfl (xw_obd (by decide +kernel)) xk12_12 (qi := 12) rfl rfl rfl ?_
        refine xw_goto rfl ?_
        exact q
      exact xS_ret (v := (xR m2 536 12)) rfl rfl xw_rtI (w32_xR _ _ _)
  · refine xS_of (pc' := 18) (L' := [(0, xa 536)]) (st' := [xi 0, xa 536]) (m' := m1) (fun ex ns r q => ?_) ?_
    · refine xw_ic_neT rfl (w32_cg (w32_xR _ _ _)) (w32_cg rfl) h0 ?_
      refine xw_iconst rfl ?_
      refine xw_lo (L2 := [(0, xa 536)]) (List.forall_mem_cons.mpr ⟨rfl, fun _ h => absurd h List.not_mem_nil⟩) ?_
      exact q
    refine xS_call (q := 258) (n := 2) (kq := 4) (as := [xa 536, xi 0]) (st1 := []) rfl rfl rfl rfl rfl rfl rfl rfl rfl rfl (fun _ => xw_rcv1 (t := 12) (xw_obd (by decide +kernel)) rfl) rfl (List.forall_mem_cons.mpr ⟨rfl, List.forall_mem_cons.mpr ⟨rfl, fun _ h => absurd h List.not_mem_nil⟩⟩) (ygf258 hB _ _ rfl) (fun v3 m3 cv3 => ?_)
    refine xS_if (fun h1 => ?_) (fun h1 => ?_)
    · refine xS_of (pc' := 32) (L' := [(0, xa 536)]) (st' := [xi 0]) (m' := m3) (fun ex ns r q => ?_) ?_
      · refine xw_if_eqT rfl (w32_cg (w32_of (xw_zr cv3))) h1 ?_
        refine xw_iconst rfl ?_
        exact q
      exact xS_ret (v := 0) rfl rfl xw_rtI rfl
    · refine xS_of (pc' := 32) (L' := [(0, xa 536)]) (st' := [xi (xR m3 536 12)]) (m' := m3) (fun ex ns r q => ?_) ?_
      · refine xw_if_eqF rfl (w32_cg (w32_of (xw_zr cv3))) h1 ?_
        refine xw_aload_n rfl rfl rfl ?_
        refine xw_gfIc (v := (m3 536 12)) (v' := (xR m3 536 12)) rfl (xw_obd (by decide +kernel)) xk12_12 (qi := 12) rfl rfl rfl ?_
        refine xw_goto rfl ?_
        exact q
      exact xS_ret (v := (xR m3 536 12)) rfl rfl xw_rtI (w32_xR _ _ _)
theorem ygk279_59 {B : Nat} (hB : B ≤ 512) {xs : Nat → Int32} {SL d : Nat} {r9 : Int → Int → Int → xw_M → xP} (hr9 : ∀ x1 x2 x3 m, w32 x1 = x1 → w32 x2 = x2 → w32 x3 = x3 → xS B xs SL (d + 4) 279 (5, none, [], 13) 0 9 [(0, xa 536), (1, xi x1), (2, xi x2), (3, xi x3)] [] m (r9 x1 x2 x3 m)) : ∀ x1 x2 m, w32 x1 = x1 → w32 x2 = x2 → xS B xs SL (d + 4) 279 (5, none, [], 13) 0 59 [(0, xa 536), (1, xi x1), (2, xi x2)] [] m (yk279_59 B r9 x1 x2 m) := by
  intro x1 x2 m c1 c2
  unfold yk279_59
  refine xS_of (pc' := 63) (L' := [(0, xa 536), (1, xi x1), (2, xi (w32 (x2 + 1)))]) (st' := [xa 536]) (m' := m) (fun ex ns r q => ?_) ?_
  · refine xw_iincc (z := (w32 (x2 + 1))) (L' := [(2, xi (w32 (x2 + 1))), (0, xa 536), (1, xi x1)]) rfl rfl (by decide) rfl rfl ?_
    refine xw_aload_n rfl rfl rfl ?_
    refine xw_lo (L2 := [(0, xa 536), (1, xi x1), (2, xi (w32 (x2 + 1)))]) (List.forall_mem_cons.mpr ⟨rfl, List.forall_mem_cons.mpr ⟨rfl, List.forall_mem_cons.mpr ⟨rfl, fun _ h => absurd h List.not_mem_nil⟩⟩⟩) ?_
    exact q
  refine xS_call (q := 248) (n := 1) (kq := 0) (as := [xa 536]) (st1 := []) rfl rfl rfl rfl rfl rfl rfl rfl rfl rfl (fun _ => xw_rcv1 (t := 12) (xw_obd (by decide +kernel)) rfl) rfl (List.forall_mem_cons.mpr ⟨rfl, fun _ h => absurd h List.not_mem_nil⟩) (ygf248 hB _) (fun v1 m1 cv1 => ?_)
  refine xS_of (pc' := 70) (L' := [(0, xa 536), (1, xi x1), (2, xi (w32 (x2 + 1)))]) (st' := [xi 44, xa 536, xa 536]) (m' := m1) (fun ex ns r q => ?_) ?_
  · refine xw_aload_n rfl rfl rfl ?_
    refine xw_aload_n rfl rfl rfl ?_
    refine xw_bipush (e := 44) rfl (by decide +kernel) ?_
    refine xw_lo (L2 := [(0, xa 536), (1, xi x1), (2, xi (w32 (x2 + 1)))]) (List.forall_mem_cons.mpr ⟨rfl, List.forall_mem_cons.mpr ⟨rfl, List.forall_mem_cons.mpr ⟨rfl, fun _ h => absurd h List.not_mem_nil⟩⟩⟩) ?_
    exact q
  refine xS_call (q := 266) (n := 2) (kq := 4) (as := [xa 536, xi 44]) (st1 := [xa 536]) rfl rfl rfl rfl rfl rfl rfl rfl rfl rfl (fun _ => xw_rcv1 (t := 12) (xw_obd (by decide +kernel)) rfl) rfl (List.forall_mem_cons.mpr ⟨rfl, List.forall_mem_cons.mpr ⟨rfl, fun _ h => absurd h List.not_mem_nil⟩⟩) (ygf266 hB _ _ rfl) (fun v2 m2 cv2 => ?_)
  refine xS_if (fun h0 => ?_) (fun h0 => ?_)
  · refine xS_of (pc' := 79) (L' := [(0, xa 536), (1, xi x1), (2, xi (w32 (x2 + 1)))]) (st' := [xi 41, xa 536, xa 536]) (m' := m2) (fun ex ns r q => ?_) ?_
    · refine xw_if_neF rfl (w32_cg (w32_of (xw_zr cv2))) h0 ?_
      refine xw_aload_n rfl rfl rfl ?_
      refine xw_bipush (e := 41) rfl (by decide +kernel) ?_
      refine xw_lo (L2 := [(0, xa 536), (1, xi x1), (2, xi (w32 (x2 + 1)))]) (List.forall_mem_cons.mpr ⟨rfl, List.forall_mem_cons.mpr ⟨rfl, List.forall_mem_cons.mpr ⟨rfl, fun _ h => absurd h List.not_mem_nil⟩⟩⟩) ?_
      exact q
    refine xS_call (q := 266) (n := 2) (kq := 4) (as := [xa 536, xi 41]) (st1 := [xa 536]) rfl rfl rfl rfl rfl rfl rfl rfl rfl rfl (fun _ => xw_rcv1 (t := 12) (xw_obd (by decide +kernel)) rfl) rfl (List.forall_mem_cons.mpr ⟨rfl, List.forall_mem_cons.mpr ⟨rfl, fun _ h => absurd h List.not_mem_nil⟩⟩) (ygf266 hB _ _ rfl) (fun v3 m3 cv3 => ?_)
    refine xS_if (fun h1 => ?_) (fun h1 => ?_)
    · refine xS_of (pc' := 90) (L' := [(0, xa 536), (1, xi x1), (2, xi (w32 (x2 + 1)))]) (st' := [xi 0, xa 536]) (m' := m3) (fun ex ns r q => ?_) ?_
      · refine xw_if_eqT rfl (w32_cg (w32_of (xw_zr cv3))) h1 ?_
        refine xw_iconst rfl ?_
        refine xw_lo (L2 := [(0, xa 536), (1, xi x1), (2, xi (w32 (x2 + 1)))]) (List.forall_mem_cons.mpr ⟨rfl, List.forall_mem_cons.mpr ⟨rfl, List.forall_mem_cons.mpr ⟨rfl, fun _ h => absurd h List.not_mem_nil⟩⟩⟩) ?_
        exact q
      refine xS_call (q := 258) (n := 2) (kq := 4) (as := [xa 536, xi 0]) (st1 := []) rfl rfl rfl rfl rfl rfl rfl rfl rfl rfl (fun _ => xw_rcv1 (t := 12) (xw_obd (by decide +kernel)) rfl) rfl (List.forall_mem_cons.mpr ⟨rfl, List.forall_mem_cons.mpr ⟨rfl, fun _ h => absurd h List.not_mem_nil⟩⟩) (ygf258 hB _ _ rfl) (fun v4 m4 cv4 => ?_)
      refine xS_if (fun h2 => ?_) (fun h2 => ?_)
      · refine xS_of (pc' := 9) (L' := [(0, xa 536), (1, xi x1), (2, xi (w32 (x2 + 1))), (3, xi 0)]) (st' := []) (m' := m4) (fun ex ns r q => ?_) ?_
        · refine xw_if_eqT rfl (w32_cg (w32_of (xw_zr cv4))) h2 ?_
          refine xw_iconst rfl ?_
          refine xw_istore_n (L' := [(3, xi 0), (0, xa 536), (1, xi x1), (2, xi (w32 (x2 + 1)))]) rfl (by decide) rfl ?_
          refine xw_goto rfl ?_
          refine xw_lo (L2 := [(0, xa 536), (1, xi x1), (2, xi (w32 (x2 + 1))), (3, xi 0)]) (List.forall_mem_cons.mpr ⟨rfl, List.forall_mem_cons.mpr ⟨rfl, List.forall_mem_cons.mpr ⟨rfl, List.forall_mem_cons.mpr ⟨rfl, fun _ h => absurd h List.not_mem_nil⟩⟩⟩⟩) ?_
          exact q
        exact hr9 _ _ _ _ c1 (w32_w _) rfl
      · refine xS_of (pc' := 99) (L' := [(0, xa 536), (1, xi x1), (2, xi (w32 (x2 + 1)))]) (st' := [xi 44, xa 536]) (m' := m4) (fun ex ns r q => ?_) ?_
        · refine xw_if_eqF rfl (w32_cg (w32_of (xw_zr cv4))) h2 ?_
          refine xw_aload_n rfl rfl rfl ?_
          refine xw_bipush (e := 44) rfl (by decide +kernel) ?_
          refine xw_lo (L2 := [(0, xa 536), (1, xi x1), (2, xi (w32 (x2 + 1)))]) (List.forall_mem_cons.mpr ⟨rfl, List.forall_mem_cons.mpr ⟨rfl, List.forall_mem_cons.mpr ⟨rfl, fun _ h => absurd h List.not_mem_nil⟩⟩⟩) ?_
          exact q
        refine xS_call (q := 266) (n := 2) (kq := 4) (as := [xa 536, xi 44]) (st1 := []) rfl rfl rfl rfl rfl rfl rfl rfl rfl rfl (fun _ => xw_rcv1 (t := 12) (xw_obd (by decide +kernel)) rfl) rfl (List.forall_mem_cons.mpr ⟨rfl, List.forall_mem_cons.mpr ⟨rfl, fun _ h => absurd h List.not_mem_nil⟩⟩) (ygf266 hB _ _ rfl) (fun v5 m5 cv5 => ?_)
        refine xS_if (fun h3 => ?_) (fun h3 => ?_)
        · refine xS_of (pc' := 9) (L' := [(0, xa 536), (1, xi x1), (2, xi (w32 (x2 + 1))), (3, xi 0)]) (st' := []) (m' := m5) (fun ex ns r q => ?_) ?_
          · refine xw_if_eqT rfl (w32_cg (w32_of (xw_zr cv5))) h3 ?_
            refine xw_iconst rfl ?_
            refine xw_istore_n (L' := [(3, xi 0), (0, xa 536), (1, xi x1), (2, xi (w32 (x2 + 1)))]) rfl (by decide) rfl ?_
            refine xw_goto rfl ?_
            refine xw_lo (L2 := [(0, xa 536), (1, xi x1), (2, xi (w32 (x2 + 1))), (3, xi 0)]) (List.forall_mem_cons.mpr ⟨rfl, List.forall_mem_cons.mpr ⟨rfl, List.forall_mem_cons.mpr ⟨rfl, List.forall_mem_cons.mpr ⟨rfl, fun _ h => absurd h List.not_mem_nil⟩⟩⟩⟩) ?_
            exact q
          exact hr9 _ _ _ _ c1 (w32_w _) rfl
        · refine xS_of (pc' := 9) (L' := [(0, xa 536), (1, xi x1), (2, xi (w32 (x2 + 1))), (3, xi 1)]) (st' := []) (m' := m5) (fun ex ns r q => ?_) ?_
          · refine xw_if_eqF rfl (w32_cg (w32_of (xw_zr cv5))) h3 ?_
            refine xw_iconst rfl ?_
            refine xw_goto rfl ?_
            refine xw_istore_n (L' := [(3, xi 1), (0, xa 536), (1, xi x1), (2, xi (w32 (x2 + 1)))]) rfl (by decide) rfl ?_
            refine xw_goto rfl ?_
            refine xw_lo (L2 := [(0, xa 536), (1, xi x1), (2, xi (w32 (x2 + 1))), (3, xi 1)]) (List.forall_mem_cons.mpr ⟨rfl, List.forall_mem_cons.mpr ⟨rfl, List.forall_mem_cons.mpr ⟨rfl, List.forall_mem_cons.mpr ⟨rfl, fun _ h => absurd h List.not_mem_nil⟩⟩⟩⟩) ?_
            exact q
          exact hr9 _ _ _ _ c1 (w32_w _) rfl
    · refine xS_of (pc' := 90) (L' := [(0, xa 536), (1, xi x1), (2, xi (w32 (x2 + 1)))]) (st' := [xi 1, xa 536]) (m' := m3) (fun ex ns r q => ?_) ?_
      · refine xw_if_eqF rfl (w32_cg (w32_of (xw_zr cv3))) h1 ?_
        refine xw_iconst rfl ?_
        refine xw_goto rfl ?_
        refine xw_lo (L2 := [(0, xa 536), (1, xi x1), (2, xi (w32 (x2 + 1)))]) (List.forall_mem_cons.mpr ⟨rfl, List.forall_mem_cons.mpr ⟨rfl, List.forall_mem_cons.mpr ⟨rfl, fun _ h => absurd h List.not_mem_nil⟩⟩⟩) ?_
        exact q
      refine xS_call (q := 258) (n := 2) (kq := 4) (as := [xa 536, xi 1]) (st1 := []) rfl rfl rfl rfl rfl rfl rfl rfl rfl rfl (fun _ => xw_rcv1 (t := 12) (xw_obd (by decide +kernel)) rfl) rfl (List.forall_mem_cons.mpr ⟨rfl, List.forall_mem_cons.mpr ⟨rfl, fun _ h => absurd h List.not_mem_nil⟩⟩) (ygf258 hB _ _ rfl) (fun v6 m6 cv6 => ?_)
      refine xS_if (fun h2 => ?_) (fun h2 => ?_)
      · refine xS_of (pc' := 9) (L' := [(0, xa 536), (1, xi x1), (2, xi (w32 (x2 + 1))), (3, xi 0)]) (st' := []) (m' := m6) (fun ex ns r q => ?_) ?_
        · refine xw_if_eqT rfl (w32_cg (w32_of (xw_zr cv6))) h2 ?_
          refine xw_iconst rfl ?_
          refine xw_istore_n (L' := [(3, xi 0), (0, xa 536), (1, xi x1), (2, xi (w32 (x2 + 1)))]) rfl (by decide) rfl ?_
          refine xw_goto rfl ?_
          refine xw_lo (L2 := [(0, xa 536), (1, xi x1), (2, xi (w32 (x2 + 1))), (3, xi 0)]) (List.forall_mem_cons.mpr ⟨rfl, List.forall_mem_cons.mpr ⟨rfl, List.forall_mem_cons.mpr ⟨rfl, List.forall_mem_cons.mpr ⟨rfl, fun _ h => absurd h List.not_mem_nil⟩⟩⟩⟩) ?_
          exact q
        exact hr9 _ _ _ _ c1 (w32_w _) rfl
      · refine xS_of (pc' := 99) (L' := [(0, xa 536), (1, xi x1), (2, xi (w32 (x2 + 1)))]) (st' := [xi 44, xa 536]) (m' := m6) (fun ex ns r q => ?_) ?_
        · refine xw_if_eqF rfl (w32_cg (w32_of (xw_zr cv6))) h2 ?_
          refine xw_aload_n rfl rfl rfl ?_
          refine xw_bipush (e := 44) rfl (by decide +kernel) ?_
          refine xw_lo (L2 := [(0, xa 536), (1, xi x1), (2, xi (w32 (x2 + 1)))]) (List.forall_mem_cons.mpr ⟨rfl, List.forall_mem_cons.mpr ⟨rfl, List.forall_mem_cons.mpr ⟨rfl, fun _ h => absurd h List.not_mem_nil⟩⟩⟩) ?_
          exact q
        refine xS_call (q := 266) (n := 2) (kq := 4) (as := [xa 536, xi 44]) (st1 := []) rfl rfl rfl rfl rfl rfl rfl rfl rfl rfl (fun _ => xw_rcv1 (t := 12) (xw_obd (by decide +kernel)) rfl) rfl (List.forall_mem_cons.mpr ⟨rfl, List.forall_mem_cons.mpr ⟨rfl, fun _ h => absurd h List.not_mem_nil⟩⟩) (ygf266 hB _ _ rfl) (fun v7 m7 cv7 => ?_)
        refine xS_if (fun h3 => ?_) (fun h3 => ?_)
        · refine xS_of (pc' := 9) (L' := [(0, xa 536), (1, xi x1), (2, xi (w32 (x2 + 1))), (3, xi 0)]) (st' := []) (m' := m7) (fun ex ns r q => ?_) ?_
          · refine xw_if_eqT rfl (w32_cg (w32_of (xw_zr cv7))) h3 ?_
            refine xw_iconst rfl ?_
            refine xw_istore_n (L' := [(3, xi 0), (0, xa 536), (1, xi x1), (2, xi (w32 (x2 + 1)))]) rfl (by decide) rfl ?_
            refine xw_goto rfl ?_
            refine xw_lo (L2 := [(0, xa 536), (1, xi x1), (2, xi (w32 (x2 + 1))), (3, xi 0)]) (List.forall_mem_cons.mpr ⟨rfl, List.forall_mem_cons.mpr ⟨rfl, List.forall_mem_cons.mpr ⟨rfl, List.forall_mem_cons.mpr ⟨rfl, fun _ h => absurd h List.not_mem_nil⟩⟩⟩⟩) ?_
            exact q
          exact hr9 _ _ _ _ c1 (w32_w _) rfl
        · refine xS_of (pc' := 9) (L' := [(0, xa 536), (1, xi x1), (2, xi (w32 (x2 + 1))), (3, xi 1)]) (st' := []) (m' := m7) (fun ex ns r q => ?_) ?_
          · refine xw_if_eqF rfl (w32_cg (w32_of (xw_zr cv7))) h3 ?_
            refine xw_iconst rfl ?_
            refine xw_goto rfl ?_
            refine xw_istore_n (L' := [(3, xi 1), (0, xa 536), (1, xi x1), (2, xi (w32 (x2 + 1)))]) rfl (by decide) rfl ?_
            refine xw_goto rfl ?_
            refine xw_lo (L2 := [(0, xa 536), (1, xi x1), (2, xi (w32 (x2 + 1))), (3, xi 1)]) (List.forall_mem_cons.mpr ⟨rfl, List.forall_mem_cons.mpr ⟨rfl, List.forall_mem_cons.mpr ⟨rfl, List.forall_mem_cons.mpr ⟨rfl, fun _ h => absurd h List.not_mem_nil⟩⟩⟩⟩) ?_
            exact q
          exact hr9 _ _ _ _ c1 (w32_w _) rfl
  · refine xS_of (pc' := 90) (L' := [(0, xa 536), (1, xi x1), (2, xi (w32 (x2 + 1)))]) (st' := [xi 1, xa 536]) (m' := m2) (fun ex ns r q => ?_) ?_
    · refine xw_if_neT rfl (w32_cg (w32_of (xw_zr cv2))) h0 ?_
      refine xw_iconst rfl ?_
      refine xw_goto rfl ?_
      refine xw_lo (L2 := [(0, xa 536), (1, xi x1), (2, xi (w32 (x2 + 1)))]) (List.forall_mem_cons.mpr ⟨rfl, List.forall_mem_cons.mpr ⟨rfl, List.forall_mem_cons.mpr ⟨rfl, fun _ h => absurd h List.not_mem_nil⟩⟩⟩) ?_
      exact q
    refine xS_call (q := 258) (n := 2) (kq := 4) (as := [xa 536, xi 1]) (st1 := []) rfl rfl rfl rfl rfl rfl rfl rfl rfl rfl (fun _ => xw_rcv1 (t := 12) (xw_obd (by decide +kernel)) rfl) rfl (List.forall_mem_cons.mpr ⟨rfl, List.forall_mem_cons.mpr ⟨rfl, fun _ h => absurd h List.not_mem_nil⟩⟩) (ygf258 hB _ _ rfl) (fun v8 m8 cv8 => ?_)
    refine xS_if (fun h1 => ?_) (fun h1 => ?_)
    · refine xS_of (pc' := 9) (L' := [(0, xa 536), (1, xi x1), (2, xi (w32 (x2 + 1))), (3, xi 0)]) (st' := []) (m' := m8) (fun ex ns r q => ?_) ?_
      · refine xw_if_eqT rfl (w32_cg (w32_of (xw_zr cv8))) h1 ?_
        refine xw_iconst rfl ?_
        refine xw_istore_n (L' := [(3, xi 0), (0, xa 536), (1, xi x1), (2, xi (w32 (x2 + 1)))]) rfl (by decide) rfl ?_
        refine xw_goto rfl ?_
        refine xw_lo (L2 := [(0, xa 536), (1, xi x1), (2, xi (w32 (x2 + 1))), (3, xi 0)]) (List.forall_mem_cons.mpr ⟨rfl, List.forall_mem_cons.mpr ⟨rfl, List.forall_mem_cons.mpr ⟨rfl, List.forall_mem_cons.mpr ⟨rfl, fun _ h => absurd h List.not_mem_nil⟩⟩⟩⟩) ?_
        exact q
      exact hr9 _ _ _ _ c1 (w32_w _) rfl
    · refine xS_of (pc' := 99) (L' := [(0, xa 536), (1, xi x1), (2, xi (w32 (x2 + 1)))]) (st' := [xi 44, xa 536]) (m' := m8) (fun ex ns r q => ?_) ?_
      · refine xw_if_eqF rfl (w32_cg (w32_of (xw_zr cv8))) h1 ?_
        refine xw_aload_n rfl rfl rfl ?_
        refine xw_bipush (e := 44) rfl (by decide +kernel) ?_
        refine xw_lo (L2 := [(0, xa 536), (1, xi x1), (2, xi (w32 (x2 + 1)))]) (List.forall_mem_cons.mpr ⟨rfl, List.forall_mem_cons.mpr ⟨rfl, List.forall_mem_cons.mpr ⟨rfl, fun _ h => absurd h List.not_mem_nil⟩⟩⟩) ?_
        exact q
      refine xS_call (q := 266) (n := 2) (kq := 4) (as := [xa 536, xi 44]) (st1 := []) rfl rfl rfl rfl rfl rfl rfl rfl rfl rfl (fun _ => xw_rcv1 (t := 12) (xw_obd (by decide +kernel)) rfl) rfl (List.forall_mem_cons.mpr ⟨rfl, List.forall_mem_cons.mpr ⟨rfl, fun _ h => absurd h List.not_mem_nil⟩⟩) (ygf266 hB _ _ rfl) (fun v9 m9 cv9 => ?_)
      refine xS_if (fun h2 => ?_) (fun h2 => ?_)
      · refine xS_of (pc' := 9) (L' := [(0, xa 536), (1, xi x1), (2, xi (w32 (x2 + 1))), (3, xi 0)]) (st' := []) (m' := m9) (fun ex ns r q => ?_) ?_
        · refine xw_if_eqT rfl (w32_cg (w32_of (xw_zr cv9))) h2 ?_
          refine xw_iconst rfl ?_
          refine xw_istore_n (L' := [(3, xi 0), (0, xa 536), (1, xi x1), (2, xi (w32 (x2 + 1)))]) rfl (by decide) rfl ?_
          refine xw_goto rfl ?_
          refine xw_lo (L2 := [(0, xa 536), (1, xi x1), (2, xi (w32 (x2 + 1))), (3, xi 0)]) (List.forall_mem_cons.mpr ⟨rfl, List.forall_mem_cons.mpr ⟨rfl, List.forall_mem_cons.mpr ⟨rfl, List.forall_mem_cons.mpr ⟨rfl, fun _ h => absurd h List.not_mem_nil⟩⟩⟩⟩) ?_
          exact q
        exact hr9 _ _ _ _ c1 (w32_w _) rfl
      · refine xS_of (pc' := 9) (L' := [(0, xa 536), (1, xi x1), (2, xi (w32 (x2 + 1))), (3, xi 1)]) (st' := []) (m' := m9) (fun ex ns r q => ?_) ?_
        · refine xw_if_eqF rfl (w32_cg (w32_of (xw_zr cv9))) h2 ?_
          refine xw_iconst rfl ?_
          refine xw_goto rfl ?_
          refine xw_istore_n (L' := [(3, xi 1), (0, xa 536), (1, xi x1), (2, xi (w32 (x2 + 1)))]) rfl (by decide) rfl ?_
          refine xw_goto rfl ?_
          refine xw_lo (L2 := [(0, xa 536), (1, xi x1), (2, xi (w32 (x2 + 1))), (3, xi 1)]) (List.forall_mem_cons.mpr ⟨rfl, List.forall_mem_cons.mpr ⟨rfl, List.forall_mem_cons.mpr ⟨rfl, List.forall_mem_cons.mpr ⟨rfl, fun _ h => absurd h List.not_mem_nil⟩⟩⟩⟩) ?_
          exact q
        exact hr9 _ _ _ _ c1 (w32_w _) rfl
theorem ysl279_9 {B : Nat} (hB : B ≤ 512) {xs : Nat → Int32} {SL d : Nat} {r9 : Int → Int → Int → xw_M → xP} (hr9 : ∀ x1 x2 x3 m, w32 x1 = x1 → w32 x2 = x2 → w32 x3 = x3 → xS B xs SL (d + 4) 279 (5, none, [], 13) 0 9 [(0, xa 536), (1, xi x1), (2, xi x2), (3, xi x3)] [] m (r9 x1 x2 x3 m)) : ∀ x1 x2 x3 m, w32 x1 = x1 → w32 x2 = x2 → w32 x3 = x3 → xS B xs SL (d + 4) 279 (5, none, [], 13) 0 9 [(0, xa 536), (1, xi x1), (2, xi x2), (3, xi x3)] [] m (yl279_9 B r9 x1 x2 x3 m) := by
  intro x1 x2 x3 m c1 c2 c3
  unfold yl279_9
  refine xS_of (pc' := 10) (L' := [(0, xa 536), (1, xi x1), (2, xi x2), (3, xi x3)]) (st' := [xi x3]) (m' := m) (fun ex ns r q => ?_) ?_
  · refine xw_iload_n rfl rfl ?_
    exact q
  refine xS_if (fun h0 => ?_) (fun h0 => ?_)
  · refine xS_g (fun g1 => ?_)
    refine xS_g (fun g2 => ?_)
    refine xS_g (fun g3 => ?_)
    refine xS_of (pc' := 124) (L' := [(0, xa 536), (1, xi x1), (2, xi x2), (3, xi x3)]) (st' := []) (m' := (xw_u m (xw_rf (m 536 23) 16) x1 x2)) (fun ex ns r q => ?_) ?_
    · refine xw_if_eqT rfl (w32_cg c3) h0 ?_
      refine xw_aload_n rfl rfl rfl ?_
      refine xw_gfM (v := (m 536 23)) rfl (xw_obd (by decide +kernel)) xk12_23 (qi := 23) rfl rfl ?_
      refine xw_gfV (qi := 16) rfl (xw_obd g1) xk13_16 rfl ?_
      refine xw_iload_n rfl rfl ?_
      refine xw_iload_n rfl rfl ?_
      refine xw_iast (n := (xw_le B (xw_rf (m 536 23) 16))) rfl hB (xw_obd g3) rfl g2 ?_
      exact q
    exact xS_ret (v := 0) rfl rfl rfl rfl
  · refine xS_of (pc' := 14) (L' := [(0, xa 536), (1, xi x1), (2, xi x2)]) (st' := [xa 536]) (m' := m) (fun ex ns r q => ?_) ?_
    · refine xw_if_eqF rfl (w32_cg c3) h0 ?_
      refine xw_aload_n rfl rfl rfl ?_
      refine xw_lo (L2 := [(0, xa 536), (1, xi x1), (2, xi x2)]) (List.forall_mem_cons.mpr ⟨rfl, List.forall_mem_cons.mpr ⟨rfl, List.forall_mem_cons.mpr ⟨rfl, fun _ h => absurd h List.not_mem_nil⟩⟩⟩) ?_
      exact q
    refine xS_call (q := 278) (n := 1) (kq := 1) (as := [xa 536]) (st1 := []) rfl rfl rfl rfl rfl rfl rfl rfl rfl rfl (fun _ => xw_rcv1 (t := 12) (xw_obd (by decide +kernel)) rfl) rfl (List.forall_mem_cons.mpr ⟨rfl, fun _ h => absurd h List.not_mem_nil⟩) (ygf278 hB _) (fun v1 m1 cv1 => ?_)
    refine xS_of (pc' := 23) (L' := [(4, xi v1), (0, xa 536), (1, xi x1), (2, xi x2)]) (st' := [xi 40, xi x2, xa 536]) (m' := m1) (fun ex ns r q => ?_) ?_
    · refine xw_istore (L' := [(4, xi v1), (0, xa 536), (1, xi x1), (2, xi x2)]) rfl (by decide) rfl ?_
      refine xw_aload_n rfl rfl rfl ?_
      refine xw_iload_n rfl rfl ?_
      refine xw_bipush (e := 40) rfl (by decide +kernel) ?_
      exact q
    refine xS_if (fun h1 => ?_) (fun h1 => ?_)
    · refine xS_of (pc' := 37) (L' := [(0, xa 536), (1, xi x1), (2, xi x2), (4, xi v1)]) (st' := [xi (xR m1 536 9), xi 7, xi 1, xa 536]) (m' := m1) (fun ex ns r q => ?_) ?_
      · refine xw_ic_geF rfl (w32_cg c2) (w32_cg rfl) (Int.not_le.mpr h1) ?_
        refine xw_iconst rfl ?_
        refine xw_goto rfl ?_
        refine xw_bipush (e := 7) rfl (by decide +kernel) ?_
        refine xw_aload_n rfl rfl rfl ?_
        refine xw_gfIc (v := (m1 536 9)) (v' := (xR m1 536 9)) rfl (xw_obd (by decide +kernel)) xk12_9 (qi := 9) rfl rfl rfl ?_
        refine xw_lo (L2 := [(0, xa 536), (1, xi x1), (2, xi x2), (4, xi v1)]) (List.forall_mem_cons.mpr ⟨rfl, List.forall_mem_cons.mpr ⟨rfl, List.forall_mem_cons.mpr ⟨rfl, List.forall_mem_cons.mpr ⟨rfl, fun _ h => absurd h List.not_mem_nil⟩⟩⟩⟩) ?_
        exact q
      refine xS_call (q := 254) (n := 4) (kq := 4) (as := [xa 536, xi 1, xi 7, xi (xR m1 536 9)]) (st1 := []) rfl rfl rfl rfl rfl rfl rfl rfl rfl rfl (fun _ => xw_rcv1 (t := 12) (xw_obd (by decide +kernel)) rfl) rfl (List.forall_mem_cons.mpr ⟨rfl, List.forall_mem_cons.mpr ⟨rfl, List.forall_mem_cons.mpr ⟨rfl, List.forall_mem_cons.mpr ⟨rfl, fun _ h => absurd h List.not_mem_nil⟩⟩⟩⟩) (ygf254 hB _ _ _ _ rfl rfl (w32_xR _ _ _)) (fun v2 m2 cv2 => ?_)
      refine xS_if (fun h2 => ?_) (fun h2 => ?_)
      · refine xS_of (pc' := 59) (L' := [(0, xa 536), (1, xi x1), (2, xi x2)]) (st' := []) (m' := m2) (fun ex ns r q => ?_) ?_
        · refine xw_if_eqT rfl (w32_cg (w32_of (xw_zr cv2))) h2 ?_
          refine xw_lo (L2 := [(0, xa 536), (1, xi x1), (2, xi x2)]) (List.forall_mem_cons.mpr ⟨rfl, List.forall_mem_cons.mpr ⟨rfl, List.forall_mem_cons.mpr ⟨rfl, fun _ h => absurd h List.not_mem_nil⟩⟩⟩) ?_
          exact q
        exact ygk279_59 hB hr9 _ _ _ c1 c2
      · refine xS_g (fun g3 => ?_)
        refine xS_g (fun g4 => ?_)
        refine xS_g (fun g5 => ?_)
        refine xS_of (pc' := 59) (L' := [(0, xa 536), (1, xi x1), (2, xi x2)]) (st' := []) (m' := (xw_u m2 (xw_rf (m2 536 23) 18) ((40 * x1) + x2) v1)) (fun ex ns r q => ?_) ?_
        · refine xw_if_eqF rfl (w32_cg (w32_of (xw_zr cv2))) h2 ?_
          refine xw_aload_n rfl rfl rfl ?_
          refine xw_gfM (v := (m2 536 23)) rfl (xw_obd (by decide +kernel)) xk12_23 (qi := 23) rfl rfl ?_
          refine xw_gfV (qi := 18) rfl (xw_obd g3) xk13_18 rfl ?_
          refine xw_bipush (e := 40) rfl (by decide +kernel) ?_
          refine xw_iload_n rfl rfl ?_
          refine xw_imul rfl ?_
          refine xw_iload_n rfl rfl ?_
          refine xw_iadd rfl ?_
          refine xw_iload rfl rfl ?_
          refine xw_iast (n := (xw_le B (xw_rf (m2 536 23) 18))) rfl hB (xw_obd g5) rfl g4 ?_
          refine xw_lo (L2 := [(0, xa 536), (1, xi x1), (2, xi x2)]) (List.forall_mem_cons.mpr ⟨rfl, List.forall_mem_cons.mpr ⟨rfl, List.forall_mem_cons.mpr ⟨rfl, fun _ h => absurd h List.not_mem_nil⟩⟩⟩) ?_
          exact q
        exact ygk279_59 hB hr9 _ _ _ c1 c2
    · refine xS_of (pc' := 37) (L' := [(0, xa 536), (1, xi x1), (2, xi x2), (4, xi v1)]) (st' := [xi (xR m1 536 9), xi 7, xi 0, xa 536]) (m' := m1) (fun ex ns r q => ?_) ?_
      · refine xw_ic_geT rfl (w32_cg c2) (w32_cg rfl) (Int.not_lt.mp h1) ?_
        refine xw_iconst rfl ?_
        refine xw_bipush (e := 7) rfl (by decide +kernel) ?_
        refine xw_aload_n rfl rfl rfl ?_
        refine xw_gfIc (v := (m1 536 9)) (v' := (xR m1 536 9)) rfl (xw_obd (by decide +kernel)) xk12_9 (qi := 9) rfl rfl rfl ?_
        refine xw_lo (L2 := [(0, xa 536), (1, xi x1), (2, xi x2), (4, xi v1)]) (List.forall_mem_cons.mpr ⟨rfl, List.forall_mem_cons.mpr ⟨rfl, List.forall_mem_cons.mpr ⟨rfl, List.forall_mem_cons.mpr ⟨rfl, fun _ h => absurd h List.not_mem_nil⟩⟩⟩⟩) ?_
        exact q
      refine xS_call (q := 254) (n := 4) (kq := 4) (as := [xa 536, xi 0, xi 7, xi (xR m1 536 9)]) (st1 := []) rfl rfl rfl rfl rfl rfl rfl rfl rfl rfl (fun _ => xw_rcv1 (t := 12) (xw_obd (by decide +kernel)) rfl) rfl (List.forall_mem_cons.mpr ⟨rfl, List.forall_mem_cons.mpr ⟨rfl, List.forall_mem_cons.mpr ⟨rfl, List.forall_mem_cons.mpr ⟨rfl, fun _ h => absurd h List.not_mem_nil⟩⟩⟩⟩) (ygf254 hB _ _ _ _ rfl rfl (w32_xR _ _ _)) (fun v3 m3 cv3 => ?_)
      refine xS_if (fun h2 => ?_) (fun h2 => ?_)
      · refine xS_of (pc' := 59) (L' := [(0, xa 536), (1, xi x1), (2, xi x2)]) (st' := []) (m' := m3) (fun ex ns r q => ?_) ?_
        · refine xw_if_eqT rfl (w32_cg (w32_of (xw_zr cv3))) h2 ?_
          refine xw_lo (L2 := [(0, xa 536), (1, xi x1), (2, xi x2)]) (List.forall_mem_cons.mpr ⟨rfl, List.forall_mem_cons.mpr ⟨rfl, List.forall_mem_cons.mpr ⟨rfl, fun _ h => absurd h List.not_mem_nil⟩⟩⟩) ?_
          exact q
        exact ygk279_59 hB hr9 _ _ _ c1 c2
      · refine xS_g (fun g3 => ?_)
        refine xS_g (fun g4 => ?_)
        refine xS_g (fun g5 => ?_)
        refine xS_of (pc' := 59) (L' := [(0, xa 536), (1, xi x1), (2, xi x2)]) (st' := []) (m' := (xw_u m3 (xw_rf (m3 536 23) 18) ((40 * x1) + x2) v1)) (fun ex ns r q => ?_) ?_
        · refine xw_if_eqF rfl (w32_cg (w32_of (xw_zr cv3))) h2 ?_
          refine xw_aload_n rfl rfl rfl ?_
          refine xw_gfM (v := (m3 536 23)) rfl (xw_obd (by decide +kernel)) xk12_23 (qi := 23) rfl rfl ?_
          refine xw_gfV (qi := 18) rfl (xw_obd g3) xk13_18 rfl ?_
          refine xw_bipush (e := 40) rfl (by decide +kernel) ?_
          refine xw_iload_n rfl rfl ?_
          refine xw_imul rfl ?_
          refine xw_iload_n rfl rfl ?_
          refine xw_iadd rfl ?_
          refine xw_iload rfl rfl ?_
          refine xw_iast (n := (xw_le B (xw_rf (m3 536 23) 18))) rfl hB (xw_obd g5) rfl g4 ?_
          refine xw_lo (L2 := [(0, xa 536), (1, xi x1), (2, xi x2)]) (List.forall_mem_cons.mpr ⟨rfl, List.forall_mem_cons.mpr ⟨rfl, List.forall_mem_cons.mpr ⟨rfl, fun _ h => absurd h List.not_mem_nil⟩⟩⟩) ?_
          exact q
        exact ygk279_59 hB hr9 _ _ _ c1 c2
theorem ygl279_9 {B : Nat} (hB : B ≤ 512) {xs : Nat → Int32} {SL d : Nat} : ∀ n x1 x2 x3 m, w32 x1 = x1 → w32 x2 = x2 → w32 x3 = x3 → xS B xs SL (d + 4) 279 (5, none, [], 13) 0 9 [(0, xa 536), (1, xi x1), (2, xi x2), (3, xi x3)] [] m (xl3 (yl279_9 B) n x1 x2 x3 m) := by
  intro n
  induction n with
  | zero => intro x1 x2 x3 m c1 c2 c3; exact xS_none
  | succ n ih => exact ysl279_9 hB ih
theorem ygf279 {B : Nat} (hB : B ≤ 512) {xs : Nat → Int32} {SL d : Nat} : ∀ p0 m, w32 p0 = p0 → xS B xs SL (d + 4) 279 (5, none, [], 13) 0 0 [(0, xa 536), (1, xi p0)] [] m (yf279 B p0 m) := by
  intro p0 m cp0
  unfold yf279
  refine xS_of (pc' := 5) (L' := [(0, xa 536), (1, xi p0), (2, xi 0)]) (st' := [xi 40, xa 536]) (m' := m) (fun ex ns r q => ?_) ?_
  · refine xw_iconst rfl ?_
    refine xw_istore_n (L' := [(2, xi 0), (0, xa 536), (1, xi p0)]) rfl (by decide) rfl ?_
    refine xw_aload_n rfl rfl rfl ?_
    refine xw_bipush (e := 40) rfl (by decide +kernel) ?_
    refine xw_lo (L2 := [(0, xa 536), (1, xi p0), (2, xi 0)]) (List.forall_mem_cons.mpr ⟨rfl, List.forall_mem_cons.mpr ⟨rfl, List.forall_mem_cons.mpr ⟨rfl, fun _ h => absurd h List.not_mem_nil⟩⟩⟩) ?_
    exact q
  refine xS_call (q := 265) (n := 2) (kq := 4) (as := [xa 536, xi 40]) (st1 := []) rfl rfl rfl rfl rfl rfl rfl rfl rfl rfl (fun _ => xw_rcv1 (t := 12) (xw_obd (by decide +kernel)) rfl) rfl (List.forall_mem_cons.mpr ⟨rfl, List.forall_mem_cons.mpr ⟨rfl, fun _ h => absurd h List.not_mem_nil⟩⟩) (ygf265 hB _ _ rfl) (fun v1 m1 cv1 => ?_)
  refine xS_of (pc' := 9) (L' := [(0, xa 536), (1, xi p0), (2, xi 0), (3, xi v1)]) (st' := []) (m' := m1) (fun ex ns r q => ?_) ?_
  · refine xw_istore_n (L' := [(3, xi v1), (0, xa 536), (1, xi p0), (2, xi 0)]) rfl (by decide) rfl ?_
    refine xw_lo (L2 := [(0, xa 536), (1, xi p0), (2, xi 0), (3, xi v1)]) (List.forall_mem_cons.mpr ⟨rfl, List.forall_mem_cons.mpr ⟨rfl, List.forall_mem_cons.mpr ⟨rfl, List.forall_mem_cons.mpr ⟨rfl, fun _ h => absurd h List.not_mem_nil⟩⟩⟩⟩) ?_
    exact q
  exact ygl279_9 hB 1000000 _ _ _ _ cp0 rfl (w32_of (xw_zr cv1))
theorem ygf280 {B : Nat} (hB : B ≤ 512) {xs : Nat → Int32} {SL d : Nat} : ∀ p0 m, w32 p0 = p0 → xS B xs SL (d + 0) 280 (2, none, [], 13) 0 0 [(0, xa 536), (1, xi p0)] [] m (yf280 B p0 m) := by
  intro p0 m cp0
  unfold yf280
  refine xS_of (pc' := 4) (L' := [(0, xa 536), (1, xi p0)]) (st' := [xi (xR m 536 6)]) (m' := m) (fun ex ns r q => ?_) ?_
  · refine xw_aload_n rfl rfl rfl ?_
    refine xw_gfIc (v := (m 536 6)) (v' := (xR m 536 6)) rfl (xw_obd (by decide +kernel)) xk12_6 (qi := 6) rfl rfl rfl ?_
    exact q
  refine xS_if (fun h0 => ?_) (fun h0 => ?_)
  · refine xS_g (fun g1 => ?_)
    refine xS_g (fun g2 => ?_)
    refine xS_g (fun g3 => ?_)
    refine xS_of (pc' := 36) (L' := [(0, xa 536), (1, xi p0)]) (st' := []) (m' := (xw_u (xw_u m (xw_rf (m 536 23) 12) (xR m (m 536 23) 11) p0) (m 536 23) 11 ((xR m (m 536 23) 11) + 1))) (fun ex ns r q => ?_) ?_
    · refine xw_if_neF rfl (w32_cg (w32_xR _ _ _)) h0 ?_
      refine xw_aload_n rfl rfl rfl ?_
      refine xw_gfM (v := (m 536 23)) rfl (xw_obd (by decide +kernel)) xk12_23 (qi := 23) rfl rfl ?_
      refine xw_gfV (qi := 12) rfl (xw_obd g1) xk13_12 rfl ?_
      refine xw_aload_n rfl rfl rfl ?_
      refine xw_gfM (v := (m 536 23)) rfl (xw_obd (by decide +kernel)) xk12_23 (qi := 23) rfl rfl ?_
      refine xw_gfIc (v := (m (m 536 23) 11)) (v' := (xR m (m 536 23) 11)) rfl (xw_obd g1) xk13_11 (qi := 11) rfl rfl rfl ?_
      refine xw_iload_n rfl rfl ?_
      refine xw_iast (n := (xw_le B (xw_rf (m 536 23) 12))) rfl hB (xw_obd g3) rfl g2 ?_
      refine xw_aload_n rfl rfl rfl ?_
      refine xw_gfM (v := (m 536 23)) rfl (xw_obd (by decide +kernel)) xk12_23 (qi := 23) rfl (xw_un (xw_obne (t := 16) (t' := 12) (xw_obd g3) (xw_obd (by decide +kernel)) (by decide)) rfl) ?_
      refine xw_dup rfl rfl ?_
      refine xw_gfIc (v := (m (m 536 23) 11)) (v' := (xR m (m 536 23) 11)) rfl (xw_obd g1) xk13_11 (qi := 11) rfl (xw_un (xw_obne (t := 16) (t' := 13) (xw_obd g3) (xw_obd g1) (by decide)) rfl) rfl ?_
      refine xw_iconst rfl ?_
      refine xw_iadd rfl ?_
      refine xw_pfI rfl (xw_obd g1) xk13_11 (qi := 11) rfl (xw_okI rfl) ?_
      exact q
    exact xS_ret (v := 0) rfl rfl rfl rfl
  · refine xS_of (pc' := 36) (L' := [(0, xa 536), (1, xi p0)]) (st' := []) (m' := m) (fun ex ns r q => ?_) ?_
    · refine xw_if_neT rfl (w32_cg (w32_xR _ _ _)) h0 ?_
      exact q
    exact xS_ret (v := 0) rfl rfl rfl rfl
