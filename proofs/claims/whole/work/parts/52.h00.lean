/-! the methods that catch: the machine does what the functions say -/
theorem ygk45_97 {B : Nat} (hB : B ≤ 512) {xs : Nat → Int32} {SL d : Nat} : ∀ x1 m, w32 x1 = x1 → xSB 1 B xs SL (d + 8) 45 (3, (some .int), [(20, 93, 96, 14)], 1) 1 97 [(0, xa 0), (1, xi x1)] [] m (yk45_97 B x1 m) := by
  intro x1 m c1
  unfold yk45_97
  refine xSB_of (pc' := 106) (L' := [(0, xa 0), (1, xi x1)]) (st' := [xi x1]) (m' := (xw_u m 1 1 0)) (fun ex ns r q => ?_) ?_
  · refine xw_aload_n rfl rfl rfl ?_
    refine xw_gfR (n := 1) (e := 1) rfl (xw_obd (by decide +kernel)) (by decide +kernel) (by decide +kernel) rfl ?_
    refine xw_iconst rfl ?_
    refine xw_pfI rfl (xw_obd (by decide +kernel)) xk1_1 (qi := 1) rfl (xw_okI rfl) ?_
    refine xw_iload_n rfl rfl ?_
    exact q
  exact xSB_ret (v := x1) rfl rfl xw_rtI c1
theorem ygk45_93 {B : Nat} (hB : B ≤ 512) {xs : Nat → Int32} {SL d : Nat} : ∀ x1 m, w32 x1 = x1 → xSB 1 B xs SL (d + 8) 45 (3, (some .int), [(20, 93, 96, 14)], 1) 1 93 [(0, xa 0), (1, xi x1)] [] m (yk45_93 B x1 m) := by
  intro x1 m c1
  unfold yk45_93
  refine xSB_of (pc' := 97) (L' := [(0, xa 0), (1, xi x1)]) (st' := []) (m' := m) (fun ex ns r q => ?_) ?_
  · refine xw_goto rfl ?_
    refine xw_lo (L2 := [(0, xa 0), (1, xi x1)]) (List.forall_mem_cons.mpr ⟨rfl, List.forall_mem_cons.mpr ⟨rfl, fun _ h => absurd h List.not_mem_nil⟩⟩) ?_
    exact q
  exact ygk45_97 hB _ _ c1
theorem ysl45_22 {B : Nat} (hB : B ≤ 512) {xs : Nat → Int32} {SL d : Nat} {r22 : Int → Int → xw_M → xP} (hr22 : ∀ x1 x2 m, w32 x1 = x1 → w32 x2 = x2 → xSB 1 B xs SL (d + 8) 45 (3, (some .int), [(20, 93, 96, 14)], 1) 1 22 [(0, xa 0), (1, xi x1), (2, xi x2)] [] m (r22 x1 x2 m)) : ∀ x1 x2 m, w32 x1 = x1 → w32 x2 = x2 → xSB 1 B xs SL (d + 8) 45 (3, (some .int), [(20, 93, 96, 14)], 1) 1 22 [(0, xa 0), (1, xi x1), (2, xi x2)] [] m (yl45_22 B r22 x1 x2 m) := by
  intro x1 x2 m c1 c2
  unfold yl45_22
  refine xSB_of (pc' := 25) (L' := [(0, xa 0), (1, xi x1), (2, xi x2)]) (st' := [xi 65536, xi x2]) (m' := m) (fun ex ns r q => ?_) ?_
  · refine xw_iload_n rfl rfl ?_
    refine xw_ldc (e := 65536) rfl (by decide +kernel) ?_
    exact q
  refine xSB_if (fun h0 => ?_) (fun h0 => ?_)
  · refine xSB_of (pc' := 36) (L' := [(0, xa 0), (1, xi x1), (2, xi x2)]) (st' := [xi (xR m 0 14), xa 293]) (m' := m) (fun ex ns r q => ?_) ?_
    · refine xw_ic_geF rfl (w32_cg c2) (w32_cg rfl) (Int.not_le.mpr h0) ?_
      refine xw_aload_n rfl rfl rfl ?_
      refine xw_gfR (n := 293) (e := 293) rfl (xw_obd (by decide +kernel)) (by decide +kernel) (by decide +kernel) rfl ?_
      refine xw_aload_n rfl rfl rfl ?_
      refine xw_gfIc (v := (m 0 14)) (v' := (xR m 0 14)) rfl (xw_obd (by decide +kernel)) xk0_14 (qi := 14) rfl rfl rfl ?_
      exact q
    refine xSB_if (fun h1 => ?_) (fun h1 => ?_)
    · refine xSB_of (pc' := 44) (L' := [(0, xa 0), (1, xi x1), (2, xi x2)]) (st' := [xi 1, xa 293]) (m' := m) (fun ex ns r q => ?_) ?_
      · refine xw_if_neF rfl (w32_cg (w32_xR _ _ _)) h1 ?_
        refine xw_iconst rfl ?_
        refine xw_goto rfl ?_
        refine xw_lo (L2 := [(0, xa 0), (1, xi x1), (2, xi x2)]) (List.forall_mem_cons.mpr ⟨rfl, List.forall_mem_cons.mpr ⟨rfl, List.forall_mem_cons.mpr ⟨rfl, fun _ h => absurd h List.not_mem_nil⟩⟩⟩) ?_
        exact q
      refine xSB_callX (q := 46) (n := 2) (kq := 4) (as := [xa 293, xi 1]) (st1 := []) rfl rfl rfl rfl rfl rfl rfl rfl rfl rfl (fun _ => xw_rcv1 (t := 5) (xw_obd (by decide +kernel)) rfl) (by decide) (List.forall_mem_cons.mpr ⟨rfl, List.forall_mem_cons.mpr ⟨rfl, fun _ h => absurd h List.not_mem_nil⟩⟩) (ygf46 hB _ _ rfl) (fun v1 m1 cv1 => ?_) ?_
      · refine xSB_if (fun h2 => ?_) (fun h2 => ?_)
        · refine xSB_of (pc' := 93) (L' := [(0, xa 0), (1, xi x1)]) (st' := []) (m' := m1) (fun ex ns r q => ?_) ?_
          · refine xw_if_eqT rfl (w32_cg (w32_of (xw_zr cv1))) h2 ?_
            refine xw_lo (L2 := [(0, xa 0), (1, xi x1)]) (List.forall_mem_cons.mpr ⟨rfl, List.forall_mem_cons.mpr ⟨rfl, fun _ h => absurd h List.not_mem_nil⟩⟩) ?_
            exact q
          exact ygk45_93 hB _ _ c1
        · refine xSB_of (pc' := 60) (L' := [(0, xa 0), (1, xi x1), (2, xi x2)]) (st' := [xi 203, xi (xR m1 1 3)]) (m' := m1) (fun ex ns r q => ?_) ?_
          · refine xw_if_eqF rfl (w32_cg (w32_of (xw_zr cv1))) h2 ?_
            refine xw_aload_n rfl rfl rfl ?_
            refine xw_gfR (n := 1) (e := 1) rfl (xw_obd (by decide +kernel)) (by decide +kernel) (by decide +kernel) rfl ?_
            refine xw_gfIc (v := (m1 1 3)) (v' := (xR m1 1 3)) rfl (xw_obd (by decide +kernel)) xk1_3 (qi := 3) rfl rfl rfl ?_
            refine xw_sipush (e := 203) rfl (by decide +kernel) ?_
            exact q
          refine xSB_if (fun h3 => ?_) (fun h3 => ?_)
          · refine xSB_of (pc' := 67) (L' := [(0, xa 0), (1, xi x1), (2, xi x2)]) (st' := [xa 293]) (m' := m1) (fun ex ns r q => ?_) ?_
            · refine xw_ic_neF rfl (w32_cg (w32_xR _ _ _)) (w32_cg rfl) h3 ?_
              refine xw_aload_n rfl rfl rfl ?_
              refine xw_gfR (n := 293) (e := 293) rfl (xw_obd (by decide +kernel)) (by decide +kernel) (by decide +kernel) rfl ?_
              refine xw_lo (L2 := [(0, xa 0), (1, xi x1), (2, xi x2)]) (List.forall_mem_cons.mpr ⟨rfl, List.forall_mem_cons.mpr ⟨rfl, List.forall_mem_cons.mpr ⟨rfl, fun _ h => absurd h List.not_mem_nil⟩⟩⟩) ?_
              exact q
            refine xSB_callX (q := 57) (n := 1) (kq := 0) (as := [xa 293]) (st1 := []) rfl rfl rfl rfl rfl rfl rfl rfl rfl rfl (fun _ => xw_rcv1 (t := 5) (xw_obd (by decide +kernel)) rfl) (by decide) (List.forall_mem_cons.mpr ⟨rfl, fun _ h => absurd h List.not_mem_nil⟩) (ygf57 hB _) (fun v2 m2 cv2 => ?_) ?_
            · refine xSB_of (pc' := 71) (L' := [(0, xa 0), (1, xi x1), (2, xi x2)]) (st' := [xa 0]) (m' := m2) (fun ex ns r q => ?_) ?_
              · refine xw_aload_n rfl rfl rfl ?_
                refine xw_lo (L2 := [(0, xa 0), (1, xi x1), (2, xi x2)]) (List.forall_mem_cons.mpr ⟨rfl, List.forall_mem_cons.mpr ⟨rfl, List.forall_mem_cons.mpr ⟨rfl, fun _ h => absurd h List.not_mem_nil⟩⟩⟩) ?_
                exact q
              refine xSB_callX (q := 93) (n := 1) (kq := 0) (as := [xa 0]) (st1 := []) rfl rfl rfl rfl rfl rfl rfl rfl rfl rfl (fun _ => xw_rcv1 (t := 0) (xw_obd (by decide +kernel)) rfl) (by decide) (List.forall_mem_cons.mpr ⟨rfl, fun _ h => absurd h List.not_mem_nil⟩) (ygf93 hB _) (fun v3 m3 cv3 => ?_) ?_
              · refine xSB_of (pc' := 22) (L' := [(0, xa 0), (1, xi (w32 (x1 + 1))), (2, xi (w32 (x2 + 1)))]) (st' := []) (m' := m3) (fun ex ns r q => ?_) ?_
                · refine xw_goto rfl ?_
                  refine xw_iincc (z := (w32 (x1 + 1))) (L' := [(1, xi (w32 (x1 + 1))), (0, xa 0), (2, xi x2)]) rfl rfl (by decide) rfl rfl ?_
                  refine xw_iincc (z := (w32 (x2 + 1))) (L' := [(2, xi (w32 (x2 + 1))), (1, xi (w32 (x1 + 1))), (0, xa 0)]) rfl rfl (by decide) rfl rfl ?_
                  refine xw_goto rfl ?_
                  refine xw_lo (L2 := [(0, xa 0), (1, xi (w32 (x1 + 1))), (2, xi (w32 (x2 + 1)))]) (List.forall_mem_cons.mpr ⟨rfl, List.forall_mem_cons.mpr ⟨rfl, List.forall_mem_cons.mpr ⟨rfl, fun _ h => absurd h List.not_mem_nil⟩⟩⟩) ?_
                  exact q
                exact hr22 _ _ _ (w32_w _) (w32_w _)
              · intro c m4 hne
                dsimp only at hne ⊢
                by_cases hx : c = 14
                · subst hx
                  refine ⟨96, rfl, fun ya => ?_⟩
                  rw [if_pos rfl]
                  refine xSB_of (pc' := 106) (L' := [(2, .ref ya), (0, xa 0), (1, xi x1)]) (st' := [xi x1]) (m' := (xw_u m4 1 1 0)) (fun ex ns r q => ?_) ?_
                  · refine xw_astore_n (L' := [(2, .ref ya), (0, xa 0), (1, xi x1)]) rfl rfl (by decide) rfl ?_
                    refine xw_aload_n rfl rfl rfl ?_
                    refine xw_gfR (n := 1) (e := 1) rfl (xw_obd (by decide +kernel)) (by decide +kernel) (by decide +kernel) rfl ?_
                    refine xw_iconst rfl ?_
                    refine xw_pfI rfl (xw_obd (by decide +kernel)) xk1_1 (qi := 1) rfl (xw_okI rfl) ?_
                    refine xw_iload_n rfl rfl ?_
                    exact q
                  exact xSB_ret (v := x1) rfl rfl xw_rtI c1
                · rw [if_neg hx] at hne ⊢
                  exact absurd rfl hne
            · intro c m5 hne
              dsimp only at hne ⊢
              by_cases hx : c = 14
              · subst hx
                refine ⟨96, rfl, fun ya => ?_⟩
                rw [if_pos rfl]
                refine xSB_of (pc' := 106) (L' := [(2, .ref ya), (0, xa 0), (1, xi x1)]) (st' := [xi x1]) (m' := (xw_u m5 1 1 0)) (fun ex ns r q => ?_) ?_
                · refine xw_astore_n (L' := [(2, .ref ya), (0, xa 0), (1, xi x1)]) rfl rfl (by decide) rfl ?_
                  refine xw_aload_n rfl rfl rfl ?_
                  refine xw_gfR (n := 1) (e := 1) rfl (xw_obd (by decide +kernel)) (by decide +kernel) (by decide +kernel) rfl ?_
                  refine xw_iconst rfl ?_
                  refine xw_pfI rfl (xw_obd (by decide +kernel)) xk1_1 (qi := 1) rfl (xw_okI rfl) ?_
                  refine xw_iload_n rfl rfl ?_
                  exact q
                exact xSB_ret (v := x1) rfl rfl xw_rtI c1
              · rw [if_neg hx] at hne ⊢
                exact absurd rfl hne
          · refine xSB_of (pc' := 81) (L' := [(0, xa 0), (1, xi x1), (2, xi x2)]) (st' := [xa 293]) (m' := m1) (fun ex ns r q => ?_) ?_
            · refine xw_ic_neT rfl (w32_cg (w32_xR _ _ _)) (w32_cg rfl) h3 ?_
              refine xw_aload_n rfl rfl rfl ?_
              refine xw_gfR (n := 293) (e := 293) rfl (xw_obd (by decide +kernel)) (by decide +kernel) (by decide +kernel) rfl ?_
              refine xw_lo (L2 := [(0, xa 0), (1, xi x1), (2, xi x2)]) (List.forall_mem_cons.mpr ⟨rfl, List.forall_mem_cons.mpr ⟨rfl, List.forall_mem_cons.mpr ⟨rfl, fun _ h => absurd h List.not_mem_nil⟩⟩⟩) ?_
              exact q
            refine xSB_callX (q := 133) (n := 1) (kq := 0) (as := [xa 293]) (st1 := []) rfl rfl rfl rfl rfl rfl rfl rfl rfl rfl (fun _ => xw_rcv1 (t := 5) (xw_obd (by decide +kernel)) rfl) (by decide) (List.forall_mem_cons.mpr ⟨rfl, fun _ h => absurd h List.not_mem_nil⟩) (ygf133 hB _) (fun v6 m6 cv6 => ?_) ?_
            · refine xSB_of (pc' := 22) (L' := [(0, xa 0), (1, xi (w32 (x1 + 1))), (2, xi (w32 (x2 + 1)))]) (st' := []) (m' := m6) (fun ex ns r q => ?_) ?_
              · refine xw_iincc (z := (w32 (x1 + 1))) (L' := [(1, xi (w32 (x1 + 1))), (0, xa 0), (2, xi x2)]) rfl rfl (by decide) rfl rfl ?_
                refine xw_iincc (z := (w32 (x2 + 1))) (L' := [(2, xi (w32 (x2 + 1))), (1, xi (w32 (x1 + 1))), (0, xa 0)]) rfl rfl (by decide) rfl rfl ?_
                refine xw_goto rfl ?_
                refine xw_lo (L2 := [(0, xa 0), (1, xi (w32 (x1 + 1))), (2, xi (w32 (x2 + 1)))]) (List.forall_mem_cons.mpr ⟨rfl, List.forall_mem_cons.mpr ⟨rfl, List.forall_mem_cons.mpr ⟨rfl, fun _ h => absurd h List.not_mem_nil⟩⟩⟩) ?_
                exact q
              exact hr22 _ _ _ (w32_w _) (w32_w _)
            · intro c m7 hne
              dsimp only at hne ⊢
              by_cases hx : c = 14
              · subst hx
                refine ⟨96, rfl, fun ya => ?_⟩
                rw [if_pos rfl]
                refine xSB_of (pc' := 106) (L' := [(2, .ref ya), (0, xa 0), (1, xi x1)]) (st' := [xi x1]) (m' := (xw_u m7 1 1 0)) (fun ex ns r q => ?_) ?_
                · refine xw_astore_n (L' := [(2, .ref ya), (0, xa 0), (1, xi x1)]) rfl rfl (by decide) rfl ?_
                  refine xw_aload_n rfl rfl rfl ?_
                  refine xw_gfR (n := 1) (e := 1) rfl (xw_obd (by decide +kernel)) (by decide +kernel) (by decide +kernel) rfl ?_
                  refine xw_iconst rfl ?_
                  refine xw_pfI rfl (xw_obd (by decide +kernel)) xk1_1 (qi := 1) rfl (xw_okI rfl) ?_
                  refine xw_iload_n rfl rfl ?_
                  exact q
                exact xSB_ret (v := x1) rfl rfl xw_rtI c1
              · rw [if_neg hx] at hne ⊢
                exact absurd rfl hne
      · intro c m8 hne
        dsimp only at hne ⊢
        by_cases hx : c = 14
        · subst hx
          refine ⟨96, rfl, fun ya => ?_⟩
          rw [if_pos rfl]
          refine xSB_of (pc' := 106) (L' := [(2, .ref ya), (0, xa 0), (1, xi x1)]) (st' := [xi x1]) (m' := (xw_u m8 1 1 0)) (fun ex ns r q => ?_) ?_
          · refine xw_astore_n (L' := [(2, .ref ya), (0, xa 0), (1, xi x1)]) rfl rfl (by decide) rfl ?_
            refine xw_aload_n rfl rfl rfl ?_
            refine xw_gfR (n := 1) (e := 1) rfl (xw_obd (by decide +kernel)) (by decide +kernel) (by decide +kernel) rfl ?_
            refine xw_iconst rfl ?_
            refine xw_pfI rfl (xw_obd (by decide +kernel)) xk1_1 (qi := 1) rfl (xw_okI rfl) ?_
            refine xw_iload_n rfl rfl ?_
            exact q
          exact xSB_ret (v := x1) rfl rfl xw_rtI c1
        · rw [if_neg hx] at hne ⊢
          exact absurd rfl hne
    · refine xSB_of (pc' := 44) (L' := [(0, xa 0), (1, xi x1), (2, xi x2)]) (st' := [xi 0, xa 293]) (m' := m) (fun ex ns r q => ?_) ?_
      · refine xw_if_neT rfl (w32_cg (w32_xR _ _ _)) h1 ?_
        refine xw_iconst rfl ?_
        refine xw_lo (L2 := [(0, xa 0), (1, xi x1), (2, xi x2)]) (List.forall_mem_cons.mpr ⟨rfl, List.forall_mem_cons.mpr ⟨rfl, List.forall_mem_cons.mpr ⟨rfl, fun _ h => absurd h List.not_mem_nil⟩⟩⟩) ?_
        exact q
      refine xSB_callX (q := 46) (n := 2) (kq := 4) (as := [xa 293, xi 0]) (st1 := []) rfl rfl rfl rfl rfl rfl rfl rfl rfl rfl (fun _ => xw_rcv1 (t := 5) (xw_obd (by decide +kernel)) rfl) (by decide) (List.forall_mem_cons.mpr ⟨rfl, List.forall_mem_cons.mpr ⟨rfl, fun _ h => absurd h List.not_mem_nil⟩⟩) (ygf46 hB _ _ rfl) (fun v9 m9 cv9 => ?_) ?_
      · refine xSB_if (fun h2 => ?_) (fun h2 => ?_)
        · refine xSB_of (pc' := 93) (L' := [(0, xa 0), (1, xi x1)]) (st' := []) (m' := m9) (fun ex ns r q => ?_) ?_
          · refine xw_if_eqT rfl (w32_cg (w32_of (xw_zr cv9))) h2 ?_
            refine xw_lo (L2 := [(0, xa 0), (1, xi x1)]) (List.forall_mem_cons.mpr ⟨rfl, List.forall_mem_cons.mpr ⟨rfl, fun _ h => absurd h List.not_mem_nil⟩⟩) ?_
            exact q
          exact ygk45_93 hB _ _ c1
        · refine xSB_of (pc' := 60) (L' := [(0, xa 0), (1, xi x1), (2, xi x2)]) (st' := [xi 203, xi (xR m9 1 3)]) (m' := m9) (fun ex ns r q => ?_) ?_
          · refine xw_if_eqF rfl (w32_cg (w32_of (xw_zr cv9))) h2 ?_
            refine xw_aload_n rfl rfl rfl ?_
            refine xw_gfR (n := 1) (e := 1) rfl (xw_obd (by decide +kernel)) (by decide +kernel) (by decide +kernel) rfl ?_
            refine xw_gfIc (v := (m9 1 3)) (v' := (xR m9 1 3)) rfl (xw_obd (by decide +kernel)) xk1_3 (qi := 3) rfl rfl rfl ?_
            refine xw_sipush (e := 203) rfl (by decide +kernel) ?_
            exact q
          refine xSB_if (fun h3 => ?_) (fun h3 => ?_)
          · refine xSB_of (pc' := 67) (L' := [(0, xa 0), (1, xi x1), (2, xi x2)]) (st' := [xa 293]) (m' := m9) (fun ex ns r q => ?_) ?_
            · refine xw_ic_neF rfl (w32_cg (w32_xR _ _ _)) (w32_cg rfl) h3 ?_
              refine xw_aload_n rfl rfl rfl ?_
              refine xw_gfR (n := 293) (e := 293) rfl (xw_obd (by decide +kernel)) (by decide +kernel) (by decide +kernel) rfl ?_
              refine xw_lo (L2 := [(0, xa 0), (1, xi x1), (2, xi x2)]) (List.forall_mem_cons.mpr ⟨rfl, List.forall_mem_cons.mpr ⟨rfl, List.forall_mem_cons.mpr ⟨rfl, fun _ h => absurd h List.not_mem_nil⟩⟩⟩) ?_
              exact q
            refine xSB_callX (q := 57) (n := 1) (kq := 0) (as := [xa 293]) (st1 := []) rfl rfl rfl rfl rfl rfl rfl rfl rfl rfl (fun _ => xw_rcv1 (t := 5) (xw_obd (by decide +kernel)) rfl) (by decide) (List.forall_mem_cons.mpr ⟨rfl, fun _ h => absurd h List.not_mem_nil⟩) (ygf57 hB _) (fun v10 m10 cv10 => ?_) ?_
            · refine xSB_of (pc' := 71) (L' := [(0, xa 0), (1, xi x1), (2, xi x2)]) (st' := [xa 0]) (m' := m10) (fun ex ns r q => ?_) ?_
              · refine xw_aload_n rfl rfl rfl ?_
                refine xw_lo (L2 := [(0, xa 0), (1, xi x1), (2, xi x2)]) (List.forall_mem_cons.mpr ⟨rfl, List.forall_mem_cons.mpr ⟨rfl, List.forall_mem_cons.mpr ⟨rfl, fun _ h => absurd h List.not_mem_nil⟩⟩⟩) ?_
                exact q
              refine xSB_callX (q := 93) (n := 1) (kq := 0) (as := [xa 0]) (st1 := []) rfl rfl rfl rfl rfl rfl rfl rfl rfl rfl (fun _ => xw_rcv1 (t := 0) (xw_obd (by decide +kernel)) rfl) (by decide) (List.forall_mem_cons.mpr ⟨rfl, fun _ h => absurd h List.not_mem_nil⟩) (ygf93 hB _) (fun v11 m11 cv11 => ?_) ?_
              · refine xSB_of (pc' := 22) (L' := [(0, xa 0), (1, xi (w32 (x1 + 1))), (2, xi (w32 (x2 + 1)))]) (st' := []) (m' := m11) (fun ex ns r q => ?_) ?_
                · refine xw_goto rfl ?_
                  refine xw_iincc (z := (w32 (x1 + 1))) (L' := [(1, xi (w32 (x1 + 1))), (0, xa 0), (2, xi x2)]) rfl rfl (by decide) rfl rfl ?_
                  refine xw_iincc (z := (w32 (x2 + 1))) (L' := [(2, xi (w32 (x2 + 1))), (1, xi (w32 (x1 + 1))), (0, xa 0)]) rfl rfl (by decide) rfl rfl ?_
                  refine xw_goto rfl ?_
                  refine xw_lo (L2 := [(0, xa 0), (1, xi (w32 (x1 + 1))), (2, xi (w32 (x2 + 1)))]) (List.forall_mem_cons.mpr ⟨rfl, List.forall_mem_cons.mpr ⟨rfl, List.forall_mem_cons.mpr ⟨rfl, fun _ h => absurd h List.not_mem_nil⟩⟩⟩) ?_
                  exact q
                exact hr22 _ _ _ (w32_w _) (w32_w _)
              · intro c m12 hne
                dsimp only at hne ⊢
                by_cases hx : c = 14
                · subst hx
                  refine ⟨96, rfl, fun ya => ?_⟩
                  rw [if_pos rfl]
                  refine xSB_of (pc' := 106) (L' := [(2, .ref ya), (0, xa 0), (1, xi x1)]) (st' := [xi x1]) (m' := (xw_u m12 1 1 0)) (fun ex ns r q => ?_) ?_
                  · refine xw_astore_n (L' := [(2, .ref ya), (0, xa 0), (1, xi x1)]) rfl rfl (by decide) rfl ?_
                    refine xw_aload_n rfl rfl rfl ?_
                    refine xw_gfR (n := 1) (e := 1) rfl (xw_obd (by decide +kernel)) (by decide +kernel) (by decide +kernel) rfl ?_
                    refine xw_iconst rfl ?_
                    refine xw_pfI rfl (xw_obd (by decide +kernel)) xk1_1 (qi := 1) rfl (xw_okI rfl) ?_
                    refine xw_iload_n rfl rfl ?_
                    exact q
                  exact xSB_ret (v := x1) rfl rfl xw_rtI c1
                · rw [if_neg hx] at hne ⊢
                  exact absurd rfl hne
            · intro c m13 hne
              dsimp only at hne ⊢
              by_cases hx : c = 14
              · subst hx
                refine ⟨96, rfl, fun ya => ?_⟩
                rw [if_pos rfl]
                refine xSB_of (pc' := 106) (L' := [(2, .ref ya), (0, xa 0), (1, xi x1)]) (st' := [xi x1]) (m' := (xw_u m13 1 1 0)) (fun ex ns r q => ?_) ?_
                · refine xw_astore_n (L' := [(2, .ref ya), (0, xa 0), (1, xi x1)]) rfl rfl (by decide) rfl ?_
                  refine xw_aload_n rfl rfl rfl ?_
                  refine xw_gfR (n := 1) (e := 1) rfl (xw_obd (by decide +kernel)) (by decide +kernel) (by decide +kernel) rfl ?_
                  refine xw_iconst rfl ?_
                  refine xw_pfI rfl (xw_obd (by decide +kernel)) xk1_1 (qi := 1) rfl (xw_okI rfl) ?_
                  refine xw_iload_n rfl rfl ?_
                  exact q
                exact xSB_ret (v := x1) rfl rfl xw_rtI c1
              · rw [if_neg hx] at hne ⊢
                exact absurd rfl hne
          · refine xSB_of (pc' := 81) (L' := [(0, xa 0), (1, xi x1), (2, xi x2)]) (st' := [xa 293]) (m' := m9) (fun ex ns r q => ?_) ?_
            · refine xw_ic_neT rfl (w32_cg (w32_xR _ _ _)) (w32_cg rfl) h3 ?_
              refine xw_aload_n rfl rfl rfl ?_
              refine xw_gfR (n := 293) (e := 293) rfl (xw_obd (by decide +kernel)) (by decide +kernel) (by decide +kernel) rfl ?_
              refine xw_lo (L2 := [(0, xa 0), (1, xi x1), (2, xi x2)]) (List.forall_mem_cons.mpr ⟨rfl, List.forall_mem_cons.mpr ⟨rfl, List.forall_mem_cons.mpr ⟨rfl, fun _ h => absurd h List.not_mem_nil⟩⟩⟩) ?_
              exact q
            refine xSB_callX (q := 133) (n := 1) (kq := 0) (as := [xa 293]) (st1 := []) rfl rfl rfl rfl rfl rfl rfl rfl rfl rfl (fun _ => xw_rcv1 (t := 5) (xw_obd (by decide +kernel)) rfl) (by decide) (List.forall_mem_cons.mpr ⟨rfl, fun _ h => absurd h List.not_mem_nil⟩) (ygf133 hB _) (fun v14 m14 cv14 => ?_) ?_
            · refine xSB_of (pc' := 22) (L' := [(0, xa 0), (1, xi (w32 (x1 + 1))), (2, xi (w32 (x2 + 1)))]) (st' := []) (m' := m14) (fun ex ns r q => ?_) ?_
              · refine xw_iincc (z := (w32 (x1 + 1))) (L' := [(1, xi (w32 (x1 + 1))), (0, xa 0), (2, xi x2)]) rfl rfl (by decide) rfl rfl ?_
                refine xw_iincc (z := (w32 (x2 + 1))) (L' := [(2, xi (w32 (x2 + 1))), (1, xi (w32 (x1 + 1))), (0, xa 0)]) rfl rfl (by decide) rfl rfl ?_
                refine xw_goto rfl ?_
                refine xw_lo (L2 := [(0, xa 0), (1, xi (w32 (x1 + 1))), (2, xi (w32 (x2 + 1)))]) (List.forall_mem_cons.mpr ⟨rfl, List.forall_mem_cons.mpr ⟨rfl, List.forall_mem_cons.mpr ⟨rfl, fun _ h => absurd h List.not_mem_nil⟩⟩⟩) ?_
                exact q
              exact hr22 _ _ _ (w32_w _) (w32_w _)
            · intro c m15 hne
              dsimp only at hne ⊢
              by_cases hx : c = 14
              · subst hx
                refine ⟨96, rfl, fun ya => ?_⟩
                rw [if_pos rfl]
                refine xSB_of (pc' := 106) (L' := [(2, .ref ya), (0, xa 0), (1, xi x1)]) (st' := [xi x1]) (m' := (xw_u m15 1 1 0)) (fun ex ns r q => ?_) ?_
                · refine xw_astore_n (L' := [(2, .ref ya), (0, xa 0), (1, xi x1)]) rfl rfl (by decide) rfl ?_
                  refine xw_aload_n rfl rfl rfl ?_
                  refine xw_gfR (n := 1) (e := 1) rfl (xw_obd (by decide +kernel)) (by decide +kernel) (by decide +kernel) rfl ?_
                  refine xw_iconst rfl ?_
                  refine xw_pfI rfl (xw_obd (by decide +kernel)) xk1_1 (qi := 1) rfl (xw_okI rfl) ?_
                  refine xw_iload_n rfl rfl ?_
                  exact q
                exact xSB_ret (v := x1) rfl rfl xw_rtI c1
              · rw [if_neg hx] at hne ⊢
                exact absurd rfl hne
      · intro c m16 hne
        dsimp only at hne ⊢
        by_cases hx : c = 14
        · subst hx
          refine ⟨96, rfl, fun ya => ?_⟩
          rw [if_pos rfl]
          refine xSB_of (pc' := 106) (L' := [(2, .ref ya), (0, xa 0), (1, xi x1)]) (st' := [xi x1]) (m' := (xw_u m16 1 1 0)) (fun ex ns r q => ?_) ?_
          · refine xw_astore_n (L' := [(2, .ref ya), (0, xa 0), (1, xi x1)]) rfl rfl (by decide) rfl ?_
            refine xw_aload_n rfl rfl rfl ?_
            refine xw_gfR (n := 1) (e := 1) rfl (xw_obd (by decide +kernel)) (by decide +kernel) (by decide +kernel) rfl ?_
            refine xw_iconst rfl ?_
            refine xw_pfI rfl (xw_obd (by decide +kernel)) xk1_1 (qi := 1) rfl (xw_okI rfl) ?_
            refine xw_iload_n rfl rfl ?_
            exact q
          exact xSB_ret (v := x1) rfl rfl xw_rtI c1
        · rw [if_neg hx] at hne ⊢
          exact absurd rfl hne
  · refine xSB_of (pc' := 93) (L' := [(0, xa 0), (1, xi x1)]) (st' := []) (m' := m) (fun ex ns r q => ?_) ?_
    · refine xw_ic_geT rfl (w32_cg c2) (w32_cg rfl) (Int.not_lt.mp h0) ?_
      refine xw_lo (L2 := [(0, xa 0), (1, xi x1)]) (List.forall_mem_cons.mpr ⟨rfl, List.forall_mem_cons.mpr ⟨rfl, fun _ h => absurd h List.not_mem_nil⟩⟩) ?_
      exact q
    exact ygk45_93 hB _ _ c1
theorem ygl45_22 {B : Nat} (hB : B ≤ 512) {xs : Nat → Int32} {SL d : Nat} : ∀ n x1 x2 m, w32 x1 = x1 → w32 x2 = x2 → xSB 1 B xs SL (d + 8) 45 (3, (some .int), [(20, 93, 96, 14)], 1) 1 22 [(0, xa 0), (1, xi x1), (2, xi x2)] [] m (xl2 (yl45_22 B) n x1 x2 m) := by
  intro n
  induction n with
  | zero => intro x1 x2 m c1 c2; exact xSB_none
  | succ n ih => exact ysl45_22 hB ih
theorem ygf45 {B : Nat} (hB : B ≤ 512) {xs : Nat → Int32} {SL d : Nat} : ∀ m, xSB 1 B xs SL (d + 8) 45 (3, (some .int), [(20, 93, 96, 14)], 1) 1 0 [(0, xa 0)] [] m (yf45 B m) := by
  intro m
  unfold yf45
  refine xSB_of (pc' := 1) (L' := [(0, xa 0)]) (st' := [xa 0]) (m' := m) (fun ex ns r q => ?_) ?_
  · refine xw_aload_n rfl rfl rfl ?_
    refine xw_lo (L2 := [(0, xa 0)]) (List.forall_mem_cons.mpr ⟨rfl, fun _ h => absurd h List.not_mem_nil⟩) ?_
    exact q
  refine xSB_callN (q := 38) (n := 1) (kq := 0) (as := [xa 0]) (st1 := []) rfl rfl rfl rfl rfl rfl rfl rfl rfl rfl (fun _ => xw_rcv1 (t := 0) (xw_obd (by decide +kernel)) rfl) (fun _ => rfl) rfl (List.forall_mem_cons.mpr ⟨rfl, fun _ h => absurd h List.not_mem_nil⟩) (ygf38 hB _) (fun v1 m1 cv1 => ?_)
  refine xSB_g (fun g0 => ?_)
  refine xSB_of (pc' := 8) (L' := [(0, xa 0)]) (st' := [xa (m1 0 12)]) (m' := m1) (fun ex ns r q => ?_) ?_
  · refine xw_aload_n rfl rfl rfl ?_
    refine xw_gfM (v := (m1 0 12)) rfl (xw_obd (by decide +kernel)) xk0_12 (qi := 12) rfl rfl ?_
    refine xw_lo (L2 := [(0, xa 0)]) (List.forall_mem_cons.mpr ⟨rfl, fun _ h => absurd h List.not_mem_nil⟩) ?_
    exact q
  refine xSB_callN (q := 16) (n := 1) (kq := 0) (as := [xa (m1 0 12)]) (st1 := []) rfl rfl rfl rfl rfl rfl rfl rfl rfl rfl (fun _ => xw_rcv1 (t := 9) (xw_obd g0) rfl) (fun _ => rfl) rfl (List.forall_mem_cons.mpr ⟨rfl, fun _ h => absurd h List.not_mem_nil⟩) (ygf16 hB _ _) (fun v2 m2 cv2 => ?_)
  refine xSB_of (pc' := 15) (L' := [(0, xa 0)]) (st' := [xa 1]) (m' := m2) (fun ex ns r q => ?_) ?_
  · refine xw_aload_n rfl rfl rfl ?_
    refine xw_gfR (n := 1) (e := 1) rfl (xw_obd (by decide +kernel)) (by decide +kernel) (by decide +kernel) rfl ?_
    refine xw_lo (L2 := [(0, xa 0)]) (List.forall_mem_cons.mpr ⟨rfl, fun _ h => absurd h List.not_mem_nil⟩) ?_
    exact q
  refine xSB_callN (q := 14) (n := 1) (kq := 0) (as := [xa 1]) (st1 := []) rfl rfl rfl rfl rfl rfl rfl rfl rfl rfl (fun _ => xw_rcv1 (t := 1) (xw_obd (by decide +kernel)) rfl) (fun _ => rfl) rfl (List.forall_mem_cons.mpr ⟨rfl, fun _ h => absurd h List.not_mem_nil⟩) (ygf14 hB _) (fun v3 m3 cv3 => ?_)
  refine xSB_of (pc' := 22) (L' := [(0, xa 0), (1, xi 0), (2, xi 0)]) (st' := []) (m' := m3) (fun ex ns r q => ?_) ?_
  · refine xw_iconst rfl ?_
    refine xw_istore_n (L' := [(1, xi 0), (0, xa 0)]) rfl (by decide) rfl ?_
    refine xw_iconst rfl ?_
    refine xw_istore_n (L' := [(2, xi 0), (1, xi 0), (0, xa 0)]) rfl (by decide) rfl ?_
    refine xw_lo (L2 := [(0, xa 0), (1, xi 0), (2, xi 0)]) (List.forall_mem_cons.mpr ⟨rfl, List.forall_mem_cons.mpr ⟨rfl, List.forall_mem_cons.mpr ⟨rfl, fun _ h => absurd h List.not_mem_nil⟩⟩⟩) ?_
    exact q
  exact ygl45_22 hB 1000000 _ _ _ rfl rfl
theorem ygf36 {B : Nat} (hB : B ≤ 512) {xs : Nat → Int32} {SL d : Nat} : ∀ p1 p2 p3 p4 p5 p6 m, w32 p1 = p1 → w32 p2 = p2 → w32 p3 = p3 → w32 p4 = p4 → w32 p5 = p5 → xSB 1 B xs SL (d + 3) 36 (8, (some .int), [(0, 16, 19, 14)], 0) 1 0 [(0, xa 0), (1, xi p1), (2, xi p2), (3, xi p3), (4, xi p4), (5, xi p5), (6, xa p6)] [] m (yf36 B p1 p2 p3 p4 p5 p6 m) := by
  intro p1 p2 p3 p4 p5 p6 m cp1 cp2 cp3 cp4 cp5
  unfold yf36
  refine xSB_of (pc' := 11) (L' := []) (st' := [xi p5, xi p4, xi p3, xi p2, xi p1, xa 0, xi 0, xa p6]) (m' := m) (fun ex ns r q => ?_) ?_
  · refine xw_aload rfl rfl rfl ?_
    refine xw_iconst rfl ?_
    refine xw_aload_n rfl rfl rfl ?_
    refine xw_iload_n rfl rfl ?_
    refine xw_iload_n rfl rfl ?_
    refine xw_iload_n rfl rfl ?_
    refine xw_iload rfl rfl ?_
    refine xw_iload rfl rfl ?_
    refine xw_lo (L2 := []) (fun _ h => absurd h List.not_mem_nil) ?_
    exact q
  refine xSB_callX (q := 37) (n := 6) (kq := 1) (as := [xa 0, xi p1, xi p2, xi p3, xi p4, xi p5]) (st1 := [xi 0, xa p6]) rfl rfl rfl rfl rfl rfl rfl rfl rfl rfl (fun _ => xw_rcv1 (t := 0) (xw_obd (by decide +kernel)) rfl) (by decide) (List.forall_mem_cons.mpr ⟨rfl, List.forall_mem_cons.mpr ⟨rfl, List.forall_mem_cons.mpr ⟨rfl, List.forall_mem_cons.mpr ⟨rfl, List.forall_mem_cons.mpr ⟨rfl, List.forall_mem_cons.mpr ⟨rfl, fun _ h => absurd h List.not_mem_nil⟩⟩⟩⟩⟩⟩) (ygf37 hB _ _ _ _ _ _ cp1 cp2 cp3 cp4 cp5) (fun v1 m1 cv1 => ?_) ?_
  · refine xSB_g (fun g0 => ?_)
    refine xSB_g (fun g1 => ?_)
    refine xSB_of (pc' := 24) (L' := []) (st' := [xi 0]) (m' := (xw_u m1 p6 0 v1)) (fun ex ns r q => ?_) ?_
    · refine xw_i2l rfl (w32_cg cv1) ?_
      refine xw_last (n := (xw_le B p6)) rfl hB (xw_obd g1) rfl g0 ?_
      refine xw_goto rfl ?_
      refine xw_iconst rfl ?_
      exact q
    exact xSB_ret (v := 0) rfl rfl xw_rtI rfl
  · intro c m2 hne
    dsimp only at hne ⊢
    by_cases hx : c = 14
    · subst hx
      refine ⟨19, rfl, fun ya => ?_⟩
      rw [if_pos rfl]
      refine xSB_of (pc' := 22) (L' := [(7, .ref ya)]) (st' := [xi 1]) (m' := m2) (fun ex ns r q => ?_) ?_
      · refine xw_astore (L' := [(7, .ref ya)]) rfl rfl (by decide) rfl ?_
        refine xw_iconst rfl ?_
        exact q
      exact xSB_ret (v := 1) rfl rfl xw_rtI rfl
    · rw [if_neg hx] at hne ⊢
      exact absurd rfl hne
theorem ygf41 {B : Nat} (hB : B ≤ 512) {xs : Nat → Int32} {SL d : Nat} : ∀ p1 p2 m, w32 p1 = p1 → xSB 1 B xs SL (d + 3) 41 (4, (some .int), [(0, 9, 12, 15), (0, 9, 15, 14)], 0) 1 0 [(0, xa 0), (1, xi p1), (2, xa p2)] [] m (yf41 B p1 p2 m) := by
  intro p1 p2 m cp1
  unfold yf41
  refine xSB_of (pc' := 4) (L' := []) (st' := [xi p1, xa 0, xi 0, xa p2]) (m' := m) (fun ex ns r q => ?_) ?_
  · refine xw_aload_n rfl rfl rfl ?_
    refine xw_iconst rfl ?_
    refine xw_aload_n rfl rfl rfl ?_
    refine xw_iload_n rfl rfl ?_
    refine xw_lo (L2 := []) (fun _ h => absurd h List.not_mem_nil) ?_
    exact q
  refine xSB_callX (q := 42) (n := 2) (kq := 1) (as := [xa 0, xi p1]) (st1 := [xi 0, xa p2]) rfl rfl rfl rfl rfl rfl rfl rfl rfl rfl (fun _ => xw_rcv1 (t := 0) (xw_obd (by decide +kernel)) rfl) (by decide) (List.forall_mem_cons.mpr ⟨rfl, List.forall_mem_cons.mpr ⟨rfl, fun _ h => absurd h List.not_mem_nil⟩⟩) (ygf42 hB _ _ cp1) (fun v1 m1 cv1 => ?_) ?_
  · refine xSB_g (fun g0 => ?_)
    refine xSB_g (fun g1 => ?_)
    refine xSB_of (pc' := 19) (L' := []) (st' := [xi 0]) (m' := (xw_u m1 p2 0 v1)) (fun ex ns r q => ?_) ?_
    · refine xw_i2l rfl (w32_cg cv1) ?_
      refine xw_last (n := (xw_le B p2)) rfl hB (xw_obd g1) rfl g0 ?_
      refine xw_goto rfl ?_
      refine xw_iconst rfl ?_
      exact q
    exact xSB_ret (v := 0) rfl rfl xw_rtI rfl
  · intro c m2 hne
    dsimp only at hne ⊢
    by_cases hx : c = 15
    · subst hx
      refine ⟨12, rfl, fun ya => ?_⟩
      rw [if_pos rfl]
      refine xSB_of (pc' := 14) (L' := [(3, .ref ya)]) (st' := [xi 1]) (m' := m2) (fun ex ns r q => ?_) ?_
      · refine xw_astore_n (L' := [(3, .ref ya)]) rfl rfl (by decide) rfl ?_
        refine xw_iconst rfl ?_
        exact q
      exact xSB_ret (v := 1) rfl rfl xw_rtI rfl
    · rw [if_neg hx] at hne ⊢
      by_cases hx : c = 14
      · subst hx
        refine ⟨15, rfl, fun ya => ?_⟩
        rw [if_pos rfl]
        refine xSB_of (pc' := 17) (L' := [(3, .ref ya)]) (st' := [xi 2]) (m' := m2) (fun ex ns r q => ?_) ?_
        · refine xw_astore_n (L' := [(3, .ref ya)]) rfl rfl (by decide) rfl ?_
          refine xw_iconst rfl ?_
          exact q
        exact xSB_ret (v := 2) rfl rfl xw_rtI rfl
      · rw [if_neg hx] at hne ⊢
        exact absurd rfl hne
theorem ygf44 {B : Nat} (hB : B ≤ 512) {xs : Nat → Int32} {SL d : Nat} : ∀ p1 m, xSB 1 B xs SL (d + 9) 44 (3, (some .int), [(0, 8, 11, 14)], 0) 1 0 [(0, xa 0), (1, xa p1)] [] m (yf44 B p1 m) := by
  intro p1 m
  unfold yf44
  refine xSB_of (pc' := 3) (L' := []) (st' := [xa 0, xi 0, xa p1]) (m' := m) (fun ex ns r q => ?_) ?_
  · refine xw_aload_n rfl rfl rfl ?_
    refine xw_iconst rfl ?_
    refine xw_aload_n rfl rfl rfl ?_
    refine xw_lo (L2 := []) (fun _ h => absurd h List.not_mem_nil) ?_
    exact q
  refine xSB_callY (q := 45) (n := 1) (kq := 1) (as := [xa 0]) (st1 := [xi 0, xa p1]) rfl rfl rfl rfl rfl rfl rfl rfl rfl rfl (fun _ => xw_rcv1 (t := 0) (xw_obd (by decide +kernel)) rfl) (List.forall_mem_cons.mpr ⟨rfl, fun _ h => absurd h List.not_mem_nil⟩) (ygf45 hB _) (fun v1 m1 cv1 => ?_) ?_
  · refine xSB_g (fun g0 => ?_)
    refine xSB_g (fun g1 => ?_)
    refine xSB_of (pc' := 15) (L' := []) (st' := [xi 0]) (m' := (xw_u m1 p1 0 v1)) (fun ex ns r q => ?_) ?_
    · refine xw_i2l rfl (w32_cg cv1) ?_
      refine xw_last (n := (xw_le B p1)) rfl hB (xw_obd g1) rfl g0 ?_
      refine xw_goto rfl ?_
      refine xw_iconst rfl ?_
      exact q
    exact xSB_ret (v := 0) rfl rfl xw_rtI rfl
  · intro c m2 hne
    dsimp only at hne ⊢
    by_cases hx : c = 14
    · subst hx
      refine ⟨by decide, 11, rfl, fun ya => ?_⟩
      rw [if_pos rfl]
      refine xSB_of (pc' := 13) (L' := [(2, .ref ya)]) (st' := [xi 1]) (m' := m2) (fun ex ns r q => ?_) ?_
      · refine xw_astore_n (L' := [(2, .ref ya)]) rfl rfl (by decide) rfl ?_
        refine xw_iconst rfl ?_
        exact q
      exact xSB_ret (v := 1) rfl rfl xw_rtI rfl
    · rw [if_neg hx] at hne ⊢
      exact absurd rfl hne
theorem ygf144 {B : Nat} (hB : B ≤ 512) {xs : Nat → Int32} {SL d : Nat} : ∀ p1 p2 m, w32 p1 = p1 → xSB 1 B xs SL (d + 3) 144 (4, (some .int), [(0, 9, 12, 15), (0, 9, 15, 14)], 0) 1 0 [(0, xa 0), (1, xi p1), (2, xa p2)] [] m (yf144 B p1 p2 m) := by
  intro p1 p2 m cp1
  unfold yf144
  refine xSB_of (pc' := 4) (L' := []) (st' := [xi p1, xa 0, xi 0, xa p2]) (m' := m) (fun ex ns r q => ?_) ?_
  · refine xw_aload_n rfl rfl rfl ?_
    refine xw_iconst rfl ?_
    refine xw_aload_n rfl rfl rfl ?_
    refine xw_iload_n rfl rfl ?_
    refine xw_lo (L2 := []) (fun _ h => absurd h List.not_mem_nil) ?_
    exact q
  refine xSB_callX (q := 145) (n := 2) (kq := 1) (as := [xa 0, xi p1]) (st1 := [xi 0, xa p2]) rfl rfl rfl rfl rfl rfl rfl rfl rfl rfl (fun _ => xw_rcv1 (t := 0) (xw_obd (by decide +kernel)) rfl) (by decide) (List.forall_mem_cons.mpr ⟨rfl, List.forall_mem_cons.mpr ⟨rfl, fun _ h => absurd h List.not_mem_nil⟩⟩) (ygf145 hB _ _ cp1) (fun v1 m1 cv1 => ?_) ?_
  · refine xSB_g (fun g0 => ?_)
    refine xSB_g (fun g1 => ?_)
    refine xSB_of (pc' := 19) (L' := []) (st' := [xi 0]) (m' := (xw_u m1 p2 0 v1)) (fun ex ns r q => ?_) ?_
    · refine xw_i2l rfl (w32_cg cv1) ?_
      refine xw_last (n := (xw_le B p2)) rfl hB (xw_obd g1) rfl g0 ?_
      refine xw_goto rfl ?_
      refine xw_iconst rfl ?_
      exact q
    exact xSB_ret (v := 0) rfl rfl xw_rtI rfl
  · intro c m2 hne
    dsimp only at hne ⊢
    by_cases hx : c = 15
    · subst hx
      refine ⟨12, rfl, fun ya => ?_⟩
      rw [if_pos rfl]
      refine xSB_of (pc' := 14) (L' := [(3, .ref ya)]) (st' := [xi 1]) (m' := m2) (fun ex ns r q => ?_) ?_
      · refine xw_astore_n (L' := [(3, .ref ya)]) rfl rfl (by decide) rfl ?_
        refine xw_iconst rfl ?_
        exact q
      exact xSB_ret (v := 1) rfl rfl xw_rtI rfl
    · rw [if_neg hx] at hne ⊢
      by_cases hx : c = 14
      · subst hx
        refine ⟨15, rfl, fun ya => ?_⟩
        rw [if_pos rfl]
        refine xSB_of (pc' := 17) (L' := [(3, .ref ya)]) (st' := [xi 2]) (m' := m2) (fun ex ns r q => ?_) ?_
        · refine xw_astore_n (L' := [(3, .ref ya)]) rfl rfl (by decide) rfl ?_
          refine xw_iconst rfl ?_
          exact q
        exact xSB_ret (v := 2) rfl rfl xw_rtI rfl
      · rw [if_neg hx] at hne ⊢
        exact absurd rfl hne
theorem ygf146 {B : Nat} (hB : B ≤ 512) {xs : Nat → Int32} {SL d : Nat} : ∀ p1 m, xSB 1 B xs SL (d + 6) 146 (3, (some .int), [(0, 8, 11, 14)], 0) 1 0 [(0, xa 0), (1, xa p1)] [] m (yf146 B p1 m) := by
  intro p1 m
  unfold yf146
  refine xSB_of (pc' := 3) (L' := []) (st' := [xa 0, xi 0, xa p1]) (m' := m) (fun ex ns r q => ?_) ?_
  · refine xw_aload_n rfl rfl rfl ?_
    refine xw_iconst rfl ?_
    refine xw_aload_n rfl rfl rfl ?_
    refine xw_lo (L2 := []) (fun _ h => absurd h List.not_mem_nil) ?_
    exact q
  refine xSB_callX (q := 147) (n := 1) (kq := 1) (as := [xa 0]) (st1 := [xi 0, xa p1]) rfl rfl rfl rfl rfl rfl rfl rfl rfl rfl (fun _ => xw_rcv1 (t := 0) (xw_obd (by decide +kernel)) rfl) (by decide) (List.forall_mem_cons.mpr ⟨rfl, fun _ h => absurd h List.not_mem_nil⟩) (ygf147 hB _) (fun v1 m1 cv1 => ?_) ?_
  · refine xSB_g (fun g0 => ?_)
    refine xSB_g (fun g1 => ?_)
    refine xSB_of (pc' := 15) (L' := []) (st' := [xi 0]) (m' := (xw_u m1 p1 0 v1)) (fun ex ns r q => ?_) ?_
    · refine xw_i2l rfl (w32_cg cv1) ?_
      refine xw_last (n := (xw_le B p1)) rfl hB (xw_obd g1) rfl g0 ?_
      refine xw_goto rfl ?_
      refine xw_iconst rfl ?_
      exact q
    exact xSB_ret (v := 0) rfl rfl xw_rtI rfl
  · intro c m2 hne
    dsimp only at hne ⊢
    by_cases hx : c = 14
    · subst hx
      refine ⟨11, rfl, fun ya => ?_⟩
      rw [if_pos rfl]
      refine xSB_of (pc' := 13) (L' := [(2, .ref ya)]) (st' := [xi 1]) (m' := m2) (fun ex ns r q => ?_) ?_
      · refine xw_astore_n (L' := [(2, .ref ya)]) rfl rfl (by decide) rfl ?_
        refine xw_iconst rfl ?_
        exact q
      exact xSB_ret (v := 1) rfl rfl xw_rtI rfl
    · rw [if_neg hx] at hne ⊢
      exact absurd rfl hne
theorem ygf164 {B : Nat} (hB : B ≤ 512) {xs : Nat → Int32} {SL d : Nat} : ∀ p1 p2 p3 m, w32 p1 = p1 → w32 p2 = p2 → xSB 1 B xs SL (d + 3) 164 (5, (some .int), [(0, 17, 20, 15), (0, 17, 24, 14)], 0) 1 0 [(0, xa 0), (1, xi p1), (2, xi p2), (3, xa p3)] [] m (yf164 B p1 p2 p3 m) := by
  intro p1 p2 p3 m cp1 cp2
  unfold yf164
  refine xSB_of (pc' := 5) (L' := []) (st' := [xi p2, xi p1, xa 0, xi 0, xa p3]) (m' := m) (fun ex ns r q => ?_) ?_
  · refine xw_aload_n rfl rfl rfl ?_
    refine xw_iconst rfl ?_
    refine xw_aload_n rfl rfl rfl ?_
    refine xw_iload_n rfl rfl ?_
    refine xw_iload_n rfl rfl ?_
    refine xw_lo (L2 := []) (fun _ h => absurd h List.not_mem_nil) ?_
    exact q
  refine xSB_callX (q := 165) (n := 3) (kq := 4) (as := [xa 0, xi p1, xi p2]) (st1 := [xi 0, xa p3]) rfl rfl rfl rfl rfl rfl rfl rfl rfl rfl (fun _ => xw_rcv1 (t := 0) (xw_obd (by decide +kernel)) rfl) (by decide) (List.forall_mem_cons.mpr ⟨rfl, List.forall_mem_cons.mpr ⟨rfl, List.forall_mem_cons.mpr ⟨rfl, fun _ h => absurd h List.not_mem_nil⟩⟩⟩) (ygf165 hB _ _ _ cp1 cp2) (fun v1 m1 cv1 => ?_) ?_
  · refine xSB_if (fun h0 => ?_) (fun h0 => ?_)
    · refine xSB_g (fun g1 => ?_)
      refine xSB_g (fun g2 => ?_)
      refine xSB_of (pc' := 29) (L' := []) (st' := [xi 0]) (m' := (xw_u m1 p3 0 0)) (fun ex ns r q => ?_) ?_
      · refine xw_if_eqT rfl (w32_cg (w32_of (xw_zr cv1))) h0 ?_
        refine xw_lconst (e := 0) rfl rfl ?_
        refine xw_last (n := (xw_le B p3)) rfl hB (xw_obd g2) rfl g1 ?_
        refine xw_goto rfl ?_
        refine xw_iconst rfl ?_
        exact q
      exact xSB_ret (v := 0) rfl rfl xw_rtI rfl
    · refine xSB_g (fun g1 => ?_)
      refine xSB_g (fun g2 => ?_)
      refine xSB_of (pc' := 29) (L' := []) (st' := [xi 0]) (m' := (xw_u m1 p3 0 1)) (fun ex ns r q => ?_) ?_
      · refine xw_if_eqF rfl (w32_cg (w32_of (xw_zr cv1))) h0 ?_
        refine xw_lconst (e := 1) rfl rfl ?_
        refine xw_goto rfl ?_
        refine xw_last (n := (xw_le B p3)) rfl hB (xw_obd g2) rfl g1 ?_
        refine xw_goto rfl ?_
        refine xw_iconst rfl ?_
        exact q
      exact xSB_ret (v := 0) rfl rfl xw_rtI rfl
  · intro c m2 hne
    dsimp only at hne ⊢
    by_cases hx : c = 15
    · subst hx
      refine ⟨20, rfl, fun ya => ?_⟩
      rw [if_pos rfl]
      refine xSB_of (pc' := 23) (L' := [(4, .ref ya)]) (st' := [xi 1]) (m' := m2) (fun ex ns r q => ?_) ?_
      · refine xw_astore (L' := [(4, .ref ya)]) rfl rfl (by decide) rfl ?_
        refine xw_iconst rfl ?_
        exact q
      exact xSB_ret (v := 1) rfl rfl xw_rtI rfl
    · rw [if_neg hx] at hne ⊢
      by_cases hx : c = 14
      · subst hx
        refine ⟨24, rfl, fun ya => ?_⟩
        rw [if_pos rfl]
        refine xSB_of (pc' := 27) (L' := [(4, .ref ya)]) (st' := [xi 2]) (m' := m2) (fun ex ns r q => ?_) ?_
        · refine xw_astore (L' := [(4, .ref ya)]) rfl rfl (by decide) rfl ?_
          refine xw_iconst rfl ?_
          exact q
        exact xSB_ret (v := 2) rfl rfl xw_rtI rfl
      · rw [if_neg hx] at hne ⊢
        exact absurd rfl hne
theorem ygf168 {B : Nat} (hB : B ≤ 512) {xs : Nat → Int32} {SL d : Nat} : ∀ p1 p2 p3 m, w32 p1 = p1 → w64 p2 = p2 → xSB 1 B xs SL (d + 3) 168 (6, (some .int), [(0, 10, 13, 15), (0, 10, 17, 14)], 0) 1 0 [(0, xa 0), (1, xi p1), (2, xj p2), (4, xa p3)] [] m (yf168 B p1 p2 p3 m) := by
  intro p1 p2 p3 m cp1 cp2
  unfold yf168
  refine xSB_of (pc' := 6) (L' := []) (st' := [xj p2, xi p1, xa 0, xi 0, xa p3]) (m' := m) (fun ex ns r q => ?_) ?_
  · refine xw_aload rfl rfl rfl ?_
    refine xw_iconst rfl ?_
    refine xw_aload_n rfl rfl rfl ?_
    refine xw_iload_n rfl rfl ?_
    refine xw_lload_n rfl rfl ?_
    refine xw_lo (L2 := []) (fun _ h => absurd h List.not_mem_nil) ?_
    exact q
  refine xSB_callX (q := 169) (n := 3) (kq := 2) (as := [xa 0, xi p1, xj p2]) (st1 := [xi 0, xa p3]) rfl rfl rfl rfl rfl rfl rfl rfl rfl rfl (fun _ => xw_rcv1 (t := 0) (xw_obd (by decide +kernel)) rfl) (by decide) (List.forall_mem_cons.mpr ⟨rfl, List.forall_mem_cons.mpr ⟨rfl, List.forall_mem_cons.mpr ⟨rfl, fun _ h => absurd h List.not_mem_nil⟩⟩⟩) (ygf169 hB _ _ _ cp1 cp2) (fun v1 m1 cv1 => ?_) ?_
  · refine xSB_g (fun g0 => ?_)
    refine xSB_g (fun g1 => ?_)
    refine xSB_of (pc' := 22) (L' := []) (st' := [xi 0]) (m' := (xw_u m1 p3 0 v1)) (fun ex ns r q => ?_) ?_
    · refine xw_last (n := (xw_le B p3)) rfl hB (xw_obd g1) rfl g0 ?_
      refine xw_goto rfl ?_
      refine xw_iconst rfl ?_
      exact q
    exact xSB_ret (v := 0) rfl rfl xw_rtI rfl
  · intro c m2 hne
    dsimp only at hne ⊢
    by_cases hx : c = 15
    · subst hx
      refine ⟨13, rfl, fun ya => ?_⟩
      rw [if_pos rfl]
      refine xSB_of (pc' := 16) (L' := [(5, .ref ya)]) (st' := [xi 1]) (m' := m2) (fun ex ns r q => ?_) ?_
      · refine xw_astore (L' := [(5, .ref ya)]) rfl rfl (by decide) rfl ?_
        refine xw_iconst rfl ?_
        exact q
      exact xSB_ret (v := 1) rfl rfl xw_rtI rfl
    · rw [if_neg hx] at hne ⊢
      by_cases hx : c = 14
      · subst hx
        refine ⟨17, rfl, fun ya => ?_⟩
        rw [if_pos rfl]
        refine xSB_of (pc' := 20) (L' := [(5, .ref ya)]) (st' := [xi 2]) (m' := m2) (fun ex ns r q => ?_) ?_
        · refine xw_astore (L' := [(5, .ref ya)]) rfl rfl (by decide) rfl ?_
          refine xw_iconst rfl ?_
          exact q
        exact xSB_ret (v := 2) rfl rfl xw_rtI rfl
      · rw [if_neg hx] at hne ⊢
        exact absurd rfl hne
theorem ygf170 {B : Nat} (hB : B ≤ 512) {xs : Nat → Int32} {SL d : Nat} : ∀ p1 p2 m, w32 p1 = p1 → xSB 1 B xs SL (d + 4) 170 (4, (some .int), [(0, 9, 12, 15), (0, 9, 15, 14)], 0) 1 0 [(0, xa 0), (1, xi p1), (2, xa p2)] [] m (yf170 B p1 p2 m) := by
  intro p1 p2 m cp1
  unfold yf170
  refine xSB_of (pc' := 4) (L' := []) (st' := [xi p1, xa 0, xi 0, xa p2]) (m' := m) (fun ex ns r q => ?_) ?_
  · refine xw_aload_n rfl rfl rfl ?_
    refine xw_iconst rfl ?_
    refine xw_aload_n rfl rfl rfl ?_
    refine xw_iload_n rfl rfl ?_
    refine xw_lo (L2 := []) (fun _ h => absurd h List.not_mem_nil) ?_
    exact q
  refine xSB_callX (q := 171) (n := 2) (kq := 1) (as := [xa 0, xi p1]) (st1 := [xi 0, xa p2]) rfl rfl rfl rfl rfl rfl rfl rfl rfl rfl (fun _ => xw_rcv1 (t := 0) (xw_obd (by decide +kernel)) rfl) (by decide) (List.forall_mem_cons.mpr ⟨rfl, List.forall_mem_cons.mpr ⟨rfl, fun _ h => absurd h List.not_mem_nil⟩⟩) (ygf171 hB _ _ cp1) (fun v1 m1 cv1 => ?_) ?_
  · refine xSB_g (fun g0 => ?_)
    refine xSB_g (fun g1 => ?_)
    refine xSB_of (pc' := 19) (L' := []) (st' := [xi 0]) (m' := (xw_u m1 p2 0 v1)) (fun ex ns r q => ?_) ?_
    · refine xw_i2l rfl (w32_cg cv1) ?_
      refine xw_last (n := (xw_le B p2)) rfl hB (xw_obd g1) rfl g0 ?_
      refine xw_goto rfl ?_
      refine xw_iconst rfl ?_
      exact q
    exact xSB_ret (v := 0) rfl rfl xw_rtI rfl
  · intro c m2 hne
    dsimp only at hne ⊢
    by_cases hx : c = 15
    · subst hx
      refine ⟨12, rfl, fun ya => ?_⟩
      rw [if_pos rfl]
      refine xSB_of (pc' := 14) (L' := [(3, .ref ya)]) (st' := [xi 1]) (m' := m2) (fun ex ns r q => ?_) ?_
      · refine xw_astore_n (L' := [(3, .ref ya)]) rfl rfl (by decide) rfl ?_
        refine xw_iconst rfl ?_
        exact q
      exact xSB_ret (v := 1) rfl rfl xw_rtI rfl
    · rw [if_neg hx] at hne ⊢
      by_cases hx : c = 14
      · subst hx
        refine ⟨15, rfl, fun ya => ?_⟩
        rw [if_pos rfl]
        refine xSB_of (pc' := 17) (L' := [(3, .ref ya)]) (st' := [xi 2]) (m' := m2) (fun ex ns r q => ?_) ?_
        · refine xw_astore_n (L' := [(3, .ref ya)]) rfl rfl (by decide) rfl ?_
          refine xw_iconst rfl ?_
          exact q
        exact xSB_ret (v := 2) rfl rfl xw_rtI rfl
      · rw [if_neg hx] at hne ⊢
        exact absurd rfl hne
theorem ygf173 {B : Nat} (hB : B ≤ 512) {xs : Nat → Int32} {SL d : Nat} : ∀ p1 p2 p3 m, w32 p1 = p1 → w64 p2 = p2 → xSB 1 B xs SL (d + 4) 173 (6, (some .int), [(0, 11, 14, 15), (0, 11, 18, 14)], 0) 1 0 [(0, xa 0), (1, xi p1), (2, xj p2), (4, xa p3)] [] m (yf173 B p1 p2 p3 m) := by
  intro p1 p2 p3 m cp1 cp2
  unfold yf173
  refine xSB_of (pc' := 6) (L' := []) (st' := [xj p2, xi p1, xa 0, xi 0, xa p3]) (m' := m) (fun ex ns r q => ?_) ?_
  · refine xw_aload rfl rfl rfl ?_
    refine xw_iconst rfl ?_
    refine xw_aload_n rfl rfl rfl ?_
    refine xw_iload_n rfl rfl ?_
    refine xw_lload_n rfl rfl ?_
    refine xw_lo (L2 := []) (fun _ h => absurd h List.not_mem_nil) ?_
    exact q
  refine xSB_callX (q := 174) (n := 3) (kq := 1) (as := [xa 0, xi p1, xj p2]) (st1 := [xi 0, xa p3]) rfl rfl rfl rfl rfl rfl rfl rfl rfl rfl (fun _ => xw_rcv1 (t := 0) (xw_obd (by decide +kernel)) rfl) (by decide) (List.forall_mem_cons.mpr ⟨rfl, List.forall_mem_cons.mpr ⟨rfl, List.forall_mem_cons.mpr ⟨rfl, fun _ h => absurd h List.not_mem_nil⟩⟩⟩) (ygf174 hB _ _ _ cp1 cp2) (fun v1 m1 cv1 => ?_) ?_
  · refine xSB_g (fun g0 => ?_)
    refine xSB_g (fun g1 => ?_)
    refine xSB_of (pc' := 23) (L' := []) (st' := [xi 0]) (m' := (xw_u m1 p3 0 v1)) (fun ex ns r q => ?_) ?_
    · refine xw_i2l rfl (w32_cg cv1) ?_
      refine xw_last (n := (xw_le B p3)) rfl hB (xw_obd g1) rfl g0 ?_
      refine xw_goto rfl ?_
      refine xw_iconst rfl ?_
      exact q
    exact xSB_ret (v := 0) rfl rfl xw_rtI rfl
  · intro c m2 hne
    dsimp only at hne ⊢
    by_cases hx : c = 15
    · subst hx
      refine ⟨14, rfl, fun ya => ?_⟩
      rw [if_pos rfl]
      refine xSB_of (pc' := 17) (L' := [(5, .ref ya)]) (st' := [xi 1]) (m' := m2) (fun ex ns r q => ?_) ?_
      · refine xw_astore (L' := [(5, .ref ya)]) rfl rfl (by decide) rfl ?_
        refine xw_iconst rfl ?_
        exact q
      exact xSB_ret (v := 1) rfl rfl xw_rtI rfl
    · rw [if_neg hx] at hne ⊢
      by_cases hx : c = 14
      · subst hx
        refine ⟨18, rfl, fun ya => ?_⟩
        rw [if_pos rfl]
        refine xSB_of (pc' := 21) (L' := [(5, .ref ya)]) (st' := [xi 2]) (m' := m2) (fun ex ns r q => ?_) ?_
        · refine xw_astore (L' := [(5, .ref ya)]) rfl rfl (by decide) rfl ?_
          refine xw_iconst rfl ?_
          exact q
        exact xSB_ret (v := 2) rfl rfl xw_rtI rfl
      · rw [if_neg hx] at hne ⊢
        exact absurd rfl hne
theorem ygf175 {B : Nat} (hB : B ≤ 512) {xs : Nat → Int32} {SL d : Nat} : ∀ p1 m, xSB 1 B xs SL (d + 3) 175 (3, (some .int), [(0, 8, 11, 14)], 0) 1 0 [(0, xa 0), (1, xa p1)] [] m (yf175 B p1 m) := by
  intro p1 m
  unfold yf175
  refine xSB_of (pc' := 3) (L' := []) (st' := [xa 0, xi 0, xa p1]) (m' := m) (fun ex ns r q => ?_) ?_
  · refine xw_aload_n rfl rfl rfl ?_
    refine xw_iconst rfl ?_
    refine xw_aload_n rfl rfl rfl ?_
    refine xw_lo (L2 := []) (fun _ h => absurd h List.not_mem_nil) ?_
    exact q
  refine xSB_callX (q := 176) (n := 1) (kq := 1) (as := [xa 0]) (st1 := [xi 0, xa p1]) rfl rfl rfl rfl rfl rfl rfl rfl rfl rfl (fun _ => xw_rcv1 (t := 0) (xw_obd (by decide +kernel)) rfl) (by decide) (List.forall_mem_cons.mpr ⟨rfl, fun _ h => absurd h List.not_mem_nil⟩) (ygf176 hB _) (fun v1 m1 cv1 => ?_) ?_
  · refine xSB_g (fun g0 => ?_)
    refine xSB_g (fun g1 => ?_)
    refine xSB_of (pc' := 15) (L' := []) (st' := [xi 0]) (m' := (xw_u m1 p1 0 v1)) (fun ex ns r q => ?_) ?_
    · refine xw_i2l rfl (w32_cg cv1) ?_
      refine xw_last (n := (xw_le B p1)) rfl hB (xw_obd g1) rfl g0 ?_
      refine xw_goto rfl ?_
      refine xw_iconst rfl ?_
      exact q
    exact xSB_ret (v := 0) rfl rfl xw_rtI rfl
  · intro c m2 hne
    dsimp only at hne ⊢
    by_cases hx : c = 14
    · subst hx
      refine ⟨11, rfl, fun ya => ?_⟩
      rw [if_pos rfl]
      refine xSB_of (pc' := 13) (L' := [(2, .ref ya)]) (st' := [xi 1]) (m' := m2) (fun ex ns r q => ?_) ?_
      · refine xw_astore_n (L' := [(2, .ref ya)]) rfl rfl (by decide) rfl ?_
        refine xw_iconst rfl ?_
        exact q
      exact xSB_ret (v := 1) rfl rfl xw_rtI rfl
    · rw [if_neg hx] at hne ⊢
      exact absurd rfl hne
theorem ygf177 {B : Nat} (hB : B ≤ 512) {xs : Nat → Int32} {SL d : Nat} : ∀ p1 m, xSB 1 B xs SL (d + 9) 177 (3, (some .int), [(0, 8, 11, 14)], 0) 1 0 [(0, xa 0), (1, xa p1)] [] m (yf177 B p1 m) := by
  intro p1 m
  unfold yf177
  refine xSB_of (pc' := 3) (L' := []) (st' := [xa 0, xi 0, xa p1]) (m' := m) (fun ex ns r q => ?_) ?_
  · refine xw_aload_n rfl rfl rfl ?_
    refine xw_iconst rfl ?_
    refine xw_aload_n rfl rfl rfl ?_
    refine xw_lo (L2 := []) (fun _ h => absurd h List.not_mem_nil) ?_
    exact q
  refine xSB_callX (q := 178) (n := 1) (kq := 1) (as := [xa 0]) (st1 := [xi 0, xa p1]) rfl rfl rfl rfl rfl rfl rfl rfl rfl rfl (fun _ => xw_rcv1 (t := 0) (xw_obd (by decide +kernel)) rfl) (by decide) (List.forall_mem_cons.mpr ⟨rfl, fun _ h => absurd h List.not_mem_nil⟩) (ygf178 hB _) (fun v1 m1 cv1 => ?_) ?_
  · refine xSB_g (fun g0 => ?_)
    refine xSB_g (fun g1 => ?_)
    refine xSB_of (pc' := 15) (L' := []) (st' := [xi 0]) (m' := (xw_u m1 p1 0 v1)) (fun ex ns r q => ?_) ?_
    · refine xw_i2l rfl (w32_cg cv1) ?_
      refine xw_last (n := (xw_le B p1)) rfl hB (xw_obd g1) rfl g0 ?_
      refine xw_goto rfl ?_
      refine xw_iconst rfl ?_
      exact q
    exact xSB_ret (v := 0) rfl rfl xw_rtI rfl
  · intro c m2 hne
    dsimp only at hne ⊢
    by_cases hx : c = 14
    · subst hx
      refine ⟨11, rfl, fun ya => ?_⟩
      rw [if_pos rfl]
      refine xSB_of (pc' := 13) (L' := [(2, .ref ya)]) (st' := [xi 1]) (m' := m2) (fun ex ns r q => ?_) ?_
      · refine xw_astore_n (L' := [(2, .ref ya)]) rfl rfl (by decide) rfl ?_
        refine xw_iconst rfl ?_
        exact q
      exact xSB_ret (v := 1) rfl rfl xw_rtI rfl
    · rw [if_neg hx] at hne ⊢
      exact absurd rfl hne
theorem ygf199 {B : Nat} (hB : B ≤ 512) {xs : Nat → Int32} {SL d : Nat} : ∀ p1 p2 m, w32 p1 = p1 → xSB 1 B xs SL (d + 9) 199 (4, (some .int), [(0, 9, 12, 15), (0, 9, 15, 14)], 0) 1 0 [(0, xa 0), (1, xi p1), (2, xa p2)] [] m (yf199 B p1 p2 m) := by
  intro p1 p2 m cp1
  unfold yf199
  refine xSB_of (pc' := 4) (L' := []) (st' := [xi p1, xa 0, xi 0, xa p2]) (m' := m) (fun ex ns r q => ?_) ?_
  · refine xw_aload_n rfl rfl rfl ?_
    refine xw_iconst rfl ?_
    refine xw_aload_n rfl rfl rfl ?_
    refine xw_iload_n rfl rfl ?_
    refine xw_lo (L2 := []) (fun _ h => absurd h List.not_mem_nil) ?_
    exact q
  refine xSB_callX (q := 200) (n := 2) (kq := 1) (as := [xa 0, xi p1]) (st1 := [xi 0, xa p2]) rfl rfl rfl rfl rfl rfl rfl rfl rfl rfl (fun _ => xw_rcv1 (t := 0) (xw_obd (by decide +kernel)) rfl) (by decide) (List.forall_mem_cons.mpr ⟨rfl, List.forall_mem_cons.mpr ⟨rfl, fun _ h => absurd h List.not_mem_nil⟩⟩) (ygf200 hB _ _ cp1) (fun v1 m1 cv1 => ?_) ?_
  · refine xSB_g (fun g0 => ?_)
    refine xSB_g (fun g1 => ?_)
    refine xSB_of (pc' := 19) (L' := []) (st' := [xi 0]) (m' := (xw_u m1 p2 0 v1)) (fun ex ns r q => ?_) ?_
    · refine xw_i2l rfl (w32_cg cv1) ?_
      refine xw_last (n := (xw_le B p2)) rfl hB (xw_obd g1) rfl g0 ?_
      refine xw_goto rfl ?_
      refine xw_iconst rfl ?_
      exact q
    exact xSB_ret (v := 0) rfl rfl xw_rtI rfl
  · intro c m2 hne
    dsimp only at hne ⊢
    by_cases hx : c = 15
    · subst hx
      refine ⟨12, rfl, fun ya => ?_⟩
      rw [if_pos rfl]
      refine xSB_of (pc' := 14) (L' := [(3, .ref ya)]) (st' := [xi 1]) (m' := m2) (fun ex ns r q => ?_) ?_
      · refine xw_astore_n (L' := [(3, .ref ya)]) rfl rfl (by decide) rfl ?_
        refine xw_iconst rfl ?_
        exact q
      exact xSB_ret (v := 1) rfl rfl xw_rtI rfl
    · rw [if_neg hx] at hne ⊢
      by_cases hx : c = 14
      · subst hx
        refine ⟨15, rfl, fun ya => ?_⟩
        rw [if_pos rfl]
        refine xSB_of (pc' := 17) (L' := [(3, .ref ya)]) (st' := [xi 2]) (m' := m2) (fun ex ns r q => ?_) ?_
        · refine xw_astore_n (L' := [(3, .ref ya)]) rfl rfl (by decide) rfl ?_
          refine xw_iconst rfl ?_
          exact q
        exact xSB_ret (v := 2) rfl rfl xw_rtI rfl
      · rw [if_neg hx] at hne ⊢
        exact absurd rfl hne
theorem ygf214 {B : Nat} (hB : B ≤ 512) {xs : Nat → Int32} {SL d : Nat} : ∀ p1 m, xSB 1 B xs SL (d + 9) 214 (3, (some .int), [(0, 8, 11, 14)], 0) 1 0 [(0, xa 0), (1, xa p1)] [] m (yf214 B p1 m) := by
  intro p1 m
  unfold yf214
  refine xSB_of (pc' := 3) (L' := []) (st' := [xa 0, xi 0, xa p1]) (m' := m) (fun ex ns r q => ?_) ?_
  · refine xw_aload_n rfl rfl rfl ?_
    refine xw_iconst rfl ?_
    refine xw_aload_n rfl rfl rfl ?_
    refine xw_lo (L2 := []) (fun _ h => absurd h List.not_mem_nil) ?_
    exact q
  refine xSB_callX (q := 215) (n := 1) (kq := 1) (as := [xa 0]) (st1 := [xi 0, xa p1]) rfl rfl rfl rfl rfl rfl rfl rfl rfl rfl (fun _ => xw_rcv1 (t := 0) (xw_obd (by decide +kernel)) rfl) (by decide) (List.forall_mem_cons.mpr ⟨rfl, fun _ h => absurd h List.not_mem_nil⟩) (ygf215 hB _) (fun v1 m1 cv1 => ?_) ?_
  · refine xSB_g (fun g0 => ?_)
    refine xSB_g (fun g1 => ?_)
    refine xSB_of (pc' := 15) (L' := []) (st' := [xi 0]) (m' := (xw_u m1 p1 0 v1)) (fun ex ns r q => ?_) ?_
    · refine xw_i2l rfl (w32_cg cv1) ?_
      refine xw_last (n := (xw_le B p1)) rfl hB (xw_obd g1) rfl g0 ?_
      refine xw_goto rfl ?_
      refine xw_iconst rfl ?_
      exact q
    exact xSB_ret (v := 0) rfl rfl xw_rtI rfl
  · intro c m2 hne
    dsimp only at hne ⊢
    by_cases hx : c = 14
    · subst hx
      refine ⟨11, rfl, fun ya => ?_⟩
      rw [if_pos rfl]
      refine xSB_of (pc' := 13) (L' := [(2, .ref ya)]) (st' := [xi 1]) (m' := m2) (fun ex ns r q => ?_) ?_
      · refine xw_astore_n (L' := [(2, .ref ya)]) rfl rfl (by decide) rfl ?_
        refine xw_iconst rfl ?_
        exact q
      exact xSB_ret (v := 1) rfl rfl xw_rtI rfl
    · rw [if_neg hx] at hne ⊢
      exact absurd rfl hne
theorem ygf217 {B : Nat} (hB : B ≤ 512) {xs : Nat → Int32} {SL d : Nat} : ∀ p1 m, w32 p1 = p1 → xSB 1 B xs SL (d + 4) 217 (3, (some .int), [(0, 5, 8, 15), (0, 5, 11, 14)], 0) 1 0 [(0, xa 0), (1, xi p1)] [] m (yf217 B p1 m) := by
  intro p1 m cp1
  unfold yf217
  refine xSB_of (pc' := 2) (L' := []) (st' := [xi p1, xa 0]) (m' := m) (fun ex ns r q => ?_) ?_
  · refine xw_aload_n rfl rfl rfl ?_
    refine xw_iload_n rfl rfl ?_
    refine xw_lo (L2 := []) (fun _ h => absurd h List.not_mem_nil) ?_
    exact q
  refine xSB_callX (q := 218) (n := 2) (kq := 0) (as := [xa 0, xi p1]) (st1 := []) rfl rfl rfl rfl rfl rfl rfl rfl rfl rfl (fun _ => xw_rcv1 (t := 0) (xw_obd (by decide +kernel)) rfl) (by decide) (List.forall_mem_cons.mpr ⟨rfl, List.forall_mem_cons.mpr ⟨rfl, fun _ h => absurd h List.not_mem_nil⟩⟩) (ygf218 hB _ _ cp1) (fun v1 m1 cv1 => ?_) ?_
  · refine xSB_of (pc' := 15) (L' := []) (st' := [xi 0]) (m' := m1) (fun ex ns r q => ?_) ?_
    · refine xw_goto rfl ?_
      refine xw_iconst rfl ?_
      exact q
    exact xSB_ret (v := 0) rfl rfl xw_rtI rfl
  · intro c m2 hne
    dsimp only at hne ⊢
    by_cases hx : c = 15
    · subst hx
      refine ⟨8, rfl, fun ya => ?_⟩
      rw [if_pos rfl]
      refine xSB_of (pc' := 10) (L' := [(2, .ref ya)]) (st' := [xi 1]) (m' := m2) (fun ex ns r q => ?_) ?_
      · refine xw_astore_n (L' := [(2, .ref ya)]) rfl rfl (by decide) rfl ?_
        refine xw_iconst rfl ?_
        exact q
      exact xSB_ret (v := 1) rfl rfl xw_rtI rfl
    · rw [if_neg hx] at hne ⊢
      by_cases hx : c = 14
      · subst hx
        refine ⟨11, rfl, fun ya => ?_⟩
        rw [if_pos rfl]
        refine xSB_of (pc' := 13) (L' := [(2, .ref ya)]) (st' := [xi 2]) (m' := m2) (fun ex ns r q => ?_) ?_
        · refine xw_astore_n (L' := [(2, .ref ya)]) rfl rfl (by decide) rfl ?_
          refine xw_iconst rfl ?_
          exact q
        exact xSB_ret (v := 2) rfl rfl xw_rtI rfl
      · rw [if_neg hx] at hne ⊢
        exact absurd rfl hne
theorem ygf219 {B : Nat} (hB : B ≤ 512) {xs : Nat → Int32} {SL d : Nat} : ∀ p1 p2 m, w32 p1 = p1 → xSB 1 B xs SL (d + 3) 219 (4, (some .int), [(0, 9, 12, 15), (0, 9, 15, 14)], 0) 1 0 [(0, xa 0), (1, xi p1), (2, xa p2)] [] m (yf219 B p1 p2 m) := by
  intro p1 p2 m cp1
  unfold yf219
  refine xSB_of (pc' := 4) (L' := []) (st' := [xi p1, xa 0, xi 0, xa p2]) (m' := m) (fun ex ns r q => ?_) ?_
  · refine xw_aload_n rfl rfl rfl ?_
    refine xw_iconst rfl ?_
    refine xw_aload_n rfl rfl rfl ?_
    refine xw_iload_n rfl rfl ?_
    refine xw_lo (L2 := []) (fun _ h => absurd h List.not_mem_nil) ?_
    exact q
  refine xSB_callX (q := 220) (n := 2) (kq := 1) (as := [xa 0, xi p1]) (st1 := [xi 0, xa p2]) rfl rfl rfl rfl rfl rfl rfl rfl rfl rfl (fun _ => xw_rcv1 (t := 0) (xw_obd (by decide +kernel)) rfl) (by decide) (List.forall_mem_cons.mpr ⟨rfl, List.forall_mem_cons.mpr ⟨rfl, fun _ h => absurd h List.not_mem_nil⟩⟩) (ygf220 hB _ _ cp1) (fun v1 m1 cv1 => ?_) ?_
  · refine xSB_g (fun g0 => ?_)
    refine xSB_g (fun g1 => ?_)
    refine xSB_of (pc' := 19) (L' := []) (st' := [xi 0]) (m' := (xw_u m1 p2 0 v1)) (fun ex ns r q => ?_) ?_
    · refine xw_i2l rfl (w32_cg cv1) ?_
      refine xw_last (n := (xw_le B p2)) rfl hB (xw_obd g1) rfl g0 ?_
      refine xw_goto rfl ?_
      refine xw_iconst rfl ?_
      exact q
    exact xSB_ret (v := 0) rfl rfl xw_rtI rfl
  · intro c m2 hne
    dsimp only at hne ⊢
    by_cases hx : c = 15
    · subst hx
      refine ⟨12, rfl, fun ya => ?_⟩
      rw [if_pos rfl]
      refine xSB_of (pc' := 14) (L' := [(3, .ref ya)]) (st' := [xi 1]) (m' := m2) (fun ex ns r q => ?_) ?_
      · refine xw_astore_n (L' := [(3, .ref ya)]) rfl rfl (by decide) rfl ?_
        refine xw_iconst rfl ?_
        exact q
      exact xSB_ret (v := 1) rfl rfl xw_rtI rfl
    · rw [if_neg hx] at hne ⊢
      by_cases hx : c = 14
      · subst hx
        refine ⟨15, rfl, fun ya => ?_⟩
        rw [if_pos rfl]
        refine xSB_of (pc' := 17) (L' := [(3, .ref ya)]) (st' := [xi 2]) (m' := m2) (fun ex ns r q => ?_) ?_
        · refine xw_astore_n (L' := [(3, .ref ya)]) rfl rfl (by decide) rfl ?_
          refine xw_iconst rfl ?_
          exact q
        exact xSB_ret (v := 2) rfl rfl xw_rtI rfl
      · rw [if_neg hx] at hne ⊢
        exact absurd rfl hne
theorem ygf222 {B : Nat} (hB : B ≤ 512) {xs : Nat → Int32} {SL d : Nat} : ∀ p1 p2 p3 m, w32 p1 = p1 → w32 p2 = p2 → xSB 1 B xs SL (d + 2) 222 (5, (some .int), [(0, 10, 13, 15)], 0) 1 0 [(0, xa 0), (1, xi p1), (2, xi p2), (3, xa p3)] [] m (yf222 B p1 p2 p3 m) := by
  intro p1 p2 p3 m cp1 cp2
  unfold yf222
  refine xSB_of (pc' := 5) (L' := []) (st' := [xi p2, xi p1, xa 0, xi 0, xa p3]) (m' := m) (fun ex ns r q => ?_) ?_
  · refine xw_aload_n rfl rfl rfl ?_
    refine xw_iconst rfl ?_
    refine xw_aload_n rfl rfl rfl ?_
    refine xw_iload_n rfl rfl ?_
    refine xw_iload_n rfl rfl ?_
    refine xw_lo (L2 := []) (fun _ h => absurd h List.not_mem_nil) ?_
    exact q
  refine xSB_callX (q := 223) (n := 3) (kq := 1) (as := [xa 0, xi p1, xi p2]) (st1 := [xi 0, xa p3]) rfl rfl rfl rfl rfl rfl rfl rfl rfl rfl (fun _ => xw_rcv1 (t := 0) (xw_obd (by decide +kernel)) rfl) (by decide) (List.forall_mem_cons.mpr ⟨rfl, List.forall_mem_cons.mpr ⟨rfl, List.forall_mem_cons.mpr ⟨rfl, fun _ h => absurd h List.not_mem_nil⟩⟩⟩) (ygf223 hB _ _ _ cp1 cp2) (fun v1 m1 cv1 => ?_) ?_
  · refine xSB_g (fun g0 => ?_)
    refine xSB_g (fun g1 => ?_)
    refine xSB_of (pc' := 18) (L' := []) (st' := [xi 0]) (m' := (xw_u m1 p3 0 v1)) (fun ex ns r q => ?_) ?_
    · refine xw_i2l rfl (w32_cg cv1) ?_
      refine xw_last (n := (xw_le B p3)) rfl hB (xw_obd g1) rfl g0 ?_
      refine xw_goto rfl ?_
      refine xw_iconst rfl ?_
      exact q
    exact xSB_ret (v := 0) rfl rfl xw_rtI rfl
  · intro c m2 hne
    dsimp only at hne ⊢
    by_cases hx : c = 15
    · subst hx
      refine ⟨13, rfl, fun ya => ?_⟩
      rw [if_pos rfl]
      refine xSB_of (pc' := 16) (L' := [(4, .ref ya)]) (st' := [xi 1]) (m' := m2) (fun ex ns r q => ?_) ?_
      · refine xw_astore (L' := [(4, .ref ya)]) rfl rfl (by decide) rfl ?_
        refine xw_iconst rfl ?_
        exact q
      exact xSB_ret (v := 1) rfl rfl xw_rtI rfl
    · rw [if_neg hx] at hne ⊢
      exact absurd rfl hne
theorem ygf224 {B : Nat} (hB : B ≤ 512) {xs : Nat → Int32} {SL d : Nat} : ∀ p1 m, xSB 1 B xs SL (d + 3) 224 (3, (some .int), [(0, 8, 11, 14)], 0) 1 0 [(0, xa 0), (1, xa p1)] [] m (yf224 B p1 m) := by
  intro p1 m
  unfold yf224
  refine xSB_of (pc' := 3) (L' := []) (st' := [xa 0, xi 0, xa p1]) (m' := m) (fun ex ns r q => ?_) ?_
  · refine xw_aload_n rfl rfl rfl ?_
    refine xw_iconst rfl ?_
    refine xw_aload_n rfl rfl rfl ?_
    refine xw_lo (L2 := []) (fun _ h => absurd h List.not_mem_nil) ?_
    exact q
  refine xSB_callX (q := 225) (n := 1) (kq := 1) (as := [xa 0]) (st1 := [xi 0, xa p1]) rfl rfl rfl rfl rfl rfl rfl rfl rfl rfl (fun _ => xw_rcv1 (t := 0) (xw_obd (by decide +kernel)) rfl) (by decide) (List.forall_mem_cons.mpr ⟨rfl, fun _ h => absurd h List.not_mem_nil⟩) (ygf225 hB _) (fun v1 m1 cv1 => ?_) ?_
  · refine xSB_g (fun g0 => ?_)
    refine xSB_g (fun g1 => ?_)
    refine xSB_of (pc' := 15) (L' := []) (st' := [xi 0]) (m' := (xw_u m1 p1 0 v1)) (fun ex ns r q => ?_) ?_
    · refine xw_i2l rfl (w32_cg cv1) ?_
      refine xw_last (n := (xw_le B p1)) rfl hB (xw_obd g1) rfl g0 ?_
      refine xw_goto rfl ?_
      refine xw_iconst rfl ?_
      exact q
    exact xSB_ret (v := 0) rfl rfl xw_rtI rfl
  · intro c m2 hne
    dsimp only at hne ⊢
    by_cases hx : c = 14
    · subst hx
      refine ⟨11, rfl, fun ya => ?_⟩
      rw [if_pos rfl]
      refine xSB_of (pc' := 13) (L' := [(2, .ref ya)]) (st' := [xi 1]) (m' := m2) (fun ex ns r q => ?_) ?_
      · refine xw_astore_n (L' := [(2, .ref ya)]) rfl rfl (by decide) rfl ?_
        refine xw_iconst rfl ?_
        exact q
      exact xSB_ret (v := 1) rfl rfl xw_rtI rfl
    · rw [if_neg hx] at hne ⊢
      exact absurd rfl hne
theorem ygf226 {B : Nat} (hB : B ≤ 512) {xs : Nat → Int32} {SL d : Nat} : ∀ p1 p2 p3 m, w32 p1 = p1 → w32 p2 = p2 → xSB 1 B xs SL (d + 2) 226 (5, (some .int), [(0, 9, 12, 15)], 0) 1 0 [(0, xa 0), (1, xi p1), (2, xi p2), (3, xa p3)] [] m (yf226 B p1 p2 p3 m) := by
  intro p1 p2 p3 m cp1 cp2
  unfold yf226
  refine xSB_of (pc' := 5) (L' := []) (st' := [xi p2, xi p1, xa 0, xi 0, xa p3]) (m' := m) (fun ex ns r q => ?_) ?_
  · refine xw_aload_n rfl rfl rfl ?_
    refine xw_iconst rfl ?_
    refine xw_aload_n rfl rfl rfl ?_
    refine xw_iload_n rfl rfl ?_
    refine xw_iload_n rfl rfl ?_
    refine xw_lo (L2 := []) (fun _ h => absurd h List.not_mem_nil) ?_
    exact q
  refine xSB_callX (q := 227) (n := 3) (kq := 2) (as := [xa 0, xi p1, xi p2]) (st1 := [xi 0, xa p3]) rfl rfl rfl rfl rfl rfl rfl rfl rfl rfl (fun _ => xw_rcv1 (t := 0) (xw_obd (by decide +kernel)) rfl) (by decide) (List.forall_mem_cons.mpr ⟨rfl, List.forall_mem_cons.mpr ⟨rfl, List.forall_mem_cons.mpr ⟨rfl, fun _ h => absurd h List.not_mem_nil⟩⟩⟩) (ygf227 hB _ _ _ cp1 cp2) (fun v1 m1 cv1 => ?_) ?_
  · refine xSB_g (fun g0 => ?_)
    refine xSB_g (fun g1 => ?_)
    refine xSB_of (pc' := 17) (L' := []) (st' := [xi 0]) (m' := (xw_u m1 p3 0 v1)) (fun ex ns r q => ?_) ?_
    · refine xw_last (n := (xw_le B p3)) rfl hB (xw_obd g1) rfl g0 ?_
      refine xw_goto rfl ?_
      refine xw_iconst rfl ?_
      exact q
    exact xSB_ret (v := 0) rfl rfl xw_rtI rfl
  · intro c m2 hne
    dsimp only at hne ⊢
    by_cases hx : c = 15
    · subst hx
      refine ⟨12, rfl, fun ya => ?_⟩
      rw [if_pos rfl]
      refine xSB_of (pc' := 15) (L' := [(4, .ref ya)]) (st' := [xi 1]) (m' := m2) (fun ex ns r q => ?_) ?_
      · refine xw_astore (L' := [(4, .ref ya)]) rfl rfl (by decide) rfl ?_
        refine xw_iconst rfl ?_
        exact q
      exact xSB_ret (v := 1) rfl rfl xw_rtI rfl
    · rw [if_neg hx] at hne ⊢
      exact absurd rfl hne
theorem ygf230 {B : Nat} (hB : B ≤ 512) {xs : Nat → Int32} {SL d : Nat} : ∀ p1 p2 p3 m, w32 p1 = p1 → w32 p2 = p2 → xSB 1 B xs SL (d + 2) 230 (5, (some .int), [(0, 17, 20, 15)], 0) 1 0 [(0, xa 0), (1, xi p1), (2, xi p2), (3, xa p3)] [] m (yf230 B p1 p2 p3 m) := by
  intro p1 p2 p3 m cp1 cp2
  unfold yf230
  refine xSB_of (pc' := 5) (L' := []) (st' := [xi p2, xi p1, xa 0, xi 0, xa p3]) (m' := m) (fun ex ns r q => ?_) ?_
  · refine xw_aload_n rfl rfl rfl ?_
    refine xw_iconst rfl ?_
    refine xw_aload_n rfl rfl rfl ?_
    refine xw_iload_n rfl rfl ?_
    refine xw_iload_n rfl rfl ?_
    refine xw_lo (L2 := []) (fun _ h => absurd h List.not_mem_nil) ?_
    exact q
  refine xSB_callX (q := 231) (n := 3) (kq := 4) (as := [xa 0, xi p1, xi p2]) (st1 := [xi 0, xa p3]) rfl rfl rfl rfl rfl rfl rfl rfl rfl rfl (fun _ => xw_rcv1 (t := 0) (xw_obd (by decide +kernel)) rfl) (by decide) (List.forall_mem_cons.mpr ⟨rfl, List.forall_mem_cons.mpr ⟨rfl, List.forall_mem_cons.mpr ⟨rfl, fun _ h => absurd h List.not_mem_nil⟩⟩⟩) (ygf231 hB _ _ _ cp1 cp2) (fun v1 m1 cv1 => ?_) ?_
  · refine xSB_if (fun h0 => ?_) (fun h0 => ?_)
    · refine xSB_g (fun g1 => ?_)
      refine xSB_g (fun g2 => ?_)
      refine xSB_of (pc' := 25) (L' := []) (st' := [xi 0]) (m' := (xw_u m1 p3 0 0)) (fun ex ns r q => ?_) ?_
      · refine xw_if_eqT rfl (w32_cg (w32_of (xw_zr cv1))) h0 ?_
        refine xw_lconst (e := 0) rfl rfl ?_
        refine xw_last (n := (xw_le B p3)) rfl hB (xw_obd g2) rfl g1 ?_
        refine xw_goto rfl ?_
        refine xw_iconst rfl ?_
        exact q
      exact xSB_ret (v := 0) rfl rfl xw_rtI rfl
    · refine xSB_g (fun g1 => ?_)
      refine xSB_g (fun g2 => ?_)
      refine xSB_of (pc' := 25) (L' := []) (st' := [xi 0]) (m' := (xw_u m1 p3 0 1)) (fun ex ns r q => ?_) ?_
      · refine xw_if_eqF rfl (w32_cg (w32_of (xw_zr cv1))) h0 ?_
        refine xw_lconst (e := 1) rfl rfl ?_
        refine xw_goto rfl ?_
        refine xw_last (n := (xw_le B p3)) rfl hB (xw_obd g2) rfl g1 ?_
        refine xw_goto rfl ?_
        refine xw_iconst rfl ?_
        exact q
      exact xSB_ret (v := 0) rfl rfl xw_rtI rfl
  · intro c m2 hne
    dsimp only at hne ⊢
    by_cases hx : c = 15
    · subst hx
      refine ⟨20, rfl, fun ya => ?_⟩
      rw [if_pos rfl]
      refine xSB_of (pc' := 23) (L' := [(4, .ref ya)]) (st' := [xi 1]) (m' := m2) (fun ex ns r q => ?_) ?_
      · refine xw_astore (L' := [(4, .ref ya)]) rfl rfl (by decide) rfl ?_
        refine xw_iconst rfl ?_
        exact q
      exact xSB_ret (v := 1) rfl rfl xw_rtI rfl
    · rw [if_neg hx] at hne ⊢
      exact absurd rfl hne
theorem ygf233 {B : Nat} (hB : B ≤ 512) {xs : Nat → Int32} {SL d : Nat} : ∀ p1 m, xSB 1 B xs SL (d + 2) 233 (3, (some .int), [(0, 8, 11, 14)], 0) 1 0 [(0, xa 0), (1, xa p1)] [] m (yf233 B p1 m) := by
  intro p1 m
  unfold yf233
  refine xSB_of (pc' := 3) (L' := []) (st' := [xa 0, xi 0, xa p1]) (m' := m) (fun ex ns r q => ?_) ?_
  · refine xw_aload_n rfl rfl rfl ?_
    refine xw_iconst rfl ?_
    refine xw_aload_n rfl rfl rfl ?_
    refine xw_lo (L2 := []) (fun _ h => absurd h List.not_mem_nil) ?_
    exact q
  refine xSB_callX (q := 234) (n := 1) (kq := 1) (as := [xa 0]) (st1 := [xi 0, xa p1]) rfl rfl rfl rfl rfl rfl rfl rfl rfl rfl (fun _ => xw_rcv1 (t := 0) (xw_obd (by decide +kernel)) rfl) (by decide) (List.forall_mem_cons.mpr ⟨rfl, fun _ h => absurd h List.not_mem_nil⟩) (ygf234 hB _) (fun v1 m1 cv1 => ?_) ?_
  · refine xSB_g (fun g0 => ?_)
    refine xSB_g (fun g1 => ?_)
    refine xSB_of (pc' := 15) (L' := []) (st' := [xi 0]) (m' := (xw_u m1 p1 0 v1)) (fun ex ns r q => ?_) ?_
    · refine xw_i2l rfl (w32_cg cv1) ?_
      refine xw_last (n := (xw_le B p1)) rfl hB (xw_obd g1) rfl g0 ?_
      refine xw_goto rfl ?_
      refine xw_iconst rfl ?_
      exact q
    exact xSB_ret (v := 0) rfl rfl xw_rtI rfl
  · intro c m2 hne
    dsimp only at hne ⊢
    by_cases hx : c = 14
    · subst hx
      refine ⟨11, rfl, fun ya => ?_⟩
      rw [if_pos rfl]
      refine xSB_of (pc' := 13) (L' := [(2, .ref ya)]) (st' := [xi 1]) (m' := m2) (fun ex ns r q => ?_) ?_
      · refine xw_astore_n (L' := [(2, .ref ya)]) rfl rfl (by decide) rfl ?_
        refine xw_iconst rfl ?_
        exact q
      exact xSB_ret (v := 1) rfl rfl xw_rtI rfl
    · rw [if_neg hx] at hne ⊢
      exact absurd rfl hne
theorem ygf235 {B : Nat} (hB : B ≤ 512) {xs : Nat → Int32} {SL d : Nat} : ∀ p1 m, xSB 1 B xs SL (d + 10) 235 (3, (some .int), [(0, 8, 11, 14)], 0) 1 0 [(0, xa 0), (1, xa p1)] [] m (yf235 B p1 m) := by
  intro p1 m
  unfold yf235
  refine xSB_of (pc' := 3) (L' := []) (st' := [xa 0, xi 0, xa p1]) (m' := m) (fun ex ns r q => ?_) ?_
  · refine xw_aload_n rfl rfl rfl ?_
    refine xw_iconst rfl ?_
    refine xw_aload_n rfl rfl rfl ?_
    refine xw_lo (L2 := []) (fun _ h => absurd h List.not_mem_nil) ?_
    exact q
  refine xSB_callX (q := 236) (n := 1) (kq := 1) (as := [xa 0]) (st1 := [xi 0, xa p1]) rfl rfl rfl rfl rfl rfl rfl rfl rfl rfl (fun _ => xw_rcv1 (t := 0) (xw_obd (by decide +kernel)) rfl) (by decide) (List.forall_mem_cons.mpr ⟨rfl, fun _ h => absurd h List.not_mem_nil⟩) (ygf236 hB _) (fun v1 m1 cv1 => ?_) ?_
  · refine xSB_g (fun g0 => ?_)
    refine xSB_g (fun g1 => ?_)
    refine xSB_of (pc' := 15) (L' := []) (st' := [xi 0]) (m' := (xw_u m1 p1 0 v1)) (fun ex ns r q => ?_) ?_
    · refine xw_i2l rfl (w32_cg cv1) ?_
      refine xw_last (n := (xw_le B p1)) rfl hB (xw_obd g1) rfl g0 ?_
      refine xw_goto rfl ?_
      refine xw_iconst rfl ?_
      exact q
    exact xSB_ret (v := 0) rfl rfl xw_rtI rfl
  · intro c m2 hne
    dsimp only at hne ⊢
    by_cases hx : c = 14
    · subst hx
      refine ⟨11, rfl, fun ya => ?_⟩
      rw [if_pos rfl]
      refine xSB_of (pc' := 13) (L' := [(2, .ref ya)]) (st' := [xi 1]) (m' := m2) (fun ex ns r q => ?_) ?_
      · refine xw_astore_n (L' := [(2, .ref ya)]) rfl rfl (by decide) rfl ?_
        refine xw_iconst rfl ?_
        exact q
      exact xSB_ret (v := 1) rfl rfl xw_rtI rfl
    · rw [if_neg hx] at hne ⊢
      exact absurd rfl hne
