/-! the machine does what the functions say, 6 -/
theorem ysl178_154 {B : Nat} (hB : B ≤ 512) {xs : Nat → Int32} {SL d : Nat} {r154 : Int → Int → Int → xw_M → xP} (hr154 : ∀ x1 x2 x3 m, w32 x1 = x1 → w32 x2 = x2 → w32 x3 = x3 → xS B xs SL (d + 8) 178 (4, (some .int), [], 1) 1 154 [(0, xa 0), (1, xi x1), (2, xi x2), (3, xi x3)] [] m (r154 x1 x2 x3 m)) : ∀ x1 x2 x3 m, w32 x1 = x1 → w32 x2 = x2 → w32 x3 = x3 → xS B xs SL (d + 8) 178 (4, (some .int), [], 1) 1 154 [(0, xa 0), (1, xi x1), (2, xi x2), (3, xi x3)] [] m (yl178_154 B r154 x1 x2 x3 m) := by
  intro x1 x2 x3 m c1 c2 c3
  unfold yl178_154
  refine xS_of (pc' := 162) (L' := [(0, xa 0), (1, xi x1), (2, xi x2), (3, xi x3)]) (st' := [xi (xR m 508 11), xi x3]) (m' := m) (fun ex ns r q => ?_) ?_
  · refine xw_iload_n rfl rfl ?_
    refine xw_aload_n rfl rfl rfl ?_
    refine xw_gfR (n := 508) (e := 508) rfl (xw_obd (by decide +kernel)) (by decide +kernel) (by decide +kernel) rfl ?_
    refine xw_gfIc (v := (m 508 11)) (v' := (xR m 508 11)) rfl (xw_obd (by decide +kernel)) xk10_11 (qi := 11) rfl rfl rfl ?_
    exact q
  refine xS_if (fun h0 => ?_) (fun h0 => ?_)
  · refine xS_g (fun g1 => ?_)
    refine xS_of (pc' := 154) (L' := [(0, xa 0), (1, xi x1), (2, xi x2), (3, xi (w32 (x3 + 1)))]) (st' := []) (m' := (xw_u m 512 x3 ((xR m 512 x3) + (xR m 419 x3)))) (fun ex ns r q => ?_) ?_
    · refine xw_ic_geF rfl (w32_cg c3) (w32_cg (w32_xR _ _ _)) (Int.not_le.mpr h0) ?_
      refine xw_aload_n rfl rfl rfl ?_
      refine xw_gfR (n := 508) (e := 508) rfl (xw_obd (by decide +kernel)) (by decide +kernel) (by decide +kernel) rfl ?_
      refine xw_gfR (n := 512) (e := 512) rfl (xw_obd (by decide +kernel)) (by decide +kernel) (by decide +kernel) rfl ?_
      refine xw_iload_n rfl rfl ?_
      refine xw_dup2 rfl rfl rfl ?_
      refine xw_ialdc (n := 16) (v := (m 512 x3)) (v' := (xR m 512 x3)) rfl hB (xw_obd (by decide +kernel)) rfl g1 rfl rfl ?_
      refine xw_aload_n rfl rfl rfl ?_
      refine xw_gfR (n := 419) (e := 419) rfl (xw_obd (by decide +kernel)) (by decide +kernel) (by decide +kernel) rfl ?_
      refine xw_iload_n rfl rfl ?_
      refine xw_ialdc (n := 16) (v := (m 419 x3)) (v' := (xR m 419 x3)) rfl hB (xw_obd (by decide +kernel)) rfl g1 rfl rfl ?_
      refine xw_iadd rfl ?_
      refine xw_iast (n := 16) rfl hB (xw_obd (by decide +kernel)) rfl g1 ?_
      refine xw_iincc (z := (w32 (x3 + 1))) (L' := [(3, xi (w32 (x3 + 1))), (0, xa 0), (1, xi x1), (2, xi x2)]) rfl rfl (by decide) rfl rfl ?_
      refine xw_goto rfl ?_
      refine xw_lo (L2 := [(0, xa 0), (1, xi x1), (2, xi x2), (3, xi (w32 (x3 + 1)))]) (List.forall_mem_cons.mpr ⟨rfl, List.forall_mem_cons.mpr ⟨rfl, List.forall_mem_cons.mpr ⟨rfl, List.forall_mem_cons.mpr ⟨rfl, fun _ h => absurd h List.not_mem_nil⟩⟩⟩⟩) ?_
      exact q
    exact hr154 _ _ _ _ c1 c2 (w32_w _)
  · refine xS_of (pc' := 203) (L' := [(0, xa 0)]) (st' := [xi x1, xi x2, xa 508]) (m' := (xw_u m 373 5 0)) (fun ex ns r q => ?_) ?_
    · refine xw_ic_geT rfl (w32_cg c3) (w32_cg (w32_xR _ _ _)) (Int.not_lt.mp h0) ?_
      refine xw_aload_n rfl rfl rfl ?_
      refine xw_gfR (n := 373) (e := 373) rfl (xw_obd (by decide +kernel)) (by decide +kernel) (by decide +kernel) rfl ?_
      refine xw_iconst rfl ?_
      refine xw_pfI rfl (xw_obd (by decide +kernel)) xk8_5 (qi := 5) rfl (xw_okI rfl) ?_
      refine xw_aload_n rfl rfl rfl ?_
      refine xw_gfR (n := 508) (e := 508) rfl (xw_obd (by decide +kernel)) (by decide +kernel) (by decide +kernel) rfl ?_
      refine xw_iload_n rfl rfl ?_
      refine xw_iload_n rfl rfl ?_
      refine xw_lo (L2 := [(0, xa 0)]) (List.forall_mem_cons.mpr ⟨rfl, fun _ h => absurd h List.not_mem_nil⟩) ?_
      exact q
    refine xS_call (q := 160) (n := 3) (kq := 4) (as := [xa 508, xi x2, xi x1]) (st1 := []) rfl rfl rfl rfl rfl rfl rfl rfl rfl rfl (fun _ => xw_rcv1 (t := 10) (xw_obd (by decide +kernel)) rfl) rfl (List.forall_mem_cons.mpr ⟨rfl, List.forall_mem_cons.mpr ⟨rfl, List.forall_mem_cons.mpr ⟨rfl, fun _ h => absurd h List.not_mem_nil⟩⟩⟩) (ygf160 hB _ _ _ c2 c1) (fun v1 m1 cv1 => ?_)
    refine xS_if (fun h1 => ?_) (fun h1 => ?_)
    · refine xS_of (pc' := 220) (L' := []) (st' := [xa 0]) (m' := m1) (fun ex ns r q => ?_) ?_
      · refine xw_if_eqT rfl (w32_cg (w32_of (xw_zr cv1))) h1 ?_
        refine xw_aload_n rfl rfl rfl ?_
        refine xw_lo (L2 := []) (fun _ h => absurd h List.not_mem_nil) ?_
        exact q
      refine xS_call (q := 163) (n := 1) (kq := 1) (as := [xa 0]) (st1 := []) rfl rfl rfl rfl rfl rfl rfl rfl rfl rfl (fun _ => xw_rcv1 (t := 0) (xw_obd (by decide +kernel)) rfl) rfl (List.forall_mem_cons.mpr ⟨rfl, fun _ h => absurd h List.not_mem_nil⟩) (ygf163 hB _) (fun v2 m2 cv2 => ?_)
      exact xS_ret (v := v2) rfl rfl xw_rtI cv2
    · refine xS_of (pc' := 223) (L' := [(0, xa 0)]) (st' := [xi (xR m1 508 9)]) (m' := m1) (fun ex ns r q => ?_) ?_
      · refine xw_if_eqF rfl (w32_cg (w32_of (xw_zr cv1))) h1 ?_
        refine xw_aload_n rfl rfl rfl ?_
        refine xw_gfR (n := 508) (e := 508) rfl (xw_obd (by decide +kernel)) (by decide +kernel) (by decide +kernel) rfl ?_
        refine xw_gfIc (v := (m1 508 9)) (v' := (xR m1 508 9)) rfl (xw_obd (by decide +kernel)) xk10_9 (qi := 9) rfl rfl rfl ?_
        refine xw_goto rfl ?_
        exact q
      exact xS_ret (v := (xR m1 508 9)) rfl rfl xw_rtI (w32_xR _ _ _)
theorem ygl178_154 {B : Nat} (hB : B ≤ 512) {xs : Nat → Int32} {SL d : Nat} : ∀ n x1 x2 x3 m, w32 x1 = x1 → w32 x2 = x2 → w32 x3 = x3 → xS B xs SL (d + 8) 178 (4, (some .int), [], 1) 1 154 [(0, xa 0), (1, xi x1), (2, xi x2), (3, xi x3)] [] m (xl3 (yl178_154 B) n x1 x2 x3 m) := by
  intro n
  induction n with
  | zero => intro x1 x2 x3 m c1 c2 c3; exact xS_none
  | succ n ih => exact ysl178_154 hB ih
theorem ygf178 {B : Nat} (hB : B ≤ 512) {xs : Nat → Int32} {SL d : Nat} : ∀ m, xS B xs SL (d + 8) 178 (4, (some .int), [], 1) 1 0 [(0, xa 0)] [] m (yf178 B m) := by
  intro m
  unfold yf178
  refine xS_of (pc' := 1) (L' := [(0, xa 0)]) (st' := [xa 0]) (m' := m) (fun ex ns r q => ?_) ?_
  · refine xw_aload_n rfl rfl rfl ?_
    refine xw_lo (L2 := [(0, xa 0)]) (List.forall_mem_cons.mpr ⟨rfl, fun _ h => absurd h List.not_mem_nil⟩) ?_
    exact q
  refine xS_call (q := 166) (n := 1) (kq := 0) (as := [xa 0]) (st1 := []) rfl rfl rfl rfl rfl rfl rfl rfl rfl rfl (fun _ => xw_rcv1 (t := 0) (xw_obd (by decide +kernel)) rfl) rfl (List.forall_mem_cons.mpr ⟨rfl, fun _ h => absurd h List.not_mem_nil⟩) (ygf166 hB _) (fun v1 m1 cv1 => ?_)
  refine xS_of (pc' := 11) (L' := [(0, xa 0)]) (st' := [xi (xR m1 373 5)]) (m' := m1) (fun ex ns r q => ?_) ?_
  · refine xw_aload_n rfl rfl rfl ?_
    refine xw_gfR (n := 373) (e := 373) rfl (xw_obd (by decide +kernel)) (by decide +kernel) (by decide +kernel) rfl ?_
    refine xw_gfIc (v := (m1 373 5)) (v' := (xR m1 373 5)) rfl (xw_obd (by decide +kernel)) xk8_5 (qi := 5) rfl rfl rfl ?_
    exact q
  refine xS_if (fun h0 => ?_) (fun h0 => ?_)
  · refine xS_of (pc' := 19) (L' := [(0, xa 0)]) (st' := [xi 1]) (m' := m1) (fun ex ns r q => ?_) ?_
    · refine xw_if_neF rfl (w32_cg (w32_xR _ _ _)) h0 ?_
      refine xw_iconst rfl ?_
      refine xw_goto rfl ?_
      refine xw_lo (L2 := [(0, xa 0)]) (List.forall_mem_cons.mpr ⟨rfl, fun _ h => absurd h List.not_mem_nil⟩) ?_
      exact q
    refine xS_call (q := 39) (n := 1) (kq := 0) (as := [xi 1]) (st1 := []) rfl rfl rfl rfl rfl rfl rfl rfl rfl rfl (fun _ => xw_rcv0 rfl) rfl (List.forall_mem_cons.mpr ⟨rfl, fun _ h => absurd h List.not_mem_nil⟩) (ygf39 hB _ _ rfl) (fun v2 m2 cv2 => ?_)
    refine xS_of (pc' := 32) (L' := [(0, xa 0)]) (st' := [xi 200, xi (xR m2 508 14)]) (m' := m2) (fun ex ns r q => ?_) ?_
    · refine xw_aload_n rfl rfl rfl ?_
      refine xw_gfR (n := 508) (e := 508) rfl (xw_obd (by decide +kernel)) (by decide +kernel) (by decide +kernel) rfl ?_
      refine xw_gfIc (v := (m2 508 14)) (v' := (xR m2 508 14)) rfl (xw_obd (by decide +kernel)) xk10_14 (qi := 14) rfl rfl rfl ?_
      refine xw_sipush (e := 200) rfl (by decide +kernel) ?_
      exact q
    refine xS_if (fun h1 => ?_) (fun h1 => ?_)
    · refine xS_of (pc' := 52) (L' := [(0, xa 0)]) (st' := [xi (w32 ((xR m2 508 11) + 1)), xi 2, xa 508]) (m' := m2) (fun ex ns r q => ?_) ?_
      · refine xw_ic_ltT rfl (w32_cg (w32_xR _ _ _)) (w32_cg rfl) h1 ?_
        refine xw_aload_n rfl rfl rfl ?_
        refine xw_gfR (n := 508) (e := 508) rfl (xw_obd (by decide +kernel)) (by decide +kernel) (by decide +kernel) rfl ?_
        refine xw_iconst rfl ?_
        refine xw_aload_n rfl rfl rfl ?_
        refine xw_gfR (n := 508) (e := 508) rfl (xw_obd (by decide +kernel)) (by decide +kernel) (by decide +kernel) rfl ?_
        refine xw_gfIc (v := (m2 508 11)) (v' := (xR m2 508 11)) rfl (xw_obd (by decide +kernel)) xk10_11 (qi := 11) rfl rfl rfl ?_
        refine xw_iconst rfl ?_
        refine xw_iadd rfl ?_
        refine xw_cst (st' := [xi (w32 ((xR m2 508 11) + 1)), xi 2, xa 508]) (xw_sc (xi_c rfl) (xw_sc rfl (xw_sc rfl rfl))) ?_
        refine xw_lo (L2 := [(0, xa 0)]) (List.forall_mem_cons.mpr ⟨rfl, fun _ h => absurd h List.not_mem_nil⟩) ?_
        exact q
      refine xS_call (q := 150) (n := 3) (kq := 0) (as := [xa 508, xi 2, xi (w32 ((xR m2 508 11) + 1))]) (st1 := []) rfl rfl rfl rfl rfl rfl rfl rfl rfl rfl (fun _ => xw_rcv1 (t := 10) (xw_obd (by decide +kernel)) rfl) rfl (List.forall_mem_cons.mpr ⟨rfl, List.forall_mem_cons.mpr ⟨rfl, List.forall_mem_cons.mpr ⟨rfl, fun _ h => absurd h List.not_mem_nil⟩⟩⟩) (ygf150 hB _ _ _ rfl (w32_w _)) (fun v3 m3 cv3 => ?_)
      refine xS_of (pc' := 60) (L' := [(0, xa 0)]) (st' := [xa 373, xa 0]) (m' := m3) (fun ex ns r q => ?_) ?_
      · refine xw_aload_n rfl rfl rfl ?_
        refine xw_aload_n rfl rfl rfl ?_
        refine xw_gfR (n := 373) (e := 373) rfl (xw_obd (by decide +kernel)) (by decide +kernel) (by decide +kernel) rfl ?_
        refine xw_lo (L2 := [(0, xa 0)]) (List.forall_mem_cons.mpr ⟨rfl, fun _ h => absurd h List.not_mem_nil⟩) ?_
        exact q
      refine xS_call (q := 179) (n := 2) (kq := 0) (as := [xa 0, xa 373]) (st1 := []) rfl rfl rfl rfl rfl rfl rfl rfl rfl rfl (fun _ => xw_rcv1 (t := 0) (xw_obd (by decide +kernel)) rfl) rfl (List.forall_mem_cons.mpr ⟨rfl, List.forall_mem_cons.mpr ⟨rfl, fun _ h => absurd h List.not_mem_nil⟩⟩) (ygf179 hB _ _) (fun v4 m4 cv4 => ?_)
      refine xS_of (pc' := 82) (L' := [(0, xa 0)]) (st' := [xi (xR m4 508 11), xa 511, xa 373, xa 0]) (m' := m4) (fun ex ns r q => ?_) ?_
      · refine xw_aload_n rfl rfl rfl ?_
        refine xw_aload_n rfl rfl rfl ?_
        refine xw_gfR (n := 373) (e := 373) rfl (xw_obd (by decide +kernel)) (by decide +kernel) (by decide +kernel) rfl ?_
        refine xw_aload_n rfl rfl rfl ?_
        refine xw_gfR (n := 508) (e := 508) rfl (xw_obd (by decide +kernel)) (by decide +kernel) (by decide +kernel) rfl ?_
        refine xw_gfR (n := 511) (e := 511) rfl (xw_obd (by decide +kernel)) (by decide +kernel) (by decide +kernel) rfl ?_
        refine xw_aload_n rfl rfl rfl ?_
        refine xw_gfR (n := 508) (e := 508) rfl (xw_obd (by decide +kernel)) (by decide +kernel) (by decide +kernel) rfl ?_
        refine xw_gfIc (v := (m4 508 11)) (v' := (xR m4 508 11)) rfl (xw_obd (by decide +kernel)) xk10_11 (qi := 11) rfl rfl rfl ?_
        refine xw_lo (L2 := [(0, xa 0)]) (List.forall_mem_cons.mpr ⟨rfl, fun _ h => absurd h List.not_mem_nil⟩) ?_
        exact q
      refine xS_call (q := 192) (n := 4) (kq := 0) (as := [xa 0, xa 373, xa 511, xi (xR m4 508 11)]) (st1 := []) rfl rfl rfl rfl rfl rfl rfl rfl rfl rfl (fun _ => xw_rcv1 (t := 0) (xw_obd (by decide +kernel)) rfl) rfl (List.forall_mem_cons.mpr ⟨rfl, List.forall_mem_cons.mpr ⟨rfl, List.forall_mem_cons.mpr ⟨rfl, List.forall_mem_cons.mpr ⟨rfl, fun _ h => absurd h List.not_mem_nil⟩⟩⟩⟩) (ygf192 hB _ _ _ _ (w32_xR _ _ _)) (fun v5 m5 cv5 => ?_)
      refine xS_of (pc' := 89) (L' := [(0, xa 0)]) (st' := [xa 508]) (m' := m5) (fun ex ns r q => ?_) ?_
      · refine xw_aload_n rfl rfl rfl ?_
        refine xw_gfR (n := 508) (e := 508) rfl (xw_obd (by decide +kernel)) (by decide +kernel) (by decide +kernel) rfl ?_
        refine xw_lo (L2 := [(0, xa 0)]) (List.forall_mem_cons.mpr ⟨rfl, fun _ h => absurd h List.not_mem_nil⟩) ?_
        exact q
      refine xS_call (q := 156) (n := 1) (kq := 1) (as := [xa 508]) (st1 := []) rfl rfl rfl rfl rfl rfl rfl rfl rfl rfl (fun _ => xw_rcv1 (t := 10) (xw_obd (by decide +kernel)) rfl) rfl (List.forall_mem_cons.mpr ⟨rfl, fun _ h => absurd h List.not_mem_nil⟩) (ygf156 hB _) (fun v6 m6 cv6 => ?_)
      refine xS_of (pc' := 98) (L' := [(0, xa 0), (1, xi v6)]) (st' := [xi v6, xa 508]) (m' := m6) (fun ex ns r q => ?_) ?_
      · refine xw_istore_n (L' := [(1, xi v6), (0, xa 0)]) rfl (by decide) rfl ?_
        refine xw_aload_n rfl rfl rfl ?_
        refine xw_gfR (n := 508) (e := 508) rfl (xw_obd (by decide +kernel)) (by decide +kernel) (by decide +kernel) rfl ?_
        refine xw_iload_n rfl rfl ?_
        refine xw_lo (L2 := [(0, xa 0), (1, xi v6)]) (List.forall_mem_cons.mpr ⟨rfl, List.forall_mem_cons.mpr ⟨rfl, fun _ h => absurd h List.not_mem_nil⟩⟩) ?_
        exact q
      refine xS_call (q := 157) (n := 2) (kq := 1) (as := [xa 508, xi v6]) (st1 := []) rfl rfl rfl rfl rfl rfl rfl rfl rfl rfl (fun _ => xw_rcv1 (t := 10) (xw_obd (by decide +kernel)) rfl) rfl (List.forall_mem_cons.mpr ⟨rfl, List.forall_mem_cons.mpr ⟨rfl, fun _ h => absurd h List.not_mem_nil⟩⟩) (ygf157 hB _ _ cv6) (fun v7 m7 cv7 => ?_)
      refine xS_of (pc' := 104) (L' := [(2, xi v7), (0, xa 0), (1, xi v6)]) (st' := [xi (-1), xi v7]) (m' := m7) (fun ex ns r q => ?_) ?_
      · refine xw_istore_n (L' := [(2, xi v7), (0, xa 0), (1, xi v6)]) rfl (by decide) rfl ?_
        refine xw_iload_n rfl rfl ?_
        refine xw_iconst rfl ?_
        exact q
      refine xS_if (fun h2 => ?_) (fun h2 => ?_)
      · refine xS_of (pc' := 109) (L' := [(2, xi v7), (0, xa 0), (1, xi v6)]) (st' := [xi (-2)]) (m' := m7) (fun ex ns r q => ?_) ?_
        · refine xw_ic_neF rfl (w32_cg cv7) (w32_cg rfl) h2 ?_
          refine xw_bipush (e := (-2)) rfl (by decide +kernel) ?_
          exact q
        exact xS_ret (v := (-2)) rfl rfl xw_rtI rfl
      · refine xS_of (pc' := 117) (L' := [(0, xa 0), (1, xi v6), (2, xi v7)]) (st' := [xi v6, xi v7, xi 2, xa 508]) (m' := m7) (fun ex ns r q => ?_) ?_
        · refine xw_ic_neT rfl (w32_cg cv7) (w32_cg rfl) h2 ?_
          refine xw_aload_n rfl rfl rfl ?_
          refine xw_gfR (n := 508) (e := 508) rfl (xw_obd (by decide +kernel)) (by decide +kernel) (by decide +kernel) rfl ?_
          refine xw_iconst rfl ?_
          refine xw_iload_n rfl rfl ?_
          refine xw_iload_n rfl rfl ?_
          refine xw_lo (L2 := [(0, xa 0), (1, xi v6), (2, xi v7)]) (List.forall_mem_cons.mpr ⟨rfl, List.forall_mem_cons.mpr ⟨rfl, List.forall_mem_cons.mpr ⟨rfl, fun _ h => absurd h List.not_mem_nil⟩⟩⟩) ?_
          exact q
        refine xS_call (q := 159) (n := 4) (kq := 0) (as := [xa 508, xi 2, xi v7, xi v6]) (st1 := []) rfl rfl rfl rfl rfl rfl rfl rfl rfl rfl (fun _ => xw_rcv1 (t := 10) (xw_obd (by decide +kernel)) rfl) rfl (List.forall_mem_cons.mpr ⟨rfl, List.forall_mem_cons.mpr ⟨rfl, List.forall_mem_cons.mpr ⟨rfl, List.forall_mem_cons.mpr ⟨rfl, fun _ h => absurd h List.not_mem_nil⟩⟩⟩⟩) (ygf159 hB _ _ _ _ rfl cv7 cv6) (fun v8 m8 cv8 => ?_)
        refine xS_of (pc' := 154) (L' := [(0, xa 0), (1, xi v6), (2, xi v7), (3, xi 0)]) (st' := []) (m' := (xw_u (xw_u m8 508 9 ((xR m8 508 9) + 1)) 508 10 ((xR m8 508 10) + (xR m8 373 5)))) (fun ex ns r q => ?_) ?_
        · refine xw_aload_n rfl rfl rfl ?_
          refine xw_gfR (n := 508) (e := 508) rfl (xw_obd (by decide +kernel)) (by decide +kernel) (by decide +kernel) rfl ?_
          refine xw_dup rfl rfl ?_
          refine xw_gfIc (v := (m8 508 9)) (v' := (xR m8 508 9)) rfl (xw_obd (by decide +kernel)) xk10_9 (qi := 9) rfl rfl rfl ?_
          refine xw_iconst rfl ?_
          refine xw_iadd rfl ?_
          refine xw_pfI rfl (xw_obd (by decide +kernel)) xk10_9 (qi := 9) rfl (xw_okI rfl) ?_
          refine xw_aload_n rfl rfl rfl ?_
          refine xw_gfR (n := 508) (e := 508) rfl (xw_obd (by decide +kernel)) (by decide +kernel) (by decide +kernel) rfl ?_
          refine xw_dup rfl rfl ?_
          refine xw_gfIc (v := (m8 508 10)) (v' := (xR m8 508 10)) rfl (xw_obd (by decide +kernel)) xk10_10 (qi := 10) rfl (xw_un (fun e => absurd e.2 (by decide)) rfl) rfl ?_
          refine xw_aload_n rfl rfl rfl ?_
          refine xw_gfR (n := 373) (e := 373) rfl (xw_obd (by decide +kernel)) (by decide +kernel) (by decide +kernel) rfl ?_
          refine xw_gfIc (v := (m8 373 5)) (v' := (xR m8 373 5)) rfl (xw_obd (by decide +kernel)) xk8_5 (qi := 5) rfl (xw_un (fun e => absurd e.1 (by decide)) rfl) rfl ?_
          refine xw_iadd rfl ?_
          refine xw_pfI rfl (xw_obd (by decide +kernel)) xk10_10 (qi := 10) rfl (xw_okI rfl) ?_
          refine xw_iconst rfl ?_
          refine xw_istore_n (L' := [(3, xi 0), (0, xa 0), (1, xi v6), (2, xi v7)]) rfl (by decide) rfl ?_
          refine xw_lo (L2 := [(0, xa 0), (1, xi v6), (2, xi v7), (3, xi 0)]) (List.forall_mem_cons.mpr ⟨rfl, List.forall_mem_cons.mpr ⟨rfl, List.forall_mem_cons.mpr ⟨rfl, List.forall_mem_cons.mpr ⟨rfl, fun _ h => absurd h List.not_mem_nil⟩⟩⟩⟩) ?_
          exact q
        exact ygl178_154 hB 1000000 _ _ _ _ cv6 cv7 rfl
    · refine xS_of (pc' := 37) (L' := [(0, xa 0)]) (st' := [xi (-2)]) (m' := m2) (fun ex ns r q => ?_) ?_
      · refine xw_ic_ltF rfl (w32_cg (w32_xR _ _ _)) (w32_cg rfl) h1 ?_
        refine xw_bipush (e := (-2)) rfl (by decide +kernel) ?_
        exact q
      exact xS_ret (v := (-2)) rfl rfl xw_rtI rfl
  · refine xS_of (pc' := 19) (L' := [(0, xa 0)]) (st' := [xi 0]) (m' := m1) (fun ex ns r q => ?_) ?_
    · refine xw_if_neT rfl (w32_cg (w32_xR _ _ _)) h0 ?_
      refine xw_iconst rfl ?_
      refine xw_lo (L2 := [(0, xa 0)]) (List.forall_mem_cons.mpr ⟨rfl, fun _ h => absurd h List.not_mem_nil⟩) ?_
      exact q
    refine xS_call (q := 39) (n := 1) (kq := 0) (as := [xi 0]) (st1 := []) rfl rfl rfl rfl rfl rfl rfl rfl rfl rfl (fun _ => xw_rcv0 rfl) rfl (List.forall_mem_cons.mpr ⟨rfl, fun _ h => absurd h List.not_mem_nil⟩) (ygf39 hB _ _ rfl) (fun v9 m9 cv9 => ?_)
    refine xS_of (pc' := 32) (L' := [(0, xa 0)]) (st' := [xi 200, xi (xR m9 508 14)]) (m' := m9) (fun ex ns r q => ?_) ?_
    · refine xw_aload_n rfl rfl rfl ?_
      refine xw_gfR (n := 508) (e := 508) rfl (xw_obd (by decide +kernel)) (by decide +kernel) (by decide +kernel) rfl ?_
      refine xw_gfIc (v := (m9 508 14)) (v' := (xR m9 508 14)) rfl (xw_obd (by decide +kernel)) xk10_14 (qi := 14) rfl rfl rfl ?_
      refine xw_sipush (e := 200) rfl (by decide +kernel) ?_
      exact q
    refine xS_if (fun h1 => ?_) (fun h1 => ?_)
    · refine xS_of (pc' := 52) (L' := [(0, xa 0)]) (st' := [xi (w32 ((xR m9 508 11) + 1)), xi 2, xa 508]) (m' := m9) (fun ex ns r q => ?_) ?_
      · refine xw_ic_ltT rfl (w32_cg (w32_xR _ _ _)) (w32_cg rfl) h1 ?_
        refine xw_aload_n rfl rfl rfl ?_
        refine xw_gfR (n := 508) (e := 508) rfl (xw_obd (by decide +kernel)) (by decide +kernel) (by decide +kernel) rfl ?_
        refine xw_iconst rfl ?_
        refine xw_aload_n rfl rfl rfl ?_
        refine xw_gfR (n := 508) (e := 508) rfl (xw_obd (by decide +kernel)) (by decide +kernel) (by decide +kernel) rfl ?_
        refine xw_gfIc (v := (m9 508 11)) (v' := (xR m9 508 11)) rfl (xw_obd (by decide +kernel)) xk10_11 (qi := 11) rfl rfl rfl ?_
        refine xw_iconst rfl ?_
        refine xw_iadd rfl ?_
        refine xw_cst (st' := [xi (w32 ((xR m9 508 11) + 1)), xi 2, xa 508]) (xw_sc (xi_c rfl) (xw_sc rfl (xw_sc rfl rfl))) ?_
        refine xw_lo (L2 := [(0, xa 0)]) (List.forall_mem_cons.mpr ⟨rfl, fun _ h => absurd h List.not_mem_nil⟩) ?_
        exact q
      refine xS_call (q := 150) (n := 3) (kq := 0) (as := [xa 508, xi 2, xi (w32 ((xR m9 508 11) + 1))]) (st1 := []) rfl rfl rfl rfl rfl rfl rfl rfl rfl rfl (fun _ => xw_rcv1 (t := 10) (xw_obd (by decide +kernel)) rfl) rfl (List.forall_mem_cons.mpr ⟨rfl, List.forall_mem_cons.mpr ⟨rfl, List.forall_mem_cons.mpr ⟨rfl, fun _ h => absurd h List.not_mem_nil⟩⟩⟩) (ygf150 hB _ _ _ rfl (w32_w _)) (fun v10 m10 cv10 => ?_)
      refine xS_of (pc' := 60) (L' := [(0, xa 0)]) (st' := [xa 373, xa 0]) (m' := m10) (fun ex ns r q => ?_) ?_
      · refine xw_aload_n rfl rfl rfl ?_
        refine xw_aload_n rfl rfl rfl ?_
        refine xw_gfR (n := 373) (e := 373) rfl (xw_obd (by decide +kernel)) (by decide +kernel) (by decide +kernel) rfl ?_
        refine xw_lo (L2 := [(0, xa 0)]) (List.forall_mem_cons.mpr ⟨rfl, fun _ h => absurd h List.not_mem_nil⟩) ?_
        exact q
      refine xS_call (q := 179) (n := 2) (kq := 0) (as := [xa 0, xa 373]) (st1 := []) rfl rfl rfl rfl rfl rfl rfl rfl rfl rfl (fun _ => xw_rcv1 (t := 0) (xw_obd (by decide +kernel)) rfl) rfl (List.forall_mem_cons.mpr ⟨rfl, List.forall_mem_cons.mpr ⟨rfl, fun _ h => absurd h List.not_mem_nil⟩⟩) (ygf179 hB _ _) (fun v11 m11 cv11 => ?_)
      refine xS_of (pc' := 82) (L' := [(0, xa 0)]) (st' := [xi (xR m11 508 11), xa 511, xa 373, xa 0]) (m' := m11) (fun ex ns r q => ?_) ?_
      · refine xw_aload_n rfl rfl rfl ?_
        refine xw_aload_n rfl rfl rfl ?_
        refine xw_gfR (n := 373) (e := 373) rfl (xw_obd (by decide +kernel)) (by decide +kernel) (by decide +kernel) rfl ?_
        refine xw_aload_n rfl rfl rfl ?_
        refine xw_gfR (n := 508) (e := 508) rfl (xw_obd (by decide +kernel)) (by decide +kernel) (by decide +kernel) rfl ?_
        refine xw_gfR (n := 511) (e := 511) rfl (xw_obd (by decide +kernel)) (by decide +kernel) (by decide +kernel) rfl ?_
        refine xw_aload_n rfl rfl rfl ?_
        refine xw_gfR (n := 508) (e := 508) rfl (xw_obd (by decide +kernel)) (by decide +kernel) (by decide +kernel) rfl ?_
        refine xw_gfIc (v := (m11 508 11)) (v' := (xR m11 508 11)) rfl (xw_obd (by decide +kernel)) xk10_11 (qi := 11) rfl rfl rfl ?_
        refine xw_lo (L2 := [(0, xa 0)]) (List.forall_mem_cons.mpr ⟨rfl, fun _ h => absurd h List.not_mem_nil⟩) ?_
        exact q
      refine xS_call (q := 192) (n := 4) (kq := 0) (as := [xa 0, xa 373, xa 511, xi (xR m11 508 11)]) (st1 := []) rfl rfl rfl rfl rfl rfl rfl rfl rfl rfl (fun _ => xw_rcv1 (t := 0) (xw_obd (by decide +kernel)) rfl) rfl (List.forall_mem_cons.mpr ⟨rfl, List.forall_mem_cons.mpr ⟨rfl, List.forall_mem_cons.mpr ⟨rfl, List.forall_mem_cons.mpr ⟨rfl, fun _ h => absurd h List.not_mem_nil⟩⟩⟩⟩) (ygf192 hB _ _ _ _ (w32_xR _ _ _)) (fun v12 m12 cv12 => ?_)
      refine xS_of (pc' := 89) (L' := [(0, xa 0)]) (st' := [xa 508]) (m' := m12) (fun ex ns r q => ?_) ?_
      · refine xw_aload_n rfl rfl rfl ?_
        refine xw_gfR (n := 508) (e := 508) rfl (xw_obd (by decide +kernel)) (by decide +kernel) (by decide +kernel) rfl ?_
        refine xw_lo (L2 := [(0, xa 0)]) (List.forall_mem_cons.mpr ⟨rfl, fun _ h => absurd h List.not_mem_nil⟩) ?_
        exact q
      refine xS_call (q := 156) (n := 1) (kq := 1) (as := [xa 508]) (st1 := []) rfl rfl rfl rfl rfl rfl rfl rfl rfl rfl (fun _ => xw_rcv1 (t := 10) (xw_obd (by decide +kernel)) rfl) rfl (List.forall_mem_cons.mpr ⟨rfl, fun _ h => absurd h List.not_mem_nil⟩) (ygf156 hB _) (fun v13 m13 cv13 => ?_)
      refine xS_of (pc' := 98) (L' := [(0, xa 0), (1, xi v13)]) (st' := [xi v13, xa 508]) (m' := m13) (fun ex ns r q => ?_) ?_
      · refine xw_istore_n (L' := [(1, xi v13), (0, xa 0)]) rfl (by decide) rfl ?_
        refine xw_aload_n rfl rfl rfl ?_
        refine xw_gfR (n := 508) (e := 508) rfl (xw_obd (by decide +kernel)) (by decide +kernel) (by decide +kernel) rfl ?_
        refine xw_iload_n rfl rfl ?_
        refine xw_lo (L2 := [(0, xa 0), (1, xi v13)]) (List.forall_mem_cons.mpr ⟨rfl, List.forall_mem_cons.mpr ⟨rfl, fun _ h => absurd h List.not_mem_nil⟩⟩) ?_
        exact q
      refine xS_call (q := 157) (n := 2) (kq := 1) (as := [xa 508, xi v13]) (st1 := []) rfl rfl rfl rfl rfl rfl rfl rfl rfl rfl (fun _ => xw_rcv1 (t := 10) (xw_obd (by decide +kernel)) rfl) rfl (List.forall_mem_cons.mpr ⟨rfl, List.forall_mem_cons.mpr ⟨rfl, fun _ h => absurd h List.not_mem_nil⟩⟩) (ygf157 hB _ _ cv13) (fun v14 m14 cv14 => ?_)
      refine xS_of (pc' := 104) (L' := [(2, xi v14), (0, xa 0), (1, xi v13)]) (st' := [xi (-1), xi v14]) (m' := m14) (fun ex ns r q => ?_) ?_
      · refine xw_istore_n (L' := [(2, xi v14), (0, xa 0), (1, xi v13)]) rfl (by decide) rfl ?_
        refine xw_iload_n rfl rfl ?_
        refine xw_iconst rfl ?_
        exact q
      refine xS_if (fun h2 => ?_) (fun h2 => ?_)
      · refine xS_of (pc' := 109) (L' := [(2, xi v14), (0, xa 0), (1, xi v13)]) (st' := [xi (-2)]) (m' := m14) (fun ex ns r q => ?_) ?_
        · refine xw_ic_neF rfl (w32_cg cv14) (w32_cg rfl) h2 ?_
          refine xw_bipush (e := (-2)) rfl (by decide +kernel) ?_
          exact q
        exact xS_ret (v := (-2)) rfl rfl xw_rtI rfl
      · refine xS_of (pc' := 117) (L' := [(0, xa 0), (1, xi v13), (2, xi v14)]) (st' := [xi v13, xi v14, xi 2, xa 508]) (m' := m14) (fun ex ns r q => ?_) ?_
        · refine xw_ic_neT rfl (w32_cg cv14) (w32_cg rfl) h2 ?_
          refine xw_aload_n rfl rfl rfl ?_
          refine xw_gfR (n := 508) (e := 508) rfl (xw_obd (by decide +kernel)) (by decide +kernel) (by decide +kernel) rfl ?_
          refine xw_iconst rfl ?_
          refine xw_iload_n rfl rfl ?_
          refine xw_iload_n rfl rfl ?_
          refine xw_lo (L2 := [(0, xa 0), (1, xi v13), (2, xi v14)]) (List.forall_mem_cons.mpr ⟨rfl, List.forall_mem_cons.mpr ⟨rfl, List.forall_mem_cons.mpr ⟨rfl, fun _ h => absurd h List.not_mem_nil⟩⟩⟩) ?_
          exact q
        refine xS_call (q := 159) (n := 4) (kq := 0) (as := [xa 508, xi 2, xi v14, xi v13]) (st1 := []) rfl rfl rfl rfl rfl rfl rfl rfl rfl rfl (fun _ => xw_rcv1 (t := 10) (xw_obd (by decide +kernel)) rfl) rfl (List.forall_mem_cons.mpr ⟨rfl, List.forall_mem_cons.mpr ⟨rfl, List.forall_mem_cons.mpr ⟨rfl, List.forall_mem_cons.mpr ⟨rfl, fun _ h => absurd h List.not_mem_nil⟩⟩⟩⟩) (ygf159 hB _ _ _ _ rfl cv14 cv13) (fun v15 m15 cv15 => ?_)
        refine xS_of (pc' := 154) (L' := [(0, xa 0), (1, xi v13), (2, xi v14), (3, xi 0)]) (st' := []) (m' := (xw_u (xw_u m15 508 9 ((xR m15 508 9) + 1)) 508 10 ((xR m15 508 10) + (xR m15 373 5)))) (fun ex ns r q => ?_) ?_
        · refine xw_aload_n rfl rfl rfl ?_
          refine xw_gfR (n := 508) (e := 508) rfl (xw_obd (by decide +kernel)) (by decide +kernel) (by decide +kernel) rfl ?_
          refine xw_dup rfl rfl ?_
          refine xw_gfIc (v := (m15 508 9)) (v' := (xR m15 508 9)) rfl (xw_obd (by decide +kernel)) xk10_9 (qi := 9) rfl rfl rfl ?_
          refine xw_iconst rfl ?_
          refine xw_iadd rfl ?_
          refine xw_pfI rfl (xw_obd (by decide +kernel)) xk10_9 (qi := 9) rfl (xw_okI rfl) ?_
          refine xw_aload_n rfl rfl rfl ?_
          refine xw_gfR (n := 508) (e := 508) rfl (xw_obd (by decide +kernel)) (by decide +kernel) (by decide +kernel) rfl ?_
          refine xw_dup rfl rfl ?_
          refine xw_gfIc (v := (m15 508 10)) (v' := (xR m15 508 10)) rfl (xw_obd (by decide +kernel)) xk10_10 (qi := 10) rfl (xw_un (fun e => absurd e.2 (by decide)) rfl) rfl ?_
          refine xw_aload_n rfl rfl rfl ?_
          refine xw_gfR (n := 373) (e := 373) rfl (xw_obd (by decide +kernel)) (by decide +kernel) (by decide +kernel) rfl ?_
          refine xw_gfIc (v := (m15 373 5)) (v' := (xR m15 373 5)) rfl (xw_obd (by decide +kernel)) xk8_5 (qi := 5) rfl (xw_un (fun e => absurd e.1 (by decide)) rfl) rfl ?_
          refine xw_iadd rfl ?_
          refine xw_pfI rfl (xw_obd (by decide +kernel)) xk10_10 (qi := 10) rfl (xw_okI rfl) ?_
          refine xw_iconst rfl ?_
          refine xw_istore_n (L' := [(3, xi 0), (0, xa 0), (1, xi v13), (2, xi v14)]) rfl (by decide) rfl ?_
          refine xw_lo (L2 := [(0, xa 0), (1, xi v13), (2, xi v14), (3, xi 0)]) (List.forall_mem_cons.mpr ⟨rfl, List.forall_mem_cons.mpr ⟨rfl, List.forall_mem_cons.mpr ⟨rfl, List.forall_mem_cons.mpr ⟨rfl, fun _ h => absurd h List.not_mem_nil⟩⟩⟩⟩) ?_
          exact q
        exact ygl178_154 hB 1000000 _ _ _ _ cv13 cv14 rfl
    · refine xS_of (pc' := 37) (L' := [(0, xa 0)]) (st' := [xi (-2)]) (m' := m9) (fun ex ns r q => ?_) ?_
      · refine xw_ic_ltF rfl (w32_cg (w32_xR _ _ _)) (w32_cg rfl) h1 ?_
        refine xw_bipush (e := (-2)) rfl (by decide +kernel) ?_
        exact q
      exact xS_ret (v := (-2)) rfl rfl xw_rtI rfl

theorem ysl201_4 {B : Nat} (hB : B ≤ 512) {xs : Nat → Int32} {SL d : Nat} {r4 : Int → Int → xw_M → xP} (hr4 : ∀ x1 x2 m, w32 x1 = x1 → w32 x2 = x2 → xS B xs SL (d + 0) 201 (3, (some .int), [], 3) 1 4 [(0, xa 3), (1, xi x1), (2, xi x2)] [] m (r4 x1 x2 m)) : ∀ x1 x2 m, w32 x1 = x1 → w32 x2 = x2 → xS B xs SL (d + 0) 201 (3, (some .int), [], 3) 1 4 [(0, xa 3), (1, xi x1), (2, xi x2)] [] m (yl201_4 B r4 x1 x2 m) := by
  intro x1 x2 m c1 c2
  unfold yl201_4
  refine xS_of (pc' := 9) (L' := [(0, xa 3), (1, xi x1), (2, xi x2)]) (st' := [xi (xR m 3 1), xi x2]) (m' := m) (fun ex ns r q => ?_) ?_
  · refine xw_iload_n rfl rfl ?_
    refine xw_aload_n rfl rfl rfl ?_
    refine xw_gfIc (v := (m 3 1)) (v' := (xR m 3 1)) rfl (xw_obd (by decide +kernel)) xk2_1 (qi := 1) rfl rfl rfl ?_
    exact q
  refine xS_if (fun h0 => ?_) (fun h0 => ?_)
  · refine xS_g (fun g1 => ?_)
    refine xS_g (fun g2 => ?_)
    refine xS_of (pc' := 4) (L' := [(0, xa 3), (1, xi (w32 (x1 * ((xR m (15 + (26 * x2)) 10) + 1)))), (2, xi (w32 (x2 + 1)))]) (st' := []) (m' := m) (fun ex ns r q => ?_) ?_
    · refine xw_ic_geF rfl (w32_cg c2) (w32_cg (w32_xR _ _ _)) (Int.not_le.mpr h0) ?_
      refine xw_iload_n rfl rfl ?_
      refine xw_aload_n rfl rfl rfl ?_
      refine xw_gfR (n := 4) (e := 4) rfl (xw_obd (by decide +kernel)) (by decide +kernel) (by decide +kernel) rfl ?_
      refine xw_iload_n rfl rfl ?_
      refine xw_aald (t := 23) (n := 8) (q := 15 + 26 * (x2).toNat) (e := (15 + (26 * x2))) rfl hB (xw_obd (by decide +kernel)) (by decide) rfl g1 (show 20 + 26 * (x2 : Int).toNat = 15 + 26 * (x2 : Int).toNat + 5 from by omega) (by have := g1; omega) ?_
      refine xw_gfIc (v := (m (15 + (26 * x2)) 10)) (v' := (xR m (15 + (26 * x2)) 10)) rfl (xw_obd g2) xk3_10 (qi := 10) rfl rfl rfl ?_
      refine xw_iconst rfl ?_
      refine xw_iadd rfl ?_
      refine xw_imul rfl ?_
      refine xw_cst (st' := [xi (w32 (x1 * ((xR m (15 + (26 * x2)) 10) + 1)))]) (xw_sc (xi_c rfl) rfl) ?_
      refine xw_istore_n (L' := [(1, xi (w32 (x1 * ((xR m (15 + (26 * x2)) 10) + 1)))), (0, xa 3), (2, xi x2)]) rfl (by decide) rfl ?_
      refine xw_iincc (z := (w32 (x2 + 1))) (L' := [(2, xi (w32 (x2 + 1))), (1, xi (w32 (x1 * ((xR m (15 + (26 * x2)) 10) + 1)))), (0, xa 3)]) rfl rfl (by decide) rfl rfl ?_
      refine xw_goto rfl ?_
      refine xw_lo (L2 := [(0, xa 3), (1, xi (w32 (x1 * ((xR m (15 + (26 * x2)) 10) + 1)))), (2, xi (w32 (x2 + 1)))]) (List.forall_mem_cons.mpr ⟨rfl, List.forall_mem_cons.mpr ⟨rfl, List.forall_mem_cons.mpr ⟨rfl, fun _ h => absurd h List.not_mem_nil⟩⟩⟩) ?_
      exact q
    exact hr4 _ _ _ (w32_w _) (w32_w _)
  · refine xS_of (pc' := 33) (L' := [(0, xa 3), (1, xi x1), (2, xi x2)]) (st' := [xi x1]) (m' := m) (fun ex ns r q => ?_) ?_
    · refine xw_ic_geT rfl (w32_cg c2) (w32_cg (w32_xR _ _ _)) (Int.not_lt.mp h0) ?_
      refine xw_iload_n rfl rfl ?_
      exact q
    exact xS_ret (v := x1) rfl rfl xw_rtI c1
theorem ygl201_4 {B : Nat} (hB : B ≤ 512) {xs : Nat → Int32} {SL d : Nat} : ∀ n x1 x2 m, w32 x1 = x1 → w32 x2 = x2 → xS B xs SL (d + 0) 201 (3, (some .int), [], 3) 1 4 [(0, xa 3), (1, xi x1), (2, xi x2)] [] m (xl2 (yl201_4 B) n x1 x2 m) := by
  intro n
  induction n with
  | zero => intro x1 x2 m c1 c2; exact xS_none
  | succ n ih => exact ysl201_4 hB ih
theorem ygf201 {B : Nat} (hB : B ≤ 512) {xs : Nat → Int32} {SL d : Nat} : ∀ m, xS B xs SL (d + 0) 201 (3, (some .int), [], 3) 1 0 [(0, xa 3)] [] m (yf201 B m) := by
  intro m
  unfold yf201
  refine xS_of (pc' := 4) (L' := [(0, xa 3), (1, xi 1), (2, xi 0)]) (st' := []) (m' := m) (fun ex ns r q => ?_) ?_
  · refine xw_iconst rfl ?_
    refine xw_istore_n (L' := [(1, xi 1), (0, xa 3)]) rfl (by decide) rfl ?_
    refine xw_iconst rfl ?_
    refine xw_istore_n (L' := [(2, xi 0), (1, xi 1), (0, xa 3)]) rfl (by decide) rfl ?_
    refine xw_lo (L2 := [(0, xa 3), (1, xi 1), (2, xi 0)]) (List.forall_mem_cons.mpr ⟨rfl, List.forall_mem_cons.mpr ⟨rfl, List.forall_mem_cons.mpr ⟨rfl, fun _ h => absurd h List.not_mem_nil⟩⟩⟩) ?_
    exact q
  exact ygl201_4 hB 1000000 _ _ _ rfl rfl
theorem ysl204_5 {B : Nat} (hB : B ≤ 512) {xs : Nat → Int32} {SL d : Nat} {r5 : Int → Int → Int → Int → xw_M → xP} (hr5 : ∀ x1 x2 x3 x5 m, w32 x1 = x1 → w32 x2 = x2 → w64 x3 = x3 → w32 x5 = x5 → xS B xs SL (d + 1) 204 (7, (some .int), [], 7) 1 5 [(0, xa 295), (1, xi x1), (2, xi x2), (3, xj x3), (5, xi x5)] [] m (r5 x1 x2 x3 x5 m)) : ∀ x1 x2 x3 x5 m, w32 x1 = x1 → w32 x2 = x2 → w64 x3 = x3 → w32 x5 = x5 → xS B xs SL (d + 1) 204 (7, (some .int), [], 7) 1 5 [(0, xa 295), (1, xi x1), (2, xi x2), (3, xj x3), (5, xi x5)] [] m (yl204_5 B r5 x1 x2 x3 x5 m) := by
  intro x1 x2 x3 x5 m c1 c2 c3 c5
  unfold yl204_5
  refine xS_of (pc' := 14) (L' := [(0, xa 295), (1, xi x1), (2, xi x2), (3, xj x3), (5, xi x5)]) (st' := [xi (xR m 3 1), xi x5]) (m' := m) (fun ex ns r q => ?_) ?_
  · refine xw_iload rfl rfl ?_
    refine xw_aload_n rfl rfl rfl ?_
    refine xw_gfR (n := 3) (e := 3) rfl (xw_obd (by decide +kernel)) (by decide +kernel) (by decide +kernel) rfl ?_
    refine xw_gfIc (v := (m 3 1)) (v' := (xR m 3 1)) rfl (xw_obd (by decide +kernel)) xk2_1 (qi := 1) rfl rfl rfl ?_
    exact q
  refine xS_if (fun h0 => ?_) (fun h0 => ?_)
  · refine xS_of (pc' := 24) (L' := [(0, xa 295), (1, xi x1), (2, xi x2), (3, xj x3), (5, xi x5)]) (st' := [xi x5, xi x1, xa 3]) (m' := m) (fun ex ns r q => ?_) ?_
    · refine xw_ic_geF rfl (w32_cg c5) (w32_cg (w32_xR _ _ _)) (Int.not_le.mpr h0) ?_
      refine xw_aload_n rfl rfl rfl ?_
      refine xw_gfR (n := 3) (e := 3) rfl (xw_obd (by decide +kernel)) (by decide +kernel) (by decide +kernel) rfl ?_
      refine xw_iload_n rfl rfl ?_
      refine xw_iload rfl rfl ?_
      refine xw_lo (L2 := [(0, xa 295), (1, xi x1), (2, xi x2), (3, xj x3), (5, xi x5)]) (List.forall_mem_cons.mpr ⟨rfl, List.forall_mem_cons.mpr ⟨rfl, List.forall_mem_cons.mpr ⟨rfl, List.forall_mem_cons.mpr ⟨rfl, List.forall_mem_cons.mpr ⟨rfl, fun _ h => absurd h List.not_mem_nil⟩⟩⟩⟩⟩) ?_
      exact q
    refine xS_call (q := 97) (n := 3) (kq := 1) (as := [xa 3, xi x1, xi x5]) (st1 := []) rfl rfl rfl rfl rfl rfl rfl rfl rfl rfl (fun _ => xw_rcv1 (t := 2) (xw_obd (by decide +kernel)) rfl) rfl (List.forall_mem_cons.mpr ⟨rfl, List.forall_mem_cons.mpr ⟨rfl, List.forall_mem_cons.mpr ⟨rfl, fun _ h => absurd h List.not_mem_nil⟩⟩⟩) (ygf97 hB _ _ _ c1 c5) (fun v1 m1 cv1 => ?_)
    refine xS_g (fun g1 => ?_)
    refine xS_g (fun g2 => ?_)
    refine xS_of (pc' := 44) (L' := [(6, xi v1), (0, xa 295), (1, xi x1), (2, xi x2), (3, xj x3), (5, xi x5)]) (st' := [xi (xR m1 (15 + (26 * x5)) 10), xi v1]) (m' := m1) (fun ex ns r q => ?_) ?_
    · refine xw_istore (L' := [(6, xi v1), (0, xa 295), (1, xi x1), (2, xi x2), (3, xj x3), (5, xi x5)]) rfl (by decide) rfl ?_
      refine xw_iload rfl rfl ?_
      refine xw_aload_n rfl rfl rfl ?_
      refine xw_gfR (n := 3) (e := 3) rfl (xw_obd (by decide +kernel)) (by decide +kernel) (by decide +kernel) rfl ?_
      refine xw_gfR (n := 4) (e := 4) rfl (xw_obd (by decide +kernel)) (by decide +kernel) (by decide +kernel) rfl ?_
      refine xw_iload rfl rfl ?_
      refine xw_aald (t := 23) (n := 8) (q := 15 + 26 * (x5).toNat) (e := (15 + (26 * x5))) rfl hB (xw_obd (by decide +kernel)) (by decide) rfl g1 (show 20 + 26 * (x5 : Int).toNat = 15 + 26 * (x5 : Int).toNat + 5 from by omega) (by have := g1; omega) ?_
      refine xw_gfIc (v := (m1 (15 + (26 * x5)) 10)) (v' := (xR m1 (15 + (26 * x5)) 10)) rfl (xw_obd g2) xk3_10 (qi := 10) rfl rfl rfl ?_
      exact q
    refine xS_if (fun h3 => ?_) (fun h3 => ?_)
    · refine xS_g (fun g4 => ?_)
      refine xS_g (fun g5 => ?_)
      refine xS_of (pc' := 5) (L' := [(0, xa 295), (1, xi x1), (2, xi x2), (3, xj (min x2 (w64 (x3 * (xR m1 (xw_rf (15 + (26 * x5)) 6) v1))))), (5, xi (w32 (x5 + 1)))]) (st' := []) (m' := m1) (fun ex ns r q => ?_) ?_
      · refine xw_ic_geF rfl (w32_cg cv1) (w32_cg (w32_xR _ _ _)) (Int.not_le.mpr h3) ?_
        refine xw_iload_n rfl rfl ?_
        refine xw_i2l rfl (w32_cg c2) ?_
        refine xw_lload_n rfl rfl ?_
        refine xw_aload_n rfl rfl rfl ?_
        refine xw_gfR (n := 3) (e := 3) rfl (xw_obd (by decide +kernel)) (by decide +kernel) (by decide +kernel) rfl ?_
        refine xw_gfR (n := 4) (e := 4) rfl (xw_obd (by decide +kernel)) (by decide +kernel) (by decide +kernel) rfl ?_
        refine xw_iload rfl rfl ?_
        refine xw_aald (t := 23) (n := 8) (q := 15 + 26 * (x5).toNat) (e := (15 + (26 * x5))) rfl hB (xw_obd (by decide +kernel)) (by decide) rfl g1 (show 20 + 26 * (x5 : Int).toNat = 15 + 26 * (x5 : Int).toNat + 5 from by omega) (by have := g1; omega) ?_
        refine xw_gfV (qi := 6) rfl (xw_obd g2) xk3_6 rfl ?_
        refine xw_iload rfl rfl ?_
        refine xw_ialdc (n := (xw_le B (xw_rf (15 + (26 * x5)) 6))) (v := (m1 (xw_rf (15 + (26 * x5)) 6) v1)) (v' := (xR m1 (xw_rf (15 + (26 * x5)) 6) v1)) rfl hB (xw_obd g5) rfl g4 rfl rfl ?_
        refine xw_i2l rfl (w32_cg (w32_xR _ _ _)) ?_
        refine xw_lmul rfl ?_
        refine xw_cst (st' := [xj (w64 (x3 * (xR m1 (xw_rf (15 + (26 * x5)) 6) v1))), xj x2]) (xw_sc (xj_c rfl) (xw_sc rfl rfl)) ?_
        refine xw_minJ rfl rfl (w64_cg (w64_32 c2)) (w64_cg (w64_w _)) rfl ?_
        refine xw_lstore_n (L' := [(3, xj (min x2 (w64 (x3 * (xR m1 (xw_rf (15 + (26 * x5)) 6) v1))))), (6, xi v1), (0, xa 295), (1, xi x1), (2, xi x2), (5, xi x5)]) rfl (by decide) rfl ?_
        refine xw_iincc (z := (w32 (x5 + 1))) (L' := [(5, xi (w32 (x5 + 1))), (3, xj (min x2 (w64 (x3 * (xR m1 (xw_rf (15 + (26 * x5)) 6) v1))))), (6, xi v1), (0, xa 295), (1, xi x1), (2, xi x2)]) rfl rfl (by decide) rfl rfl ?_
        refine xw_goto rfl ?_
        refine xw_lo (L2 := [(0, xa 295), (1, xi x1), (2, xi x2), (3, xj (min x2 (w64 (x3 * (xR m1 (xw_rf (15 + (26 * x5)) 6) v1))))), (5, xi (w32 (x5 + 1)))]) (List.forall_mem_cons.mpr ⟨rfl, List.forall_mem_cons.mpr ⟨rfl, List.forall_mem_cons.mpr ⟨rfl, List.forall_mem_cons.mpr ⟨rfl, List.forall_mem_cons.mpr ⟨rfl, fun _ h => absurd h List.not_mem_nil⟩⟩⟩⟩⟩) ?_
        exact q
      exact hr5 _ _ _ _ _ c1 c2 (w64_mn (w64_32 c2) (w64_w _)) (w32_w _)
    · refine xS_of (pc' := 5) (L' := [(0, xa 295), (1, xi x1), (2, xi x2), (3, xj x3), (5, xi (w32 (x5 + 1)))]) (st' := []) (m' := m1) (fun ex ns r q => ?_) ?_
      · refine xw_ic_geT rfl (w32_cg cv1) (w32_cg (w32_xR _ _ _)) (Int.not_lt.mp h3) ?_
        refine xw_iincc (z := (w32 (x5 + 1))) (L' := [(5, xi (w32 (x5 + 1))), (6, xi v1), (0, xa 295), (1, xi x1), (2, xi x2), (3, xj x3)]) rfl rfl (by decide) rfl rfl ?_
        refine xw_goto rfl ?_
        refine xw_lo (L2 := [(0, xa 295), (1, xi x1), (2, xi x2), (3, xj x3), (5, xi (w32 (x5 + 1)))]) (List.forall_mem_cons.mpr ⟨rfl, List.forall_mem_cons.mpr ⟨rfl, List.forall_mem_cons.mpr ⟨rfl, List.forall_mem_cons.mpr ⟨rfl, List.forall_mem_cons.mpr ⟨rfl, fun _ h => absurd h List.not_mem_nil⟩⟩⟩⟩⟩) ?_
        exact q
      exact hr5 _ _ _ _ _ c1 c2 c3 (w32_w _)
  · refine xS_of (pc' := 85) (L' := [(0, xa 295), (1, xi x1), (2, xi x2), (3, xj x3), (5, xi x5)]) (st' := [xi (w32 (min x2 x3))]) (m' := m) (fun ex ns r q => ?_) ?_
    · refine xw_ic_geT rfl (w32_cg c5) (w32_cg (w32_xR _ _ _)) (Int.not_lt.mp h0) ?_
      refine xw_iload_n rfl rfl ?_
      refine xw_i2l rfl (w32_cg c2) ?_
      refine xw_lload_n rfl rfl ?_
      refine xw_minJ rfl rfl (w64_cg (w64_32 c2)) (w64_cg c3) rfl ?_
      refine xw_l2i rfl ?_
      refine xw_cst (st' := [xi (w32 (min x2 x3))]) (xw_sc (xi_c rfl) rfl) ?_
      exact q
    exact xS_ret (v := (w32 (min x2 x3))) rfl rfl xw_rtI (w32_w _)
theorem ygl204_5 {B : Nat} (hB : B ≤ 512) {xs : Nat → Int32} {SL d : Nat} : ∀ n x1 x2 x3 x5 m, w32 x1 = x1 → w32 x2 = x2 → w64 x3 = x3 → w32 x5 = x5 → xS B xs SL (d + 1) 204 (7, (some .int), [], 7) 1 5 [(0, xa 295), (1, xi x1), (2, xi x2), (3, xj x3), (5, xi x5)] [] m (xl4 (yl204_5 B) n x1 x2 x3 x5 m) := by
  intro n
  induction n with
  | zero => intro x1 x2 x3 x5 m c1 c2 c3 c5; exact xS_none
  | succ n ih => exact ysl204_5 hB ih
theorem ygf204 {B : Nat} (hB : B ≤ 512) {xs : Nat → Int32} {SL d : Nat} : ∀ p0 p1 m, w32 p0 = p0 → w32 p1 = p1 → xS B xs SL (d + 1) 204 (7, (some .int), [], 7) 1 0 [(0, xa 295), (1, xi p0), (2, xi p1)] [] m (yf204 B p0 p1 m) := by
  intro p0 p1 m cp0 cp1
  unfold yf204
  refine xS_of (pc' := 5) (L' := [(0, xa 295), (1, xi p0), (2, xi p1), (3, xj 1), (5, xi 0)]) (st' := []) (m' := m) (fun ex ns r q => ?_) ?_
  · refine xw_lconst (e := 1) rfl rfl ?_
    refine xw_lstore_n (L' := [(3, xj 1), (0, xa 295), (1, xi p0), (2, xi p1)]) rfl (by decide) rfl ?_
    refine xw_iconst rfl ?_
    refine xw_istore (L' := [(5, xi 0), (3, xj 1), (0, xa 295), (1, xi p0), (2, xi p1)]) rfl (by decide) rfl ?_
    refine xw_lo (L2 := [(0, xa 295), (1, xi p0), (2, xi p1), (3, xj 1), (5, xi 0)]) (List.forall_mem_cons.mpr ⟨rfl, List.forall_mem_cons.mpr ⟨rfl, List.forall_mem_cons.mpr ⟨rfl, List.forall_mem_cons.mpr ⟨rfl, List.forall_mem_cons.mpr ⟨rfl, fun _ h => absurd h List.not_mem_nil⟩⟩⟩⟩⟩) ?_
    exact q
  exact ygl204_5 hB 1000000 _ _ _ _ _ cp0 cp1 rfl rfl
theorem ysl203_65 {B : Nat} (hB : B ≤ 512) {xs : Nat → Int32} {SL d : Nat} {r65 : Int → Int → xw_M → xP} (hr65 : ∀ x1 x3 m, w32 x1 = x1 → w32 x3 = x3 → xS B xs SL (d + 2) 203 (4, none, [], 7) 0 65 [(0, xa 295), (1, xi x1), (3, xi x3)] [] m (r65 x1 x3 m)) : ∀ x1 x3 m, w32 x1 = x1 → w32 x3 = x3 → xS B xs SL (d + 2) 203 (4, none, [], 7) 0 65 [(0, xa 295), (1, xi x1), (3, xi x3)] [] m (yl203_65 B r65 x1 x3 m) := by
  intro x1 x3 m c1 c3
  unfold yl203_65
  refine xS_of (pc' := 70) (L' := [(0, xa 295), (1, xi x1), (3, xi x3)]) (st' := [xi (xR m 295 7), xi x3]) (m' := m) (fun ex ns r q => ?_) ?_
  · refine xw_iload_n rfl rfl ?_
    refine xw_aload_n rfl rfl rfl ?_
    refine xw_gfIc (v := (m 295 7)) (v' := (xR m 295 7)) rfl (xw_obd (by decide +kernel)) xk6_7 (qi := 7) rfl rfl rfl ?_
    exact q
  refine xS_if (fun h0 => ?_) (fun h0 => ?_)
  · refine xS_g (fun g1 => ?_)
    refine xS_of (pc' := 88) (L' := [(0, xa 295), (1, xi x1), (3, xi x3)]) (st' := [xi x1, xi x3, xa 295, xi x3, xa 297]) (m' := (xw_u m 298 x3 x1)) (fun ex ns r q => ?_) ?_
    · refine xw_ic_geF rfl (w32_cg c3) (w32_cg (w32_xR _ _ _)) (Int.not_le.mpr h0) ?_
      refine xw_aload_n rfl rfl rfl ?_
      refine xw_gfR (n := 298) (e := 298) rfl (xw_obd (by decide +kernel)) (by decide +kernel) (by decide +kernel) rfl ?_
      refine xw_iload_n rfl rfl ?_
      refine xw_iload_n rfl rfl ?_
      refine xw_iast (n := 512) rfl hB (xw_obd (by decide +kernel)) rfl g1 ?_
      refine xw_aload_n rfl rfl rfl ?_
      refine xw_gfR (n := 297) (e := 297) rfl (xw_obd (by decide +kernel)) (by decide +kernel) (by decide +kernel) rfl ?_
      refine xw_iload_n rfl rfl ?_
      refine xw_aload_n rfl rfl rfl ?_
      refine xw_iload_n rfl rfl ?_
      refine xw_iload_n rfl rfl ?_
      refine xw_lo (L2 := [(0, xa 295), (1, xi x1), (3, xi x3)]) (List.forall_mem_cons.mpr ⟨rfl, List.forall_mem_cons.mpr ⟨rfl, List.forall_mem_cons.mpr ⟨rfl, fun _ h => absurd h List.not_mem_nil⟩⟩⟩) ?_
      exact q
    refine xS_call (q := 204) (n := 3) (kq := 1) (as := [xa 295, xi x3, xi x1]) (st1 := [xi x3, xa 297]) rfl rfl rfl rfl rfl rfl rfl rfl rfl rfl (fun _ => xw_rcv1 (t := 6) (xw_obd (by decide +kernel)) rfl) rfl (List.forall_mem_cons.mpr ⟨rfl, List.forall_mem_cons.mpr ⟨rfl, List.forall_mem_cons.mpr ⟨rfl, fun _ h => absurd h List.not_mem_nil⟩⟩⟩) (ygf204 hB _ _ _ c3 c1) (fun v1 m1 cv1 => ?_)
    refine xS_of (pc' := 65) (L' := [(0, xa 295), (1, xi x1), (3, xi (w32 (x3 + 1)))]) (st' := []) (m' := (xw_u m1 297 x3 v1)) (fun ex ns r q => ?_) ?_
    · refine xw_iast (n := 512) rfl hB (xw_obd (by decide +kernel)) rfl g1 ?_
      refine xw_iincc (z := (w32 (x3 + 1))) (L' := [(3, xi (w32 (x3 + 1))), (0, xa 295), (1, xi x1)]) rfl rfl (by decide) rfl rfl ?_
      refine xw_goto rfl ?_
      refine xw_lo (L2 := [(0, xa 295), (1, xi x1), (3, xi (w32 (x3 + 1)))]) (List.forall_mem_cons.mpr ⟨rfl, List.forall_mem_cons.mpr ⟨rfl, List.forall_mem_cons.mpr ⟨rfl, fun _ h => absurd h List.not_mem_nil⟩⟩⟩) ?_
      exact q
    exact hr65 _ _ _ c1 (w32_w _)
  · refine xS_of (pc' := 98) (L' := [(0, xa 295), (1, xi x1), (3, xi x3)]) (st' := []) (m' := m) (fun ex ns r q => ?_) ?_
    · refine xw_ic_geT rfl (w32_cg c3) (w32_cg (w32_xR _ _ _)) (Int.not_lt.mp h0) ?_
      exact q
    exact xS_ret (v := 0) rfl rfl rfl rfl
theorem ygl203_65 {B : Nat} (hB : B ≤ 512) {xs : Nat → Int32} {SL d : Nat} : ∀ n x1 x3 m, w32 x1 = x1 → w32 x3 = x3 → xS B xs SL (d + 2) 203 (4, none, [], 7) 0 65 [(0, xa 295), (1, xi x1), (3, xi x3)] [] m (xl2 (yl203_65 B) n x1 x3 m) := by
  intro n
  induction n with
  | zero => intro x1 x3 m c1 c3; exact xS_none
  | succ n ih => exact ysl203_65 hB ih
theorem ysl203_29 {B : Nat} (hB : B ≤ 512) {xs : Nat → Int32} {SL d : Nat} {r29 : Int → Int → Int → xw_M → xP} (hr29 : ∀ x1 x2 x3 m, w32 x1 = x1 → w32 x2 = x2 → w32 x3 = x3 → xS B xs SL (d + 2) 203 (4, none, [], 7) 0 29 [(0, xa 295), (1, xi x1), (2, xi x2), (3, xi x3)] [] m (r29 x1 x2 x3 m)) : ∀ x1 x2 x3 m, w32 x1 = x1 → w32 x2 = x2 → w32 x3 = x3 → xS B xs SL (d + 2) 203 (4, none, [], 7) 0 29 [(0, xa 295), (1, xi x1), (2, xi x2), (3, xi x3)] [] m (yl203_29 B r29 x1 x2 x3 m) := by
  intro x1 x2 x3 m c1 c2 c3
  unfold yl203_29
  refine xS_of (pc' := 30) (L' := [(0, xa 295), (1, xi x1), (2, xi x2), (3, xi x3)]) (st' := [xi x3]) (m' := m) (fun ex ns r q => ?_) ?_
  · refine xw_iload_n rfl rfl ?_
    exact q
  refine xS_if (fun h0 => ?_) (fun h0 => ?_)
  · refine xS_of (pc' := 65) (L' := [(0, xa 295), (1, xi x1), (3, xi 0)]) (st' := []) (m' := m) (fun ex ns r q => ?_) ?_
    · refine xw_if_ltT rfl (w32_cg c3) h0 ?_
      refine xw_iconst rfl ?_
      refine xw_istore_n (L' := [(3, xi 0), (0, xa 295), (1, xi x1), (2, xi x2)]) rfl (by decide) rfl ?_
      refine xw_lo (L2 := [(0, xa 295), (1, xi x1), (3, xi 0)]) (List.forall_mem_cons.mpr ⟨rfl, List.forall_mem_cons.mpr ⟨rfl, List.forall_mem_cons.mpr ⟨rfl, fun _ h => absurd h List.not_mem_nil⟩⟩⟩) ?_
      exact q
    exact ygl203_65 hB 1000000 _ _ _ c1 rfl
  · refine xS_g (fun g1 => ?_)
    refine xS_g (fun g2 => ?_)
    refine xS_of (pc' := 29) (L' := [(0, xa 295), (1, xi x1), (2, xi (w32 (x2 * ((xR m (15 + (26 * x3)) 10) + 1)))), (3, xi (w32 (x3 + (-1))))]) (st' := []) (m' := (xw_u m 299 x3 x2)) (fun ex ns r q => ?_) ?_
    · refine xw_if_ltF rfl (w32_cg c3) h0 ?_
      refine xw_aload_n rfl rfl rfl ?_
      refine xw_gfR (n := 299) (e := 299) rfl (xw_obd (by decide +kernel)) (by decide +kernel) (by decide +kernel) rfl ?_
      refine xw_iload_n rfl rfl ?_
      refine xw_iload_n rfl rfl ?_
      refine xw_iast (n := 8) rfl hB (xw_obd (by decide +kernel)) rfl g1 ?_
      refine xw_iload_n rfl rfl ?_
      refine xw_aload_n rfl rfl rfl ?_
      refine xw_gfR (n := 3) (e := 3) rfl (xw_obd (by decide +kernel)) (by decide +kernel) (by decide +kernel) rfl ?_
      refine xw_gfR (n := 4) (e := 4) rfl (xw_obd (by decide +kernel)) (by decide +kernel) (by decide +kernel) rfl ?_
      refine xw_iload_n rfl rfl ?_
      refine xw_aald (t := 23) (n := 8) (q := 15 + 26 * (x3).toNat) (e := (15 + (26 * x3))) rfl hB (xw_obd (by decide +kernel)) (by decide) rfl g1 (show 20 + 26 * (x3 : Int).toNat = 15 + 26 * (x3 : Int).toNat + 5 from by omega) (by have := g1; omega) ?_
      refine xw_gfIc (v := (m (15 + (26 * x3)) 10)) (v' := (xR m (15 + (26 * x3)) 10)) rfl (xw_obd g2) xk3_10 (qi := 10) rfl (xw_un (xw_obne (t := 16) (t' := 3) (xw_obd (by decide +kernel)) (xw_obd g2) (by decide)) rfl) rfl ?_
      refine xw_iconst rfl ?_
      refine xw_iadd rfl ?_
      refine xw_imul rfl ?_
      refine xw_cst (st' := [xi (w32 (x2 * ((xR m (15 + (26 * x3)) 10) + 1)))]) (xw_sc (xi_c rfl) rfl) ?_
      refine xw_istore_n (L' := [(2, xi (w32 (x2 * ((xR m (15 + (26 * x3)) 10) + 1)))), (0, xa 295), (1, xi x1), (3, xi x3)]) rfl (by decide) rfl ?_
      refine xw_iincc (z := (w32 (x3 + (-1)))) (L' := [(3, xi (w32 (x3 + (-1)))), (2, xi (w32 (x2 * ((xR m (15 + (26 * x3)) 10) + 1)))), (0, xa 295), (1, xi x1)]) rfl rfl (by decide) rfl rfl ?_
      refine xw_goto rfl ?_
      refine xw_lo (L2 := [(0, xa 295), (1, xi x1), (2, xi (w32 (x2 * ((xR m (15 + (26 * x3)) 10) + 1)))), (3, xi (w32 (x3 + (-1))))]) (List.forall_mem_cons.mpr ⟨rfl, List.forall_mem_cons.mpr ⟨rfl, List.forall_mem_cons.mpr ⟨rfl, List.forall_mem_cons.mpr ⟨rfl, fun _ h => absurd h List.not_mem_nil⟩⟩⟩⟩) ?_
      exact q
    exact hr29 _ _ _ _ c1 (w32_w _) (w32_w _)
theorem ygl203_29 {B : Nat} (hB : B ≤ 512) {xs : Nat → Int32} {SL d : Nat} : ∀ n x1 x2 x3 m, w32 x1 = x1 → w32 x2 = x2 → w32 x3 = x3 → xS B xs SL (d + 2) 203 (4, none, [], 7) 0 29 [(0, xa 295), (1, xi x1), (2, xi x2), (3, xi x3)] [] m (xl3 (yl203_29 B) n x1 x2 x3 m) := by
  intro n
  induction n with
  | zero => intro x1 x2 x3 m c1 c2 c3; exact xS_none
  | succ n ih => exact ysl203_29 hB ih
theorem ygf203 {B : Nat} (hB : B ≤ 512) {xs : Nat → Int32} {SL d : Nat} : ∀ p0 m, w32 p0 = p0 → xS B xs SL (d + 2) 203 (4, none, [], 7) 0 0 [(0, xa 295), (1, xi p0)] [] m (yf203 B p0 m) := by
  intro p0 m cp0
  unfold yf203
  refine xS_of (pc' := 8) (L' := [(0, xa 295), (1, xi p0)]) (st' := [xa 3, xi 512, xa 295]) (m' := m) (fun ex ns r q => ?_) ?_
  · refine xw_aload_n rfl rfl rfl ?_
    refine xw_sipush (e := 512) rfl (by decide +kernel) ?_
    refine xw_aload_n rfl rfl rfl ?_
    refine xw_gfR (n := 3) (e := 3) rfl (xw_obd (by decide +kernel)) (by decide +kernel) (by decide +kernel) rfl ?_
    refine xw_lo (L2 := [(0, xa 295), (1, xi p0)]) (List.forall_mem_cons.mpr ⟨rfl, List.forall_mem_cons.mpr ⟨rfl, fun _ h => absurd h List.not_mem_nil⟩⟩) ?_
    exact q
  refine xS_call (q := 201) (n := 1) (kq := 1) (as := [xa 3]) (st1 := [xi 512, xa 295]) rfl rfl rfl rfl rfl rfl rfl rfl rfl rfl (fun _ => xw_rcv1 (t := 2) (xw_obd (by decide +kernel)) rfl) rfl (List.forall_mem_cons.mpr ⟨rfl, fun _ h => absurd h List.not_mem_nil⟩) (ygf201 hB _) (fun v1 m1 cv1 => ?_)
  refine xS_of (pc' := 29) (L' := [(0, xa 295), (1, xi p0), (2, xi 1), (3, xi (w32 ((xR m1 3 1) - 1)))]) (st' := []) (m' := (xw_u m1 295 7 (min 512 v1))) (fun ex ns r q => ?_) ?_
  · refine xw_minI rfl rfl (w32_cg rfl) (w32_cg cv1) rfl ?_
    refine xw_pfI rfl (xw_obd (by decide +kernel)) xk6_7 (qi := 7) rfl (xw_okI rfl) ?_
    refine xw_iconst rfl ?_
    refine xw_istore_n (L' := [(2, xi 1), (0, xa 295), (1, xi p0)]) rfl (by decide) rfl ?_
    refine xw_aload_n rfl rfl rfl ?_
    refine xw_gfR (n := 3) (e := 3) rfl (xw_obd (by decide +kernel)) (by decide +kernel) (by decide +kernel) rfl ?_
    refine xw_gfIc (v := (m1 3 1)) (v' := (xR m1 3 1)) rfl (xw_obd (by decide +kernel)) xk2_1 (qi := 1) rfl (xw_un (fun e => absurd e.1 (by decide)) rfl) rfl ?_
    refine xw_iconst rfl ?_
    refine xw_isub rfl ?_
    refine xw_cst (st' := [xi (w32 ((xR m1 3 1) - 1))]) (xw_sc (xi_c rfl) rfl) ?_
    refine xw_istore_n (L' := [(3, xi (w32 ((xR m1 3 1) - 1))), (2, xi 1), (0, xa 295), (1, xi p0)]) rfl (by decide) rfl ?_
    refine xw_lo (L2 := [(0, xa 295), (1, xi p0), (2, xi 1), (3, xi (w32 ((xR m1 3 1) - 1)))]) (List.forall_mem_cons.mpr ⟨rfl, List.forall_mem_cons.mpr ⟨rfl, List.forall_mem_cons.mpr ⟨rfl, List.forall_mem_cons.mpr ⟨rfl, fun _ h => absurd h List.not_mem_nil⟩⟩⟩⟩) ?_
    exact q
  exact ygl203_29 hB 1000000 _ _ _ _ cp0 rfl (w32_w _)
theorem ysl206_2 {B : Nat} (hB : B ≤ 512) {xs : Nat → Int32} {SL d : Nat} {r2 : Int → Int → xw_M → xP} (hr2 : ∀ x1 x2 m, w32 x1 = x1 → w32 x2 = x2 → xS B xs SL (d + 1) 206 (3, (some .int), [], 7) 1 2 [(0, xa 295), (1, xi x1), (2, xi x2)] [] m (r2 x1 x2 m)) : ∀ x1 x2 m, w32 x1 = x1 → w32 x2 = x2 → xS B xs SL (d + 1) 206 (3, (some .int), [], 7) 1 2 [(0, xa 295), (1, xi x1), (2, xi x2)] [] m (yl206_2 B r2 x1 x2 m) := by
  intro x1 x2 m c1 c2
  unfold yl206_2
  refine xS_of (pc' := 10) (L' := [(0, xa 295), (1, xi x1), (2, xi x2)]) (st' := [xi (xR m 3 1), xi x2]) (m' := m) (fun ex ns r q => ?_) ?_
  · refine xw_iload_n rfl rfl ?_
    refine xw_aload_n rfl rfl rfl ?_
    refine xw_gfR (n := 3) (e := 3) rfl (xw_obd (by decide +kernel)) (by decide +kernel) (by decide +kernel) rfl ?_
    refine xw_gfIc (v := (m 3 1)) (v' := (xR m 3 1)) rfl (xw_obd (by decide +kernel)) xk2_1 (qi := 1) rfl rfl rfl ?_
    exact q
  refine xS_if (fun h0 => ?_) (fun h0 => ?_)
  · refine xS_of (pc' := 24) (L' := [(0, xa 295), (1, xi x1), (2, xi x2)]) (st' := [xi x2, xi x1, xa 3, xi x2, xa 300]) (m' := m) (fun ex ns r q => ?_) ?_
    · refine xw_ic_geF rfl (w32_cg c2) (w32_cg (w32_xR _ _ _)) (Int.not_le.mpr h0) ?_
      refine xw_aload_n rfl rfl rfl ?_
      refine xw_gfR (n := 300) (e := 300) rfl (xw_obd (by decide +kernel)) (by decide +kernel) (by decide +kernel) rfl ?_
      refine xw_iload_n rfl rfl ?_
      refine xw_aload_n rfl rfl rfl ?_
      refine xw_gfR (n := 3) (e := 3) rfl (xw_obd (by decide +kernel)) (by decide +kernel) (by decide +kernel) rfl ?_
      refine xw_iload_n rfl rfl ?_
      refine xw_iload_n rfl rfl ?_
      refine xw_lo (L2 := [(0, xa 295), (1, xi x1), (2, xi x2)]) (List.forall_mem_cons.mpr ⟨rfl, List.forall_mem_cons.mpr ⟨rfl, List.forall_mem_cons.mpr ⟨rfl, fun _ h => absurd h List.not_mem_nil⟩⟩⟩) ?_
      exact q
    refine xS_call (q := 97) (n := 3) (kq := 1) (as := [xa 3, xi x1, xi x2]) (st1 := [xi x2, xa 300]) rfl rfl rfl rfl rfl rfl rfl rfl rfl rfl (fun _ => xw_rcv1 (t := 2) (xw_obd (by decide +kernel)) rfl) rfl (List.forall_mem_cons.mpr ⟨rfl, List.forall_mem_cons.mpr ⟨rfl, List.forall_mem_cons.mpr ⟨rfl, fun _ h => absurd h List.not_mem_nil⟩⟩⟩) (ygf97 hB _ _ _ c1 c2) (fun v1 m1 cv1 => ?_)
    refine xS_g (fun g1 => ?_)
    refine xS_of (pc' := 2) (L' := [(0, xa 295), (1, xi x1), (2, xi (w32 (x2 + 1)))]) (st' := []) (m' := (xw_u (xw_u m1 300 x2 v1) 301 x2 v1)) (fun ex ns r q => ?_) ?_
    · refine xw_iast (n := 8) rfl hB (xw_obd (by decide +kernel)) rfl g1 ?_
      refine xw_aload_n rfl rfl rfl ?_
      refine xw_gfR (n := 301) (e := 301) rfl (xw_obd (by decide +kernel)) (by decide +kernel) (by decide +kernel) rfl ?_
      refine xw_iload_n rfl rfl ?_
      refine xw_aload_n rfl rfl rfl ?_
      refine xw_gfR (n := 300) (e := 300) rfl (xw_obd (by decide +kernel)) (by decide +kernel) (by decide +kernel) rfl ?_
      refine xw_iload_n rfl rfl ?_
      refine xw_ialdc (n := 8) (v := v1) (v' := v1) rfl hB (xw_obd (by decide +kernel)) rfl g1 xw_us cv1 ?_
      refine xw_iast (n := 8) rfl hB (xw_obd (by decide +kernel)) rfl g1 ?_
      refine xw_iincc (z := (w32 (x2 + 1))) (L' := [(2, xi (w32 (x2 + 1))), (0, xa 295), (1, xi x1)]) rfl rfl (by decide) rfl rfl ?_
      refine xw_goto rfl ?_
      refine xw_lo (L2 := [(0, xa 295), (1, xi x1), (2, xi (w32 (x2 + 1)))]) (List.forall_mem_cons.mpr ⟨rfl, List.forall_mem_cons.mpr ⟨rfl, List.forall_mem_cons.mpr ⟨rfl, fun _ h => absurd h List.not_mem_nil⟩⟩⟩) ?_
      exact q
    exact hr2 _ _ _ c1 (w32_w _)
  · refine xS_of (pc' := 47) (L' := [(0, xa 295), (1, xi x1), (2, xi x2)]) (st' := [xi x1]) (m' := m) (fun ex ns r q => ?_) ?_
    · refine xw_ic_geT rfl (w32_cg c2) (w32_cg (w32_xR _ _ _)) (Int.not_lt.mp h0) ?_
      refine xw_iload_n rfl rfl ?_
      exact q
    exact xS_ret (v := x1) rfl rfl xw_rtI c1
theorem ygl206_2 {B : Nat} (hB : B ≤ 512) {xs : Nat → Int32} {SL d : Nat} : ∀ n x1 x2 m, w32 x1 = x1 → w32 x2 = x2 → xS B xs SL (d + 1) 206 (3, (some .int), [], 7) 1 2 [(0, xa 295), (1, xi x1), (2, xi x2)] [] m (xl2 (yl206_2 B) n x1 x2 m) := by
  intro n
  induction n with
  | zero => intro x1 x2 m c1 c2; exact xS_none
  | succ n ih => exact ysl206_2 hB ih
theorem ygf206 {B : Nat} (hB : B ≤ 512) {xs : Nat → Int32} {SL d : Nat} : ∀ p0 m, w32 p0 = p0 → xS B xs SL (d + 1) 206 (3, (some .int), [], 7) 1 0 [(0, xa 295), (1, xi p0)] [] m (yf206 B p0 m) := by
  intro p0 m cp0
  unfold yf206
  refine xS_of (pc' := 2) (L' := [(0, xa 295), (1, xi p0), (2, xi 0)]) (st' := []) (m' := m) (fun ex ns r q => ?_) ?_
  · refine xw_iconst rfl ?_
    refine xw_istore_n (L' := [(2, xi 0), (0, xa 295), (1, xi p0)]) rfl (by decide) rfl ?_
    refine xw_lo (L2 := [(0, xa 295), (1, xi p0), (2, xi 0)]) (List.forall_mem_cons.mpr ⟨rfl, List.forall_mem_cons.mpr ⟨rfl, List.forall_mem_cons.mpr ⟨rfl, fun _ h => absurd h List.not_mem_nil⟩⟩⟩) ?_
    exact q
  exact ygl206_2 hB 1000000 _ _ _ cp0 rfl
theorem ysl207_12 {B : Nat} (hB : B ≤ 512) {xs : Nat → Int32} {SL d : Nat} {r12 : Int → Int → xw_M → xP} (hr12 : ∀ x2 x3 m, w32 x2 = x2 → w32 x3 = x3 → xS B xs SL (d + 0) 207 (4, (some .int), [], 7) 1 12 [(0, xa 295), (2, xi x2), (3, xi x3)] [] m (r12 x2 x3 m)) : ∀ x2 x3 m, w32 x2 = x2 → w32 x3 = x3 → xS B xs SL (d + 0) 207 (4, (some .int), [], 7) 1 12 [(0, xa 295), (2, xi x2), (3, xi x3)] [] m (yl207_12 B r12 x2 x3 m) := by
  intro x2 x3 m c2 c3
  unfold yl207_12
  refine xS_of (pc' := 13) (L' := [(0, xa 295), (2, xi x2), (3, xi x3)]) (st' := [xi x3]) (m' := m) (fun ex ns r q => ?_) ?_
  · refine xw_iload_n rfl rfl ?_
    exact q
  refine xS_if (fun h0 => ?_) (fun h0 => ?_)
  · refine xS_of (pc' := 98) (L' := [(0, xa 295), (2, xi x2), (3, xi x3)]) (st' := [xi (-1)]) (m' := m) (fun ex ns r q => ?_) ?_
    · refine xw_if_ltT rfl (w32_cg c3) h0 ?_
      refine xw_iconst rfl ?_
      exact q
    exact xS_ret (v := (-1)) rfl rfl xw_rtI rfl
  · refine xS_g (fun g1 => ?_)
    refine xS_g (fun g2 => ?_)
    refine xS_of (pc' := 34) (L' := [(0, xa 295), (2, xi x2), (3, xi x3)]) (st' := [xi (xR m (15 + (26 * x3)) 10), xi (xR m 301 x3)]) (m' := m) (fun ex ns r q => ?_) ?_
    · refine xw_if_ltF rfl (w32_cg c3) h0 ?_
      refine xw_aload_n rfl rfl rfl ?_
      refine xw_gfR (n := 301) (e := 301) rfl (xw_obd (by decide +kernel)) (by decide +kernel) (by decide +kernel) rfl ?_
      refine xw_iload_n rfl rfl ?_
      refine xw_ialdc (n := 8) (v := (m 301 x3)) (v' := (xR m 301 x3)) rfl hB (xw_obd (by decide +kernel)) rfl g1 rfl rfl ?_
      refine xw_aload_n rfl rfl rfl ?_
      refine xw_gfR (n := 3) (e := 3) rfl (xw_obd (by decide +kernel)) (by decide +kernel) (by decide +kernel) rfl ?_
      refine xw_gfR (n := 4) (e := 4) rfl (xw_obd (by decide +kernel)) (by decide +kernel) (by decide +kernel) rfl ?_
      refine xw_iload_n rfl rfl ?_
      refine xw_aald (t := 23) (n := 8) (q := 15 + 26 * (x3).toNat) (e := (15 + (26 * x3))) rfl hB (xw_obd (by decide +kernel)) (by decide) rfl g1 (show 20 + 26 * (x3 : Int).toNat = 15 + 26 * (x3 : Int).toNat + 5 from by omega) (by have := g1; omega) ?_
      refine xw_gfIc (v := (m (15 + (26 * x3)) 10)) (v' := (xR m (15 + (26 * x3)) 10)) rfl (xw_obd g2) xk3_10 (qi := 10) rfl rfl rfl ?_
      exact q
    refine xS_if (fun h3 => ?_) (fun h3 => ?_)
    · refine xS_of (pc' := 55) (L' := [(0, xa 295), (2, xi x2), (3, xi x3)]) (st' := [xi (w32 (x2 + (xR m 299 x3)))]) (m' := (xw_u m 301 x3 ((xR m 301 x3) + 1))) (fun ex ns r q => ?_) ?_
      · refine xw_ic_geF rfl (w32_cg (w32_xR _ _ _)) (w32_cg (w32_xR _ _ _)) (Int.not_le.mpr h3) ?_
        refine xw_aload_n rfl rfl rfl ?_
        refine xw_gfR (n := 301) (e := 301) rfl (xw_obd (by decide +kernel)) (by decide +kernel) (by decide +kernel) rfl ?_
        refine xw_iload_n rfl rfl ?_
        refine xw_dup2 rfl rfl rfl ?_
        refine xw_ialdc (n := 8) (v := (m 301 x3)) (v' := (xR m 301 x3)) rfl hB (xw_obd (by decide +kernel)) rfl g1 rfl rfl ?_
        refine xw_iconst rfl ?_
        refine xw_iadd rfl ?_
        refine xw_iast (n := 8) rfl hB (xw_obd (by decide +kernel)) rfl g1 ?_
        refine xw_iload_n rfl rfl ?_
        refine xw_aload_n rfl rfl rfl ?_
        refine xw_gfR (n := 299) (e := 299) rfl (xw_obd (by decide +kernel)) (by decide +kernel) (by decide +kernel) rfl ?_
        refine xw_iload_n rfl rfl ?_
        refine xw_ialdc (n := 8) (v := (m 299 x3)) (v' := (xR m 299 x3)) rfl hB (xw_obd (by decide +kernel)) rfl g1 (xw_un (fun e => absurd e.1 (by decide)) rfl) rfl ?_
        refine xw_iadd rfl ?_
        refine xw_cst (st' := [xi (w32 (x2 + (xR m 299 x3)))]) (xw_sc (xi_c rfl) rfl) ?_
        exact q
      exact xS_ret (v := (w32 (x2 + (xR m 299 x3)))) rfl rfl xw_rtI (w32_w _)
    · refine xS_of (pc' := 12) (L' := [(0, xa 295), (2, xi (w32 (x2 - (((xR m 301 x3) - (xR m 300 x3)) * (xR m 299 x3))))), (3, xi (w32 (x3 + (-1))))]) (st' := []) (m' := (xw_u m 301 x3 (xR m 300 x3))) (fun ex ns r q => ?_) ?_
      · refine xw_ic_geT rfl (w32_cg (w32_xR _ _ _)) (w32_cg (w32_xR _ _ _)) (Int.not_lt.mp h3) ?_
        refine xw_iload_n rfl rfl ?_
        refine xw_aload_n rfl rfl rfl ?_
        refine xw_gfR (n := 301) (e := 301) rfl (xw_obd (by decide +kernel)) (by decide +kernel) (by decide +kernel) rfl ?_
        refine xw_iload_n rfl rfl ?_
        refine xw_ialdc (n := 8) (v := (m 301 x3)) (v' := (xR m 301 x3)) rfl hB (xw_obd (by decide +kernel)) rfl g1 rfl rfl ?_
        refine xw_aload_n rfl rfl rfl ?_
        refine xw_gfR (n := 300) (e := 300) rfl (xw_obd (by decide +kernel)) (by decide +kernel) (by decide +kernel) rfl ?_
        refine xw_iload_n rfl rfl ?_
        refine xw_ialdc (n := 8) (v := (m 300 x3)) (v' := (xR m 300 x3)) rfl hB (xw_obd (by decide +kernel)) rfl g1 rfl rfl ?_
        refine xw_isub rfl ?_
        refine xw_aload_n rfl rfl rfl ?_
        refine xw_gfR (n := 299) (e := 299) rfl (xw_obd (by decide +kernel)) (by decide +kernel) (by decide +kernel) rfl ?_
        refine xw_iload_n rfl rfl ?_
        refine xw_ialdc (n := 8) (v := (m 299 x3)) (v' := (xR m 299 x3)) rfl hB (xw_obd (by decide +kernel)) rfl g1 rfl rfl ?_
        refine xw_imul rfl ?_
        refine xw_isub rfl ?_
        refine xw_cst (st' := [xi (w32 (x2 - (((xR m 301 x3) - (xR m 300 x3)) * (xR m 299 x3))))]) (xw_sc (xi_c rfl) rfl) ?_
        refine xw_istore_n (L' := [(2, xi (w32 (x2 - (((xR m 301 x3) - (xR m 300 x3)) * (xR m 299 x3))))), (0, xa 295), (3, xi x3)]) rfl (by decide) rfl ?_
        refine xw_aload_n rfl rfl rfl ?_
        refine xw_gfR (n := 301) (e := 301) rfl (xw_obd (by decide +kernel)) (by decide +kernel) (by decide +kernel) rfl ?_
        refine xw_iload_n rfl rfl ?_
        refine xw_aload_n rfl rfl rfl ?_
        refine xw_gfR (n := 300) (e := 300) rfl (xw_obd (by decide +kernel)) (by decide +kernel) (by decide +kernel) rfl ?_
        refine xw_iload_n rfl rfl ?_
        refine xw_ialdc (n := 8) (v := (m 300 x3)) (v' := (xR m 300 x3)) rfl hB (xw_obd (by decide +kernel)) rfl g1 rfl rfl ?_
        refine xw_iast (n := 8) rfl hB (xw_obd (by decide +kernel)) rfl g1 ?_
        refine xw_iincc (z := (w32 (x3 + (-1)))) (L' := [(3, xi (w32 (x3 + (-1)))), (2, xi (w32 (x2 - (((xR m 301 x3) - (xR m 300 x3)) * (xR m 299 x3))))), (0, xa 295)]) rfl rfl (by decide) rfl rfl ?_
        refine xw_goto rfl ?_
        refine xw_lo (L2 := [(0, xa 295), (2, xi (w32 (x2 - (((xR m 301 x3) - (xR m 300 x3)) * (xR m 299 x3))))), (3, xi (w32 (x3 + (-1))))]) (List.forall_mem_cons.mpr ⟨rfl, List.forall_mem_cons.mpr ⟨rfl, List.forall_mem_cons.mpr ⟨rfl, fun _ h => absurd h List.not_mem_nil⟩⟩⟩) ?_
        exact q
      exact hr12 _ _ _ (w32_w _) (w32_w _)
theorem ygl207_12 {B : Nat} (hB : B ≤ 512) {xs : Nat → Int32} {SL d : Nat} : ∀ n x2 x3 m, w32 x2 = x2 → w32 x3 = x3 → xS B xs SL (d + 0) 207 (4, (some .int), [], 7) 1 12 [(0, xa 295), (2, xi x2), (3, xi x3)] [] m (xl2 (yl207_12 B) n x2 x3 m) := by
  intro n
  induction n with
  | zero => intro x2 x3 m c2 c3; exact xS_none
  | succ n ih => exact ysl207_12 hB ih
theorem ygf207 {B : Nat} (hB : B ≤ 512) {xs : Nat → Int32} {SL d : Nat} : ∀ p0 m, w32 p0 = p0 → xS B xs SL (d + 0) 207 (4, (some .int), [], 7) 1 0 [(0, xa 295), (1, xi p0)] [] m (yf207 B p0 m) := by
  intro p0 m cp0
  unfold yf207
  refine xS_of (pc' := 12) (L' := [(0, xa 295), (2, xi p0), (3, xi (w32 ((xR m 3 1) - 1)))]) (st' := []) (m' := m) (fun ex ns r q => ?_) ?_
  · refine xw_iload_n rfl rfl ?_
    refine xw_istore_n (L' := [(2, xi p0), (0, xa 295), (1, xi p0)]) rfl (by decide) rfl ?_
    refine xw_aload_n rfl rfl rfl ?_
    refine xw_gfR (n := 3) (e := 3) rfl (xw_obd (by decide +kernel)) (by decide +kernel) (by decide +kernel) rfl ?_
    refine xw_gfIc (v := (m 3 1)) (v' := (xR m 3 1)) rfl (xw_obd (by decide +kernel)) xk2_1 (qi := 1) rfl rfl rfl ?_
    refine xw_iconst rfl ?_
    refine xw_isub rfl ?_
    refine xw_cst (st' := [xi (w32 ((xR m 3 1) - 1))]) (xw_sc (xi_c rfl) rfl) ?_
    refine xw_istore_n (L' := [(3, xi (w32 ((xR m 3 1) - 1))), (2, xi p0), (0, xa 295), (1, xi p0)]) rfl (by decide) rfl ?_
    refine xw_lo (L2 := [(0, xa 295), (2, xi p0), (3, xi (w32 ((xR m 3 1) - 1)))]) (List.forall_mem_cons.mpr ⟨rfl, List.forall_mem_cons.mpr ⟨rfl, List.forall_mem_cons.mpr ⟨rfl, fun _ h => absurd h List.not_mem_nil⟩⟩⟩) ?_
    exact q
  exact ygl207_12 hB 1000000 _ _ _ cp0 (w32_w _)
theorem ysl205_12 {B : Nat} (hB : B ≤ 512) {xs : Nat → Int32} {SL d : Nat} {r12 : Int → Int → Int → Int → xw_M → xP} (hr12 : ∀ x1 x2 x4 x5 m, w32 x1 = x1 → w64 x2 = x2 → w32 x4 = x4 → w32 x5 = x5 → xS B xs SL (d + 2) 205 (6, (some .long), [], 7) 2 12 [(0, xa 295), (1, xi x1), (2, xj x2), (4, xi x4), (5, xi x5)] [] m (r12 x1 x2 x4 x5 m)) : ∀ x1 x2 x4 x5 m, w32 x1 = x1 → w64 x2 = x2 → w32 x4 = x4 → w32 x5 = x5 → xS B xs SL (d + 2) 205 (6, (some .long), [], 7) 2 12 [(0, xa 295), (1, xi x1), (2, xj x2), (4, xi x4), (5, xi x5)] [] m (yl205_12 B r12 x1 x2 x4 x5 m) := by
  intro x1 x2 x4 x5 m c1 c2 c4 c5
  unfold yl205_12
  refine xS_of (pc' := 17) (L' := [(0, xa 295), (1, xi x1), (2, xj x2), (4, xi x4), (5, xi x5)]) (st' := [xi 512, xi x5]) (m' := m) (fun ex ns r q => ?_) ?_
  · refine xw_iload rfl rfl ?_
    refine xw_sipush (e := 512) rfl (by decide +kernel) ?_
    exact q
  refine xS_if (fun h0 => ?_) (fun h0 => ?_)
  · refine xS_of (pc' := 23) (L' := [(0, xa 295), (1, xi x1), (2, xj x2), (4, xi x4), (5, xi x5)]) (st' := [xi (-1), xi x4]) (m' := m) (fun ex ns r q => ?_) ?_
    · refine xw_ic_geF rfl (w32_cg c5) (w32_cg rfl) (Int.not_le.mpr h0) ?_
      refine xw_iload rfl rfl ?_
      refine xw_iconst rfl ?_
      exact q
    refine xS_if (fun h1 => ?_) (fun h1 => ?_)
    · refine xS_of (pc' := 63) (L' := [(0, xa 295), (1, xi x1), (2, xj x2), (4, xi x4), (5, xi x5)]) (st' := [xj x2]) (m' := m) (fun ex ns r q => ?_) ?_
      · refine xw_ic_eqT rfl (w32_cg c4) (w32_cg rfl) h1 ?_
        refine xw_lload_n rfl rfl ?_
        exact q
      exact xS_ret (v := x2) rfl rfl rfl c2
    · refine xS_g (fun g2 => ?_)
      refine xS_g (fun g3 => ?_)
      refine xS_of (pc' := 51) (L' := [(0, xa 295), (1, xi x1), (2, xj (w64 (x2 + (max 0 (w32 ((xR m 298 x4) - (xR m 297 x1))))))), (5, xi x5)]) (st' := [xi x4, xa 295]) (m' := m) (fun ex ns r q => ?_) ?_
      · refine xw_ic_eqF rfl (w32_cg c4) (w32_cg rfl) h1 ?_
        refine xw_lload_n rfl rfl ?_
        refine xw_iconst rfl ?_
        refine xw_aload_n rfl rfl rfl ?_
        refine xw_gfR (n := 298) (e := 298) rfl (xw_obd (by decide +kernel)) (by decide +kernel) (by decide +kernel) rfl ?_
        refine xw_iload rfl rfl ?_
        refine xw_ialdc (n := 512) (v := (m 298 x4)) (v' := (xR m 298 x4)) rfl hB (xw_obd (by decide +kernel)) rfl g2 rfl rfl ?_
        refine xw_aload_n rfl rfl rfl ?_
        refine xw_gfR (n := 297) (e := 297) rfl (xw_obd (by decide +kernel)) (by decide +kernel) (by decide +kernel) rfl ?_
        refine xw_iload_n rfl rfl ?_
        refine xw_ialdc (n := 512) (v := (m 297 x1)) (v' := (xR m 297 x1)) rfl hB (xw_obd (by decide +kernel)) rfl g3 rfl rfl ?_
        refine xw_isub rfl ?_
        refine xw_cst (st' := [xi (w32 ((xR m 298 x4) - (xR m 297 x1))), xi 0, xj x2]) (xw_sc (xi_c rfl) (xw_sc rfl rfl)) ?_
        refine xw_maxI rfl rfl (w32_cg rfl) (w32_cg (w32_w _)) rfl ?_
        refine xw_i2l rfl (w32_cg (w32_mx rfl (w32_w _))) ?_
        refine xw_ladd rfl ?_
        refine xw_cst (st' := [xj (w64 (x2 + (max 0 (w32 ((xR m 298 x4) - (xR m 297 x1))))))]) (xw_sc (xj_c rfl) rfl) ?_
        refine xw_lstore_n (L' := [(2, xj (w64 (x2 + (max 0 (w32 ((xR m 298 x4) - (xR m 297 x1))))))), (0, xa 295), (1, xi x1), (4, xi x4), (5, xi x5)]) rfl (by decide) rfl ?_
        refine xw_aload_n rfl rfl rfl ?_
        refine xw_iload rfl rfl ?_
        refine xw_lo (L2 := [(0, xa 295), (1, xi x1), (2, xj (w64 (x2 + (max 0 (w32 ((xR m 298 x4) - (xR m 297 x1))))))), (5, xi x5)]) (List.forall_mem_cons.mpr ⟨rfl, List.forall_mem_cons.mpr ⟨rfl, List.forall_mem_cons.mpr ⟨rfl, List.forall_mem_cons.mpr ⟨rfl, fun _ h => absurd h List.not_mem_nil⟩⟩⟩⟩) ?_
        exact q
      refine xS_call (q := 207) (n := 2) (kq := 1) (as := [xa 295, xi x4]) (st1 := []) rfl rfl rfl rfl rfl rfl rfl rfl rfl rfl (fun _ => xw_rcv1 (t := 6) (xw_obd (by decide +kernel)) rfl) rfl (List.forall_mem_cons.mpr ⟨rfl, List.forall_mem_cons.mpr ⟨rfl, fun _ h => absurd h List.not_mem_nil⟩⟩) (ygf207 hB _ _ c4) (fun v1 m1 cv1 => ?_)
      refine xS_of (pc' := 12) (L' := [(0, xa 295), (1, xi x1), (2, xj (w64 (x2 + (max 0 (w32 ((xR m 298 x4) - (xR m 297 x1))))))), (4, xi v1), (5, xi (w32 (x5 + 1)))]) (st' := []) (m' := m1) (fun ex ns r q => ?_) ?_
      · refine xw_istore (L' := [(4, xi v1), (0, xa 295), (1, xi x1), (2, xj (w64 (x2 + (max 0 (w32 ((xR m 298 x4) - (xR m 297 x1))))))), (5, xi x5)]) rfl (by decide) rfl ?_
        refine xw_iincc (z := (w32 (x5 + 1))) (L' := [(5, xi (w32 (x5 + 1))), (4, xi v1), (0, xa 295), (1, xi x1), (2, xj (w64 (x2 + (max 0 (w32 ((xR m 298 x4) - (xR m 297 x1)))))))]) rfl rfl (by decide) rfl rfl ?_
        refine xw_goto rfl ?_
        refine xw_lo (L2 := [(0, xa 295), (1, xi x1), (2, xj (w64 (x2 + (max 0 (w32 ((xR m 298 x4) - (xR m 297 x1))))))), (4, xi v1), (5, xi (w32 (x5 + 1)))]) (List.forall_mem_cons.mpr ⟨rfl, List.forall_mem_cons.mpr ⟨rfl, List.forall_mem_cons.mpr ⟨rfl, List.forall_mem_cons.mpr ⟨rfl, List.forall_mem_cons.mpr ⟨rfl, fun _ h => absurd h List.not_mem_nil⟩⟩⟩⟩⟩) ?_
        exact q
      exact hr12 _ _ _ _ _ c1 (w64_w _) cv1 (w32_w _)
  · refine xS_of (pc' := 63) (L' := [(0, xa 295), (1, xi x1), (2, xj x2), (4, xi x4), (5, xi x5)]) (st' := [xj x2]) (m' := m) (fun ex ns r q => ?_) ?_
    · refine xw_ic_geT rfl (w32_cg c5) (w32_cg rfl) (Int.not_lt.mp h0) ?_
      refine xw_lload_n rfl rfl ?_
      exact q
    exact xS_ret (v := x2) rfl rfl rfl c2
theorem ygl205_12 {B : Nat} (hB : B ≤ 512) {xs : Nat → Int32} {SL d : Nat} : ∀ n x1 x2 x4 x5 m, w32 x1 = x1 → w64 x2 = x2 → w32 x4 = x4 → w32 x5 = x5 → xS B xs SL (d + 2) 205 (6, (some .long), [], 7) 2 12 [(0, xa 295), (1, xi x1), (2, xj x2), (4, xi x4), (5, xi x5)] [] m (xl4 (yl205_12 B) n x1 x2 x4 x5 m) := by
  intro n
  induction n with
  | zero => intro x1 x2 x4 x5 m c1 c2 c4 c5; exact xS_none
  | succ n ih => exact ysl205_12 hB ih
theorem ygf205 {B : Nat} (hB : B ≤ 512) {xs : Nat → Int32} {SL d : Nat} : ∀ p0 m, w32 p0 = p0 → xS B xs SL (d + 2) 205 (6, (some .long), [], 7) 2 0 [(0, xa 295), (1, xi p0)] [] m (yf205 B p0 m) := by
  intro p0 m cp0
  unfold yf205
  refine xS_of (pc' := 4) (L' := [(0, xa 295), (1, xi p0), (2, xj 0)]) (st' := [xi p0, xa 295]) (m' := m) (fun ex ns r q => ?_) ?_
  · refine xw_lconst (e := 0) rfl rfl ?_
    refine xw_lstore_n (L' := [(2, xj 0), (0, xa 295), (1, xi p0)]) rfl (by decide) rfl ?_
    refine xw_aload_n rfl rfl rfl ?_
    refine xw_iload_n rfl rfl ?_
    refine xw_lo (L2 := [(0, xa 295), (1, xi p0), (2, xj 0)]) (List.forall_mem_cons.mpr ⟨rfl, List.forall_mem_cons.mpr ⟨rfl, List.forall_mem_cons.mpr ⟨rfl, fun _ h => absurd h List.not_mem_nil⟩⟩⟩) ?_
    exact q
  refine xS_call (q := 206) (n := 2) (kq := 1) (as := [xa 295, xi p0]) (st1 := []) rfl rfl rfl rfl rfl rfl rfl rfl rfl rfl (fun _ => xw_rcv1 (t := 6) (xw_obd (by decide +kernel)) rfl) rfl (List.forall_mem_cons.mpr ⟨rfl, List.forall_mem_cons.mpr ⟨rfl, fun _ h => absurd h List.not_mem_nil⟩⟩) (ygf206 hB _ _ cp0) (fun v1 m1 cv1 => ?_)
  refine xS_of (pc' := 12) (L' := [(0, xa 295), (1, xi p0), (2, xj 0), (4, xi v1), (5, xi 0)]) (st' := []) (m' := m1) (fun ex ns r q => ?_) ?_
  · refine xw_istore (L' := [(4, xi v1), (0, xa 295), (1, xi p0), (2, xj 0)]) rfl (by decide) rfl ?_
    refine xw_iconst rfl ?_
    refine xw_istore (L' := [(5, xi 0), (4, xi v1), (0, xa 295), (1, xi p0), (2, xj 0)]) rfl (by decide) rfl ?_
    refine xw_lo (L2 := [(0, xa 295), (1, xi p0), (2, xj 0), (4, xi v1), (5, xi 0)]) (List.forall_mem_cons.mpr ⟨rfl, List.forall_mem_cons.mpr ⟨rfl, List.forall_mem_cons.mpr ⟨rfl, List.forall_mem_cons.mpr ⟨rfl, List.forall_mem_cons.mpr ⟨rfl, fun _ h => absurd h List.not_mem_nil⟩⟩⟩⟩⟩) ?_
    exact q
  exact ygl205_12 hB 1000000 _ _ _ _ _ cp0 rfl cv1 rfl
theorem ysl208_8 {B : Nat} (hB : B ≤ 512) {xs : Nat → Int32} {SL d : Nat} {r8 : Int → Int → Int → xw_M → xP} (hr8 : ∀ x1 x2 x3 m, w32 x1 = x1 → w32 x2 = x2 → w32 x3 = x3 → xS B xs SL (d + 2) 208 (4, none, [], 7) 0 8 [(0, xa 295), (1, xi x1), (2, xi x2), (3, xi x3)] [] m (r8 x1 x2 x3 m)) : ∀ x1 x2 x3 m, w32 x1 = x1 → w32 x2 = x2 → w32 x3 = x3 → xS B xs SL (d + 2) 208 (4, none, [], 7) 0 8 [(0, xa 295), (1, xi x1), (2, xi x2), (3, xi x3)] [] m (yl208_8 B r8 x1 x2 x3 m) := by
  intro x1 x2 x3 m c1 c2 c3
  unfold yl208_8
  refine xS_of (pc' := 12) (L' := [(0, xa 295), (1, xi x1), (2, xi x2), (3, xi x3)]) (st' := [xi 512, xi x3]) (m' := m) (fun ex ns r q => ?_) ?_
  · refine xw_iload_n rfl rfl ?_
    refine xw_sipush (e := 512) rfl (by decide +kernel) ?_
    exact q
  refine xS_if (fun h0 => ?_) (fun h0 => ?_)
  · refine xS_of (pc' := 17) (L' := [(0, xa 295), (1, xi x1), (2, xi x2), (3, xi x3)]) (st' := [xi (-1), xi x2]) (m' := m) (fun ex ns r q => ?_) ?_
    · refine xw_ic_geF rfl (w32_cg c3) (w32_cg rfl) (Int.not_le.mpr h0) ?_
      refine xw_iload_n rfl rfl ?_
      refine xw_iconst rfl ?_
      exact q
    refine xS_if (fun h1 => ?_) (fun h1 => ?_)
    · refine xS_of (pc' := 53) (L' := [(0, xa 295), (1, xi x1), (2, xi x2), (3, xi x3)]) (st' := []) (m' := m) (fun ex ns r q => ?_) ?_
      · refine xw_ic_eqT rfl (w32_cg c2) (w32_cg rfl) h1 ?_
        exact q
      exact xS_ret (v := 0) rfl rfl rfl rfl
    · refine xS_g (fun g2 => ?_)
      refine xS_g (fun g3 => ?_)
      refine xS_of (pc' := 43) (L' := [(0, xa 295), (1, xi x1), (3, xi x3)]) (st' := [xi x2, xa 295]) (m' := (xw_u m 298 x2 (min (xR m 298 x2) (xR m 297 x1)))) (fun ex ns r q => ?_) ?_
      · refine xw_ic_eqF rfl (w32_cg c2) (w32_cg rfl) h1 ?_
        refine xw_aload_n rfl rfl rfl ?_
        refine xw_gfR (n := 298) (e := 298) rfl (xw_obd (by decide +kernel)) (by decide +kernel) (by decide +kernel) rfl ?_
        refine xw_iload_n rfl rfl ?_
        refine xw_aload_n rfl rfl rfl ?_
        refine xw_gfR (n := 298) (e := 298) rfl (xw_obd (by decide +kernel)) (by decide +kernel) (by decide +kernel) rfl ?_
        refine xw_iload_n rfl rfl ?_
        refine xw_ialdc (n := 512) (v := (m 298 x2)) (v' := (xR m 298 x2)) rfl hB (xw_obd (by decide +kernel)) rfl g2 rfl rfl ?_
        refine xw_aload_n rfl rfl rfl ?_
        refine xw_gfR (n := 297) (e := 297) rfl (xw_obd (by decide +kernel)) (by decide +kernel) (by decide +kernel) rfl ?_
        refine xw_iload_n rfl rfl ?_
        refine xw_ialdc (n := 512) (v := (m 297 x1)) (v' := (xR m 297 x1)) rfl hB (xw_obd (by decide +kernel)) rfl g3 rfl rfl ?_
        refine xw_minI rfl rfl (w32_cg (w32_xR _ _ _)) (w32_cg (w32_xR _ _ _)) rfl ?_
        refine xw_iast (n := 512) rfl hB (xw_obd (by decide +kernel)) rfl g2 ?_
        refine xw_aload_n rfl rfl rfl ?_
        refine xw_iload_n rfl rfl ?_
        refine xw_lo (L2 := [(0, xa 295), (1, xi x1), (3, xi x3)]) (List.forall_mem_cons.mpr ⟨rfl, List.forall_mem_cons.mpr ⟨rfl, List.forall_mem_cons.mpr ⟨rfl, fun _ h => absurd h List.not_mem_nil⟩⟩⟩) ?_
        exact q
      refine xS_call (q := 207) (n := 2) (kq := 1) (as := [xa 295, xi x2]) (st1 := []) rfl rfl rfl rfl rfl rfl rfl rfl rfl rfl (fun _ => xw_rcv1 (t := 6) (xw_obd (by decide +kernel)) rfl) rfl (List.forall_mem_cons.mpr ⟨rfl, List.forall_mem_cons.mpr ⟨rfl, fun _ h => absurd h List.not_mem_nil⟩⟩) (ygf207 hB _ _ c2) (fun v1 m1 cv1 => ?_)
      refine xS_of (pc' := 8) (L' := [(0, xa 295), (1, xi x1), (2, xi v1), (3, xi (w32 (x3 + 1)))]) (st' := []) (m' := m1) (fun ex ns r q => ?_) ?_
      · refine xw_istore_n (L' := [(2, xi v1), (0, xa 295), (1, xi x1), (3, xi x3)]) rfl (by decide) rfl ?_
        refine xw_iincc (z := (w32 (x3 + 1))) (L' := [(3, xi (w32 (x3 + 1))), (2, xi v1), (0, xa 295), (1, xi x1)]) rfl rfl (by decide) rfl rfl ?_
        refine xw_goto rfl ?_
        refine xw_lo (L2 := [(0, xa 295), (1, xi x1), (2, xi v1), (3, xi (w32 (x3 + 1)))]) (List.forall_mem_cons.mpr ⟨rfl, List.forall_mem_cons.mpr ⟨rfl, List.forall_mem_cons.mpr ⟨rfl, List.forall_mem_cons.mpr ⟨rfl, fun _ h => absurd h List.not_mem_nil⟩⟩⟩⟩) ?_
        exact q
      exact hr8 _ _ _ _ c1 cv1 (w32_w _)
  · refine xS_of (pc' := 53) (L' := [(0, xa 295), (1, xi x1), (2, xi x2), (3, xi x3)]) (st' := []) (m' := m) (fun ex ns r q => ?_) ?_
    · refine xw_ic_geT rfl (w32_cg c3) (w32_cg rfl) (Int.not_lt.mp h0) ?_
      exact q
    exact xS_ret (v := 0) rfl rfl rfl rfl
theorem ygl208_8 {B : Nat} (hB : B ≤ 512) {xs : Nat → Int32} {SL d : Nat} : ∀ n x1 x2 x3 m, w32 x1 = x1 → w32 x2 = x2 → w32 x3 = x3 → xS B xs SL (d + 2) 208 (4, none, [], 7) 0 8 [(0, xa 295), (1, xi x1), (2, xi x2), (3, xi x3)] [] m (xl3 (yl208_8 B) n x1 x2 x3 m) := by
  intro n
  induction n with
  | zero => intro x1 x2 x3 m c1 c2 c3; exact xS_none
  | succ n ih => exact ysl208_8 hB ih
theorem ygf208 {B : Nat} (hB : B ≤ 512) {xs : Nat → Int32} {SL d : Nat} : ∀ p0 m, w32 p0 = p0 → xS B xs SL (d + 2) 208 (4, none, [], 7) 0 0 [(0, xa 295), (1, xi p0)] [] m (yf208 B p0 m) := by
  intro p0 m cp0
  unfold yf208
  refine xS_of (pc' := 2) (L' := [(0, xa 295), (1, xi p0)]) (st' := [xi p0, xa 295]) (m' := m) (fun ex ns r q => ?_) ?_
  · refine xw_aload_n rfl rfl rfl ?_
    refine xw_iload_n rfl rfl ?_
    refine xw_lo (L2 := [(0, xa 295), (1, xi p0)]) (List.forall_mem_cons.mpr ⟨rfl, List.forall_mem_cons.mpr ⟨rfl, fun _ h => absurd h List.not_mem_nil⟩⟩) ?_
    exact q
  refine xS_call (q := 206) (n := 2) (kq := 1) (as := [xa 295, xi p0]) (st1 := []) rfl rfl rfl rfl rfl rfl rfl rfl rfl rfl (fun _ => xw_rcv1 (t := 6) (xw_obd (by decide +kernel)) rfl) rfl (List.forall_mem_cons.mpr ⟨rfl, List.forall_mem_cons.mpr ⟨rfl, fun _ h => absurd h List.not_mem_nil⟩⟩) (ygf206 hB _ _ cp0) (fun v1 m1 cv1 => ?_)
  refine xS_of (pc' := 8) (L' := [(0, xa 295), (1, xi p0), (2, xi v1), (3, xi 0)]) (st' := []) (m' := m1) (fun ex ns r q => ?_) ?_
  · refine xw_istore_n (L' := [(2, xi v1), (0, xa 295), (1, xi p0)]) rfl (by decide) rfl ?_
    refine xw_iconst rfl ?_
    refine xw_istore_n (L' := [(3, xi 0), (2, xi v1), (0, xa 295), (1, xi p0)]) rfl (by decide) rfl ?_
    refine xw_lo (L2 := [(0, xa 295), (1, xi p0), (2, xi v1), (3, xi 0)]) (List.forall_mem_cons.mpr ⟨rfl, List.forall_mem_cons.mpr ⟨rfl, List.forall_mem_cons.mpr ⟨rfl, List.forall_mem_cons.mpr ⟨rfl, fun _ h => absurd h List.not_mem_nil⟩⟩⟩⟩) ?_
    exact q
  exact ygl208_8 hB 1000000 _ _ _ _ cp0 cv1 rfl
theorem ysl202_21 {B : Nat} (hB : B ≤ 512) {xs : Nat → Int32} {SL d : Nat} {r7 : Int → Int → xw_M → xP} (hr7 : ∀ x1 x3 m, w32 x1 = x1 → w32 x3 = x3 → xS B xs SL (d + 3) 202 (10, (some .int), [], 7) 1 7 [(0, xa 295), (1, xi x1), (3, xi x3)] [] m (r7 x1 x3 m)) {r21 : Int → Int → Int → Int → Int → xw_M → xP} (hr21 : ∀ x1 x3 x4 x5 x7 m, w32 x1 = x1 → w32 x3 = x3 → w32 x4 = x4 → w64 x5 = x5 → w32 x7 = x7 → xS B xs SL (d + 3) 202 (10, (some .int), [], 7) 1 21 [(0, xa 295), (1, xi x1), (3, xi x3), (4, xi x4), (5, xj x5), (7, xi x7)] [] m (r21 x1 x3 x4 x5 x7 m)) : ∀ x1 x3 x4 x5 x7 m, w32 x1 = x1 → w32 x3 = x3 → w32 x4 = x4 → w64 x5 = x5 → w32 x7 = x7 → xS B xs SL (d + 3) 202 (10, (some .int), [], 7) 1 21 [(0, xa 295), (1, xi x1), (3, xi x3), (4, xi x4), (5, xj x5), (7, xi x7)] [] m (yl202_21 B r7 r21 x1 x3 x4 x5 x7 m) := by
  intro x1 x3 x4 x5 x7 m c1 c3 c4 c5 c7
  unfold yl202_21
  refine xS_of (pc' := 27) (L' := [(0, xa 295), (1, xi x1), (3, xi x3), (4, xi x4), (5, xj x5), (7, xi x7)]) (st' := [xi (xR m 295 7), xi x7]) (m' := m) (fun ex ns r q => ?_) ?_
  · refine xw_iload rfl rfl ?_
    refine xw_aload_n rfl rfl rfl ?_
    refine xw_gfIc (v := (m 295 7)) (v' := (xR m 295 7)) rfl (xw_obd (by decide +kernel)) xk6_7 (qi := 7) rfl rfl rfl ?_
    exact q
  refine xS_if (fun h0 => ?_) (fun h0 => ?_)
  · refine xS_of (pc' := 33) (L' := [(0, xa 295), (1, xi x1), (3, xi x3), (4, xi x4), (5, xj x5), (7, xi x7)]) (st' := [xi x7, xa 295]) (m' := m) (fun ex ns r q => ?_) ?_
    · refine xw_ic_geF rfl (w32_cg c7) (w32_cg (w32_xR _ _ _)) (Int.not_le.mpr h0) ?_
      refine xw_aload_n rfl rfl rfl ?_
      refine xw_iload rfl rfl ?_
      refine xw_lo (L2 := [(0, xa 295), (1, xi x1), (3, xi x3), (4, xi x4), (5, xj x5), (7, xi x7)]) (List.forall_mem_cons.mpr ⟨rfl, List.forall_mem_cons.mpr ⟨rfl, List.forall_mem_cons.mpr ⟨rfl, List.forall_mem_cons.mpr ⟨rfl, List.forall_mem_cons.mpr ⟨rfl, List.forall_mem_cons.mpr ⟨rfl, fun _ h => absurd h List.not_mem_nil⟩⟩⟩⟩⟩⟩) ?_
      exact q
    refine xS_call (q := 205) (n := 2) (kq := 2) (as := [xa 295, xi x7]) (st1 := []) rfl rfl rfl rfl rfl rfl rfl rfl rfl rfl (fun _ => xw_rcv1 (t := 6) (xw_obd (by decide +kernel)) rfl) rfl (List.forall_mem_cons.mpr ⟨rfl, List.forall_mem_cons.mpr ⟨rfl, fun _ h => absurd h List.not_mem_nil⟩⟩) (ygf205 hB _ _ c7) (fun v1 m1 cv1 => ?_)
    refine xS_of (pc' := 42) (L' := [(8, xj v1), (0, xa 295), (1, xi x1), (3, xi x3), (4, xi x4), (5, xj x5), (7, xi x7)]) (st' := [xj x5, xj v1]) (m' := m1) (fun ex ns r q => ?_) ?_
    · refine xw_lstore (L' := [(8, xj v1), (0, xa 295), (1, xi x1), (3, xi x3), (4, xi x4), (5, xj x5), (7, xi x7)]) rfl (by decide) rfl ?_
      refine xw_lload rfl rfl ?_
      refine xw_lload rfl rfl ?_
      exact q
    refine xS_if (fun h1 => ?_) (fun h1 => ?_)
    · refine xS_of (pc' := 21) (L' := [(0, xa 295), (1, xi x1), (3, xi x3), (4, xi x7), (5, xj v1), (7, xi (w32 (x7 + 1)))]) (st' := []) (m' := m1) (fun ex ns r q => ?_) ?_
      · refine xw_jc_leF rfl rfl (w64_cg cv1) (w64_cg c5) (Int.not_le.mpr h1) ?_
        refine xw_lload rfl rfl ?_
        refine xw_lstore (L' := [(5, xj v1), (8, xj v1), (0, xa 295), (1, xi x1), (3, xi x3), (4, xi x4), (7, xi x7)]) rfl (by decide) rfl ?_
        refine xw_iload rfl rfl ?_
        refine xw_istore (L' := [(4, xi x7), (5, xj v1), (8, xj v1), (0, xa 295), (1, xi x1), (3, xi x3), (7, xi x7)]) rfl (by decide) rfl ?_
        refine xw_iincc (z := (w32 (x7 + 1))) (L' := [(7, xi (w32 (x7 + 1))), (4, xi x7), (5, xj v1), (8, xj v1), (0, xa 295), (1, xi x1), (3, xi x3)]) rfl rfl (by decide) rfl rfl ?_
        refine xw_goto rfl ?_
        refine xw_lo (L2 := [(0, xa 295), (1, xi x1), (3, xi x3), (4, xi x7), (5, xj v1), (7, xi (w32 (x7 + 1)))]) (List.forall_mem_cons.mpr ⟨rfl, List.forall_mem_cons.mpr ⟨rfl, List.forall_mem_cons.mpr ⟨rfl, List.forall_mem_cons.mpr ⟨rfl, List.forall_mem_cons.mpr ⟨rfl, List.forall_mem_cons.mpr ⟨rfl, fun _ h => absurd h List.not_mem_nil⟩⟩⟩⟩⟩⟩) ?_
        exact q
      exact hr21 _ _ _ _ _ _ c1 c3 c7 cv1 (w32_w _)
    · refine xS_of (pc' := 21) (L' := [(0, xa 295), (1, xi x1), (3, xi x3), (4, xi x4), (5, xj x5), (7, xi (w32 (x7 + 1)))]) (st' := []) (m' := m1) (fun ex ns r q => ?_) ?_
      · refine xw_jc_leT rfl rfl (w64_cg cv1) (w64_cg c5) (Int.not_lt.mp h1) ?_
        refine xw_iincc (z := (w32 (x7 + 1))) (L' := [(7, xi (w32 (x7 + 1))), (8, xj v1), (0, xa 295), (1, xi x1), (3, xi x3), (4, xi x4), (5, xj x5)]) rfl rfl (by decide) rfl rfl ?_
        refine xw_goto rfl ?_
        refine xw_lo (L2 := [(0, xa 295), (1, xi x1), (3, xi x3), (4, xi x4), (5, xj x5), (7, xi (w32 (x7 + 1)))]) (List.forall_mem_cons.mpr ⟨rfl, List.forall_mem_cons.mpr ⟨rfl, List.forall_mem_cons.mpr ⟨rfl, List.forall_mem_cons.mpr ⟨rfl, List.forall_mem_cons.mpr ⟨rfl, List.forall_mem_cons.mpr ⟨rfl, fun _ h => absurd h List.not_mem_nil⟩⟩⟩⟩⟩⟩) ?_
        exact q
      exact hr21 _ _ _ _ _ _ c1 c3 c4 c5 (w32_w _)
  · refine xS_of (pc' := 63) (L' := [(0, xa 295), (1, xi x1), (3, xi x3), (4, xi x4), (5, xj x5), (7, xi x7)]) (st' := [xi (-1), xi x4]) (m' := m) (fun ex ns r q => ?_) ?_
    · refine xw_ic_geT rfl (w32_cg c7) (w32_cg (w32_xR _ _ _)) (Int.not_lt.mp h0) ?_
      refine xw_iload rfl rfl ?_
      refine xw_iconst rfl ?_
      exact q
    refine xS_if (fun h1 => ?_) (fun h1 => ?_)
    · refine xS_of (pc' := 67) (L' := [(0, xa 295), (1, xi x1), (3, xi x3), (4, xi x4), (5, xj x5), (7, xi x7)]) (st' := [xi x3]) (m' := m) (fun ex ns r q => ?_) ?_
      · refine xw_ic_neF rfl (w32_cg c4) (w32_cg rfl) h1 ?_
        refine xw_iload_n rfl rfl ?_
        exact q
      exact xS_ret (v := x3) rfl rfl xw_rtI c3
    · refine xS_g (fun g2 => ?_)
      refine xS_of (pc' := 79) (L' := [(0, xa 295), (1, xi x1), (3, xi x3)]) (st' := [xi x4, xa 295]) (m' := (xw_u m 296 x3 x4)) (fun ex ns r q => ?_) ?_
      · refine xw_ic_neT rfl (w32_cg c4) (w32_cg rfl) h1 ?_
        refine xw_aload_n rfl rfl rfl ?_
        refine xw_gfR (n := 296) (e := 296) rfl (xw_obd (by decide +kernel)) (by decide +kernel) (by decide +kernel) rfl ?_
        refine xw_iload_n rfl rfl ?_
        refine xw_iload rfl rfl ?_
        refine xw_iast (n := 16) rfl hB (xw_obd (by decide +kernel)) rfl g2 ?_
        refine xw_aload_n rfl rfl rfl ?_
        refine xw_iload rfl rfl ?_
        refine xw_lo (L2 := [(0, xa 295), (1, xi x1), (3, xi x3)]) (List.forall_mem_cons.mpr ⟨rfl, List.forall_mem_cons.mpr ⟨rfl, List.forall_mem_cons.mpr ⟨rfl, fun _ h => absurd h List.not_mem_nil⟩⟩⟩) ?_
        exact q
      refine xS_call (q := 208) (n := 2) (kq := 0) (as := [xa 295, xi x4]) (st1 := []) rfl rfl rfl rfl rfl rfl rfl rfl rfl rfl (fun _ => xw_rcv1 (t := 6) (xw_obd (by decide +kernel)) rfl) rfl (List.forall_mem_cons.mpr ⟨rfl, List.forall_mem_cons.mpr ⟨rfl, fun _ h => absurd h List.not_mem_nil⟩⟩) (ygf208 hB _ _ c4) (fun v2 m2 cv2 => ?_)
      refine xS_of (pc' := 7) (L' := [(0, xa 295), (1, xi x1), (3, xi (w32 (x3 + 1)))]) (st' := []) (m' := m2) (fun ex ns r q => ?_) ?_
      · refine xw_iincc (z := (w32 (x3 + 1))) (L' := [(3, xi (w32 (x3 + 1))), (0, xa 295), (1, xi x1)]) rfl rfl (by decide) rfl rfl ?_
        refine xw_goto rfl ?_
        refine xw_lo (L2 := [(0, xa 295), (1, xi x1), (3, xi (w32 (x3 + 1)))]) (List.forall_mem_cons.mpr ⟨rfl, List.forall_mem_cons.mpr ⟨rfl, List.forall_mem_cons.mpr ⟨rfl, fun _ h => absurd h List.not_mem_nil⟩⟩⟩) ?_
        exact q
      exact hr7 _ _ _ c1 (w32_w _)
theorem ygl202_21 {B : Nat} (hB : B ≤ 512) {xs : Nat → Int32} {SL d : Nat} {r7 : Int → Int → xw_M → xP} (hr7 : ∀ x1 x3 m, w32 x1 = x1 → w32 x3 = x3 → xS B xs SL (d + 3) 202 (10, (some .int), [], 7) 1 7 [(0, xa 295), (1, xi x1), (3, xi x3)] [] m (r7 x1 x3 m)) : ∀ n x1 x3 x4 x5 x7 m, w32 x1 = x1 → w32 x3 = x3 → w32 x4 = x4 → w64 x5 = x5 → w32 x7 = x7 → xS B xs SL (d + 3) 202 (10, (some .int), [], 7) 1 21 [(0, xa 295), (1, xi x1), (3, xi x3), (4, xi x4), (5, xj x5), (7, xi x7)] [] m (xl5 (yl202_21 B r7) n x1 x3 x4 x5 x7 m) := by
  intro n
  induction n with
  | zero => intro x1 x3 x4 x5 x7 m c1 c3 c4 c5 c7; exact xS_none
  | succ n ih => exact ysl202_21 hB hr7 ih
theorem ysl202_7 {B : Nat} (hB : B ≤ 512) {xs : Nat → Int32} {SL d : Nat} {r7 : Int → Int → xw_M → xP} (hr7 : ∀ x1 x3 m, w32 x1 = x1 → w32 x3 = x3 → xS B xs SL (d + 3) 202 (10, (some .int), [], 7) 1 7 [(0, xa 295), (1, xi x1), (3, xi x3)] [] m (r7 x1 x3 m)) : ∀ x1 x3 m, w32 x1 = x1 → w32 x3 = x3 → xS B xs SL (d + 3) 202 (10, (some .int), [], 7) 1 7 [(0, xa 295), (1, xi x1), (3, xi x3)] [] m (yl202_7 B r7 x1 x3 m) := by
  intro x1 x3 m c1 c3
  unfold yl202_7
  refine xS_of (pc' := 9) (L' := [(0, xa 295), (1, xi x1), (3, xi x3)]) (st' := [xi x1, xi x3]) (m' := m) (fun ex ns r q => ?_) ?_
  · refine xw_iload_n rfl rfl ?_
    refine xw_iload_n rfl rfl ?_
    exact q
  refine xS_if (fun h0 => ?_) (fun h0 => ?_)
  · refine xS_of (pc' := 21) (L' := [(0, xa 295), (1, xi x1), (3, xi x3), (4, xi (-1)), (5, xj 0), (7, xi 0)]) (st' := []) (m' := m) (fun ex ns r q => ?_) ?_
    · refine xw_ic_geF rfl (w32_cg c3) (w32_cg c1) (Int.not_le.mpr h0) ?_
      refine xw_iconst rfl ?_
      refine xw_istore (L' := [(4, xi (-1)), (0, xa 295), (1, xi x1), (3, xi x3)]) rfl (by decide) rfl ?_
      refine xw_lconst (e := 0) rfl rfl ?_
      refine xw_lstore (L' := [(5, xj 0), (4, xi (-1)), (0, xa 295), (1, xi x1), (3, xi x3)]) rfl (by decide) rfl ?_
      refine xw_iconst rfl ?_
      refine xw_istore (L' := [(7, xi 0), (5, xj 0), (4, xi (-1)), (0, xa 295), (1, xi x1), (3, xi x3)]) rfl (by decide) rfl ?_
      refine xw_lo (L2 := [(0, xa 295), (1, xi x1), (3, xi x3), (4, xi (-1)), (5, xj 0), (7, xi 0)]) (List.forall_mem_cons.mpr ⟨rfl, List.forall_mem_cons.mpr ⟨rfl, List.forall_mem_cons.mpr ⟨rfl, List.forall_mem_cons.mpr ⟨rfl, List.forall_mem_cons.mpr ⟨rfl, List.forall_mem_cons.mpr ⟨rfl, fun _ h => absurd h List.not_mem_nil⟩⟩⟩⟩⟩⟩) ?_
      exact q
    exact ygl202_21 hB hr7 1000000 _ _ _ _ _ _ c1 c3 rfl rfl rfl
  · refine xS_of (pc' := 89) (L' := [(0, xa 295), (1, xi x1), (3, xi x3)]) (st' := [xi x1]) (m' := m) (fun ex ns r q => ?_) ?_
    · refine xw_ic_geT rfl (w32_cg c3) (w32_cg c1) (Int.not_lt.mp h0) ?_
      refine xw_iload_n rfl rfl ?_
      exact q
    exact xS_ret (v := x1) rfl rfl xw_rtI c1
theorem ygl202_7 {B : Nat} (hB : B ≤ 512) {xs : Nat → Int32} {SL d : Nat} : ∀ n x1 x3 m, w32 x1 = x1 → w32 x3 = x3 → xS B xs SL (d + 3) 202 (10, (some .int), [], 7) 1 7 [(0, xa 295), (1, xi x1), (3, xi x3)] [] m (xl2 (yl202_7 B) n x1 x3 m) := by
  intro n
  induction n with
  | zero => intro x1 x3 m c1 c3; exact xS_none
  | succ n ih => exact ysl202_7 hB ih
theorem ygf202 {B : Nat} (hB : B ≤ 512) {xs : Nat → Int32} {SL d : Nat} : ∀ p0 p1 m, w32 p0 = p0 → w32 p1 = p1 → xS B xs SL (d + 3) 202 (10, (some .int), [], 7) 1 0 [(0, xa 295), (1, xi p0), (2, xi p1)] [] m (yf202 B p0 p1 m) := by
  intro p0 p1 m cp0 cp1
  unfold yf202
  refine xS_of (pc' := 2) (L' := [(0, xa 295), (1, xi p0)]) (st' := [xi p1, xa 295]) (m' := m) (fun ex ns r q => ?_) ?_
  · refine xw_aload_n rfl rfl rfl ?_
    refine xw_iload_n rfl rfl ?_
    refine xw_lo (L2 := [(0, xa 295), (1, xi p0)]) (List.forall_mem_cons.mpr ⟨rfl, List.forall_mem_cons.mpr ⟨rfl, fun _ h => absurd h List.not_mem_nil⟩⟩) ?_
    exact q
  refine xS_call (q := 203) (n := 2) (kq := 0) (as := [xa 295, xi p1]) (st1 := []) rfl rfl rfl rfl rfl rfl rfl rfl rfl rfl (fun _ => xw_rcv1 (t := 6) (xw_obd (by decide +kernel)) rfl) rfl (List.forall_mem_cons.mpr ⟨rfl, List.forall_mem_cons.mpr ⟨rfl, fun _ h => absurd h List.not_mem_nil⟩⟩) (ygf203 hB _ _ cp1) (fun v1 m1 cv1 => ?_)
  refine xS_of (pc' := 7) (L' := [(0, xa 295), (1, xi p0), (3, xi 0)]) (st' := []) (m' := m1) (fun ex ns r q => ?_) ?_
  · refine xw_iconst rfl ?_
    refine xw_istore_n (L' := [(3, xi 0), (0, xa 295), (1, xi p0)]) rfl (by decide) rfl ?_
    refine xw_lo (L2 := [(0, xa 295), (1, xi p0), (3, xi 0)]) (List.forall_mem_cons.mpr ⟨rfl, List.forall_mem_cons.mpr ⟨rfl, List.forall_mem_cons.mpr ⟨rfl, fun _ h => absurd h List.not_mem_nil⟩⟩⟩) ?_
    exact q
  exact ygl202_7 hB 1000000 _ _ _ cp0 rfl
theorem ygf209 {B : Nat} (hB : B ≤ 512) {xs : Nat → Int32} {SL d : Nat} : ∀ m, xS B xs SL (d + 1) 209 (2, (some .int), [], 11) 1 0 [(0, xa 508)] [] m (yf209 B m) := by
  intro m
  unfold yf209
  refine xS_of (pc' := 1) (L' := [(0, xa 508)]) (st' := [xa 508]) (m' := m) (fun ex ns r q => ?_) ?_
  · refine xw_aload_n rfl rfl rfl ?_
    refine xw_lo (L2 := [(0, xa 508)]) (List.forall_mem_cons.mpr ⟨rfl, fun _ h => absurd h List.not_mem_nil⟩) ?_
    exact q
  refine xS_call (q := 102) (n := 1) (kq := 1) (as := [xa 508]) (st1 := []) rfl rfl rfl rfl rfl rfl rfl rfl rfl rfl (fun _ => xw_rcv1 (t := 10) (xw_obd (by decide +kernel)) rfl) rfl (List.forall_mem_cons.mpr ⟨rfl, fun _ h => absurd h List.not_mem_nil⟩) (ygf102 hB _) (fun v1 m1 cv1 => ?_)
  refine xS_of (pc' := 10) (L' := [(1, xi v1), (0, xa 508)]) (st' := [xi (xR m1 508 14), xi v1]) (m' := m1) (fun ex ns r q => ?_) ?_
  · refine xw_istore_n (L' := [(1, xi v1), (0, xa 508)]) rfl (by decide) rfl ?_
    refine xw_iload_n rfl rfl ?_
    refine xw_aload_n rfl rfl rfl ?_
    refine xw_gfIc (v := (m1 508 14)) (v' := (xR m1 508 14)) rfl (xw_obd (by decide +kernel)) xk10_14 (qi := 14) rfl rfl rfl ?_
    exact q
  refine xS_if (fun h0 => ?_) (fun h0 => ?_)
  · refine xS_g (fun g1 => ?_)
    refine xS_of (pc' := 20) (L' := [(1, xi v1), (0, xa 508)]) (st' := [xi 3, xi (xR m1 513 v1)]) (m' := m1) (fun ex ns r q => ?_) ?_
    · refine xw_ic_geF rfl (w32_cg cv1) (w32_cg (w32_xR _ _ _)) (Int.not_le.mpr h0) ?_
      refine xw_aload_n rfl rfl rfl ?_
      refine xw_gfR (n := 513) (e := 513) rfl (xw_obd (by decide +kernel)) (by decide +kernel) (by decide +kernel) rfl ?_
      refine xw_iload_n rfl rfl ?_
      refine xw_ialdc (n := 200) (v := (m1 513 v1)) (v' := (xR m1 513 v1)) rfl hB (xw_obd (by decide +kernel)) rfl g1 rfl rfl ?_
      refine xw_iconst rfl ?_
      exact q
    refine xS_if (fun h2 => ?_) (fun h2 => ?_)
    · refine xS_of (pc' := 36) (L' := [(1, xi v1), (0, xa 508)]) (st' := [xi (w32 ((xR m1 508 14) - 1))]) (m' := m1) (fun ex ns r q => ?_) ?_
      · refine xw_ic_neF rfl (w32_cg (w32_xR _ _ _)) (w32_cg rfl) h2 ?_
        refine xw_aload_n rfl rfl rfl ?_
        refine xw_gfIc (v := (m1 508 14)) (v' := (xR m1 508 14)) rfl (xw_obd (by decide +kernel)) xk10_14 (qi := 14) rfl rfl rfl ?_
        refine xw_iconst rfl ?_
        refine xw_isub rfl ?_
        refine xw_goto rfl ?_
        refine xw_cst (st' := [xi (w32 ((xR m1 508 14) - 1))]) (xw_sc (xi_c rfl) rfl) ?_
        exact q
      exact xS_ret (v := (w32 ((xR m1 508 14) - 1))) rfl rfl xw_rtI (w32_w _)
    · refine xS_of (pc' := 36) (L' := [(1, xi v1), (0, xa 508)]) (st' := [xi (xR m1 508 14)]) (m' := m1) (fun ex ns r q => ?_) ?_
      · refine xw_ic_neT rfl (w32_cg (w32_xR _ _ _)) (w32_cg rfl) h2 ?_
        refine xw_aload_n rfl rfl rfl ?_
        refine xw_gfIc (v := (m1 508 14)) (v' := (xR m1 508 14)) rfl (xw_obd (by decide +kernel)) xk10_14 (qi := 14) rfl rfl rfl ?_
        exact q
      exact xS_ret (v := (xR m1 508 14)) rfl rfl xw_rtI (w32_xR _ _ _)
  · refine xS_of (pc' := 36) (L' := [(1, xi v1), (0, xa 508)]) (st' := [xi (xR m1 508 14)]) (m' := m1) (fun ex ns r q => ?_) ?_
    · refine xw_ic_geT rfl (w32_cg cv1) (w32_cg (w32_xR _ _ _)) (Int.not_lt.mp h0) ?_
      refine xw_aload_n rfl rfl rfl ?_
      refine xw_gfIc (v := (m1 508 14)) (v' := (xR m1 508 14)) rfl (xw_obd (by decide +kernel)) xk10_14 (qi := 14) rfl rfl rfl ?_
      exact q
    exact xS_ret (v := (xR m1 508 14)) rfl rfl xw_rtI (w32_xR _ _ _)
theorem ysl211_50 {B : Nat} (hB : B ≤ 512) {xs : Nat → Int32} {SL d : Nat} {r6 : Int → Int → Int → xw_M → xP} (hr6 : ∀ x1 x2 x3 m, w32 x3 = x3 → xS B xs SL (d + 6) 211 (7, none, [], 8) 0 6 [(0, xa 302), (1, xa x1), (2, xa x2), (3, xi x3)] [] m (r6 x1 x2 x3 m)) {r38 : Int → Int → Int → Int → Int → xw_M → xP} (hr38 : ∀ x1 x2 x3 x4 x5 m, w32 x3 = x3 → w32 x4 = x4 → w32 x5 = x5 → xS B xs SL (d + 6) 211 (7, none, [], 8) 0 38 [(0, xa 302), (1, xa x1), (2, xa x2), (3, xi x3), (4, xi x4), (5, xi x5)] [] m (r38 x1 x2 x3 x4 x5 m)) {r50 : Int → Int → Int → Int → Int → Int → xw_M → xP} (hr50 : ∀ x1 x2 x3 x4 x5 x6 m, w32 x3 = x3 → w32 x4 = x4 → w32 x5 = x5 → w32 x6 = x6 → xS B xs SL (d + 6) 211 (7, none, [], 8) 0 50 [(0, xa 302), (1, xa x1), (2, xa x2), (3, xi x3), (4, xi x4), (5, xi x5), (6, xi x6)] [] m (r50 x1 x2 x3 x4 x5 x6 m)) : ∀ x1 x2 x3 x4 x5 x6 m, w32 x3 = x3 → w32 x4 = x4 → w32 x5 = x5 → w32 x6 = x6 → xS B xs SL (d + 6) 211 (7, none, [], 8) 0 50 [(0, xa 302), (1, xa x1), (2, xa x2), (3, xi x3), (4, xi x4), (5, xi x5), (6, xi x6)] [] m (yl211_50 B r6 r38 r50 x1 x2 x3 x4 x5 x6 m) := by
  intro x1 x2 x3 x4 x5 x6 m c3 c4 c5 c6
  unfold yl211_50
  refine xS_of (pc' := 54) (L' := [(0, xa 302), (1, xa x1), (2, xa x2), (3, xi x3), (4, xi x4), (5, xi x5), (6, xi x6)]) (st' := [xi x4, xi x6]) (m' := m) (fun ex ns r q => ?_) ?_
  · refine xw_iload rfl rfl ?_
    refine xw_iload rfl rfl ?_
    exact q
  refine xS_if (fun h0 => ?_) (fun h0 => ?_)
  · refine xS_g (fun g1 => ?_)
    refine xS_g (fun g2 => ?_)
    refine xS_g (fun g3 => ?_)
    refine xS_g (fun g4 => ?_)
    refine xS_g (fun g5 => ?_)
    refine xS_g (fun g6 => ?_)
    refine xS_g (fun g7 => ?_)
    refine xS_g (fun g8 => ?_)
    refine xS_g (fun g9 => ?_)
    refine xS_of (pc' := 50) (L' := [(0, xa 302), (1, xa x1), (2, xa x2), (3, xi x3), (4, xi x4), (5, xi x5), (6, xi (w32 (x6 + 1)))]) (st' := []) (m' := (xw_u m (xw_rf (xw_rf x2 0) x5) ((xR m x2 5) + x6) (xJ m (304 + x5) x6))) (fun ex ns r q => ?_) ?_
    · refine xw_ic_geF rfl (w32_cg c6) (w32_cg c4) (Int.not_le.mpr h0) ?_
      refine xw_aload_n rfl rfl rfl ?_
      refine xw_gfV (qi := 0) rfl (xw_obd g1) xk8_0 rfl ?_
      refine xw_iload rfl rfl ?_
      refine xw_aald (t := 20) (n := (xw_le B (xw_rf x2 0))) (q := xw_kd (xw_rf x2 0) x5 - 5) (e := (xw_rf (xw_rf x2 0) x5)) rfl hB (xw_obd g4) (by decide) rfl g2 (by have := g3; omega) (xw_rfn g3) ?_
      refine xw_aload_n rfl rfl rfl ?_
      refine xw_gfIc (v := (m x2 5)) (v' := (xR m x2 5)) rfl (xw_obd g1) xk8_5 (qi := 5) rfl rfl rfl ?_
      refine xw_iload rfl rfl ?_
      refine xw_iadd rfl ?_
      refine xw_aload_n rfl rfl rfl ?_
      refine xw_gfR (n := 303) (e := 303) rfl (xw_obd (by decide +kernel)) (by decide +kernel) (by decide +kernel) rfl ?_
      refine xw_iload rfl rfl ?_
      refine xw_aald (t := 21) (n := 33) (q := 304 + 1 * (x5).toNat) (e := (304 + x5)) rfl hB (xw_obd (by decide +kernel)) (by decide) rfl g5 (show 309 + 1 * (x5 : Int).toNat = 304 + 1 * (x5 : Int).toNat + 5 from by omega) (by have := g5; omega) ?_
      refine xw_iload rfl rfl ?_
      refine xw_laldc (n := (xw_le B (304 + x5))) (v := (m (304 + x5) x6)) (v' := (xJ m (304 + x5) x6)) rfl hB (xw_obd g7) rfl g6 rfl rfl ?_
      refine xw_l2i rfl ?_
      refine xw_iast (n := (xw_le B (xw_rf (xw_rf x2 0) x5))) rfl hB (xw_obd g9) rfl g8 ?_
      refine xw_iincc (z := (w32 (x6 + 1))) (L' := [(6, xi (w32 (x6 + 1))), (0, xa 302), (1, xa x1), (2, xa x2), (3, xi x3), (4, xi x4), (5, xi x5)]) rfl rfl (by decide) rfl rfl ?_
      refine xw_goto rfl ?_
      refine xw_lo (L2 := [(0, xa 302), (1, xa x1), (2, xa x2), (3, xi x3), (4, xi x4), (5, xi x5), (6, xi (w32 (x6 + 1)))]) (List.forall_mem_cons.mpr ⟨rfl, List.forall_mem_cons.mpr ⟨rfl, List.forall_mem_cons.mpr ⟨rfl, List.forall_mem_cons.mpr ⟨rfl, List.forall_mem_cons.mpr ⟨rfl, List.forall_mem_cons.mpr ⟨rfl, List.forall_mem_cons.mpr ⟨rfl, fun _ h => absurd h List.not_mem_nil⟩⟩⟩⟩⟩⟩⟩) ?_
      exact q
    exact hr50 _ _ _ _ _ _ _ c3 c4 c5 (w32_w _)
  · refine xS_of (pc' := 38) (L' := [(0, xa 302), (1, xa x1), (2, xa x2), (3, xi x3), (4, xi x4), (5, xi (w32 (x5 + 1)))]) (st' := []) (m' := m) (fun ex ns r q => ?_) ?_
    · refine xw_ic_geT rfl (w32_cg c6) (w32_cg c4) (Int.not_lt.mp h0) ?_
      refine xw_iincc (z := (w32 (x5 + 1))) (L' := [(5, xi (w32 (x5 + 1))), (0, xa 302), (1, xa x1), (2, xa x2), (3, xi x3), (4, xi x4), (6, xi x6)]) rfl rfl (by decide) rfl rfl ?_
      refine xw_goto rfl ?_
      refine xw_lo (L2 := [(0, xa 302), (1, xa x1), (2, xa x2), (3, xi x3), (4, xi x4), (5, xi (w32 (x5 + 1)))]) (List.forall_mem_cons.mpr ⟨rfl, List.forall_mem_cons.mpr ⟨rfl, List.forall_mem_cons.mpr ⟨rfl, List.forall_mem_cons.mpr ⟨rfl, List.forall_mem_cons.mpr ⟨rfl, List.forall_mem_cons.mpr ⟨rfl, fun _ h => absurd h List.not_mem_nil⟩⟩⟩⟩⟩⟩) ?_
      exact q
    exact hr38 _ _ _ _ _ _ c3 c4 (w32_w _)
theorem ygl211_50 {B : Nat} (hB : B ≤ 512) {xs : Nat → Int32} {SL d : Nat} {r6 : Int → Int → Int → xw_M → xP} (hr6 : ∀ x1 x2 x3 m, w32 x3 = x3 → xS B xs SL (d + 6) 211 (7, none, [], 8) 0 6 [(0, xa 302), (1, xa x1), (2, xa x2), (3, xi x3)] [] m (r6 x1 x2 x3 m)) {r38 : Int → Int → Int → Int → Int → xw_M → xP} (hr38 : ∀ x1 x2 x3 x4 x5 m, w32 x3 = x3 → w32 x4 = x4 → w32 x5 = x5 → xS B xs SL (d + 6) 211 (7, none, [], 8) 0 38 [(0, xa 302), (1, xa x1), (2, xa x2), (3, xi x3), (4, xi x4), (5, xi x5)] [] m (r38 x1 x2 x3 x4 x5 m)) : ∀ n x1 x2 x3 x4 x5 x6 m, w32 x3 = x3 → w32 x4 = x4 → w32 x5 = x5 → w32 x6 = x6 → xS B xs SL (d + 6) 211 (7, none, [], 8) 0 50 [(0, xa 302), (1, xa x1), (2, xa x2), (3, xi x3), (4, xi x4), (5, xi x5), (6, xi x6)] [] m (xl6 (yl211_50 B r6 r38) n x1 x2 x3 x4 x5 x6 m) := by
  intro n
  induction n with
  | zero => intro x1 x2 x3 x4 x5 x6 m c3 c4 c5 c6; exact xS_none
  | succ n ih => exact ysl211_50 hB hr6 hr38 ih
theorem ysl211_98 {B : Nat} (hB : B ≤ 512) {xs : Nat → Int32} {SL d : Nat} {r6 : Int → Int → Int → xw_M → xP} (hr6 : ∀ x1 x2 x3 m, w32 x3 = x3 → xS B xs SL (d + 6) 211 (7, none, [], 8) 0 6 [(0, xa 302), (1, xa x1), (2, xa x2), (3, xi x3)] [] m (r6 x1 x2 x3 m)) {r98 : Int → Int → Int → Int → Int → xw_M → xP} (hr98 : ∀ x1 x2 x3 x4 x5 m, w32 x3 = x3 → w32 x4 = x4 → w32 x5 = x5 → xS B xs SL (d + 6) 211 (7, none, [], 8) 0 98 [(0, xa 302), (1, xa x1), (2, xa x2), (3, xi x3), (4, xi x4), (5, xi x5)] [] m (r98 x1 x2 x3 x4 x5 m)) : ∀ x1 x2 x3 x4 x5 m, w32 x3 = x3 → w32 x4 = x4 → w32 x5 = x5 → xS B xs SL (d + 6) 211 (7, none, [], 8) 0 98 [(0, xa 302), (1, xa x1), (2, xa x2), (3, xi x3), (4, xi x4), (5, xi x5)] [] m (yl211_98 B r6 r98 x1 x2 x3 x4 x5 m) := by
  intro x1 x2 x3 x4 x5 m c3 c4 c5
  unfold yl211_98
  refine xS_of (pc' := 107) (L' := [(0, xa 302), (1, xa x1), (2, xa x2), (3, xi x3), (4, xi x4), (5, xi x5)]) (st' := [xi (xR m 3 2), xi x5]) (m' := m) (fun ex ns r q => ?_) ?_
  · refine xw_iload rfl rfl ?_
    refine xw_aload_n rfl rfl rfl ?_
    refine xw_gfR (n := 3) (e := 3) rfl (xw_obd (by decide +kernel)) (by decide +kernel) (by decide +kernel) rfl ?_
    refine xw_gfIc (v := (m 3 2)) (v' := (xR m 3 2)) rfl (xw_obd (by decide +kernel)) xk2_2 (qi := 2) rfl rfl rfl ?_
    exact q
  refine xS_if (fun h0 => ?_) (fun h0 => ?_)
  · refine xS_g (fun g1 => ?_)
    refine xS_g (fun g2 => ?_)
    refine xS_g (fun g3 => ?_)
    refine xS_g (fun g4 => ?_)
    refine xS_g (fun g5 => ?_)
    refine xS_g (fun g6 => ?_)
    refine xS_g (fun g7 => ?_)
    refine xS_g (fun g8 => ?_)
    refine xS_of (pc' := 98) (L' := [(0, xa 302), (1, xa x1), (2, xa x2), (3, xi x3), (4, xi x4), (5, xi (w32 (x5 + 1)))]) (st' := []) (m' := (xw_cp m (304 + ((xR m 302 5) + x5)) 0 (xw_rf (xw_rf x2 1) x5) (xR m x2 5) x4)) (fun ex ns r q => ?_) ?_
    · refine xw_ic_geF rfl (w32_cg c5) (w32_cg (w32_xR _ _ _)) (Int.not_le.mpr h0) ?_
      refine xw_aload_n rfl rfl rfl ?_
      refine xw_gfR (n := 303) (e := 303) rfl (xw_obd (by decide +kernel)) (by decide +kernel) (by decide +kernel) rfl ?_
      refine xw_aload_n rfl rfl rfl ?_
      refine xw_gfIc (v := (m 302 5)) (v' := (xR m 302 5)) rfl (xw_obd (by decide +kernel)) xk7_5 (qi := 5) rfl rfl rfl ?_
      refine xw_iload rfl rfl ?_
      refine xw_iadd rfl ?_
      refine xw_aald (t := 21) (n := 33) (q := 304 + 1 * (((xR m 302 5) + x5)).toNat) (e := (304 + ((xR m 302 5) + x5))) rfl hB (xw_obd (by decide +kernel)) (by decide) rfl g1 (show 309 + 1 * (((xR m 302 5) + x5) : Int).toNat = 304 + 1 * (((xR m 302 5) + x5) : Int).toNat + 5 from by omega) (by have := g1; omega) ?_
      refine xw_iconst rfl ?_
      refine xw_aload_n rfl rfl rfl ?_
      refine xw_gfV (qi := 1) rfl (xw_obd g2) xk8_1 rfl ?_
      refine xw_iload rfl rfl ?_
      refine xw_aald (t := 21) (n := (xw_le B (xw_rf x2 1))) (q := xw_kd (xw_rf x2 1) x5 - 5) (e := (xw_rf (xw_rf x2 1) x5)) rfl hB (xw_obd g5) (by decide) rfl g3 (by have := g4; omega) (xw_rfn g4) ?_
      refine xw_aload_n rfl rfl rfl ?_
      refine xw_gfIc (v := (m x2 5)) (v' := (xR m x2 5)) rfl (xw_obd g2) xk8_5 (qi := 5) rfl rfl rfl ?_
      refine xw_iload rfl rfl ?_
      refine xw_acopy (t := 17) (ls := (xw_le B (304 + ((xR m 302 5) + x5)))) (ld := (xw_le B (xw_rf (xw_rf x2 1) x5))) rfl rfl hB (xw_obd g7) (xw_obd g8) rfl rfl g6 rfl ?_
      refine xw_iincc (z := (w32 (x5 + 1))) (L' := [(5, xi (w32 (x5 + 1))), (0, xa 302), (1, xa x1), (2, xa x2), (3, xi x3), (4, xi x4)]) rfl rfl (by decide) rfl rfl ?_
      refine xw_goto rfl ?_
      refine xw_lo (L2 := [(0, xa 302), (1, xa x1), (2, xa x2), (3, xi x3), (4, xi x4), (5, xi (w32 (x5 + 1)))]) (List.forall_mem_cons.mpr ⟨rfl, List.forall_mem_cons.mpr ⟨rfl, List.forall_mem_cons.mpr ⟨rfl, List.forall_mem_cons.mpr ⟨rfl, List.forall_mem_cons.mpr ⟨rfl, List.forall_mem_cons.mpr ⟨rfl, fun _ h => absurd h List.not_mem_nil⟩⟩⟩⟩⟩⟩) ?_
      exact q
    exact hr98 _ _ _ _ _ _ c3 c4 (w32_w _)
  · refine xS_g (fun g1 => ?_)
    refine xS_of (pc' := 6) (L' := [(0, xa 302), (1, xa x1), (2, xa x2), (3, xi (w32 (x3 + (-1024))))]) (st' := []) (m' := (xw_u m x2 5 ((xR m x2 5) + x4))) (fun ex ns r q => ?_) ?_
    · refine xw_ic_geT rfl (w32_cg c5) (w32_cg (w32_xR _ _ _)) (Int.not_lt.mp h0) ?_
      refine xw_aload_n rfl rfl rfl ?_
      refine xw_dup rfl rfl ?_
      refine xw_gfIc (v := (m x2 5)) (v' := (xR m x2 5)) rfl (xw_obd g1) xk8_5 (qi := 5) rfl rfl rfl ?_
      refine xw_iload rfl rfl ?_
      refine xw_iadd rfl ?_
      refine xw_pfI rfl (xw_obd g1) xk8_5 (qi := 5) rfl (xw_okI rfl) ?_
      refine xw_iincc (z := (w32 (x3 + (-1024)))) (L' := [(3, xi (w32 (x3 + (-1024)))), (0, xa 302), (1, xa x1), (2, xa x2), (4, xi x4), (5, xi x5)]) rfl rfl (by decide) rfl rfl ?_
      refine xw_goto rfl ?_
      refine xw_lo (L2 := [(0, xa 302), (1, xa x1), (2, xa x2), (3, xi (w32 (x3 + (-1024))))]) (List.forall_mem_cons.mpr ⟨rfl, List.forall_mem_cons.mpr ⟨rfl, List.forall_mem_cons.mpr ⟨rfl, List.forall_mem_cons.mpr ⟨rfl, fun _ h => absurd h List.not_mem_nil⟩⟩⟩⟩) ?_
      exact q
    exact hr6 _ _ _ _ (w32_w _)
theorem ygl211_98 {B : Nat} (hB : B ≤ 512) {xs : Nat → Int32} {SL d : Nat} {r6 : Int → Int → Int → xw_M → xP} (hr6 : ∀ x1 x2 x3 m, w32 x3 = x3 → xS B xs SL (d + 6) 211 (7, none, [], 8) 0 6 [(0, xa 302), (1, xa x1), (2, xa x2), (3, xi x3)] [] m (r6 x1 x2 x3 m)) : ∀ n x1 x2 x3 x4 x5 m, w32 x3 = x3 → w32 x4 = x4 → w32 x5 = x5 → xS B xs SL (d + 6) 211 (7, none, [], 8) 0 98 [(0, xa 302), (1, xa x1), (2, xa x2), (3, xi x3), (4, xi x4), (5, xi x5)] [] m (xl5 (yl211_98 B r6) n x1 x2 x3 x4 x5 m) := by
  intro n
  induction n with
  | zero => intro x1 x2 x3 x4 x5 m c3 c4 c5; exact xS_none
  | succ n ih => exact ysl211_98 hB hr6 ih
theorem ysl211_38 {B : Nat} (hB : B ≤ 512) {xs : Nat → Int32} {SL d : Nat} {r6 : Int → Int → Int → xw_M → xP} (hr6 : ∀ x1 x2 x3 m, w32 x3 = x3 → xS B xs SL (d + 6) 211 (7, none, [], 8) 0 6 [(0, xa 302), (1, xa x1), (2, xa x2), (3, xi x3)] [] m (r6 x1 x2 x3 m)) {r38 : Int → Int → Int → Int → Int → xw_M → xP} (hr38 : ∀ x1 x2 x3 x4 x5 m, w32 x3 = x3 → w32 x4 = x4 → w32 x5 = x5 → xS B xs SL (d + 6) 211 (7, none, [], 8) 0 38 [(0, xa 302), (1, xa x1), (2, xa x2), (3, xi x3), (4, xi x4), (5, xi x5)] [] m (r38 x1 x2 x3 x4 x5 m)) : ∀ x1 x2 x3 x4 x5 m, w32 x3 = x3 → w32 x4 = x4 → w32 x5 = x5 → xS B xs SL (d + 6) 211 (7, none, [], 8) 0 38 [(0, xa 302), (1, xa x1), (2, xa x2), (3, xi x3), (4, xi x4), (5, xi x5)] [] m (yl211_38 B r6 r38 x1 x2 x3 x4 x5 m) := by
  intro x1 x2 x3 x4 x5 m c3 c4 c5
  unfold yl211_38
  refine xS_of (pc' := 44) (L' := [(0, xa 302), (1, xa x1), (2, xa x2), (3, xi x3), (4, xi x4), (5, xi x5)]) (st' := [xi (xR m 302 5), xi x5]) (m' := m) (fun ex ns r q => ?_) ?_
  · refine xw_iload rfl rfl ?_
    refine xw_aload_n rfl rfl rfl ?_
    refine xw_gfIc (v := (m 302 5)) (v' := (xR m 302 5)) rfl (xw_obd (by decide +kernel)) xk7_5 (qi := 5) rfl rfl rfl ?_
    exact q
  refine xS_if (fun h0 => ?_) (fun h0 => ?_)
  · refine xS_of (pc' := 50) (L' := [(0, xa 302), (1, xa x1), (2, xa x2), (3, xi x3), (4, xi x4), (5, xi x5), (6, xi 0)]) (st' := []) (m' := m) (fun ex ns r q => ?_) ?_
    · refine xw_ic_geF rfl (w32_cg c5) (w32_cg (w32_xR _ _ _)) (Int.not_le.mpr h0) ?_
      refine xw_iconst rfl ?_
      refine xw_istore (L' := [(6, xi 0), (0, xa 302), (1, xa x1), (2, xa x2), (3, xi x3), (4, xi x4), (5, xi x5)]) rfl (by decide) rfl ?_
      refine xw_lo (L2 := [(0, xa 302), (1, xa x1), (2, xa x2), (3, xi x3), (4, xi x4), (5, xi x5), (6, xi 0)]) (List.forall_mem_cons.mpr ⟨rfl, List.forall_mem_cons.mpr ⟨rfl, List.forall_mem_cons.mpr ⟨rfl, List.forall_mem_cons.mpr ⟨rfl, List.forall_mem_cons.mpr ⟨rfl, List.forall_mem_cons.mpr ⟨rfl, List.forall_mem_cons.mpr ⟨rfl, fun _ h => absurd h List.not_mem_nil⟩⟩⟩⟩⟩⟩⟩) ?_
      exact q
    exact ygl211_50 hB hr6 hr38 1000000 _ _ _ _ _ _ _ c3 c4 c5 rfl
  · refine xS_of (pc' := 98) (L' := [(0, xa 302), (1, xa x1), (2, xa x2), (3, xi x3), (4, xi x4), (5, xi 0)]) (st' := []) (m' := m) (fun ex ns r q => ?_) ?_
    · refine xw_ic_geT rfl (w32_cg c5) (w32_cg (w32_xR _ _ _)) (Int.not_lt.mp h0) ?_
      refine xw_iconst rfl ?_
      refine xw_istore (L' := [(5, xi 0), (0, xa 302), (1, xa x1), (2, xa x2), (3, xi x3), (4, xi x4)]) rfl (by decide) rfl ?_
      refine xw_lo (L2 := [(0, xa 302), (1, xa x1), (2, xa x2), (3, xi x3), (4, xi x4), (5, xi 0)]) (List.forall_mem_cons.mpr ⟨rfl, List.forall_mem_cons.mpr ⟨rfl, List.forall_mem_cons.mpr ⟨rfl, List.forall_mem_cons.mpr ⟨rfl, List.forall_mem_cons.mpr ⟨rfl, List.forall_mem_cons.mpr ⟨rfl, fun _ h => absurd h List.not_mem_nil⟩⟩⟩⟩⟩⟩) ?_
      exact q
    exact ygl211_98 hB hr6 1000000 _ _ _ _ _ _ c3 c4 rfl
theorem ygl211_38 {B : Nat} (hB : B ≤ 512) {xs : Nat → Int32} {SL d : Nat} {r6 : Int → Int → Int → xw_M → xP} (hr6 : ∀ x1 x2 x3 m, w32 x3 = x3 → xS B xs SL (d + 6) 211 (7, none, [], 8) 0 6 [(0, xa 302), (1, xa x1), (2, xa x2), (3, xi x3)] [] m (r6 x1 x2 x3 m)) : ∀ n x1 x2 x3 x4 x5 m, w32 x3 = x3 → w32 x4 = x4 → w32 x5 = x5 → xS B xs SL (d + 6) 211 (7, none, [], 8) 0 38 [(0, xa 302), (1, xa x1), (2, xa x2), (3, xi x3), (4, xi x4), (5, xi x5)] [] m (xl5 (yl211_38 B r6) n x1 x2 x3 x4 x5 m) := by
  intro n
  induction n with
  | zero => intro x1 x2 x3 x4 x5 m c3 c4 c5; exact xS_none
  | succ n ih => exact ysl211_38 hB hr6 ih
theorem ysl211_6 {B : Nat} (hB : B ≤ 512) {xs : Nat → Int32} {SL d : Nat} {r6 : Int → Int → Int → xw_M → xP} (hr6 : ∀ x1 x2 x3 m, w32 x3 = x3 → xS B xs SL (d + 6) 211 (7, none, [], 8) 0 6 [(0, xa 302), (1, xa x1), (2, xa x2), (3, xi x3)] [] m (r6 x1 x2 x3 m)) : ∀ x1 x2 x3 m, w32 x3 = x3 → xS B xs SL (d + 6) 211 (7, none, [], 8) 0 6 [(0, xa 302), (1, xa x1), (2, xa x2), (3, xi x3)] [] m (yl211_6 B r6 x1 x2 x3 m) := by
  intro x1 x2 x3 m c3
  unfold yl211_6
  refine xS_of (pc' := 7) (L' := [(0, xa 302), (1, xa x1), (2, xa x2), (3, xi x3)]) (st' := [xi x3]) (m' := m) (fun ex ns r q => ?_) ?_
  · refine xw_iload_n rfl rfl ?_
    exact q
  refine xS_if (fun h0 => ?_) (fun h0 => ?_)
  · refine xS_of (pc' := 19) (L' := [(0, xa 302), (1, xa x1), (2, xa x2), (3, xi x3)]) (st' := [xa 303, xj (-1), xa x1, xa 302]) (m' := m) (fun ex ns r q => ?_) ?_
    · refine xw_if_leF rfl (w32_cg c3) (Int.not_le.mpr h0) ?_
      refine xw_aload_n rfl rfl rfl ?_
      refine xw_aload_n rfl rfl rfl ?_
      refine xw_ldc2 (e := (-1)) rfl (by decide +kernel) ?_
      refine xw_aload_n rfl rfl rfl ?_
      refine xw_gfR (n := 303) (e := 303) rfl (xw_obd (by decide +kernel)) (by decide +kernel) (by decide +kernel) rfl ?_
      refine xw_lo (L2 := [(0, xa 302), (1, xa x1), (2, xa x2), (3, xi x3)]) (List.forall_mem_cons.mpr ⟨rfl, List.forall_mem_cons.mpr ⟨rfl, List.forall_mem_cons.mpr ⟨rfl, List.forall_mem_cons.mpr ⟨rfl, fun _ h => absurd h List.not_mem_nil⟩⟩⟩⟩) ?_
      exact q
    refine xS_call (q := 113) (n := 4) (kq := 1) (as := [xa 302, xa x1, xj (-1), xa 303]) (st1 := []) rfl rfl rfl rfl rfl rfl rfl rfl rfl rfl (fun _ => xw_rcv1 (t := 7) (xw_obd (by decide +kernel)) rfl) rfl (List.forall_mem_cons.mpr ⟨rfl, List.forall_mem_cons.mpr ⟨rfl, List.forall_mem_cons.mpr ⟨rfl, List.forall_mem_cons.mpr ⟨rfl, fun _ h => absurd h List.not_mem_nil⟩⟩⟩⟩) (ygf113 hB _ _ _ _ rfl) (fun v1 m1 cv1 => ?_)
    refine xS_g (fun g1 => ?_)
    refine xS_of (pc' := 38) (L' := [(0, xa 302), (1, xa x1), (2, xa x2), (3, xi x3), (4, xi (min v1 (w32 (20000 - (xR m1 x2 5))))), (5, xi 0)]) (st' := []) (m' := m1) (fun ex ns r q => ?_) ?_
    · refine xw_sipush (e := 20000) rfl (by decide +kernel) ?_
      refine xw_aload_n rfl rfl rfl ?_
      refine xw_gfIc (v := (m1 x2 5)) (v' := (xR m1 x2 5)) rfl (xw_obd g1) xk8_5 (qi := 5) rfl rfl rfl ?_
      refine xw_isub rfl ?_
      refine xw_cst (st' := [xi (w32 (20000 - (xR m1 x2 5))), xi v1]) (xw_sc (xi_c rfl) (xw_sc rfl rfl)) ?_
      refine xw_minI rfl rfl (w32_cg cv1) (w32_cg (w32_w _)) rfl ?_
      refine xw_istore (L' := [(4, xi (min v1 (w32 (20000 - (xR m1 x2 5))))), (0, xa 302), (1, xa x1), (2, xa x2), (3, xi x3)]) rfl (by decide) rfl ?_
      refine xw_iconst rfl ?_
      refine xw_istore (L' := [(5, xi 0), (4, xi (min v1 (w32 (20000 - (xR m1 x2 5))))), (0, xa 302), (1, xa x1), (2, xa x2), (3, xi x3)]) rfl (by decide) rfl ?_
      refine xw_lo (L2 := [(0, xa 302), (1, xa x1), (2, xa x2), (3, xi x3), (4, xi (min v1 (w32 (20000 - (xR m1 x2 5))))), (5, xi 0)]) (List.forall_mem_cons.mpr ⟨rfl, List.forall_mem_cons.mpr ⟨rfl, List.forall_mem_cons.mpr ⟨rfl, List.forall_mem_cons.mpr ⟨rfl, List.forall_mem_cons.mpr ⟨rfl, List.forall_mem_cons.mpr ⟨rfl, fun _ h => absurd h List.not_mem_nil⟩⟩⟩⟩⟩⟩) ?_
      exact q
    exact ygl211_38 hB hr6 1000000 _ _ _ _ _ _ c3 (w32_mn cv1 (w32_w _)) rfl
  · refine xS_of (pc' := 165) (L' := [(0, xa 302), (1, xa x1), (2, xa x2), (3, xi x3)]) (st' := []) (m' := m) (fun ex ns r q => ?_) ?_
    · refine xw_if_leT rfl (w32_cg c3) (Int.not_lt.mp h0) ?_
      exact q
    exact xS_ret (v := 0) rfl rfl rfl rfl
theorem ygl211_6 {B : Nat} (hB : B ≤ 512) {xs : Nat → Int32} {SL d : Nat} : ∀ n x1 x2 x3 m, w32 x3 = x3 → xS B xs SL (d + 6) 211 (7, none, [], 8) 0 6 [(0, xa 302), (1, xa x1), (2, xa x2), (3, xi x3)] [] m (xl3 (yl211_6 B) n x1 x2 x3 m) := by
  intro n
  induction n with
  | zero => intro x1 x2 x3 m c3; exact xS_none
  | succ n ih => exact ysl211_6 hB ih
theorem ygf211 {B : Nat} (hB : B ≤ 512) {xs : Nat → Int32} {SL d : Nat} : ∀ p0 p1 m, xS B xs SL (d + 6) 211 (7, none, [], 8) 0 0 [(0, xa 302), (1, xa p0), (2, xa p1)] [] m (yf211 B p0 p1 m) := by
  intro p0 p1 m
  unfold yf211
  refine xS_of (pc' := 2) (L' := [(0, xa 302), (1, xa p0), (2, xa p1)]) (st' := [xa p0, xa 302]) (m' := m) (fun ex ns r q => ?_) ?_
  · refine xw_aload_n rfl rfl rfl ?_
    refine xw_aload_n rfl rfl rfl ?_
    refine xw_lo (L2 := [(0, xa 302), (1, xa p0), (2, xa p1)]) (List.forall_mem_cons.mpr ⟨rfl, List.forall_mem_cons.mpr ⟨rfl, List.forall_mem_cons.mpr ⟨rfl, fun _ h => absurd h List.not_mem_nil⟩⟩⟩) ?_
    exact q
  refine xS_call (q := 107) (n := 2) (kq := 1) (as := [xa 302, xa p0]) (st1 := []) rfl rfl rfl rfl rfl rfl rfl rfl rfl rfl (fun _ => xw_rcv1 (t := 7) (xw_obd (by decide +kernel)) rfl) rfl (List.forall_mem_cons.mpr ⟨rfl, List.forall_mem_cons.mpr ⟨rfl, fun _ h => absurd h List.not_mem_nil⟩⟩) (ygf107 hB _ _) (fun v1 m1 cv1 => ?_)
  refine xS_of (pc' := 6) (L' := [(0, xa 302), (1, xa p0), (2, xa p1), (3, xi v1)]) (st' := []) (m' := m1) (fun ex ns r q => ?_) ?_
  · refine xw_istore_n (L' := [(3, xi v1), (0, xa 302), (1, xa p0), (2, xa p1)]) rfl (by decide) rfl ?_
    refine xw_lo (L2 := [(0, xa 302), (1, xa p0), (2, xa p1), (3, xi v1)]) (List.forall_mem_cons.mpr ⟨rfl, List.forall_mem_cons.mpr ⟨rfl, List.forall_mem_cons.mpr ⟨rfl, List.forall_mem_cons.mpr ⟨rfl, fun _ h => absurd h List.not_mem_nil⟩⟩⟩⟩) ?_
    exact q
  exact ygl211_6 hB 1000000 _ _ _ _ cv1
theorem ysl210_17 {B : Nat} (hB : B ≤ 512) {xs : Nat → Int32} {SL d : Nat} {r17 : Int → Int → xw_M → xP} (hr17 : ∀ x1 x2 m, w32 x1 = x1 → w32 x2 = x2 → xS B xs SL (d + 7) 210 (3, none, [], 1) 0 17 [(0, xa 0), (1, xi x1), (2, xi x2)] [] m (r17 x1 x2 m)) : ∀ x1 x2 m, w32 x1 = x1 → w32 x2 = x2 → xS B xs SL (d + 7) 210 (3, none, [], 1) 0 17 [(0, xa 0), (1, xi x1), (2, xi x2)] [] m (yl210_17 B r17 x1 x2 m) := by
  intro x1 x2 m c1 c2
  unfold yl210_17
  refine xS_of (pc' := 19) (L' := [(0, xa 0), (1, xi x1), (2, xi x2)]) (st' := [xi x1, xi x2]) (m' := m) (fun ex ns r q => ?_) ?_
  · refine xw_iload_n rfl rfl ?_
    refine xw_iload_n rfl rfl ?_
    exact q
  refine xS_if (fun h0 => ?_) (fun h0 => ?_)
  · refine xS_of (pc' := 27) (L' := [(0, xa 0), (1, xi x1), (2, xi x2)]) (st' := [xi x2, xa 508]) (m' := m) (fun ex ns r q => ?_) ?_
    · refine xw_ic_geF rfl (w32_cg c2) (w32_cg c1) (Int.not_le.mpr h0) ?_
      refine xw_aload_n rfl rfl rfl ?_
      refine xw_gfR (n := 508) (e := 508) rfl (xw_obd (by decide +kernel)) (by decide +kernel) (by decide +kernel) rfl ?_
      refine xw_iload_n rfl rfl ?_
      refine xw_lo (L2 := [(0, xa 0), (1, xi x1), (2, xi x2)]) (List.forall_mem_cons.mpr ⟨rfl, List.forall_mem_cons.mpr ⟨rfl, List.forall_mem_cons.mpr ⟨rfl, fun _ h => absurd h List.not_mem_nil⟩⟩⟩) ?_
      exact q
    refine xS_call (q := 103) (n := 2) (kq := 4) (as := [xa 508, xi x2]) (st1 := []) rfl rfl rfl rfl rfl rfl rfl rfl rfl rfl (fun _ => xw_rcv1 (t := 10) (xw_obd (by decide +kernel)) rfl) rfl (List.forall_mem_cons.mpr ⟨rfl, List.forall_mem_cons.mpr ⟨rfl, fun _ h => absurd h List.not_mem_nil⟩⟩) (ygf103 hB _ _ c2) (fun v1 m1 cv1 => ?_)
    refine xS_if (fun h1 => ?_) (fun h1 => ?_)
    · refine xS_of (pc' := 17) (L' := [(0, xa 0), (1, xi x1), (2, xi (w32 (x2 + 1)))]) (st' := []) (m' := m1) (fun ex ns r q => ?_) ?_
      · refine xw_if_eqT rfl (w32_cg (w32_of (xw_zr cv1))) h1 ?_
        refine xw_iincc (z := (w32 (x2 + 1))) (L' := [(2, xi (w32 (x2 + 1))), (0, xa 0), (1, xi x1)]) rfl rfl (by decide) rfl rfl ?_
        refine xw_goto rfl ?_
        refine xw_lo (L2 := [(0, xa 0), (1, xi x1), (2, xi (w32 (x2 + 1)))]) (List.forall_mem_cons.mpr ⟨rfl, List.forall_mem_cons.mpr ⟨rfl, List.forall_mem_cons.mpr ⟨rfl, fun _ h => absurd h List.not_mem_nil⟩⟩⟩) ?_
        exact q
      exact hr17 _ _ _ c1 (w32_w _)
    · refine xS_of (pc' := 42) (L' := [(0, xa 0), (1, xi x1), (2, xi x2)]) (st' := [xi x2, xa 508, xa 302]) (m' := m1) (fun ex ns r q => ?_) ?_
      · refine xw_if_eqF rfl (w32_cg (w32_of (xw_zr cv1))) h1 ?_
        refine xw_aload_n rfl rfl rfl ?_
        refine xw_gfR (n := 302) (e := 302) rfl (xw_obd (by decide +kernel)) (by decide +kernel) (by decide +kernel) rfl ?_
        refine xw_aload_n rfl rfl rfl ?_
        refine xw_gfR (n := 508) (e := 508) rfl (xw_obd (by decide +kernel)) (by decide +kernel) (by decide +kernel) rfl ?_
        refine xw_iload_n rfl rfl ?_
        refine xw_lo (L2 := [(0, xa 0), (1, xi x1), (2, xi x2)]) (List.forall_mem_cons.mpr ⟨rfl, List.forall_mem_cons.mpr ⟨rfl, List.forall_mem_cons.mpr ⟨rfl, fun _ h => absurd h List.not_mem_nil⟩⟩⟩) ?_
        exact q
      refine xS_call (q := 22) (n := 2) (kq := 3) (as := [xa 508, xi x2]) (st1 := [xa 302]) rfl rfl rfl rfl rfl rfl rfl rfl rfl rfl (fun _ => xw_rcv1 (t := 10) (xw_obd (by decide +kernel)) rfl) rfl (List.forall_mem_cons.mpr ⟨rfl, List.forall_mem_cons.mpr ⟨rfl, fun _ h => absurd h List.not_mem_nil⟩⟩) (ygf22 hB _ _ c2) (fun v2 m2 cv2 => ?_)
      refine xS_of (pc' := 49) (L' := [(0, xa 0), (1, xi x1), (2, xi x2)]) (st' := [xa 395, xa v2, xa 302]) (m' := m2) (fun ex ns r q => ?_) ?_
      · refine xw_aload_n rfl rfl rfl ?_
        refine xw_gfR (n := 395) (e := 395) rfl (xw_obd (by decide +kernel)) (by decide +kernel) (by decide +kernel) rfl ?_
        refine xw_lo (L2 := [(0, xa 0), (1, xi x1), (2, xi x2)]) (List.forall_mem_cons.mpr ⟨rfl, List.forall_mem_cons.mpr ⟨rfl, List.forall_mem_cons.mpr ⟨rfl, fun _ h => absurd h List.not_mem_nil⟩⟩⟩) ?_
        exact q
      refine xS_call (q := 211) (n := 3) (kq := 0) (as := [xa 302, xa v2, xa 395]) (st1 := []) rfl rfl rfl rfl rfl rfl rfl rfl rfl rfl (fun _ => xw_rcv1 (t := 7) (xw_obd (by decide +kernel)) rfl) rfl (List.forall_mem_cons.mpr ⟨rfl, List.forall_mem_cons.mpr ⟨rfl, List.forall_mem_cons.mpr ⟨rfl, fun _ h => absurd h List.not_mem_nil⟩⟩⟩) (ygf211 hB _ _ _) (fun v3 m3 cv3 => ?_)
      refine xS_of (pc' := 17) (L' := [(0, xa 0), (1, xi x1), (2, xi (w32 (x2 + 1)))]) (st' := []) (m' := m3) (fun ex ns r q => ?_) ?_
      · refine xw_iincc (z := (w32 (x2 + 1))) (L' := [(2, xi (w32 (x2 + 1))), (0, xa 0), (1, xi x1)]) rfl rfl (by decide) rfl rfl ?_
        refine xw_goto rfl ?_
        refine xw_lo (L2 := [(0, xa 0), (1, xi x1), (2, xi (w32 (x2 + 1)))]) (List.forall_mem_cons.mpr ⟨rfl, List.forall_mem_cons.mpr ⟨rfl, List.forall_mem_cons.mpr ⟨rfl, fun _ h => absurd h List.not_mem_nil⟩⟩⟩) ?_
        exact q
      exact hr17 _ _ _ c1 (w32_w _)
  · refine xS_of (pc' := 58) (L' := [(0, xa 0), (1, xi x1), (2, xi x2)]) (st' := []) (m' := m) (fun ex ns r q => ?_) ?_
    · refine xw_ic_geT rfl (w32_cg c2) (w32_cg c1) (Int.not_lt.mp h0) ?_
      exact q
    exact xS_ret (v := 0) rfl rfl rfl rfl
theorem ygl210_17 {B : Nat} (hB : B ≤ 512) {xs : Nat → Int32} {SL d : Nat} : ∀ n x1 x2 m, w32 x1 = x1 → w32 x2 = x2 → xS B xs SL (d + 7) 210 (3, none, [], 1) 0 17 [(0, xa 0), (1, xi x1), (2, xi x2)] [] m (xl2 (yl210_17 B) n x1 x2 m) := by
  intro n
  induction n with
  | zero => intro x1 x2 m c1 c2; exact xS_none
  | succ n ih => exact ysl210_17 hB ih
theorem ygf210 {B : Nat} (hB : B ≤ 512) {xs : Nat → Int32} {SL d : Nat} : ∀ p0 m, w32 p0 = p0 → xS B xs SL (d + 7) 210 (3, none, [], 1) 0 0 [(0, xa 0), (1, xi p0)] [] m (yf210 B p0 m) := by
  intro p0 m cp0
  unfold yf210
  refine xS_of (pc' := 12) (L' := [(0, xa 0), (1, xi p0)]) (st' := [xa 302]) (m' := (xw_u m 395 5 0)) (fun ex ns r q => ?_) ?_
  · refine xw_aload_n rfl rfl rfl ?_
    refine xw_gfR (n := 395) (e := 395) rfl (xw_obd (by decide +kernel)) (by decide +kernel) (by decide +kernel) rfl ?_
    refine xw_iconst rfl ?_
    refine xw_pfI rfl (xw_obd (by decide +kernel)) xk8_5 (qi := 5) rfl (xw_okI rfl) ?_
    refine xw_aload_n rfl rfl rfl ?_
    refine xw_gfR (n := 302) (e := 302) rfl (xw_obd (by decide +kernel)) (by decide +kernel) (by decide +kernel) rfl ?_
    refine xw_lo (L2 := [(0, xa 0), (1, xi p0)]) (List.forall_mem_cons.mpr ⟨rfl, List.forall_mem_cons.mpr ⟨rfl, fun _ h => absurd h List.not_mem_nil⟩⟩) ?_
    exact q
  refine xS_call (q := 105) (n := 1) (kq := 0) (as := [xa 302]) (st1 := []) rfl rfl rfl rfl rfl rfl rfl rfl rfl rfl (fun _ => xw_rcv1 (t := 7) (xw_obd (by decide +kernel)) rfl) rfl (List.forall_mem_cons.mpr ⟨rfl, fun _ h => absurd h List.not_mem_nil⟩) (ygf105 hB _) (fun v1 m1 cv1 => ?_)
  refine xS_of (pc' := 17) (L' := [(0, xa 0), (1, xi p0), (2, xi 0)]) (st' := []) (m' := m1) (fun ex ns r q => ?_) ?_
  · refine xw_iconst rfl ?_
    refine xw_istore_n (L' := [(2, xi 0), (0, xa 0), (1, xi p0)]) rfl (by decide) rfl ?_
    refine xw_lo (L2 := [(0, xa 0), (1, xi p0), (2, xi 0)]) (List.forall_mem_cons.mpr ⟨rfl, List.forall_mem_cons.mpr ⟨rfl, List.forall_mem_cons.mpr ⟨rfl, fun _ h => absurd h List.not_mem_nil⟩⟩⟩) ?_
    exact q
  exact ygl210_17 hB 1000000 _ _ _ cp0 rfl
theorem ysl212_4 {B : Nat} (hB : B ≤ 512) {xs : Nat → Int32} {SL d : Nat} {r4 : Int → Int → xw_M → xP} (hr4 : ∀ x1 x2 m, w32 x1 = x1 → w32 x2 = x2 → xS B xs SL (d + 0) 212 (3, none, [], 11) 0 4 [(0, xa 508), (1, xi x1), (2, xi x2)] [] m (r4 x1 x2 m)) : ∀ x1 x2 m, w32 x1 = x1 → w32 x2 = x2 → xS B xs SL (d + 0) 212 (3, none, [], 11) 0 4 [(0, xa 508), (1, xi x1), (2, xi x2)] [] m (yl212_4 B r4 x1 x2 m) := by
  intro x1 x2 m c1 c2
  unfold yl212_4
  refine xS_of (pc' := 9) (L' := [(0, xa 508), (1, xi x1), (2, xi x2)]) (st' := [xi (xR m 508 14), xi x2]) (m' := m) (fun ex ns r q => ?_) ?_
  · refine xw_iload_n rfl rfl ?_
    refine xw_aload_n rfl rfl rfl ?_
    refine xw_gfIc (v := (m 508 14)) (v' := (xR m 508 14)) rfl (xw_obd (by decide +kernel)) xk10_14 (qi := 14) rfl rfl rfl ?_
    exact q
  refine xS_if (fun h0 => ?_) (fun h0 => ?_)
  · refine xS_g (fun g1 => ?_)
    refine xS_of (pc' := 19) (L' := [(0, xa 508), (1, xi x1), (2, xi x2)]) (st' := [xi 3, xi (xR m 513 x2)]) (m' := m) (fun ex ns r q => ?_) ?_
    · refine xw_ic_geF rfl (w32_cg c2) (w32_cg (w32_xR _ _ _)) (Int.not_le.mpr h0) ?_
      refine xw_aload_n rfl rfl rfl ?_
      refine xw_gfR (n := 513) (e := 513) rfl (xw_obd (by decide +kernel)) (by decide +kernel) (by decide +kernel) rfl ?_
      refine xw_iload_n rfl rfl ?_
      refine xw_ialdc (n := 200) (v := (m 513 x2)) (v' := (xR m 513 x2)) rfl hB (xw_obd (by decide +kernel)) rfl g1 rfl rfl ?_
      refine xw_iconst rfl ?_
      exact q
    refine xS_if (fun h2 => ?_) (fun h2 => ?_)
    · refine xS_of (pc' := 4) (L' := [(0, xa 508), (1, xi x1), (2, xi (w32 (x2 + 1)))]) (st' := []) (m' := m) (fun ex ns r q => ?_) ?_
      · refine xw_ic_eqT rfl (w32_cg (w32_xR _ _ _)) (w32_cg rfl) h2 ?_
        refine xw_iincc (z := (w32 (x2 + 1))) (L' := [(2, xi (w32 (x2 + 1))), (0, xa 508), (1, xi x1)]) rfl rfl (by decide) rfl rfl ?_
        refine xw_goto rfl ?_
        refine xw_lo (L2 := [(0, xa 508), (1, xi x1), (2, xi (w32 (x2 + 1)))]) (List.forall_mem_cons.mpr ⟨rfl, List.forall_mem_cons.mpr ⟨rfl, List.forall_mem_cons.mpr ⟨rfl, fun _ h => absurd h List.not_mem_nil⟩⟩⟩) ?_
        exact q
      exact hr4 _ _ _ c1 (w32_w _)
    · refine xS_g (fun g3 => ?_)
      refine xS_of (pc' := 4) (L' := [(0, xa 508), (1, xi (w32 (x1 + 1))), (2, xi (w32 (x2 + 1)))]) (st' := []) (m' := (xw_u (xw_u (xw_u m 513 x1 (xR m 513 x2)) 514 x1 (xR m 514 x2)) 515 x1 (xR m 515 x2))) (fun ex ns r q => ?_) ?_
      · refine xw_ic_eqF rfl (w32_cg (w32_xR _ _ _)) (w32_cg rfl) h2 ?_
        refine xw_aload_n rfl rfl rfl ?_
        refine xw_gfR (n := 513) (e := 513) rfl (xw_obd (by decide +kernel)) (by decide +kernel) (by decide +kernel) rfl ?_
        refine xw_iload_n rfl rfl ?_
        refine xw_aload_n rfl rfl rfl ?_
        refine xw_gfR (n := 513) (e := 513) rfl (xw_obd (by decide +kernel)) (by decide +kernel) (by decide +kernel) rfl ?_
        refine xw_iload_n rfl rfl ?_
        refine xw_ialdc (n := 200) (v := (m 513 x2)) (v' := (xR m 513 x2)) rfl hB (xw_obd (by decide +kernel)) rfl g1 rfl rfl ?_
        refine xw_iast (n := 200) rfl hB (xw_obd (by decide +kernel)) rfl g3 ?_
        refine xw_aload_n rfl rfl rfl ?_
        refine xw_gfR (n := 514) (e := 514) rfl (xw_obd (by decide +kernel)) (by decide +kernel) (by decide +kernel) rfl ?_
        refine xw_iload_n rfl rfl ?_
        refine xw_aload_n rfl rfl rfl ?_
        refine xw_gfR (n := 514) (e := 514) rfl (xw_obd (by decide +kernel)) (by decide +kernel) (by decide +kernel) rfl ?_
        refine xw_iload_n rfl rfl ?_
        refine xw_ialdc (n := 200) (v := (m 514 x2)) (v' := (xR m 514 x2)) rfl hB (xw_obd (by decide +kernel)) rfl g1 (xw_un (fun e => absurd e.1 (by decide)) rfl) rfl ?_
        refine xw_iast (n := 200) rfl hB (xw_obd (by decide +kernel)) rfl g3 ?_
        refine xw_aload_n rfl rfl rfl ?_
        refine xw_gfR (n := 515) (e := 515) rfl (xw_obd (by decide +kernel)) (by decide +kernel) (by decide +kernel) rfl ?_
        refine xw_iload_n rfl rfl ?_
        refine xw_aload_n rfl rfl rfl ?_
        refine xw_gfR (n := 515) (e := 515) rfl (xw_obd (by decide +kernel)) (by decide +kernel) (by decide +kernel) rfl ?_
        refine xw_iload_n rfl rfl ?_
        refine xw_ialdc (n := 200) (v := (m 515 x2)) (v' := (xR m 515 x2)) rfl hB (xw_obd (by decide +kernel)) rfl g1 (xw_un (fun e => absurd e.1 (by decide)) (xw_un (fun e => absurd e.1 (by decide)) rfl)) rfl ?_
        refine xw_iast (n := 200) rfl hB (xw_obd (by decide +kernel)) rfl g3 ?_
        refine xw_iincc (z := (w32 (x1 + 1))) (L' := [(1, xi (w32 (x1 + 1))), (0, xa 508), (2, xi x2)]) rfl rfl (by decide) rfl rfl ?_
        refine xw_iincc (z := (w32 (x2 + 1))) (L' := [(2, xi (w32 (x2 + 1))), (1, xi (w32 (x1 + 1))), (0, xa 508)]) rfl rfl (by decide) rfl rfl ?_
        refine xw_goto rfl ?_
        refine xw_lo (L2 := [(0, xa 508), (1, xi (w32 (x1 + 1))), (2, xi (w32 (x2 + 1)))]) (List.forall_mem_cons.mpr ⟨rfl, List.forall_mem_cons.mpr ⟨rfl, List.forall_mem_cons.mpr ⟨rfl, fun _ h => absurd h List.not_mem_nil⟩⟩⟩) ?_
        exact q
      exact hr4 _ _ _ (w32_w _) (w32_w _)
  · refine xS_of (pc' := 72) (L' := [(0, xa 508), (1, xi x1), (2, xi x2)]) (st' := []) (m' := (xw_u m 508 14 x1)) (fun ex ns r q => ?_) ?_
    · refine xw_ic_geT rfl (w32_cg c2) (w32_cg (w32_xR _ _ _)) (Int.not_lt.mp h0) ?_
      refine xw_aload_n rfl rfl rfl ?_
      refine xw_iload_n rfl rfl ?_
      refine xw_pfI rfl (xw_obd (by decide +kernel)) xk10_14 (qi := 14) rfl (xw_okI rfl) ?_
      exact q
    exact xS_ret (v := 0) rfl rfl rfl rfl
theorem ygl212_4 {B : Nat} (hB : B ≤ 512) {xs : Nat → Int32} {SL d : Nat} : ∀ n x1 x2 m, w32 x1 = x1 → w32 x2 = x2 → xS B xs SL (d + 0) 212 (3, none, [], 11) 0 4 [(0, xa 508), (1, xi x1), (2, xi x2)] [] m (xl2 (yl212_4 B) n x1 x2 m) := by
  intro n
  induction n with
  | zero => intro x1 x2 m c1 c2; exact xS_none
  | succ n ih => exact ysl212_4 hB ih
theorem ygf212 {B : Nat} (hB : B ≤ 512) {xs : Nat → Int32} {SL d : Nat} : ∀ m, xS B xs SL (d + 0) 212 (3, none, [], 11) 0 0 [(0, xa 508)] [] m (yf212 B m) := by
  intro m
  unfold yf212
  refine xS_of (pc' := 4) (L' := [(0, xa 508), (1, xi 0), (2, xi 0)]) (st' := []) (m' := m) (fun ex ns r q => ?_) ?_
  · refine xw_iconst rfl ?_
    refine xw_istore_n (L' := [(1, xi 0), (0, xa 508)]) rfl (by decide) rfl ?_
    refine xw_iconst rfl ?_
    refine xw_istore_n (L' := [(2, xi 0), (1, xi 0), (0, xa 508)]) rfl (by decide) rfl ?_
    refine xw_lo (L2 := [(0, xa 508), (1, xi 0), (2, xi 0)]) (List.forall_mem_cons.mpr ⟨rfl, List.forall_mem_cons.mpr ⟨rfl, List.forall_mem_cons.mpr ⟨rfl, fun _ h => absurd h List.not_mem_nil⟩⟩⟩) ?_
    exact q
  exact ygl212_4 hB 1000000 _ _ _ rfl rfl
theorem ysl213_8 {B : Nat} (hB : B ≤ 512) {xs : Nat → Int32} {SL d : Nat} {r8 : Int → Int → Int → Int → xw_M → xP} (hr8 : ∀ x1 x2 x3 x4 m, w32 x3 = x3 → w32 x4 = x4 → xS B xs SL (d + 0) 213 (5, none, [], 11) 0 8 [(0, xa 508), (1, xa x1), (2, xa x2), (3, xi x3), (4, xi x4)] [] m (r8 x1 x2 x3 x4 m)) : ∀ x1 x2 x3 x4 m, w32 x3 = x3 → w32 x4 = x4 → xS B xs SL (d + 0) 213 (5, none, [], 11) 0 8 [(0, xa 508), (1, xa x1), (2, xa x2), (3, xi x3), (4, xi x4)] [] m (yl213_8 B r8 x1 x2 x3 x4 m) := by
  intro x1 x2 x3 x4 m c3 c4
  unfold yl213_8
  refine xS_of (pc' := 11) (L' := [(0, xa 508), (1, xa x1), (2, xa x2), (3, xi x3), (4, xi x4)]) (st' := [xi x3, xi x4]) (m' := m) (fun ex ns r q => ?_) ?_
  · refine xw_iload rfl rfl ?_
    refine xw_iload_n rfl rfl ?_
    exact q
  refine xS_if (fun h0 => ?_) (fun h0 => ?_)
  · refine xS_g (fun g1 => ?_)
    refine xS_g (fun g2 => ?_)
    refine xS_g (fun g3 => ?_)
    refine xS_g (fun g4 => ?_)
    refine xS_g (fun g5 => ?_)
    refine xS_of (pc' := 8) (L' := [(0, xa 508), (1, xa x1), (2, xa x2), (3, xi x3), (4, xi (w32 (x4 + 1)))]) (st' := []) (m' := (xw_u (xw_u m 511 x4 (xR m x1 x4)) 512 x4 (xR (xw_u m 511 x4 (xR m x1 x4)) x2 x4))) (fun ex ns r q => ?_) ?_
    · refine xw_ic_geF rfl (w32_cg c4) (w32_cg c3) (Int.not_le.mpr h0) ?_
      refine xw_aload_n rfl rfl rfl ?_
      refine xw_gfR (n := 511) (e := 511) rfl (xw_obd (by decide +kernel)) (by decide +kernel) (by decide +kernel) rfl ?_
      refine xw_iload rfl rfl ?_
      refine xw_aload_n rfl rfl rfl ?_
      refine xw_iload rfl rfl ?_
      refine xw_ialdc (n := (xw_le B x1)) (v := (m x1 x4)) (v' := (xR m x1 x4)) rfl hB (xw_obd g2) rfl g1 rfl rfl ?_
      refine xw_iast (n := 16) rfl hB (xw_obd (by decide +kernel)) rfl g3 ?_
      refine xw_aload_n rfl rfl rfl ?_
      refine xw_gfR (n := 512) (e := 512) rfl (xw_obd (by decide +kernel)) (by decide +kernel) (by decide +kernel) rfl ?_
      refine xw_iload rfl rfl ?_
      refine xw_aload_n rfl rfl rfl ?_
      refine xw_iload rfl rfl ?_
      refine xw_ialdc (n := (xw_le B x2)) (v := ((xw_u m 511 x4 (xR m x1 x4)) x2 x4)) (v' := (xR (xw_u m 511 x4 (xR m x1 x4)) x2 x4)) rfl hB (xw_obd g5) rfl g4 rfl rfl ?_
      refine xw_iast (n := 16) rfl hB (xw_obd (by decide +kernel)) rfl g3 ?_
      refine xw_iincc (z := (w32 (x4 + 1))) (L' := [(4, xi (w32 (x4 + 1))), (0, xa 508), (1, xa x1), (2, xa x2), (3, xi x3)]) rfl rfl (by decide) rfl rfl ?_
      refine xw_goto rfl ?_
      refine xw_lo (L2 := [(0, xa 508), (1, xa x1), (2, xa x2), (3, xi x3), (4, xi (w32 (x4 + 1)))]) (List.forall_mem_cons.mpr ⟨rfl, List.forall_mem_cons.mpr ⟨rfl, List.forall_mem_cons.mpr ⟨rfl, List.forall_mem_cons.mpr ⟨rfl, List.forall_mem_cons.mpr ⟨rfl, fun _ h => absurd h List.not_mem_nil⟩⟩⟩⟩⟩) ?_
      exact q
    exact hr8 _ _ _ _ _ c3 (w32_w _)
  · refine xS_of (pc' := 42) (L' := [(0, xa 508), (1, xa x1), (2, xa x2), (3, xi x3), (4, xi x4)]) (st' := []) (m' := m) (fun ex ns r q => ?_) ?_
    · refine xw_ic_geT rfl (w32_cg c4) (w32_cg c3) (Int.not_lt.mp h0) ?_
      exact q
    exact xS_ret (v := 0) rfl rfl rfl rfl
theorem ygl213_8 {B : Nat} (hB : B ≤ 512) {xs : Nat → Int32} {SL d : Nat} : ∀ n x1 x2 x3 x4 m, w32 x3 = x3 → w32 x4 = x4 → xS B xs SL (d + 0) 213 (5, none, [], 11) 0 8 [(0, xa 508), (1, xa x1), (2, xa x2), (3, xi x3), (4, xi x4)] [] m (xl4 (yl213_8 B) n x1 x2 x3 x4 m) := by
  intro n
  induction n with
  | zero => intro x1 x2 x3 x4 m c3 c4; exact xS_none
  | succ n ih => exact ysl213_8 hB ih
theorem ygf213 {B : Nat} (hB : B ≤ 512) {xs : Nat → Int32} {SL d : Nat} : ∀ p0 p1 p2 m, w32 p2 = p2 → xS B xs SL (d + 0) 213 (5, none, [], 11) 0 0 [(0, xa 508), (1, xa p0), (2, xa p1), (3, xi p2)] [] m (yf213 B p0 p1 p2 m) := by
  intro p0 p1 p2 m cp2
  unfold yf213
  refine xS_of (pc' := 8) (L' := [(0, xa 508), (1, xa p0), (2, xa p1), (3, xi p2), (4, xi 0)]) (st' := []) (m' := (xw_u m 508 11 p2)) (fun ex ns r q => ?_) ?_
  · refine xw_aload_n rfl rfl rfl ?_
    refine xw_iload_n rfl rfl ?_
    refine xw_pfI rfl (xw_obd (by decide +kernel)) xk10_11 (qi := 11) rfl (xw_okI rfl) ?_
    refine xw_iconst rfl ?_
    refine xw_istore (L' := [(4, xi 0), (0, xa 508), (1, xa p0), (2, xa p1), (3, xi p2)]) rfl (by decide) rfl ?_
    refine xw_lo (L2 := [(0, xa 508), (1, xa p0), (2, xa p1), (3, xi p2), (4, xi 0)]) (List.forall_mem_cons.mpr ⟨rfl, List.forall_mem_cons.mpr ⟨rfl, List.forall_mem_cons.mpr ⟨rfl, List.forall_mem_cons.mpr ⟨rfl, List.forall_mem_cons.mpr ⟨rfl, fun _ h => absurd h List.not_mem_nil⟩⟩⟩⟩⟩) ?_
    exact q
  exact ygl213_8 hB 1000000 _ _ _ _ _ cp2 rfl
theorem ygk200_188 {B : Nat} (hB : B ≤ 512) {xs : Nat → Int32} {SL d : Nat} : ∀ x2 x3 x4 m, w32 x2 = x2 → w32 x3 = x3 → w32 x4 = x4 → xS B xs SL (d + 8) 200 (5, (some .int), [], 1) 1 188 [(0, xa 0), (2, xi x2), (3, xi x3), (4, xi x4)] [] m (yk200_188 B x2 x3 x4 m) := by
  intro x2 x3 x4 m c2 c3 c4
  unfold yk200_188
  refine xS_of (pc' := 204) (L' := [(0, xa 0), (2, xi x2), (3, xi x3), (4, xi x4)]) (st' := [xi x2, xa 419, xa 296, xa 508]) (m' := m) (fun ex ns r q => ?_) ?_
  · refine xw_aload_n rfl rfl rfl ?_
    refine xw_gfR (n := 508) (e := 508) rfl (xw_obd (by decide +kernel)) (by decide +kernel) (by decide +kernel) rfl ?_
    refine xw_aload_n rfl rfl rfl ?_
    refine xw_gfR (n := 295) (e := 295) rfl (xw_obd (by decide +kernel)) (by decide +kernel) (by decide +kernel) rfl ?_
    refine xw_gfR (n := 296) (e := 296) rfl (xw_obd (by decide +kernel)) (by decide +kernel) (by decide +kernel) rfl ?_
    refine xw_aload_n rfl rfl rfl ?_
    refine xw_gfR (n := 419) (e := 419) rfl (xw_obd (by decide +kernel)) (by decide +kernel) (by decide +kernel) rfl ?_
    refine xw_iload_n rfl rfl ?_
    refine xw_lo (L2 := [(0, xa 0), (2, xi x2), (3, xi x3), (4, xi x4)]) (List.forall_mem_cons.mpr ⟨rfl, List.forall_mem_cons.mpr ⟨rfl, List.forall_mem_cons.mpr ⟨rfl, List.forall_mem_cons.mpr ⟨rfl, fun _ h => absurd h List.not_mem_nil⟩⟩⟩⟩) ?_
    exact q
  refine xS_call (q := 213) (n := 4) (kq := 0) (as := [xa 508, xa 296, xa 419, xi x2]) (st1 := []) rfl rfl rfl rfl rfl rfl rfl rfl rfl rfl (fun _ => xw_rcv1 (t := 10) (xw_obd (by decide +kernel)) rfl) rfl (List.forall_mem_cons.mpr ⟨rfl, List.forall_mem_cons.mpr ⟨rfl, List.forall_mem_cons.mpr ⟨rfl, List.forall_mem_cons.mpr ⟨rfl, fun _ h => absurd h List.not_mem_nil⟩⟩⟩⟩) (ygf213 hB _ _ _ _ c2) (fun v1 m1 cv1 => ?_)
  refine xS_of (pc' := 214) (L' := [(0, xa 0), (2, xi x2)]) (st' := [xi x3, xi x4, xa 508]) (m' := m1) (fun ex ns r q => ?_) ?_
  · refine xw_aload_n rfl rfl rfl ?_
    refine xw_gfR (n := 508) (e := 508) rfl (xw_obd (by decide +kernel)) (by decide +kernel) (by decide +kernel) rfl ?_
    refine xw_iload rfl rfl ?_
    refine xw_iload_n rfl rfl ?_
    refine xw_lo (L2 := [(0, xa 0), (2, xi x2)]) (List.forall_mem_cons.mpr ⟨rfl, List.forall_mem_cons.mpr ⟨rfl, fun _ h => absurd h List.not_mem_nil⟩⟩) ?_
    exact q
  refine xS_call (q := 160) (n := 3) (kq := 4) (as := [xa 508, xi x4, xi x3]) (st1 := []) rfl rfl rfl rfl rfl rfl rfl rfl rfl rfl (fun _ => xw_rcv1 (t := 10) (xw_obd (by decide +kernel)) rfl) rfl (List.forall_mem_cons.mpr ⟨rfl, List.forall_mem_cons.mpr ⟨rfl, List.forall_mem_cons.mpr ⟨rfl, fun _ h => absurd h List.not_mem_nil⟩⟩⟩) (ygf160 hB _ _ _ c4 c3) (fun v2 m2 cv2 => ?_)
  refine xS_if (fun h0 => ?_) (fun h0 => ?_)
  · refine xS_of (pc' := 225) (L' := []) (st' := [xa 0]) (m' := m2) (fun ex ns r q => ?_) ?_
    · refine xw_if_eqT rfl (w32_cg (w32_of (xw_zr cv2))) h0 ?_
      refine xw_aload_n rfl rfl rfl ?_
      refine xw_lo (L2 := []) (fun _ h => absurd h List.not_mem_nil) ?_
      exact q
    refine xS_call (q := 163) (n := 1) (kq := 1) (as := [xa 0]) (st1 := []) rfl rfl rfl rfl rfl rfl rfl rfl rfl rfl (fun _ => xw_rcv1 (t := 0) (xw_obd (by decide +kernel)) rfl) rfl (List.forall_mem_cons.mpr ⟨rfl, fun _ h => absurd h List.not_mem_nil⟩) (ygf163 hB _) (fun v3 m3 cv3 => ?_)
    exact xS_ret (v := v3) rfl rfl xw_rtI cv3
  · refine xS_of (pc' := 228) (L' := [(0, xa 0), (2, xi x2)]) (st' := [xi x2]) (m' := m2) (fun ex ns r q => ?_) ?_
    · refine xw_if_eqF rfl (w32_cg (w32_of (xw_zr cv2))) h0 ?_
      refine xw_iload_n rfl rfl ?_
      refine xw_goto rfl ?_
      exact q
    exact xS_ret (v := x2) rfl rfl xw_rtI c2
theorem ygk200_156 {B : Nat} (hB : B ≤ 512) {xs : Nat → Int32} {SL d : Nat} : ∀ x2 x3 x4 m, w32 x2 = x2 → w32 x3 = x3 → w32 x4 = x4 → xS B xs SL (d + 8) 200 (5, (some .int), [], 1) 1 156 [(0, xa 0), (2, xi x2), (3, xi x3), (4, xi x4)] [] m (yk200_156 B x2 x3 x4 m) := by
  intro x2 x3 x4 m c2 c3 c4
  unfold yk200_156
  refine xS_of (pc' := 170) (L' := [(0, xa 0), (2, xi x2), (3, xi x3), (4, xi x4)]) (st' := [xa 508]) (m' := (xw_u m 0 16 ((xR m 0 16) + 1))) (fun ex ns r q => ?_) ?_
  · refine xw_aload_n rfl rfl rfl ?_
    refine xw_dup rfl rfl ?_
    refine xw_gfIc (v := (m 0 16)) (v' := (xR m 0 16)) rfl (xw_obd (by decide +kernel)) xk0_16 (qi := 16) rfl rfl rfl ?_
    refine xw_iconst rfl ?_
    refine xw_iadd rfl ?_
    refine xw_pfI rfl (xw_obd (by decide +kernel)) xk0_16 (qi := 16) rfl (xw_okI rfl) ?_
    refine xw_aload_n rfl rfl rfl ?_
    refine xw_gfR (n := 508) (e := 508) rfl (xw_obd (by decide +kernel)) (by decide +kernel) (by decide +kernel) rfl ?_
    refine xw_lo (L2 := [(0, xa 0), (2, xi x2), (3, xi x3), (4, xi x4)]) (List.forall_mem_cons.mpr ⟨rfl, List.forall_mem_cons.mpr ⟨rfl, List.forall_mem_cons.mpr ⟨rfl, List.forall_mem_cons.mpr ⟨rfl, fun _ h => absurd h List.not_mem_nil⟩⟩⟩⟩) ?_
    exact q
  refine xS_call (q := 212) (n := 1) (kq := 0) (as := [xa 508]) (st1 := []) rfl rfl rfl rfl rfl rfl rfl rfl rfl rfl (fun _ => xw_rcv1 (t := 10) (xw_obd (by decide +kernel)) rfl) rfl (List.forall_mem_cons.mpr ⟨rfl, fun _ h => absurd h List.not_mem_nil⟩) (ygf212 hB _) (fun v1 m1 cv1 => ?_)
  refine xS_of (pc' := 174) (L' := [(0, xa 0), (2, xi x2), (3, xi x3), (4, xi x4)]) (st' := [xi x2]) (m' := m1) (fun ex ns r q => ?_) ?_
  · refine xw_iload_n rfl rfl ?_
    exact q
  refine xS_if (fun h0 => ?_) (fun h0 => ?_)
  · refine xS_of (pc' := 185) (L' := [(0, xa 0), (2, xi x2), (3, xi x3), (4, xi x4)]) (st' := [xi x3, xi x4, xi 3, xa 508]) (m' := m1) (fun ex ns r q => ?_) ?_
    · refine xw_if_leF rfl (w32_cg c2) (Int.not_le.mpr h0) ?_
      refine xw_aload_n rfl rfl rfl ?_
      refine xw_gfR (n := 508) (e := 508) rfl (xw_obd (by decide +kernel)) (by decide +kernel) (by decide +kernel) rfl ?_
      refine xw_iconst rfl ?_
      refine xw_iload rfl rfl ?_
      refine xw_iload_n rfl rfl ?_
      refine xw_lo (L2 := [(0, xa 0), (2, xi x2), (3, xi x3), (4, xi x4)]) (List.forall_mem_cons.mpr ⟨rfl, List.forall_mem_cons.mpr ⟨rfl, List.forall_mem_cons.mpr ⟨rfl, List.forall_mem_cons.mpr ⟨rfl, fun _ h => absurd h List.not_mem_nil⟩⟩⟩⟩) ?_
      exact q
    refine xS_call (q := 159) (n := 4) (kq := 0) (as := [xa 508, xi 3, xi x4, xi x3]) (st1 := []) rfl rfl rfl rfl rfl rfl rfl rfl rfl rfl (fun _ => xw_rcv1 (t := 10) (xw_obd (by decide +kernel)) rfl) rfl (List.forall_mem_cons.mpr ⟨rfl, List.forall_mem_cons.mpr ⟨rfl, List.forall_mem_cons.mpr ⟨rfl, List.forall_mem_cons.mpr ⟨rfl, fun _ h => absurd h List.not_mem_nil⟩⟩⟩⟩) (ygf159 hB _ _ _ _ rfl c4 c3) (fun v2 m2 cv2 => ?_)
    refine xS_of (pc' := 188) (L' := [(0, xa 0), (2, xi x2), (3, xi x3), (4, xi x4)]) (st' := []) (m' := m2) (fun ex ns r q => ?_) ?_
    · refine xw_lo (L2 := [(0, xa 0), (2, xi x2), (3, xi x3), (4, xi x4)]) (List.forall_mem_cons.mpr ⟨rfl, List.forall_mem_cons.mpr ⟨rfl, List.forall_mem_cons.mpr ⟨rfl, List.forall_mem_cons.mpr ⟨rfl, fun _ h => absurd h List.not_mem_nil⟩⟩⟩⟩) ?_
      exact q
    exact ygk200_188 hB _ _ _ _ c2 c3 c4
  · refine xS_of (pc' := 188) (L' := [(0, xa 0), (2, xi x2), (3, xi x3), (4, xi x4)]) (st' := []) (m' := m1) (fun ex ns r q => ?_) ?_
    · refine xw_if_leT rfl (w32_cg c2) (Int.not_lt.mp h0) ?_
      refine xw_lo (L2 := [(0, xa 0), (2, xi x2), (3, xi x3), (4, xi x4)]) (List.forall_mem_cons.mpr ⟨rfl, List.forall_mem_cons.mpr ⟨rfl, List.forall_mem_cons.mpr ⟨rfl, List.forall_mem_cons.mpr ⟨rfl, fun _ h => absurd h List.not_mem_nil⟩⟩⟩⟩) ?_
      exact q
    exact ygk200_188 hB _ _ _ _ c2 c3 c4
theorem ygk200_44 {B : Nat} (hB : B ≤ 512) {xs : Nat → Int32} {SL d : Nat} : ∀ x1 m, w32 x1 = x1 → xS B xs SL (d + 8) 200 (5, (some .int), [], 1) 1 44 [(0, xa 0), (1, xi x1)] [] m (yk200_44 B x1 m) := by
  intro x1 m c1
  unfold yk200_44
  refine xS_of (pc' := 49) (L' := [(0, xa 0), (1, xi x1)]) (st' := [xi 1]) (m' := m) (fun ex ns r q => ?_) ?_
  · refine xw_iconst rfl ?_
    refine xw_goto rfl ?_
    refine xw_lo (L2 := [(0, xa 0), (1, xi x1)]) (List.forall_mem_cons.mpr ⟨rfl, List.forall_mem_cons.mpr ⟨rfl, fun _ h => absurd h List.not_mem_nil⟩⟩) ?_
    exact q
  refine xS_call (q := 39) (n := 1) (kq := 0) (as := [xi 1]) (st1 := []) rfl rfl rfl rfl rfl rfl rfl rfl rfl rfl (fun _ => xw_rcv0 rfl) rfl (List.forall_mem_cons.mpr ⟨rfl, fun _ h => absurd h List.not_mem_nil⟩) (ygf39 hB _ _ rfl) (fun v1 m1 cv1 => ?_)
  refine xS_of (pc' := 64) (L' := [(0, xa 0)]) (st' := [xi (xR m1 508 10), xi x1, xa 295]) (m' := m1) (fun ex ns r q => ?_) ?_
  · refine xw_aload_n rfl rfl rfl ?_
    refine xw_gfR (n := 295) (e := 295) rfl (xw_obd (by decide +kernel)) (by decide +kernel) (by decide +kernel) rfl ?_
    refine xw_iload_n rfl rfl ?_
    refine xw_aload_n rfl rfl rfl ?_
    refine xw_gfR (n := 508) (e := 508) rfl (xw_obd (by decide +kernel)) (by decide +kernel) (by decide +kernel) rfl ?_
    refine xw_gfIc (v := (m1 508 10)) (v' := (xR m1 508 10)) rfl (xw_obd (by decide +kernel)) xk10_10 (qi := 10) rfl rfl rfl ?_
    refine xw_lo (L2 := [(0, xa 0)]) (List.forall_mem_cons.mpr ⟨rfl, fun _ h => absurd h List.not_mem_nil⟩) ?_
    exact q
  refine xS_call (q := 202) (n := 3) (kq := 1) (as := [xa 295, xi x1, xi (xR m1 508 10)]) (st1 := []) rfl rfl rfl rfl rfl rfl rfl rfl rfl rfl (fun _ => xw_rcv1 (t := 6) (xw_obd (by decide +kernel)) rfl) rfl (List.forall_mem_cons.mpr ⟨rfl, List.forall_mem_cons.mpr ⟨rfl, List.forall_mem_cons.mpr ⟨rfl, fun _ h => absurd h List.not_mem_nil⟩⟩⟩) (ygf202 hB _ _ _ c1 (w32_xR _ _ _)) (fun v2 m2 cv2 => ?_)
  refine xS_of (pc' := 74) (L' := [(4, xi (-1)), (3, xi 0), (2, xi v2), (0, xa 0)]) (st' := [xi v2]) (m' := m2) (fun ex ns r q => ?_) ?_
  · refine xw_istore_n (L' := [(2, xi v2), (0, xa 0)]) rfl (by decide) rfl ?_
    refine xw_iconst rfl ?_
    refine xw_istore_n (L' := [(3, xi 0), (2, xi v2), (0, xa 0)]) rfl (by decide) rfl ?_
    refine xw_iconst rfl ?_
    refine xw_istore (L' := [(4, xi (-1)), (3, xi 0), (2, xi v2), (0, xa 0)]) rfl (by decide) rfl ?_
    refine xw_iload_n rfl rfl ?_
    exact q
  refine xS_if (fun h0 => ?_) (fun h0 => ?_)
  · refine xS_of (pc' := 81) (L' := [(0, xa 0), (2, xi v2)]) (st' := [xa 508]) (m' := m2) (fun ex ns r q => ?_) ?_
    · refine xw_if_leF rfl (w32_cg cv2) (Int.not_le.mpr h0) ?_
      refine xw_aload_n rfl rfl rfl ?_
      refine xw_gfR (n := 508) (e := 508) rfl (xw_obd (by decide +kernel)) (by decide +kernel) (by decide +kernel) rfl ?_
      refine xw_lo (L2 := [(0, xa 0), (2, xi v2)]) (List.forall_mem_cons.mpr ⟨rfl, List.forall_mem_cons.mpr ⟨rfl, fun _ h => absurd h List.not_mem_nil⟩⟩) ?_
      exact q
    refine xS_call (q := 209) (n := 1) (kq := 1) (as := [xa 508]) (st1 := []) rfl rfl rfl rfl rfl rfl rfl rfl rfl rfl (fun _ => xw_rcv1 (t := 10) (xw_obd (by decide +kernel)) rfl) rfl (List.forall_mem_cons.mpr ⟨rfl, fun _ h => absurd h List.not_mem_nil⟩) (ygf209 hB _) (fun v3 m3 cv3 => ?_)
    refine xS_of (pc' := 87) (L' := [(0, xa 0), (2, xi v2)]) (st' := [xi 200, xi v3]) (m' := m3) (fun ex ns r q => ?_) ?_
    · refine xw_sipush (e := 200) rfl (by decide +kernel) ?_
      exact q
    refine xS_if (fun h1 => ?_) (fun h1 => ?_)
    · refine xS_of (pc' := 101) (L' := [(0, xa 0), (2, xi v2)]) (st' := [xi (xR m3 508 14), xa 0]) (m' := m3) (fun ex ns r q => ?_) ?_
      · refine xw_ic_ltT rfl (w32_cg cv3) (w32_cg rfl) h1 ?_
        refine xw_aload_n rfl rfl rfl ?_
        refine xw_aload_n rfl rfl rfl ?_
        refine xw_gfR (n := 508) (e := 508) rfl (xw_obd (by decide +kernel)) (by decide +kernel) (by decide +kernel) rfl ?_
        refine xw_gfIc (v := (m3 508 14)) (v' := (xR m3 508 14)) rfl (xw_obd (by decide +kernel)) xk10_14 (qi := 14) rfl rfl rfl ?_
        refine xw_lo (L2 := [(0, xa 0), (2, xi v2)]) (List.forall_mem_cons.mpr ⟨rfl, List.forall_mem_cons.mpr ⟨rfl, fun _ h => absurd h List.not_mem_nil⟩⟩) ?_
        exact q
      refine xS_call (q := 210) (n := 2) (kq := 0) (as := [xa 0, xi (xR m3 508 14)]) (st1 := []) rfl rfl rfl rfl rfl rfl rfl rfl rfl rfl (fun _ => xw_rcv1 (t := 0) (xw_obd (by decide +kernel)) rfl) rfl (List.forall_mem_cons.mpr ⟨rfl, List.forall_mem_cons.mpr ⟨rfl, fun _ h => absurd h List.not_mem_nil⟩⟩) (ygf210 hB _ _ (w32_xR _ _ _)) (fun v4 m4 cv4 => ?_)
      refine xS_of (pc' := 110) (L' := [(0, xa 0), (2, xi v2)]) (st' := [xi v2, xi 3, xa 508]) (m' := m4) (fun ex ns r q => ?_) ?_
      · refine xw_aload_n rfl rfl rfl ?_
        refine xw_gfR (n := 508) (e := 508) rfl (xw_obd (by decide +kernel)) (by decide +kernel) (by decide +kernel) rfl ?_
        refine xw_iconst rfl ?_
        refine xw_iload_n rfl rfl ?_
        refine xw_lo (L2 := [(0, xa 0), (2, xi v2)]) (List.forall_mem_cons.mpr ⟨rfl, List.forall_mem_cons.mpr ⟨rfl, fun _ h => absurd h List.not_mem_nil⟩⟩) ?_
        exact q
      refine xS_call (q := 150) (n := 3) (kq := 0) (as := [xa 508, xi 3, xi v2]) (st1 := []) rfl rfl rfl rfl rfl rfl rfl rfl rfl rfl (fun _ => xw_rcv1 (t := 10) (xw_obd (by decide +kernel)) rfl) rfl (List.forall_mem_cons.mpr ⟨rfl, List.forall_mem_cons.mpr ⟨rfl, List.forall_mem_cons.mpr ⟨rfl, fun _ h => absurd h List.not_mem_nil⟩⟩⟩) (ygf150 hB _ _ _ rfl cv2) (fun v5 m5 cv5 => ?_)
      refine xS_of (pc' := 126) (L' := [(0, xa 0), (2, xi v2)]) (st' := [xi v2, xa 296, xa 395, xa 0]) (m' := m5) (fun ex ns r q => ?_) ?_
      · refine xw_aload_n rfl rfl rfl ?_
        refine xw_aload_n rfl rfl rfl ?_
        refine xw_gfR (n := 395) (e := 395) rfl (xw_obd (by decide +kernel)) (by decide +kernel) (by decide +kernel) rfl ?_
        refine xw_aload_n rfl rfl rfl ?_
        refine xw_gfR (n := 295) (e := 295) rfl (xw_obd (by decide +kernel)) (by decide +kernel) (by decide +kernel) rfl ?_
        refine xw_gfR (n := 296) (e := 296) rfl (xw_obd (by decide +kernel)) (by decide +kernel) (by decide +kernel) rfl ?_
        refine xw_iload_n rfl rfl ?_
        refine xw_lo (L2 := [(0, xa 0), (2, xi v2)]) (List.forall_mem_cons.mpr ⟨rfl, List.forall_mem_cons.mpr ⟨rfl, fun _ h => absurd h List.not_mem_nil⟩⟩) ?_
        exact q
      refine xS_call (q := 192) (n := 4) (kq := 0) (as := [xa 0, xa 395, xa 296, xi v2]) (st1 := []) rfl rfl rfl rfl rfl rfl rfl rfl rfl rfl (fun _ => xw_rcv1 (t := 0) (xw_obd (by decide +kernel)) rfl) rfl (List.forall_mem_cons.mpr ⟨rfl, List.forall_mem_cons.mpr ⟨rfl, List.forall_mem_cons.mpr ⟨rfl, List.forall_mem_cons.mpr ⟨rfl, fun _ h => absurd h List.not_mem_nil⟩⟩⟩⟩) (ygf192 hB _ _ _ _ cv2) (fun v6 m6 cv6 => ?_)
      refine xS_of (pc' := 133) (L' := [(0, xa 0), (2, xi v2)]) (st' := [xa 508]) (m' := m6) (fun ex ns r q => ?_) ?_
      · refine xw_aload_n rfl rfl rfl ?_
        refine xw_gfR (n := 508) (e := 508) rfl (xw_obd (by decide +kernel)) (by decide +kernel) (by decide +kernel) rfl ?_
        refine xw_lo (L2 := [(0, xa 0), (2, xi v2)]) (List.forall_mem_cons.mpr ⟨rfl, List.forall_mem_cons.mpr ⟨rfl, fun _ h => absurd h List.not_mem_nil⟩⟩) ?_
        exact q
      refine xS_call (q := 156) (n := 1) (kq := 1) (as := [xa 508]) (st1 := []) rfl rfl rfl rfl rfl rfl rfl rfl rfl rfl (fun _ => xw_rcv1 (t := 10) (xw_obd (by decide +kernel)) rfl) rfl (List.forall_mem_cons.mpr ⟨rfl, fun _ h => absurd h List.not_mem_nil⟩) (ygf156 hB _) (fun v7 m7 cv7 => ?_)
      refine xS_of (pc' := 142) (L' := [(0, xa 0), (2, xi v2), (3, xi v7)]) (st' := [xi v7, xa 508]) (m' := m7) (fun ex ns r q => ?_) ?_
      · refine xw_istore_n (L' := [(3, xi v7), (0, xa 0), (2, xi v2)]) rfl (by decide) rfl ?_
        refine xw_aload_n rfl rfl rfl ?_
        refine xw_gfR (n := 508) (e := 508) rfl (xw_obd (by decide +kernel)) (by decide +kernel) (by decide +kernel) rfl ?_
        refine xw_iload_n rfl rfl ?_
        refine xw_lo (L2 := [(0, xa 0), (2, xi v2), (3, xi v7)]) (List.forall_mem_cons.mpr ⟨rfl, List.forall_mem_cons.mpr ⟨rfl, List.forall_mem_cons.mpr ⟨rfl, fun _ h => absurd h List.not_mem_nil⟩⟩⟩) ?_
        exact q
      refine xS_call (q := 157) (n := 2) (kq := 1) (as := [xa 508, xi v7]) (st1 := []) rfl rfl rfl rfl rfl rfl rfl rfl rfl rfl (fun _ => xw_rcv1 (t := 10) (xw_obd (by decide +kernel)) rfl) rfl (List.forall_mem_cons.mpr ⟨rfl, List.forall_mem_cons.mpr ⟨rfl, fun _ h => absurd h List.not_mem_nil⟩⟩) (ygf157 hB _ _ cv7) (fun v8 m8 cv8 => ?_)
      refine xS_of (pc' := 150) (L' := [(4, xi v8), (0, xa 0), (2, xi v2), (3, xi v7)]) (st' := [xi (-1), xi v8]) (m' := m8) (fun ex ns r q => ?_) ?_
      · refine xw_istore (L' := [(4, xi v8), (0, xa 0), (2, xi v2), (3, xi v7)]) rfl (by decide) rfl ?_
        refine xw_iload rfl rfl ?_
        refine xw_iconst rfl ?_
        exact q
      refine xS_if (fun h2 => ?_) (fun h2 => ?_)
      · refine xS_of (pc' := 155) (L' := [(4, xi v8), (0, xa 0), (2, xi v2), (3, xi v7)]) (st' := [xi (-2)]) (m' := m8) (fun ex ns r q => ?_) ?_
        · refine xw_ic_neF rfl (w32_cg cv8) (w32_cg rfl) h2 ?_
          refine xw_bipush (e := (-2)) rfl (by decide +kernel) ?_
          exact q
        exact xS_ret (v := (-2)) rfl rfl xw_rtI rfl
      · refine xS_of (pc' := 156) (L' := [(0, xa 0), (2, xi v2), (3, xi v7), (4, xi v8)]) (st' := []) (m' := m8) (fun ex ns r q => ?_) ?_
        · refine xw_ic_neT rfl (w32_cg cv8) (w32_cg rfl) h2 ?_
          refine xw_lo (L2 := [(0, xa 0), (2, xi v2), (3, xi v7), (4, xi v8)]) (List.forall_mem_cons.mpr ⟨rfl, List.forall_mem_cons.mpr ⟨rfl, List.forall_mem_cons.mpr ⟨rfl, List.forall_mem_cons.mpr ⟨rfl, fun _ h => absurd h List.not_mem_nil⟩⟩⟩⟩) ?_
          exact q
        exact ygk200_156 hB _ _ _ _ cv2 cv7 cv8
    · refine xS_of (pc' := 92) (L' := [(0, xa 0), (2, xi v2)]) (st' := [xi (-2)]) (m' := m3) (fun ex ns r q => ?_) ?_
      · refine xw_ic_ltF rfl (w32_cg cv3) (w32_cg rfl) h1 ?_
        refine xw_bipush (e := (-2)) rfl (by decide +kernel) ?_
        exact q
      exact xS_ret (v := (-2)) rfl rfl xw_rtI rfl
  · refine xS_of (pc' := 156) (L' := [(0, xa 0), (2, xi v2), (3, xi 0), (4, xi (-1))]) (st' := []) (m' := m2) (fun ex ns r q => ?_) ?_
    · refine xw_if_leT rfl (w32_cg cv2) (Int.not_lt.mp h0) ?_
      refine xw_lo (L2 := [(0, xa 0), (2, xi v2), (3, xi 0), (4, xi (-1))]) (List.forall_mem_cons.mpr ⟨rfl, List.forall_mem_cons.mpr ⟨rfl, List.forall_mem_cons.mpr ⟨rfl, List.forall_mem_cons.mpr ⟨rfl, fun _ h => absurd h List.not_mem_nil⟩⟩⟩⟩) ?_
      exact q
    exact ygk200_156 hB _ _ _ _ cv2 rfl rfl
theorem ygk200_14 {B : Nat} (hB : B ≤ 512) {xs : Nat → Int32} {SL d : Nat} : ∀ x1 m, w32 x1 = x1 → xS B xs SL (d + 8) 200 (5, (some .int), [], 1) 1 14 [(0, xa 0), (1, xi x1)] [] m (yk200_14 B x1 m) := by
  intro x1 m c1
  unfold yk200_14
  refine xS_of (pc' := 15) (L' := [(0, xa 0), (1, xi x1)]) (st' := [xi 0]) (m' := m) (fun ex ns r q => ?_) ?_
  · refine xw_iconst rfl ?_
    refine xw_lo (L2 := [(0, xa 0), (1, xi x1)]) (List.forall_mem_cons.mpr ⟨rfl, List.forall_mem_cons.mpr ⟨rfl, fun _ h => absurd h List.not_mem_nil⟩⟩) ?_
    exact q
  refine xS_call (q := 43) (n := 1) (kq := 0) (as := [xi 0]) (st1 := []) rfl rfl rfl rfl rfl rfl rfl rfl rfl rfl (fun _ => xw_rcv0 rfl) rfl (List.forall_mem_cons.mpr ⟨rfl, fun _ h => absurd h List.not_mem_nil⟩) (ygf43 hB _ _ rfl) (fun v1 m1 cv1 => ?_)
  refine xS_of (pc' := 19) (L' := [(0, xa 0), (1, xi x1)]) (st' := [xa 0]) (m' := m1) (fun ex ns r q => ?_) ?_
  · refine xw_aload_n rfl rfl rfl ?_
    refine xw_lo (L2 := [(0, xa 0), (1, xi x1)]) (List.forall_mem_cons.mpr ⟨rfl, List.forall_mem_cons.mpr ⟨rfl, fun _ h => absurd h List.not_mem_nil⟩⟩) ?_
    exact q
  refine xS_call (q := 166) (n := 1) (kq := 0) (as := [xa 0]) (st1 := []) rfl rfl rfl rfl rfl rfl rfl rfl rfl rfl (fun _ => xw_rcv1 (t := 0) (xw_obd (by decide +kernel)) rfl) rfl (List.forall_mem_cons.mpr ⟨rfl, fun _ h => absurd h List.not_mem_nil⟩) (ygf166 hB _) (fun v2 m2 cv2 => ?_)
  refine xS_of (pc' := 26) (L' := [(0, xa 0), (1, xi x1)]) (st' := [xa 3]) (m' := m2) (fun ex ns r q => ?_) ?_
  · refine xw_aload_n rfl rfl rfl ?_
    refine xw_gfR (n := 3) (e := 3) rfl (xw_obd (by decide +kernel)) (by decide +kernel) (by decide +kernel) rfl ?_
    refine xw_lo (L2 := [(0, xa 0), (1, xi x1)]) (List.forall_mem_cons.mpr ⟨rfl, List.forall_mem_cons.mpr ⟨rfl, fun _ h => absurd h List.not_mem_nil⟩⟩) ?_
    exact q
  refine xS_call (q := 201) (n := 1) (kq := 1) (as := [xa 3]) (st1 := []) rfl rfl rfl rfl rfl rfl rfl rfl rfl rfl (fun _ => xw_rcv1 (t := 2) (xw_obd (by decide +kernel)) rfl) rfl (List.forall_mem_cons.mpr ⟨rfl, fun _ h => absurd h List.not_mem_nil⟩) (ygf201 hB _) (fun v3 m3 cv3 => ?_)
  refine xS_of (pc' := 32) (L' := [(0, xa 0), (1, xi x1)]) (st' := [xi 512, xi v3]) (m' := m3) (fun ex ns r q => ?_) ?_
  · refine xw_sipush (e := 512) rfl (by decide +kernel) ?_
    exact q
  refine xS_if (fun h0 => ?_) (fun h0 => ?_)
  · refine xS_of (pc' := 44) (L' := [(0, xa 0), (1, xi x1)]) (st' := []) (m' := m3) (fun ex ns r q => ?_) ?_
    · refine xw_ic_gtT rfl (w32_cg cv3) (w32_cg rfl) h0 ?_
      refine xw_lo (L2 := [(0, xa 0), (1, xi x1)]) (List.forall_mem_cons.mpr ⟨rfl, List.forall_mem_cons.mpr ⟨rfl, fun _ h => absurd h List.not_mem_nil⟩⟩) ?_
      exact q
    exact ygk200_44 hB _ _ c1
  · refine xS_of (pc' := 41) (L' := [(0, xa 0), (1, xi x1)]) (st' := [xi 100, xi (xR m3 0 16)]) (m' := m3) (fun ex ns r q => ?_) ?_
    · refine xw_ic_gtF rfl (w32_cg cv3) (w32_cg rfl) h0 ?_
      refine xw_aload_n rfl rfl rfl ?_
      refine xw_gfIc (v := (m3 0 16)) (v' := (xR m3 0 16)) rfl (xw_obd (by decide +kernel)) xk0_16 (qi := 16) rfl rfl rfl ?_
      refine xw_bipush (e := 100) rfl (by decide +kernel) ?_
      exact q
    refine xS_if (fun h1 => ?_) (fun h1 => ?_)
    · refine xS_of (pc' := 49) (L' := [(0, xa 0), (1, xi x1)]) (st' := [xi 0]) (m' := m3) (fun ex ns r q => ?_) ?_
      · refine xw_ic_ltT rfl (w32_cg (w32_xR _ _ _)) (w32_cg rfl) h1 ?_
        refine xw_iconst rfl ?_
        refine xw_lo (L2 := [(0, xa 0), (1, xi x1)]) (List.forall_mem_cons.mpr ⟨rfl, List.forall_mem_cons.mpr ⟨rfl, fun _ h => absurd h List.not_mem_nil⟩⟩) ?_
        exact q
      refine xS_call (q := 39) (n := 1) (kq := 0) (as := [xi 0]) (st1 := []) rfl rfl rfl rfl rfl rfl rfl rfl rfl rfl (fun _ => xw_rcv0 rfl) rfl (List.forall_mem_cons.mpr ⟨rfl, fun _ h => absurd h List.not_mem_nil⟩) (ygf39 hB _ _ rfl) (fun v4 m4 cv4 => ?_)
      refine xS_of (pc' := 64) (L' := [(0, xa 0)]) (st' := [xi (xR m4 508 10), xi x1, xa 295]) (m' := m4) (fun ex ns r q => ?_) ?_
      · refine xw_aload_n rfl rfl rfl ?_
        refine xw_gfR (n := 295) (e := 295) rfl (xw_obd (by decide +kernel)) (by decide +kernel) (by decide +kernel) rfl ?_
        refine xw_iload_n rfl rfl ?_
        refine xw_aload_n rfl rfl rfl ?_
        refine xw_gfR (n := 508) (e := 508) rfl (xw_obd (by decide +kernel)) (by decide +kernel) (by decide +kernel) rfl ?_
        refine xw_gfIc (v := (m4 508 10)) (v' := (xR m4 508 10)) rfl (xw_obd (by decide +kernel)) xk10_10 (qi := 10) rfl rfl rfl ?_
        refine xw_lo (L2 := [(0, xa 0)]) (List.forall_mem_cons.mpr ⟨rfl, fun _ h => absurd h List.not_mem_nil⟩) ?_
        exact q
      refine xS_call (q := 202) (n := 3) (kq := 1) (as := [xa 295, xi x1, xi (xR m4 508 10)]) (st1 := []) rfl rfl rfl rfl rfl rfl rfl rfl rfl rfl (fun _ => xw_rcv1 (t := 6) (xw_obd (by decide +kernel)) rfl) rfl (List.forall_mem_cons.mpr ⟨rfl, List.forall_mem_cons.mpr ⟨rfl, List.forall_mem_cons.mpr ⟨rfl, fun _ h => absurd h List.not_mem_nil⟩⟩⟩) (ygf202 hB _ _ _ c1 (w32_xR _ _ _)) (fun v5 m5 cv5 => ?_)
      refine xS_of (pc' := 74) (L' := [(4, xi (-1)), (3, xi 0), (2, xi v5), (0, xa 0)]) (st' := [xi v5]) (m' := m5) (fun ex ns r q => ?_) ?_
      · refine xw_istore_n (L' := [(2, xi v5), (0, xa 0)]) rfl (by decide) rfl ?_
        refine xw_iconst rfl ?_
        refine xw_istore_n (L' := [(3, xi 0), (2, xi v5), (0, xa 0)]) rfl (by decide) rfl ?_
        refine xw_iconst rfl ?_
        refine xw_istore (L' := [(4, xi (-1)), (3, xi 0), (2, xi v5), (0, xa 0)]) rfl (by decide) rfl ?_
        refine xw_iload_n rfl rfl ?_
        exact q
      refine xS_if (fun h2 => ?_) (fun h2 => ?_)
      · refine xS_of (pc' := 81) (L' := [(0, xa 0), (2, xi v5)]) (st' := [xa 508]) (m' := m5) (fun ex ns r q => ?_) ?_
        · refine xw_if_leF rfl (w32_cg cv5) (Int.not_le.mpr h2) ?_
          refine xw_aload_n rfl rfl rfl ?_
          refine xw_gfR (n := 508) (e := 508) rfl (xw_obd (by decide +kernel)) (by decide +kernel) (by decide +kernel) rfl ?_
          refine xw_lo (L2 := [(0, xa 0), (2, xi v5)]) (List.forall_mem_cons.mpr ⟨rfl, List.forall_mem_cons.mpr ⟨rfl, fun _ h => absurd h List.not_mem_nil⟩⟩) ?_
          exact q
        refine xS_call (q := 209) (n := 1) (kq := 1) (as := [xa 508]) (st1 := []) rfl rfl rfl rfl rfl rfl rfl rfl rfl rfl (fun _ => xw_rcv1 (t := 10) (xw_obd (by decide +kernel)) rfl) rfl (List.forall_mem_cons.mpr ⟨rfl, fun _ h => absurd h List.not_mem_nil⟩) (ygf209 hB _) (fun v6 m6 cv6 => ?_)
        refine xS_of (pc' := 87) (L' := [(0, xa 0), (2, xi v5)]) (st' := [xi 200, xi v6]) (m' := m6) (fun ex ns r q => ?_) ?_
        · refine xw_sipush (e := 200) rfl (by decide +kernel) ?_
          exact q
        refine xS_if (fun h3 => ?_) (fun h3 => ?_)
        · refine xS_of (pc' := 101) (L' := [(0, xa 0), (2, xi v5)]) (st' := [xi (xR m6 508 14), xa 0]) (m' := m6) (fun ex ns r q => ?_) ?_
          · refine xw_ic_ltT rfl (w32_cg cv6) (w32_cg rfl) h3 ?_
            refine xw_aload_n rfl rfl rfl ?_
            refine xw_aload_n rfl rfl rfl ?_
            refine xw_gfR (n := 508) (e := 508) rfl (xw_obd (by decide +kernel)) (by decide +kernel) (by decide +kernel) rfl ?_
            refine xw_gfIc (v := (m6 508 14)) (v' := (xR m6 508 14)) rfl (xw_obd (by decide +kernel)) xk10_14 (qi := 14) rfl rfl rfl ?_
            refine xw_lo (L2 := [(0, xa 0), (2, xi v5)]) (List.forall_mem_cons.mpr ⟨rfl, List.forall_mem_cons.mpr ⟨rfl, fun _ h => absurd h List.not_mem_nil⟩⟩) ?_
            exact q
          refine xS_call (q := 210) (n := 2) (kq := 0) (as := [xa 0, xi (xR m6 508 14)]) (st1 := []) rfl rfl rfl rfl rfl rfl rfl rfl rfl rfl (fun _ => xw_rcv1 (t := 0) (xw_obd (by decide +kernel)) rfl) rfl (List.forall_mem_cons.mpr ⟨rfl, List.forall_mem_cons.mpr ⟨rfl, fun _ h => absurd h List.not_mem_nil⟩⟩) (ygf210 hB _ _ (w32_xR _ _ _)) (fun v7 m7 cv7 => ?_)
          refine xS_of (pc' := 110) (L' := [(0, xa 0), (2, xi v5)]) (st' := [xi v5, xi 3, xa 508]) (m' := m7) (fun ex ns r q => ?_) ?_
          · refine xw_aload_n rfl rfl rfl ?_
            refine xw_gfR (n := 508) (e := 508) rfl (xw_obd (by decide +kernel)) (by decide +kernel) (by decide +kernel) rfl ?_
            refine xw_iconst rfl ?_
            refine xw_iload_n rfl rfl ?_
            refine xw_lo (L2 := [(0, xa 0), (2, xi v5)]) (List.forall_mem_cons.mpr ⟨rfl, List.forall_mem_cons.mpr ⟨rfl, fun _ h => absurd h List.not_mem_nil⟩⟩) ?_
            exact q
          refine xS_call (q := 150) (n := 3) (kq := 0) (as := [xa 508, xi 3, xi v5]) (st1 := []) rfl rfl rfl rfl rfl rfl rfl rfl rfl rfl (fun _ => xw_rcv1 (t := 10) (xw_obd (by decide +kernel)) rfl) rfl (List.forall_mem_cons.mpr ⟨rfl, List.forall_mem_cons.mpr ⟨rfl, List.forall_mem_cons.mpr ⟨rfl, fun _ h => absurd h List.not_mem_nil⟩⟩⟩) (ygf150 hB _ _ _ rfl cv5) (fun v8 m8 cv8 => ?_)
          refine xS_of (pc' := 126) (L' := [(0, xa 0), (2, xi v5)]) (st' := [xi v5, xa 296, xa 395, xa 0]) (m' := m8) (fun ex ns r q => ?_) ?_
          · refine xw_aload_n rfl rfl rfl ?_
            refine xw_aload_n rfl rfl rfl ?_
            refine xw_gfR (n := 395) (e := 395) rfl (xw_obd (by decide +kernel)) (by decide +kernel) (by decide +kernel) rfl ?_
            refine xw_aload_n rfl rfl rfl ?_
            refine xw_gfR (n := 295) (e := 295) rfl (xw_obd (by decide +kernel)) (by decide +kernel) (by decide +kernel) rfl ?_
            refine xw_gfR (n := 296) (e := 296) rfl (xw_obd (by decide +kernel)) (by decide +kernel) (by decide +kernel) rfl ?_
            refine xw_iload_n rfl rfl ?_
            refine xw_lo (L2 := [(0, xa 0), (2, xi v5)]) (List.forall_mem_cons.mpr ⟨rfl, List.forall_mem_cons.mpr ⟨rfl, fun _ h => absurd h List.not_mem_nil⟩⟩) ?_
            exact q
          refine xS_call (q := 192) (n := 4) (kq := 0) (as := [xa 0, xa 395, xa 296, xi v5]) (st1 := []) rfl rfl rfl rfl rfl rfl rfl rfl rfl rfl (fun _ => xw_rcv1 (t := 0) (xw_obd (by decide +kernel)) rfl) rfl (List.forall_mem_cons.mpr ⟨rfl, List.forall_mem_cons.mpr ⟨rfl, List.forall_mem_cons.mpr ⟨rfl, List.forall_mem_cons.mpr ⟨rfl, fun _ h => absurd h List.not_mem_nil⟩⟩⟩⟩) (ygf192 hB _ _ _ _ cv5) (fun v9 m9 cv9 => ?_)
          refine xS_of (pc' := 133) (L' := [(0, xa 0), (2, xi v5)]) (st' := [xa 508]) (m' := m9) (fun ex ns r q => ?_) ?_
          · refine xw_aload_n rfl rfl rfl ?_
            refine xw_gfR (n := 508) (e := 508) rfl (xw_obd (by decide +kernel)) (by decide +kernel) (by decide +kernel) rfl ?_
            refine xw_lo (L2 := [(0, xa 0), (2, xi v5)]) (List.forall_mem_cons.mpr ⟨rfl, List.forall_mem_cons.mpr ⟨rfl, fun _ h => absurd h List.not_mem_nil⟩⟩) ?_
            exact q
          refine xS_call (q := 156) (n := 1) (kq := 1) (as := [xa 508]) (st1 := []) rfl rfl rfl rfl rfl rfl rfl rfl rfl rfl (fun _ => xw_rcv1 (t := 10) (xw_obd (by decide +kernel)) rfl) rfl (List.forall_mem_cons.mpr ⟨rfl, fun _ h => absurd h List.not_mem_nil⟩) (ygf156 hB _) (fun v10 m10 cv10 => ?_)
          refine xS_of (pc' := 142) (L' := [(0, xa 0), (2, xi v5), (3, xi v10)]) (st' := [xi v10, xa 508]) (m' := m10) (fun ex ns r q => ?_) ?_
          · refine xw_istore_n (L' := [(3, xi v10), (0, xa 0), (2, xi v5)]) rfl (by decide) rfl ?_
            refine xw_aload_n rfl rfl rfl ?_
            refine xw_gfR (n := 508) (e := 508) rfl (xw_obd (by decide +kernel)) (by decide +kernel) (by decide +kernel) rfl ?_
            refine xw_iload_n rfl rfl ?_
            refine xw_lo (L2 := [(0, xa 0), (2, xi v5), (3, xi v10)]) (List.forall_mem_cons.mpr ⟨rfl, List.forall_mem_cons.mpr ⟨rfl, List.forall_mem_cons.mpr ⟨rfl, fun _ h => absurd h List.not_mem_nil⟩⟩⟩) ?_
            exact q
          refine xS_call (q := 157) (n := 2) (kq := 1) (as := [xa 508, xi v10]) (st1 := []) rfl rfl rfl rfl rfl rfl rfl rfl rfl rfl (fun _ => xw_rcv1 (t := 10) (xw_obd (by decide +kernel)) rfl) rfl (List.forall_mem_cons.mpr ⟨rfl, List.forall_mem_cons.mpr ⟨rfl, fun _ h => absurd h List.not_mem_nil⟩⟩) (ygf157 hB _ _ cv10) (fun v11 m11 cv11 => ?_)
          refine xS_of (pc' := 150) (L' := [(4, xi v11), (0, xa 0), (2, xi v5), (3, xi v10)]) (st' := [xi (-1), xi v11]) (m' := m11) (fun ex ns r q => ?_) ?_
          · refine xw_istore (L' := [(4, xi v11), (0, xa 0), (2, xi v5), (3, xi v10)]) rfl (by decide) rfl ?_
            refine xw_iload rfl rfl ?_
            refine xw_iconst rfl ?_
            exact q
          refine xS_if (fun h4 => ?_) (fun h4 => ?_)
          · refine xS_of (pc' := 155) (L' := [(4, xi v11), (0, xa 0), (2, xi v5), (3, xi v10)]) (st' := [xi (-2)]) (m' := m11) (fun ex ns r q => ?_) ?_
            · refine xw_ic_neF rfl (w32_cg cv11) (w32_cg rfl) h4 ?_
              refine xw_bipush (e := (-2)) rfl (by decide +kernel) ?_
              exact q
            exact xS_ret (v := (-2)) rfl rfl xw_rtI rfl
          · refine xS_of (pc' := 156) (L' := [(0, xa 0), (2, xi v5), (3, xi v10), (4, xi v11)]) (st' := []) (m' := m11) (fun ex ns r q => ?_) ?_
            · refine xw_ic_neT rfl (w32_cg cv11) (w32_cg rfl) h4 ?_
              refine xw_lo (L2 := [(0, xa 0), (2, xi v5), (3, xi v10), (4, xi v11)]) (List.forall_mem_cons.mpr ⟨rfl, List.forall_mem_cons.mpr ⟨rfl, List.forall_mem_cons.mpr ⟨rfl, List.forall_mem_cons.mpr ⟨rfl, fun _ h => absurd h List.not_mem_nil⟩⟩⟩⟩) ?_
              exact q
            exact ygk200_156 hB _ _ _ _ cv5 cv10 cv11
        · refine xS_of (pc' := 92) (L' := [(0, xa 0), (2, xi v5)]) (st' := [xi (-2)]) (m' := m6) (fun ex ns r q => ?_) ?_
          · refine xw_ic_ltF rfl (w32_cg cv6) (w32_cg rfl) h3 ?_
            refine xw_bipush (e := (-2)) rfl (by decide +kernel) ?_
            exact q
          exact xS_ret (v := (-2)) rfl rfl xw_rtI rfl
      · refine xS_of (pc' := 156) (L' := [(0, xa 0), (2, xi v5), (3, xi 0), (4, xi (-1))]) (st' := []) (m' := m5) (fun ex ns r q => ?_) ?_
        · refine xw_if_leT rfl (w32_cg cv5) (Int.not_lt.mp h2) ?_
          refine xw_lo (L2 := [(0, xa 0), (2, xi v5), (3, xi 0), (4, xi (-1))]) (List.forall_mem_cons.mpr ⟨rfl, List.forall_mem_cons.mpr ⟨rfl, List.forall_mem_cons.mpr ⟨rfl, List.forall_mem_cons.mpr ⟨rfl, fun _ h => absurd h List.not_mem_nil⟩⟩⟩⟩) ?_
          exact q
        exact ygk200_156 hB _ _ _ _ cv5 rfl rfl
    · refine xS_of (pc' := 44) (L' := [(0, xa 0), (1, xi x1)]) (st' := []) (m' := m3) (fun ex ns r q => ?_) ?_
      · refine xw_ic_ltF rfl (w32_cg (w32_xR _ _ _)) (w32_cg rfl) h1 ?_
        refine xw_lo (L2 := [(0, xa 0), (1, xi x1)]) (List.forall_mem_cons.mpr ⟨rfl, List.forall_mem_cons.mpr ⟨rfl, fun _ h => absurd h List.not_mem_nil⟩⟩) ?_
        exact q
      exact ygk200_44 hB _ _ c1
theorem ygf200 {B : Nat} (hB : B ≤ 512) {xs : Nat → Int32} {SL d : Nat} : ∀ p0 m, w32 p0 = p0 → xS B xs SL (d + 8) 200 (5, (some .int), [], 1) 1 0 [(0, xa 0), (1, xi p0)] [] m (yf200 B p0 m) := by
  intro p0 m cp0
  unfold yf200
  refine xS_of (pc' := 1) (L' := [(0, xa 0), (1, xi p0)]) (st' := [xi p0]) (m' := m) (fun ex ns r q => ?_) ?_
  · refine xw_iload_n rfl rfl ?_
    exact q
  refine xS_if (fun h0 => ?_) (fun h0 => ?_)
  · refine xS_of (pc' := 14) (L' := [(0, xa 0), (1, xi p0)]) (st' := []) (m' := m) (fun ex ns r q => ?_) ?_
    · refine xw_if_ltT rfl (w32_cg cp0) h0 ?_
      refine xw_lo (L2 := [(0, xa 0), (1, xi p0)]) (List.forall_mem_cons.mpr ⟨rfl, List.forall_mem_cons.mpr ⟨rfl, fun _ h => absurd h List.not_mem_nil⟩⟩) ?_
      exact q
    exact ygk200_14 hB _ _ cp0
  · refine xS_of (pc' := 7) (L' := [(0, xa 0), (1, xi p0)]) (st' := [xi 16, xi p0]) (m' := m) (fun ex ns r q => ?_) ?_
    · refine xw_if_ltF rfl (w32_cg cp0) h0 ?_
      refine xw_iload_n rfl rfl ?_
      refine xw_bipush (e := 16) rfl (by decide +kernel) ?_
      exact q
    refine xS_if (fun h1 => ?_) (fun h1 => ?_)
    · refine xS_of (pc' := 14) (L' := [(0, xa 0), (1, xi p0)]) (st' := []) (m' := m) (fun ex ns r q => ?_) ?_
      · refine xw_ic_gtT rfl (w32_cg cp0) (w32_cg rfl) h1 ?_
        refine xw_lo (L2 := [(0, xa 0), (1, xi p0)]) (List.forall_mem_cons.mpr ⟨rfl, List.forall_mem_cons.mpr ⟨rfl, fun _ h => absurd h List.not_mem_nil⟩⟩) ?_
        exact q
      exact ygk200_14 hB _ _ cp0
    · refine xS_of (pc' := 15) (L' := [(0, xa 0), (1, xi p0)]) (st' := [xi 1]) (m' := m) (fun ex ns r q => ?_) ?_
      · refine xw_ic_gtF rfl (w32_cg cp0) (w32_cg rfl) h1 ?_
        refine xw_iconst rfl ?_
        refine xw_goto rfl ?_
        refine xw_lo (L2 := [(0, xa 0), (1, xi p0)]) (List.forall_mem_cons.mpr ⟨rfl, List.forall_mem_cons.mpr ⟨rfl, fun _ h => absurd h List.not_mem_nil⟩⟩) ?_
        exact q
      refine xS_call (q := 43) (n := 1) (kq := 0) (as := [xi 1]) (st1 := []) rfl rfl rfl rfl rfl rfl rfl rfl rfl rfl (fun _ => xw_rcv0 rfl) rfl (List.forall_mem_cons.mpr ⟨rfl, fun _ h => absurd h List.not_mem_nil⟩) (ygf43 hB _ _ rfl) (fun v1 m1 cv1 => ?_)
      refine xS_of (pc' := 19) (L' := [(0, xa 0), (1, xi p0)]) (st' := [xa 0]) (m' := m1) (fun ex ns r q => ?_) ?_
      · refine xw_aload_n rfl rfl rfl ?_
        refine xw_lo (L2 := [(0, xa 0), (1, xi p0)]) (List.forall_mem_cons.mpr ⟨rfl, List.forall_mem_cons.mpr ⟨rfl, fun _ h => absurd h List.not_mem_nil⟩⟩) ?_
        exact q
      refine xS_call (q := 166) (n := 1) (kq := 0) (as := [xa 0]) (st1 := []) rfl rfl rfl rfl rfl rfl rfl rfl rfl rfl (fun _ => xw_rcv1 (t := 0) (xw_obd (by decide +kernel)) rfl) rfl (List.forall_mem_cons.mpr ⟨rfl, fun _ h => absurd h List.not_mem_nil⟩) (ygf166 hB _) (fun v2 m2 cv2 => ?_)
      refine xS_of (pc' := 26) (L' := [(0, xa 0), (1, xi p0)]) (st' := [xa 3]) (m' := m2) (fun ex ns r q => ?_) ?_
      · refine xw_aload_n rfl rfl rfl ?_
        refine xw_gfR (n := 3) (e := 3) rfl (xw_obd (by decide +kernel)) (by decide +kernel) (by decide +kernel) rfl ?_
        refine xw_lo (L2 := [(0, xa 0), (1, xi p0)]) (List.forall_mem_cons.mpr ⟨rfl, List.forall_mem_cons.mpr ⟨rfl, fun _ h => absurd h List.not_mem_nil⟩⟩) ?_
        exact q
      refine xS_call (q := 201) (n := 1) (kq := 1) (as := [xa 3]) (st1 := []) rfl rfl rfl rfl rfl rfl rfl rfl rfl rfl (fun _ => xw_rcv1 (t := 2) (xw_obd (by decide +kernel)) rfl) rfl (List.forall_mem_cons.mpr ⟨rfl, fun _ h => absurd h List.not_mem_nil⟩) (ygf201 hB _) (fun v3 m3 cv3 => ?_)
      refine xS_of (pc' := 32) (L' := [(0, xa 0), (1, xi p0)]) (st' := [xi 512, xi v3]) (m' := m3) (fun ex ns r q => ?_) ?_
      · refine xw_sipush (e := 512) rfl (by decide +kernel) ?_
        exact q
      refine xS_if (fun h2 => ?_) (fun h2 => ?_)
      · refine xS_of (pc' := 44) (L' := [(0, xa 0), (1, xi p0)]) (st' := []) (m' := m3) (fun ex ns r q => ?_) ?_
        · refine xw_ic_gtT rfl (w32_cg cv3) (w32_cg rfl) h2 ?_
          refine xw_lo (L2 := [(0, xa 0), (1, xi p0)]) (List.forall_mem_cons.mpr ⟨rfl, List.forall_mem_cons.mpr ⟨rfl, fun _ h => absurd h List.not_mem_nil⟩⟩) ?_
          exact q
        exact ygk200_44 hB _ _ cp0
      · refine xS_of (pc' := 41) (L' := [(0, xa 0), (1, xi p0)]) (st' := [xi 100, xi (xR m3 0 16)]) (m' := m3) (fun ex ns r q => ?_) ?_
        · refine xw_ic_gtF rfl (w32_cg cv3) (w32_cg rfl) h2 ?_
          refine xw_aload_n rfl rfl rfl ?_
          refine xw_gfIc (v := (m3 0 16)) (v' := (xR m3 0 16)) rfl (xw_obd (by decide +kernel)) xk0_16 (qi := 16) rfl rfl rfl ?_
          refine xw_bipush (e := 100) rfl (by decide +kernel) ?_
          exact q
        refine xS_if (fun h3 => ?_) (fun h3 => ?_)
        · refine xS_of (pc' := 49) (L' := [(0, xa 0), (1, xi p0)]) (st' := [xi 0]) (m' := m3) (fun ex ns r q => ?_) ?_
          · refine xw_ic_ltT rfl (w32_cg (w32_xR _ _ _)) (w32_cg rfl) h3 ?_
            refine xw_iconst rfl ?_
            refine xw_lo (L2 := [(0, xa 0), (1, xi p0)]) (List.forall_mem_cons.mpr ⟨rfl, List.forall_mem_cons.mpr ⟨rfl, fun _ h => absurd h List.not_mem_nil⟩⟩) ?_
            exact q
          refine xS_call (q := 39) (n := 1) (kq := 0) (as := [xi 0]) (st1 := []) rfl rfl rfl rfl rfl rfl rfl rfl rfl rfl (fun _ => xw_rcv0 rfl) rfl (List.forall_mem_cons.mpr ⟨rfl, fun _ h => absurd h List.not_mem_nil⟩) (ygf39 hB _ _ rfl) (fun v4 m4 cv4 => ?_)
          refine xS_of (pc' := 64) (L' := [(0, xa 0)]) (st' := [xi (xR m4 508 10), xi p0, xa 295]) (m' := m4) (fun ex ns r q => ?_) ?_
          · refine xw_aload_n rfl rfl rfl ?_
            refine xw_gfR (n := 295) (e := 295) rfl (xw_obd (by decide +kernel)) (by decide +kernel) (by decide +kernel) rfl ?_
            refine xw_iload_n rfl rfl ?_
            refine xw_aload_n rfl rfl rfl ?_
            refine xw_gfR (n := 508) (e := 508) rfl (xw_obd (by decide +kernel)) (by decide +kernel) (by decide +kernel) rfl ?_
            refine xw_gfIc (v := (m4 508 10)) (v' := (xR m4 508 10)) rfl (xw_obd (by decide +kernel)) xk10_10 (qi := 10) rfl rfl rfl ?_
            refine xw_lo (L2 := [(0, xa 0)]) (List.forall_mem_cons.mpr ⟨rfl, fun _ h => absurd h List.not_mem_nil⟩) ?_
            exact q
          refine xS_call (q := 202) (n := 3) (kq := 1) (as := [xa 295, xi p0, xi (xR m4 508 10)]) (st1 := []) rfl rfl rfl rfl rfl rfl rfl rfl rfl rfl (fun _ => xw_rcv1 (t := 6) (xw_obd (by decide +kernel)) rfl) rfl (List.forall_mem_cons.mpr ⟨rfl, List.forall_mem_cons.mpr ⟨rfl, List.forall_mem_cons.mpr ⟨rfl, fun _ h => absurd h List.not_mem_nil⟩⟩⟩) (ygf202 hB _ _ _ cp0 (w32_xR _ _ _)) (fun v5 m5 cv5 => ?_)
          refine xS_of (pc' := 74) (L' := [(4, xi (-1)), (3, xi 0), (2, xi v5), (0, xa 0)]) (st' := [xi v5]) (m' := m5) (fun ex ns r q => ?_) ?_
          · refine xw_istore_n (L' := [(2, xi v5), (0, xa 0)]) rfl (by decide) rfl ?_
            refine xw_iconst rfl ?_
            refine xw_istore_n (L' := [(3, xi 0), (2, xi v5), (0, xa 0)]) rfl (by decide) rfl ?_
            refine xw_iconst rfl ?_
            refine xw_istore (L' := [(4, xi (-1)), (3, xi 0), (2, xi v5), (0, xa 0)]) rfl (by decide) rfl ?_
            refine xw_iload_n rfl rfl ?_
            exact q
          refine xS_if (fun h4 => ?_) (fun h4 => ?_)
          · refine xS_of (pc' := 81) (L' := [(0, xa 0), (2, xi v5)]) (st' := [xa 508]) (m' := m5) (fun ex ns r q => ?_) ?_
            · refine xw_if_leF rfl (w32_cg cv5) (Int.not_le.mpr h4) ?_
              refine xw_aload_n rfl rfl rfl ?_
              refine xw_gfR (n := 508) (e := 508) rfl (xw_obd (by decide +kernel)) (by decide +kernel) (by decide +kernel) rfl ?_
              refine xw_lo (L2 := [(0, xa 0), (2, xi v5)]) (List.forall_mem_cons.mpr ⟨rfl, List.forall_mem_cons.mpr ⟨rfl, fun _ h => absurd h List.not_mem_nil⟩⟩) ?_
              exact q
            refine xS_call (q := 209) (n := 1) (kq := 1) (as := [xa 508]) (st1 := []) rfl rfl rfl rfl rfl rfl rfl rfl rfl rfl (fun _ => xw_rcv1 (t := 10) (xw_obd (by decide +kernel)) rfl) rfl (List.forall_mem_cons.mpr ⟨rfl, fun _ h => absurd h List.not_mem_nil⟩) (ygf209 hB _) (fun v6 m6 cv6 => ?_)
            refine xS_of (pc' := 87) (L' := [(0, xa 0), (2, xi v5)]) (st' := [xi 200, xi v6]) (m' := m6) (fun ex ns r q => ?_) ?_
            · refine xw_sipush (e := 200) rfl (by decide +kernel) ?_
              exact q
            refine xS_if (fun h5 => ?_) (fun h5 => ?_)
            · refine xS_of (pc' := 101) (L' := [(0, xa 0), (2, xi v5)]) (st' := [xi (xR m6 508 14), xa 0]) (m' := m6) (fun ex ns r q => ?_) ?_
              · refine xw_ic_ltT rfl (w32_cg cv6) (w32_cg rfl) h5 ?_
                refine xw_aload_n rfl rfl rfl ?_
                refine xw_aload_n rfl rfl rfl ?_
                refine xw_gfR (n := 508) (e := 508) rfl (xw_obd (by decide +kernel)) (by decide +kernel) (by decide +kernel) rfl ?_
                refine xw_gfIc (v := (m6 508 14)) (v' := (xR m6 508 14)) rfl (xw_obd (by decide +kernel)) xk10_14 (qi := 14) rfl rfl rfl ?_
                refine xw_lo (L2 := [(0, xa 0), (2, xi v5)]) (List.forall_mem_cons.mpr ⟨rfl, List.forall_mem_cons.mpr ⟨rfl, fun _ h => absurd h List.not_mem_nil⟩⟩) ?_
                exact q
              refine xS_call (q := 210) (n := 2) (kq := 0) (as := [xa 0, xi (xR m6 508 14)]) (st1 := []) rfl rfl rfl rfl rfl rfl rfl rfl rfl rfl (fun _ => xw_rcv1 (t := 0) (xw_obd (by decide +kernel)) rfl) rfl (List.forall_mem_cons.mpr ⟨rfl, List.forall_mem_cons.mpr ⟨rfl, fun _ h => absurd h List.not_mem_nil⟩⟩) (ygf210 hB _ _ (w32_xR _ _ _)) (fun v7 m7 cv7 => ?_)
              refine xS_of (pc' := 110) (L' := [(0, xa 0), (2, xi v5)]) (st' := [xi v5, xi 3, xa 508]) (m' := m7) (fun ex ns r q => ?_) ?_
              · refine xw_aload_n rfl rfl rfl ?_
                refine xw_gfR (n := 508) (e := 508) rfl (xw_obd (by decide +kernel)) (by decide +kernel) (by decide +kernel) rfl ?_
                refine xw_iconst rfl ?_
                refine xw_iload_n rfl rfl ?_
                refine xw_lo (L2 := [(0, xa 0), (2, xi v5)]) (List.forall_mem_cons.mpr ⟨rfl, List.forall_mem_cons.mpr ⟨rfl, fun _ h => absurd h List.not_mem_nil⟩⟩) ?_
                exact q
              refine xS_call (q := 150) (n := 3) (kq := 0) (as := [xa 508, xi 3, xi v5]) (st1 := []) rfl rfl rfl rfl rfl rfl rfl rfl rfl rfl (fun _ => xw_rcv1 (t := 10) (xw_obd (by decide +kernel)) rfl) rfl (List.forall_mem_cons.mpr ⟨rfl, List.forall_mem_cons.mpr ⟨rfl, List.forall_mem_cons.mpr ⟨rfl, fun _ h => absurd h List.not_mem_nil⟩⟩⟩) (ygf150 hB _ _ _ rfl cv5) (fun v8 m8 cv8 => ?_)
              refine xS_of (pc' := 126) (L' := [(0, xa 0), (2, xi v5)]) (st' := [xi v5, xa 296, xa 395, xa 0]) (m' := m8) (fun ex ns r q => ?_) ?_
              · refine xw_aload_n rfl rfl rfl ?_
                refine xw_aload_n rfl rfl rfl ?_
                refine xw_gfR (n := 395) (e := 395) rfl (xw_obd (by decide +kernel)) (by decide +kernel) (by decide +kernel) rfl ?_
                refine xw_aload_n rfl rfl rfl ?_
                refine xw_gfR (n := 295) (e := 295) rfl (xw_obd (by decide +kernel)) (by decide +kernel) (by decide +kernel) rfl ?_
                refine xw_gfR (n := 296) (e := 296) rfl (xw_obd (by decide +kernel)) (by decide +kernel) (by decide +kernel) rfl ?_
                refine xw_iload_n rfl rfl ?_
                refine xw_lo (L2 := [(0, xa 0), (2, xi v5)]) (List.forall_mem_cons.mpr ⟨rfl, List.forall_mem_cons.mpr ⟨rfl, fun _ h => absurd h List.not_mem_nil⟩⟩) ?_
                exact q
              refine xS_call (q := 192) (n := 4) (kq := 0) (as := [xa 0, xa 395, xa 296, xi v5]) (st1 := []) rfl rfl rfl rfl rfl rfl rfl rfl rfl rfl (fun _ => xw_rcv1 (t := 0) (xw_obd (by decide +kernel)) rfl) rfl (List.forall_mem_cons.mpr ⟨rfl, List.forall_mem_cons.mpr ⟨rfl, List.forall_mem_cons.mpr ⟨rfl, List.forall_mem_cons.mpr ⟨rfl, fun _ h => absurd h List.not_mem_nil⟩⟩⟩⟩) (ygf192 hB _ _ _ _ cv5) (fun v9 m9 cv9 => ?_)
              refine xS_of (pc' := 133) (L' := [(0, xa 0), (2, xi v5)]) (st' := [xa 508]) (m' := m9) (fun ex ns r q => ?_) ?_
              · refine xw_aload_n rfl rfl rfl ?_
                refine xw_gfR (n := 508) (e := 508) rfl (xw_obd (by decide +kernel)) (by decide +kernel) (by decide +kernel) rfl ?_
                refine xw_lo (L2 := [(0, xa 0), (2, xi v5)]) (List.forall_mem_cons.mpr ⟨rfl, List.forall_mem_cons.mpr ⟨rfl, fun _ h => absurd h List.not_mem_nil⟩⟩) ?_
                exact q
              refine xS_call (q := 156) (n := 1) (kq := 1) (as := [xa 508]) (st1 := []) rfl rfl rfl rfl rfl rfl rfl rfl rfl rfl (fun _ => xw_rcv1 (t := 10) (xw_obd (by decide +kernel)) rfl) rfl (List.forall_mem_cons.mpr ⟨rfl, fun _ h => absurd h List.not_mem_nil⟩) (ygf156 hB _) (fun v10 m10 cv10 => ?_)
              refine xS_of (pc' := 142) (L' := [(0, xa 0), (2, xi v5), (3, xi v10)]) (st' := [xi v10, xa 508]) (m' := m10) (fun ex ns r q => ?_) ?_
              · refine xw_istore_n (L' := [(3, xi v10), (0, xa 0), (2, xi v5)]) rfl (by decide) rfl ?_
                refine xw_aload_n rfl rfl rfl ?_
                refine xw_gfR (n := 508) (e := 508) rfl (xw_obd (by decide +kernel)) (by decide +kernel) (by decide +kernel) rfl ?_
                refine xw_iload_n rfl rfl ?_
                refine xw_lo (L2 := [(0, xa 0), (2, xi v5), (3, xi v10)]) (List.forall_mem_cons.mpr ⟨rfl, List.forall_mem_cons.mpr ⟨rfl, List.forall_mem_cons.mpr ⟨rfl, fun _ h => absurd h List.not_mem_nil⟩⟩⟩) ?_
                exact q
              refine xS_call (q := 157) (n := 2) (kq := 1) (as := [xa 508, xi v10]) (st1 := []) rfl rfl rfl rfl rfl rfl rfl rfl rfl rfl (fun _ => xw_rcv1 (t := 10) (xw_obd (by decide +kernel)) rfl) rfl (List.forall_mem_cons.mpr ⟨rfl, List.forall_mem_cons.mpr ⟨rfl, fun _ h => absurd h List.not_mem_nil⟩⟩) (ygf157 hB _ _ cv10) (fun v11 m11 cv11 => ?_)
              refine xS_of (pc' := 150) (L' := [(4, xi v11), (0, xa 0), (2, xi v5), (3, xi v10)]) (st' := [xi (-1), xi v11]) (m' := m11) (fun ex ns r q => ?_) ?_
              · refine xw_istore (L' := [(4, xi v11), (0, xa 0), (2, xi v5), (3, xi v10)]) rfl (by decide) rfl ?_
                refine xw_iload rfl rfl ?_
                refine xw_iconst rfl ?_
                exact q
              refine xS_if (fun h6 => ?_) (fun h6 => ?_)
              · refine xS_of (pc' := 155) (L' := [(4, xi v11), (0, xa 0), (2, xi v5), (3, xi v10)]) (st' := [xi (-2)]) (m' := m11) (fun ex ns r q => ?_) ?_
                · refine xw_ic_neF rfl (w32_cg cv11) (w32_cg rfl) h6 ?_
                  refine xw_bipush (e := (-2)) rfl (by decide +kernel) ?_
                  exact q
                exact xS_ret (v := (-2)) rfl rfl xw_rtI rfl
              · refine xS_of (pc' := 156) (L' := [(0, xa 0), (2, xi v5), (3, xi v10), (4, xi v11)]) (st' := []) (m' := m11) (fun ex ns r q => ?_) ?_
                · refine xw_ic_neT rfl (w32_cg cv11) (w32_cg rfl) h6 ?_
                  refine xw_lo (L2 := [(0, xa 0), (2, xi v5), (3, xi v10), (4, xi v11)]) (List.forall_mem_cons.mpr ⟨rfl, List.forall_mem_cons.mpr ⟨rfl, List.forall_mem_cons.mpr ⟨rfl, List.forall_mem_cons.mpr ⟨rfl, fun _ h => absurd h List.not_mem_nil⟩⟩⟩⟩) ?_
                  exact q
                exact ygk200_156 hB _ _ _ _ cv5 cv10 cv11
            · refine xS_of (pc' := 92) (L' := [(0, xa 0), (2, xi v5)]) (st' := [xi (-2)]) (m' := m6) (fun ex ns r q => ?_) ?_
              · refine xw_ic_ltF rfl (w32_cg cv6) (w32_cg rfl) h5 ?_
                refine xw_bipush (e := (-2)) rfl (by decide +kernel) ?_
                exact q
              exact xS_ret (v := (-2)) rfl rfl xw_rtI rfl
          · refine xS_of (pc' := 156) (L' := [(0, xa 0), (2, xi v5), (3, xi 0), (4, xi (-1))]) (st' := []) (m' := m5) (fun ex ns r q => ?_) ?_
            · refine xw_if_leT rfl (w32_cg cv5) (Int.not_lt.mp h4) ?_
              refine xw_lo (L2 := [(0, xa 0), (2, xi v5), (3, xi 0), (4, xi (-1))]) (List.forall_mem_cons.mpr ⟨rfl, List.forall_mem_cons.mpr ⟨rfl, List.forall_mem_cons.mpr ⟨rfl, List.forall_mem_cons.mpr ⟨rfl, fun _ h => absurd h List.not_mem_nil⟩⟩⟩⟩) ?_
              exact q
            exact ygk200_156 hB _ _ _ _ cv5 rfl rfl
        · refine xS_of (pc' := 44) (L' := [(0, xa 0), (1, xi p0)]) (st' := []) (m' := m3) (fun ex ns r q => ?_) ?_
          · refine xw_ic_ltF rfl (w32_cg (w32_xR _ _ _)) (w32_cg rfl) h3 ?_
            refine xw_lo (L2 := [(0, xa 0), (1, xi p0)]) (List.forall_mem_cons.mpr ⟨rfl, List.forall_mem_cons.mpr ⟨rfl, fun _ h => absurd h List.not_mem_nil⟩⟩) ?_
            exact q
          exact ygk200_44 hB _ _ cp0

theorem ygf216 {B : Nat} (hB : B ≤ 512) {xs : Nat → Int32} {SL d : Nat} : ∀ m, xS B xs SL (d + 0) 216 (1, none, [], 11) 0 0 [(0, xa 508)] [] m (yf216 B m) := by
  intro m
  unfold yf216
  refine xS_of (pc' := 12) (L' := [(0, xa 508)]) (st' := []) (m' := (xw_u m 508 14 (min (xR m 508 14) 1))) (fun ex ns r q => ?_) ?_
  · refine xw_aload_n rfl rfl rfl ?_
    refine xw_aload_n rfl rfl rfl ?_
    refine xw_gfIc (v := (m 508 14)) (v' := (xR m 508 14)) rfl (xw_obd (by decide +kernel)) xk10_14 (qi := 14) rfl rfl rfl ?_
    refine xw_iconst rfl ?_
    refine xw_minI rfl rfl (w32_cg (w32_xR _ _ _)) (w32_cg rfl) rfl ?_
    refine xw_pfI rfl (xw_obd (by decide +kernel)) xk10_14 (qi := 14) rfl (xw_okI rfl) ?_
    exact q
  exact xS_ret (v := 0) rfl rfl rfl rfl
theorem ygf215 {B : Nat} (hB : B ≤ 512) {xs : Nat → Int32} {SL d : Nat} : ∀ m, xS B xs SL (d + 8) 215 (3, (some .int), [], 1) 1 0 [(0, xa 0)] [] m (yf215 B m) := by
  intro m
  unfold yf215
  refine xS_of (pc' := 1) (L' := [(0, xa 0)]) (st' := [xa 0]) (m' := m) (fun ex ns r q => ?_) ?_
  · refine xw_aload_n rfl rfl rfl ?_
    refine xw_lo (L2 := [(0, xa 0)]) (List.forall_mem_cons.mpr ⟨rfl, fun _ h => absurd h List.not_mem_nil⟩) ?_
    exact q
  refine xS_call (q := 166) (n := 1) (kq := 0) (as := [xa 0]) (st1 := []) rfl rfl rfl rfl rfl rfl rfl rfl rfl rfl (fun _ => xw_rcv1 (t := 0) (xw_obd (by decide +kernel)) rfl) rfl (List.forall_mem_cons.mpr ⟨rfl, fun _ h => absurd h List.not_mem_nil⟩) (ygf166 hB _) (fun v1 m1 cv1 => ?_)
  refine xS_of (pc' := 10) (L' := [(0, xa 0)]) (st' := [xi 100, xi (xR m1 0 16)]) (m' := m1) (fun ex ns r q => ?_) ?_
  · refine xw_aload_n rfl rfl rfl ?_
    refine xw_gfIc (v := (m1 0 16)) (v' := (xR m1 0 16)) rfl (xw_obd (by decide +kernel)) xk0_16 (qi := 16) rfl rfl rfl ?_
    refine xw_bipush (e := 100) rfl (by decide +kernel) ?_
    exact q
  refine xS_if (fun h0 => ?_) (fun h0 => ?_)
  · refine xS_of (pc' := 18) (L' := [(0, xa 0)]) (st' := [xi 0]) (m' := m1) (fun ex ns r q => ?_) ?_
    · refine xw_ic_ltT rfl (w32_cg (w32_xR _ _ _)) (w32_cg rfl) h0 ?_
      refine xw_iconst rfl ?_
      refine xw_lo (L2 := [(0, xa 0)]) (List.forall_mem_cons.mpr ⟨rfl, fun _ h => absurd h List.not_mem_nil⟩) ?_
      exact q
    refine xS_call (q := 39) (n := 1) (kq := 0) (as := [xi 0]) (st1 := []) rfl rfl rfl rfl rfl rfl rfl rfl rfl rfl (fun _ => xw_rcv0 rfl) rfl (List.forall_mem_cons.mpr ⟨rfl, fun _ h => absurd h List.not_mem_nil⟩) (ygf39 hB _ _ rfl) (fun v2 m2 cv2 => ?_)
    refine xS_of (pc' := 29) (L' := [(0, xa 0)]) (st' := [xi (xR m2 508 14), xa 0]) (m' := m2) (fun ex ns r q => ?_) ?_
    · refine xw_aload_n rfl rfl rfl ?_
      refine xw_aload_n rfl rfl rfl ?_
      refine xw_gfR (n := 508) (e := 508) rfl (xw_obd (by decide +kernel)) (by decide +kernel) (by decide +kernel) rfl ?_
      refine xw_gfIc (v := (m2 508 14)) (v' := (xR m2 508 14)) rfl (xw_obd (by decide +kernel)) xk10_14 (qi := 14) rfl rfl rfl ?_
      refine xw_lo (L2 := [(0, xa 0)]) (List.forall_mem_cons.mpr ⟨rfl, fun _ h => absurd h List.not_mem_nil⟩) ?_
      exact q
    refine xS_call (q := 210) (n := 2) (kq := 0) (as := [xa 0, xi (xR m2 508 14)]) (st1 := []) rfl rfl rfl rfl rfl rfl rfl rfl rfl rfl (fun _ => xw_rcv1 (t := 0) (xw_obd (by decide +kernel)) rfl) rfl (List.forall_mem_cons.mpr ⟨rfl, List.forall_mem_cons.mpr ⟨rfl, fun _ h => absurd h List.not_mem_nil⟩⟩) (ygf210 hB _ _ (w32_xR _ _ _)) (fun v3 m3 cv3 => ?_)
    refine xS_of (pc' := 46) (L' := [(0, xa 0)]) (st' := [xi (w32 ((xR m3 508 11) + 1)), xi 4, xa 508]) (m' := m3) (fun ex ns r q => ?_) ?_
    · refine xw_aload_n rfl rfl rfl ?_
      refine xw_gfR (n := 508) (e := 508) rfl (xw_obd (by decide +kernel)) (by decide +kernel) (by decide +kernel) rfl ?_
      refine xw_iconst rfl ?_
      refine xw_aload_n rfl rfl rfl ?_
      refine xw_gfR (n := 508) (e := 508) rfl (xw_obd (by decide +kernel)) (by decide +kernel) (by decide +kernel) rfl ?_
      refine xw_gfIc (v := (m3 508 11)) (v' := (xR m3 508 11)) rfl (xw_obd (by decide +kernel)) xk10_11 (qi := 11) rfl rfl rfl ?_
      refine xw_iconst rfl ?_
      refine xw_iadd rfl ?_
      refine xw_cst (st' := [xi (w32 ((xR m3 508 11) + 1)), xi 4, xa 508]) (xw_sc (xi_c rfl) (xw_sc rfl (xw_sc rfl rfl))) ?_
      refine xw_lo (L2 := [(0, xa 0)]) (List.forall_mem_cons.mpr ⟨rfl, fun _ h => absurd h List.not_mem_nil⟩) ?_
      exact q
    refine xS_call (q := 150) (n := 3) (kq := 0) (as := [xa 508, xi 4, xi (w32 ((xR m3 508 11) + 1))]) (st1 := []) rfl rfl rfl rfl rfl rfl rfl rfl rfl rfl (fun _ => xw_rcv1 (t := 10) (xw_obd (by decide +kernel)) rfl) rfl (List.forall_mem_cons.mpr ⟨rfl, List.forall_mem_cons.mpr ⟨rfl, List.forall_mem_cons.mpr ⟨rfl, fun _ h => absurd h List.not_mem_nil⟩⟩⟩) (ygf150 hB _ _ _ rfl (w32_w _)) (fun v4 m4 cv4 => ?_)
    refine xS_of (pc' := 54) (L' := [(0, xa 0)]) (st' := [xa 395, xa 0]) (m' := m4) (fun ex ns r q => ?_) ?_
    · refine xw_aload_n rfl rfl rfl ?_
      refine xw_aload_n rfl rfl rfl ?_
      refine xw_gfR (n := 395) (e := 395) rfl (xw_obd (by decide +kernel)) (by decide +kernel) (by decide +kernel) rfl ?_
      refine xw_lo (L2 := [(0, xa 0)]) (List.forall_mem_cons.mpr ⟨rfl, fun _ h => absurd h List.not_mem_nil⟩) ?_
      exact q
    refine xS_call (q := 179) (n := 2) (kq := 0) (as := [xa 0, xa 395]) (st1 := []) rfl rfl rfl rfl rfl rfl rfl rfl rfl rfl (fun _ => xw_rcv1 (t := 0) (xw_obd (by decide +kernel)) rfl) rfl (List.forall_mem_cons.mpr ⟨rfl, List.forall_mem_cons.mpr ⟨rfl, fun _ h => absurd h List.not_mem_nil⟩⟩) (ygf179 hB _ _) (fun v5 m5 cv5 => ?_)
    refine xS_of (pc' := 76) (L' := [(0, xa 0)]) (st' := [xi (xR m5 508 11), xa 511, xa 395, xa 0]) (m' := m5) (fun ex ns r q => ?_) ?_
    · refine xw_aload_n rfl rfl rfl ?_
      refine xw_aload_n rfl rfl rfl ?_
      refine xw_gfR (n := 395) (e := 395) rfl (xw_obd (by decide +kernel)) (by decide +kernel) (by decide +kernel) rfl ?_
      refine xw_aload_n rfl rfl rfl ?_
      refine xw_gfR (n := 508) (e := 508) rfl (xw_obd (by decide +kernel)) (by decide +kernel) (by decide +kernel) rfl ?_
      refine xw_gfR (n := 511) (e := 511) rfl (xw_obd (by decide +kernel)) (by decide +kernel) (by decide +kernel) rfl ?_
      refine xw_aload_n rfl rfl rfl ?_
      refine xw_gfR (n := 508) (e := 508) rfl (xw_obd (by decide +kernel)) (by decide +kernel) (by decide +kernel) rfl ?_
      refine xw_gfIc (v := (m5 508 11)) (v' := (xR m5 508 11)) rfl (xw_obd (by decide +kernel)) xk10_11 (qi := 11) rfl rfl rfl ?_
      refine xw_lo (L2 := [(0, xa 0)]) (List.forall_mem_cons.mpr ⟨rfl, fun _ h => absurd h List.not_mem_nil⟩) ?_
      exact q
    refine xS_call (q := 192) (n := 4) (kq := 0) (as := [xa 0, xa 395, xa 511, xi (xR m5 508 11)]) (st1 := []) rfl rfl rfl rfl rfl rfl rfl rfl rfl rfl (fun _ => xw_rcv1 (t := 0) (xw_obd (by decide +kernel)) rfl) rfl (List.forall_mem_cons.mpr ⟨rfl, List.forall_mem_cons.mpr ⟨rfl, List.forall_mem_cons.mpr ⟨rfl, List.forall_mem_cons.mpr ⟨rfl, fun _ h => absurd h List.not_mem_nil⟩⟩⟩⟩) (ygf192 hB _ _ _ _ (w32_xR _ _ _)) (fun v6 m6 cv6 => ?_)
    refine xS_of (pc' := 83) (L' := [(0, xa 0)]) (st' := [xa 508]) (m' := m6) (fun ex ns r q => ?_) ?_
    · refine xw_aload_n rfl rfl rfl ?_
      refine xw_gfR (n := 508) (e := 508) rfl (xw_obd (by decide +kernel)) (by decide +kernel) (by decide +kernel) rfl ?_
      refine xw_lo (L2 := [(0, xa 0)]) (List.forall_mem_cons.mpr ⟨rfl, fun _ h => absurd h List.not_mem_nil⟩) ?_
      exact q
    refine xS_call (q := 156) (n := 1) (kq := 1) (as := [xa 508]) (st1 := []) rfl rfl rfl rfl rfl rfl rfl rfl rfl rfl (fun _ => xw_rcv1 (t := 10) (xw_obd (by decide +kernel)) rfl) rfl (List.forall_mem_cons.mpr ⟨rfl, fun _ h => absurd h List.not_mem_nil⟩) (ygf156 hB _) (fun v7 m7 cv7 => ?_)
    refine xS_of (pc' := 92) (L' := [(0, xa 0), (1, xi v7)]) (st' := [xi v7, xa 508]) (m' := m7) (fun ex ns r q => ?_) ?_
    · refine xw_istore_n (L' := [(1, xi v7), (0, xa 0)]) rfl (by decide) rfl ?_
      refine xw_aload_n rfl rfl rfl ?_
      refine xw_gfR (n := 508) (e := 508) rfl (xw_obd (by decide +kernel)) (by decide +kernel) (by decide +kernel) rfl ?_
      refine xw_iload_n rfl rfl ?_
      refine xw_lo (L2 := [(0, xa 0), (1, xi v7)]) (List.forall_mem_cons.mpr ⟨rfl, List.forall_mem_cons.mpr ⟨rfl, fun _ h => absurd h List.not_mem_nil⟩⟩) ?_
      exact q
    refine xS_call (q := 157) (n := 2) (kq := 1) (as := [xa 508, xi v7]) (st1 := []) rfl rfl rfl rfl rfl rfl rfl rfl rfl rfl (fun _ => xw_rcv1 (t := 10) (xw_obd (by decide +kernel)) rfl) rfl (List.forall_mem_cons.mpr ⟨rfl, List.forall_mem_cons.mpr ⟨rfl, fun _ h => absurd h List.not_mem_nil⟩⟩) (ygf157 hB _ _ cv7) (fun v8 m8 cv8 => ?_)
    refine xS_of (pc' := 98) (L' := [(2, xi v8), (0, xa 0), (1, xi v7)]) (st' := [xi (-1), xi v8]) (m' := m8) (fun ex ns r q => ?_) ?_
    · refine xw_istore_n (L' := [(2, xi v8), (0, xa 0), (1, xi v7)]) rfl (by decide) rfl ?_
      refine xw_iload_n rfl rfl ?_
      refine xw_iconst rfl ?_
      exact q
    refine xS_if (fun h1 => ?_) (fun h1 => ?_)
    · refine xS_of (pc' := 103) (L' := [(2, xi v8), (0, xa 0), (1, xi v7)]) (st' := [xi (-2)]) (m' := m8) (fun ex ns r q => ?_) ?_
      · refine xw_ic_neF rfl (w32_cg cv8) (w32_cg rfl) h1 ?_
        refine xw_bipush (e := (-2)) rfl (by decide +kernel) ?_
        exact q
      exact xS_ret (v := (-2)) rfl rfl xw_rtI rfl
    · refine xS_of (pc' := 118) (L' := [(0, xa 0), (1, xi v7), (2, xi v8)]) (st' := [xa 508]) (m' := (xw_u m8 0 16 ((xR m8 0 16) + 1))) (fun ex ns r q => ?_) ?_
      · refine xw_ic_neT rfl (w32_cg cv8) (w32_cg rfl) h1 ?_
        refine xw_aload_n rfl rfl rfl ?_
        refine xw_dup rfl rfl ?_
        refine xw_gfIc (v := (m8 0 16)) (v' := (xR m8 0 16)) rfl (xw_obd (by decide +kernel)) xk0_16 (qi := 16) rfl rfl rfl ?_
        refine xw_iconst rfl ?_
        refine xw_iadd rfl ?_
        refine xw_pfI rfl (xw_obd (by decide +kernel)) xk0_16 (qi := 16) rfl (xw_okI rfl) ?_
        refine xw_aload_n rfl rfl rfl ?_
        refine xw_gfR (n := 508) (e := 508) rfl (xw_obd (by decide +kernel)) (by decide +kernel) (by decide +kernel) rfl ?_
        refine xw_lo (L2 := [(0, xa 0), (1, xi v7), (2, xi v8)]) (List.forall_mem_cons.mpr ⟨rfl, List.forall_mem_cons.mpr ⟨rfl, List.forall_mem_cons.mpr ⟨rfl, fun _ h => absurd h List.not_mem_nil⟩⟩⟩) ?_
        exact q
      refine xS_call (q := 216) (n := 1) (kq := 0) (as := [xa 508]) (st1 := []) rfl rfl rfl rfl rfl rfl rfl rfl rfl rfl (fun _ => xw_rcv1 (t := 10) (xw_obd (by decide +kernel)) rfl) rfl (List.forall_mem_cons.mpr ⟨rfl, fun _ h => absurd h List.not_mem_nil⟩) (ygf216 hB _) (fun v9 m9 cv9 => ?_)
      refine xS_of (pc' := 128) (L' := [(0, xa 0), (1, xi v7), (2, xi v8)]) (st' := [xi v7, xi v8, xi 4, xa 508]) (m' := m9) (fun ex ns r q => ?_) ?_
      · refine xw_aload_n rfl rfl rfl ?_
        refine xw_gfR (n := 508) (e := 508) rfl (xw_obd (by decide +kernel)) (by decide +kernel) (by decide +kernel) rfl ?_
        refine xw_iconst rfl ?_
        refine xw_iload_n rfl rfl ?_
        refine xw_iload_n rfl rfl ?_
        refine xw_lo (L2 := [(0, xa 0), (1, xi v7), (2, xi v8)]) (List.forall_mem_cons.mpr ⟨rfl, List.forall_mem_cons.mpr ⟨rfl, List.forall_mem_cons.mpr ⟨rfl, fun _ h => absurd h List.not_mem_nil⟩⟩⟩) ?_
        exact q
      refine xS_call (q := 159) (n := 4) (kq := 0) (as := [xa 508, xi 4, xi v8, xi v7]) (st1 := []) rfl rfl rfl rfl rfl rfl rfl rfl rfl rfl (fun _ => xw_rcv1 (t := 10) (xw_obd (by decide +kernel)) rfl) rfl (List.forall_mem_cons.mpr ⟨rfl, List.forall_mem_cons.mpr ⟨rfl, List.forall_mem_cons.mpr ⟨rfl, List.forall_mem_cons.mpr ⟨rfl, fun _ h => absurd h List.not_mem_nil⟩⟩⟩⟩) (ygf159 hB _ _ _ _ rfl cv8 cv7) (fun v10 m10 cv10 => ?_)
      refine xS_of (pc' := 153) (L' := [(0, xa 0), (1, xi v7), (2, xi v8)]) (st' := [xi (xR m10 508 11), xa 419, xa 511, xa 508]) (m' := m10) (fun ex ns r q => ?_) ?_
      · refine xw_aload_n rfl rfl rfl ?_
        refine xw_gfR (n := 508) (e := 508) rfl (xw_obd (by decide +kernel)) (by decide +kernel) (by decide +kernel) rfl ?_
        refine xw_aload_n rfl rfl rfl ?_
        refine xw_gfR (n := 508) (e := 508) rfl (xw_obd (by decide +kernel)) (by decide +kernel) (by decide +kernel) rfl ?_
        refine xw_gfR (n := 511) (e := 511) rfl (xw_obd (by decide +kernel)) (by decide +kernel) (by decide +kernel) rfl ?_
        refine xw_aload_n rfl rfl rfl ?_
        refine xw_gfR (n := 419) (e := 419) rfl (xw_obd (by decide +kernel)) (by decide +kernel) (by decide +kernel) rfl ?_
        refine xw_aload_n rfl rfl rfl ?_
        refine xw_gfR (n := 508) (e := 508) rfl (xw_obd (by decide +kernel)) (by decide +kernel) (by decide +kernel) rfl ?_
        refine xw_gfIc (v := (m10 508 11)) (v' := (xR m10 508 11)) rfl (xw_obd (by decide +kernel)) xk10_11 (qi := 11) rfl rfl rfl ?_
        refine xw_lo (L2 := [(0, xa 0), (1, xi v7), (2, xi v8)]) (List.forall_mem_cons.mpr ⟨rfl, List.forall_mem_cons.mpr ⟨rfl, List.forall_mem_cons.mpr ⟨rfl, fun _ h => absurd h List.not_mem_nil⟩⟩⟩) ?_
        exact q
      refine xS_call (q := 213) (n := 4) (kq := 0) (as := [xa 508, xa 511, xa 419, xi (xR m10 508 11)]) (st1 := []) rfl rfl rfl rfl rfl rfl rfl rfl rfl rfl (fun _ => xw_rcv1 (t := 10) (xw_obd (by decide +kernel)) rfl) rfl (List.forall_mem_cons.mpr ⟨rfl, List.forall_mem_cons.mpr ⟨rfl, List.forall_mem_cons.mpr ⟨rfl, List.forall_mem_cons.mpr ⟨rfl, fun _ h => absurd h List.not_mem_nil⟩⟩⟩⟩) (ygf213 hB _ _ _ _ (w32_xR _ _ _)) (fun v11 m11 cv11 => ?_)
      refine xS_of (pc' := 162) (L' := [(0, xa 0), (1, xi v7)]) (st' := [xi v7, xi v8, xa 508]) (m' := m11) (fun ex ns r q => ?_) ?_
      · refine xw_aload_n rfl rfl rfl ?_
        refine xw_gfR (n := 508) (e := 508) rfl (xw_obd (by decide +kernel)) (by decide +kernel) (by decide +kernel) rfl ?_
        refine xw_iload_n rfl rfl ?_
        refine xw_iload_n rfl rfl ?_
        refine xw_lo (L2 := [(0, xa 0), (1, xi v7)]) (List.forall_mem_cons.mpr ⟨rfl, List.forall_mem_cons.mpr ⟨rfl, fun _ h => absurd h List.not_mem_nil⟩⟩) ?_
        exact q
      refine xS_call (q := 160) (n := 3) (kq := 4) (as := [xa 508, xi v8, xi v7]) (st1 := []) rfl rfl rfl rfl rfl rfl rfl rfl rfl rfl (fun _ => xw_rcv1 (t := 10) (xw_obd (by decide +kernel)) rfl) rfl (List.forall_mem_cons.mpr ⟨rfl, List.forall_mem_cons.mpr ⟨rfl, List.forall_mem_cons.mpr ⟨rfl, fun _ h => absurd h List.not_mem_nil⟩⟩⟩) (ygf160 hB _ _ _ cv8 cv7) (fun v12 m12 cv12 => ?_)
      refine xS_if (fun h2 => ?_) (fun h2 => ?_)
      · refine xS_of (pc' := 175) (L' := []) (st' := [xa 0]) (m' := m12) (fun ex ns r q => ?_) ?_
        · refine xw_if_eqT rfl (w32_cg (w32_of (xw_zr cv12))) h2 ?_
          refine xw_aload_n rfl rfl rfl ?_
          refine xw_lo (L2 := []) (fun _ h => absurd h List.not_mem_nil) ?_
          exact q
        refine xS_call (q := 163) (n := 1) (kq := 1) (as := [xa 0]) (st1 := []) rfl rfl rfl rfl rfl rfl rfl rfl rfl rfl (fun _ => xw_rcv1 (t := 0) (xw_obd (by decide +kernel)) rfl) rfl (List.forall_mem_cons.mpr ⟨rfl, fun _ h => absurd h List.not_mem_nil⟩) (ygf163 hB _) (fun v13 m13 cv13 => ?_)
        exact xS_ret (v := v13) rfl rfl xw_rtI cv13
      · refine xS_of (pc' := 178) (L' := [(0, xa 0), (1, xi v7)]) (st' := [xi (w32 (v7 + 1))]) (m' := m12) (fun ex ns r q => ?_) ?_
        · refine xw_if_eqF rfl (w32_cg (w32_of (xw_zr cv12))) h2 ?_
          refine xw_iload_n rfl rfl ?_
          refine xw_iconst rfl ?_
          refine xw_iadd rfl ?_
          refine xw_goto rfl ?_
          refine xw_cst (st' := [xi (w32 (v7 + 1))]) (xw_sc (xi_c rfl) rfl) ?_
          exact q
        exact xS_ret (v := (w32 (v7 + 1))) rfl rfl xw_rtI (w32_w _)
  · refine xS_of (pc' := 18) (L' := [(0, xa 0)]) (st' := [xi 1]) (m' := m1) (fun ex ns r q => ?_) ?_
    · refine xw_ic_ltF rfl (w32_cg (w32_xR _ _ _)) (w32_cg rfl) h0 ?_
      refine xw_iconst rfl ?_
      refine xw_goto rfl ?_
      refine xw_lo (L2 := [(0, xa 0)]) (List.forall_mem_cons.mpr ⟨rfl, fun _ h => absurd h List.not_mem_nil⟩) ?_
      exact q
    refine xS_call (q := 39) (n := 1) (kq := 0) (as := [xi 1]) (st1 := []) rfl rfl rfl rfl rfl rfl rfl rfl rfl rfl (fun _ => xw_rcv0 rfl) rfl (List.forall_mem_cons.mpr ⟨rfl, fun _ h => absurd h List.not_mem_nil⟩) (ygf39 hB _ _ rfl) (fun v14 m14 cv14 => ?_)
    refine xS_of (pc' := 29) (L' := [(0, xa 0)]) (st' := [xi (xR m14 508 14), xa 0]) (m' := m14) (fun ex ns r q => ?_) ?_
    · refine xw_aload_n rfl rfl rfl ?_
      refine xw_aload_n rfl rfl rfl ?_
      refine xw_gfR (n := 508) (e := 508) rfl (xw_obd (by decide +kernel)) (by decide +kernel) (by decide +kernel) rfl ?_
      refine xw_gfIc (v := (m14 508 14)) (v' := (xR m14 508 14)) rfl (xw_obd (by decide +kernel)) xk10_14 (qi := 14) rfl rfl rfl ?_
      refine xw_lo (L2 := [(0, xa 0)]) (List.forall_mem_cons.mpr ⟨rfl, fun _ h => absurd h List.not_mem_nil⟩) ?_
      exact q
    refine xS_call (q := 210) (n := 2) (kq := 0) (as := [xa 0, xi (xR m14 508 14)]) (st1 := []) rfl rfl rfl rfl rfl rfl rfl rfl rfl rfl (fun _ => xw_rcv1 (t := 0) (xw_obd (by decide +kernel)) rfl) rfl (List.forall_mem_cons.mpr ⟨rfl, List.forall_mem_cons.mpr ⟨rfl, fun _ h => absurd h List.not_mem_nil⟩⟩) (ygf210 hB _ _ (w32_xR _ _ _)) (fun v15 m15 cv15 => ?_)
    refine xS_of (pc' := 46) (L' := [(0, xa 0)]) (st' := [xi (w32 ((xR m15 508 11) + 1)), xi 4, xa 508]) (m' := m15) (fun ex ns r q => ?_) ?_
    · refine xw_aload_n rfl rfl rfl ?_
      refine xw_gfR (n := 508) (e := 508) rfl (xw_obd (by decide +kernel)) (by decide +kernel) (by decide +kernel) rfl ?_
      refine xw_iconst rfl ?_
      refine xw_aload_n rfl rfl rfl ?_
      refine xw_gfR (n := 508) (e := 508) rfl (xw_obd (by decide +kernel)) (by decide +kernel) (by decide +kernel) rfl ?_
      refine xw_gfIc (v := (m15 508 11)) (v' := (xR m15 508 11)) rfl (xw_obd (by decide +kernel)) xk10_11 (qi := 11) rfl rfl rfl ?_
      refine xw_iconst rfl ?_
      refine xw_iadd rfl ?_
      refine xw_cst (st' := [xi (w32 ((xR m15 508 11) + 1)), xi 4, xa 508]) (xw_sc (xi_c rfl) (xw_sc rfl (xw_sc rfl rfl))) ?_
      refine xw_lo (L2 := [(0, xa 0)]) (List.forall_mem_cons.mpr ⟨rfl, fun _ h => absurd h List.not_mem_nil⟩) ?_
      exact q
    refine xS_call (q := 150) (n := 3) (kq := 0) (as := [xa 508, xi 4, xi (w32 ((xR m15 508 11) + 1))]) (st1 := []) rfl rfl rfl rfl rfl rfl rfl rfl rfl rfl (fun _ => xw_rcv1 (t := 10) (xw_obd (by decide +kernel)) rfl) rfl (List.forall_mem_cons.mpr ⟨rfl, List.forall_mem_cons.mpr ⟨rfl, List.forall_mem_cons.mpr ⟨rfl, fun _ h => absurd h List.not_mem_nil⟩⟩⟩) (ygf150 hB _ _ _ rfl (w32_w _)) (fun v16 m16 cv16 => ?_)
    refine xS_of (pc' := 54) (L' := [(0, xa 0)]) (st' := [xa 395, xa 0]) (m' := m16) (fun ex ns r q => ?_) ?_
    · refine xw_aload_n rfl rfl rfl ?_
      refine xw_aload_n rfl rfl rfl ?_
      refine xw_gfR (n := 395) (e := 395) rfl (xw_obd (by decide +kernel)) (by decide +kernel) (by decide +kernel) rfl ?_
      refine xw_lo (L2 := [(0, xa 0)]) (List.forall_mem_cons.mpr ⟨rfl, fun _ h => absurd h List.not_mem_nil⟩) ?_
      exact q
    refine xS_call (q := 179) (n := 2) (kq := 0) (as := [xa 0, xa 395]) (st1 := []) rfl rfl rfl rfl rfl rfl rfl rfl rfl rfl (fun _ => xw_rcv1 (t := 0) (xw_obd (by decide +kernel)) rfl) rfl (List.forall_mem_cons.mpr ⟨rfl, List.forall_mem_cons.mpr ⟨rfl, fun _ h => absurd h List.not_mem_nil⟩⟩) (ygf179 hB _ _) (fun v17 m17 cv17 => ?_)
    refine xS_of (pc' := 76) (L' := [(0, xa 0)]) (st' := [xi (xR m17 508 11), xa 511, xa 395, xa 0]) (m' := m17) (fun ex ns r q => ?_) ?_
    · refine xw_aload_n rfl rfl rfl ?_
      refine xw_aload_n rfl rfl rfl ?_
      refine xw_gfR (n := 395) (e := 395) rfl (xw_obd (by decide +kernel)) (by decide +kernel) (by decide +kernel) rfl ?_
      refine xw_aload_n rfl rfl rfl ?_
      refine xw_gfR (n := 508) (e := 508) rfl (xw_obd (by decide +kernel)) (by decide +kernel) (by decide +kernel) rfl ?_
      refine xw_gfR (n := 511) (e := 511) rfl (xw_obd (by decide +kernel)) (by decide +kernel) (by decide +kernel) rfl ?_
      refine xw_aload_n rfl rfl rfl ?_
      refine xw_gfR (n := 508) (e := 508) rfl (xw_obd (by decide +kernel)) (by decide +kernel) (by decide +kernel) rfl ?_
      refine xw_gfIc (v := (m17 508 11)) (v' := (xR m17 508 11)) rfl (xw_obd (by decide +kernel)) xk10_11 (qi := 11) rfl rfl rfl ?_
      refine xw_lo (L2 := [(0, xa 0)]) (List.forall_mem_cons.mpr ⟨rfl, fun _ h => absurd h List.not_mem_nil⟩) ?_
      exact q
    refine xS_call (q := 192) (n := 4) (kq := 0) (as := [xa 0, xa 395, xa 511, xi (xR m17 508 11)]) (st1 := []) rfl rfl rfl rfl rfl rfl rfl rfl rfl rfl (fun _ => xw_rcv1 (t := 0) (xw_obd (by decide +kernel)) rfl) rfl (List.forall_mem_cons.mpr ⟨rfl, List.forall_mem_cons.mpr ⟨rfl, List.forall_mem_cons.mpr ⟨rfl, List.forall_mem_cons.mpr ⟨rfl, fun _ h => absurd h List.not_mem_nil⟩⟩⟩⟩) (ygf192 hB _ _ _ _ (w32_xR _ _ _)) (fun v18 m18 cv18 => ?_)
    refine xS_of (pc' := 83) (L' := [(0, xa 0)]) (st' := [xa 508]) (m' := m18) (fun ex ns r q => ?_) ?_
    · refine xw_aload_n rfl rfl rfl ?_
      refine xw_gfR (n := 508) (e := 508) rfl (xw_obd (by decide +kernel)) (by decide +kernel) (by decide +kernel) rfl ?_
      refine xw_lo (L2 := [(0, xa 0)]) (List.forall_mem_cons.mpr ⟨rfl, fun _ h => absurd h List.not_mem_nil⟩) ?_
      exact q
    refine xS_call (q := 156) (n := 1) (kq := 1) (as := [xa 508]) (st1 := []) rfl rfl rfl rfl rfl rfl rfl rfl rfl rfl (fun _ => xw_rcv1 (t := 10) (xw_obd (by decide +kernel)) rfl) rfl (List.forall_mem_cons.mpr ⟨rfl, fun _ h => absurd h List.not_mem_nil⟩) (ygf156 hB _) (fun v19 m19 cv19 => ?_)
    refine xS_of (pc' := 92) (L' := [(0, xa 0), (1, xi v19)]) (st' := [xi v19, xa 508]) (m' := m19) (fun ex ns r q => ?_) ?_
    · refine xw_istore_n (L' := [(1, xi v19), (0, xa 0)]) rfl (by decide) rfl ?_
      refine xw_aload_n rfl rfl rfl ?_
      refine xw_gfR (n := 508) (e := 508) rfl (xw_obd (by decide +kernel)) (by decide +kernel) (by decide +kernel) rfl ?_
      refine xw_iload_n rfl rfl ?_
      refine xw_lo (L2 := [(0, xa 0), (1, xi v19)]) (List.forall_mem_cons.mpr ⟨rfl, List.forall_mem_cons.mpr ⟨rfl, fun _ h => absurd h List.not_mem_nil⟩⟩) ?_
      exact q
    refine xS_call (q := 157) (n := 2) (kq := 1) (as := [xa 508, xi v19]) (st1 := []) rfl rfl rfl rfl rfl rfl rfl rfl rfl rfl (fun _ => xw_rcv1 (t := 10) (xw_obd (by decide +kernel)) rfl) rfl (List.forall_mem_cons.mpr ⟨rfl, List.forall_mem_cons.mpr ⟨rfl, fun _ h => absurd h List.not_mem_nil⟩⟩) (ygf157 hB _ _ cv19) (fun v20 m20 cv20 => ?_)
    refine xS_of (pc' := 98) (L' := [(2, xi v20), (0, xa 0), (1, xi v19)]) (st' := [xi (-1), xi v20]) (m' := m20) (fun ex ns r q => ?_) ?_
    · refine xw_istore_n (L' := [(2, xi v20), (0, xa 0), (1, xi v19)]) rfl (by decide) rfl ?_
      refine xw_iload_n rfl rfl ?_
      refine xw_iconst rfl ?_
      exact q
    refine xS_if (fun h1 => ?_) (fun h1 => ?_)
    · refine xS_of (pc' := 103) (L' := [(2, xi v20), (0, xa 0), (1, xi v19)]) (st' := [xi (-2)]) (m' := m20) (fun ex ns r q => ?_) ?_
      · refine xw_ic_neF rfl (w32_cg cv20) (w32_cg rfl) h1 ?_
        refine xw_bipush (e := (-2)) rfl (by decide +kernel) ?_
        exact q
      exact xS_ret (v := (-2)) rfl rfl xw_rtI rfl
    · refine xS_of (pc' := 118) (L' := [(0, xa 0), (1, xi v19), (2, xi v20)]) (st' := [xa 508]) (m' := (xw_u m20 0 16 ((xR m20 0 16) + 1))) (fun ex ns r q => ?_) ?_
      · refine xw_ic_neT rfl (w32_cg cv20) (w32_cg rfl) h1 ?_
        refine xw_aload_n rfl rfl rfl ?_
        refine xw_dup rfl rfl ?_
        refine xw_gfIc (v := (m20 0 16)) (v' := (xR m20 0 16)) rfl (xw_obd (by decide +kernel)) xk0_16 (qi := 16) rfl rfl rfl ?_
        refine xw_iconst rfl ?_
        refine xw_iadd rfl ?_
        refine xw_pfI rfl (xw_obd (by decide +kernel)) xk0_16 (qi := 16) rfl (xw_okI rfl) ?_
        refine xw_aload_n rfl rfl rfl ?_
        refine xw_gfR (n := 508) (e := 508) rfl (xw_obd (by decide +kernel)) (by decide +kernel) (by decide +kernel) rfl ?_
        refine xw_lo (L2 := [(0, xa 0), (1, xi v19), (2, xi v20)]) (List.forall_mem_cons.mpr ⟨rfl, List.forall_mem_cons.mpr ⟨rfl, List.forall_mem_cons.mpr ⟨rfl, fun _ h => absurd h List.not_mem_nil⟩⟩⟩) ?_
        exact q
      refine xS_call (q := 216) (n := 1) (kq := 0) (as := [xa 508]) (st1 := []) rfl rfl rfl rfl rfl rfl rfl rfl rfl rfl (fun _ => xw_rcv1 (t := 10) (xw_obd (by decide +kernel)) rfl) rfl (List.forall_mem_cons.mpr ⟨rfl, fun _ h => absurd h List.not_mem_nil⟩) (ygf216 hB _) (fun v21 m21 cv21 => ?_)
      refine xS_of (pc' := 128) (L' := [(0, xa 0), (1, xi v19), (2, xi v20)]) (st' := [xi v19, xi v20, xi 4, xa 508]) (m' := m21) (fun ex ns r q => ?_) ?_
      · refine xw_aload_n rfl rfl rfl ?_
        refine xw_gfR (n := 508) (e := 508) rfl (xw_obd (by decide +kernel)) (by decide +kernel) (by decide +kernel) rfl ?_
        refine xw_iconst rfl ?_
        refine xw_iload_n rfl rfl ?_
        refine xw_iload_n rfl rfl ?_
        refine xw_lo (L2 := [(0, xa 0), (1, xi v19), (2, xi v20)]) (List.forall_mem_cons.mpr ⟨rfl, List.forall_mem_cons.mpr ⟨rfl, List.forall_mem_cons.mpr ⟨rfl, fun _ h => absurd h List.not_mem_nil⟩⟩⟩) ?_
        exact q
      refine xS_call (q := 159) (n := 4) (kq := 0) (as := [xa 508, xi 4, xi v20, xi v19]) (st1 := []) rfl rfl rfl rfl rfl rfl rfl rfl rfl rfl (fun _ => xw_rcv1 (t := 10) (xw_obd (by decide +kernel)) rfl) rfl (List.forall_mem_cons.mpr ⟨rfl, List.forall_mem_cons.mpr ⟨rfl, List.forall_mem_cons.mpr ⟨rfl, List.forall_mem_cons.mpr ⟨rfl, fun _ h => absurd h List.not_mem_nil⟩⟩⟩⟩) (ygf159 hB _ _ _ _ rfl cv20 cv19) (fun v22 m22 cv22 => ?_)
      refine xS_of (pc' := 153) (L' := [(0, xa 0), (1, xi v19), (2, xi v20)]) (st' := [xi (xR m22 508 11), xa 419, xa 511, xa 508]) (m' := m22) (fun ex ns r q => ?_) ?_
      · refine xw_aload_n rfl rfl rfl ?_
        refine xw_gfR (n := 508) (e := 508) rfl (xw_obd (by decide +kernel)) (by decide +kernel) (by decide +kernel) rfl ?_
        refine xw_aload_n rfl rfl rfl ?_
        refine xw_gfR (n := 508) (e := 508) rfl (xw_obd (by decide +kernel)) (by decide +kernel) (by decide +kernel) rfl ?_
        refine xw_gfR (n := 511) (e := 511) rfl (xw_obd (by decide +kernel)) (by decide +kernel) (by decide +kernel) rfl ?_
        refine xw_aload_n rfl rfl rfl ?_
        refine xw_gfR (n := 419) (e := 419) rfl (xw_obd (by decide +kernel)) (by decide +kernel) (by decide +kernel) rfl ?_
        refine xw_aload_n rfl rfl rfl ?_
        refine xw_gfR (n := 508) (e := 508) rfl (xw_obd (by decide +kernel)) (by decide +kernel) (by decide +kernel) rfl ?_
        refine xw_gfIc (v := (m22 508 11)) (v' := (xR m22 508 11)) rfl (xw_obd (by decide +kernel)) xk10_11 (qi := 11) rfl rfl rfl ?_
        refine xw_lo (L2 := [(0, xa 0), (1, xi v19), (2, xi v20)]) (List.forall_mem_cons.mpr ⟨rfl, List.forall_mem_cons.mpr ⟨rfl, List.forall_mem_cons.mpr ⟨rfl, fun _ h => absurd h List.not_mem_nil⟩⟩⟩) ?_
        exact q
      refine xS_call (q := 213) (n := 4) (kq := 0) (as := [xa 508, xa 511, xa 419, xi (xR m22 508 11)]) (st1 := []) rfl rfl rfl rfl rfl rfl rfl rfl rfl rfl (fun _ => xw_rcv1 (t := 10) (xw_obd (by decide +kernel)) rfl) rfl (List.forall_mem_cons.mpr ⟨rfl, List.forall_mem_cons.mpr ⟨rfl, List.forall_mem_cons.mpr ⟨rfl, List.forall_mem_cons.mpr ⟨rfl, fun _ h => absurd h List.not_mem_nil⟩⟩⟩⟩) (ygf213 hB _ _ _ _ (w32_xR _ _ _)) (fun v23 m23 cv23 => ?_)
      refine xS_of (pc' := 162) (L' := [(0, xa 0), (1, xi v19)]) (st' := [xi v19, xi v20, xa 508]) (m' := m23) (fun ex ns r q => ?_) ?_
      · refine xw_aload_n rfl rfl rfl ?_
        refine xw_gfR (n := 508) (e := 508) rfl (xw_obd (by decide +kernel)) (by decide +kernel) (by decide +kernel) rfl ?_
        refine xw_iload_n rfl rfl ?_
        refine xw_iload_n rfl rfl ?_
        refine xw_lo (L2 := [(0, xa 0), (1, xi v19)]) (List.forall_mem_cons.mpr ⟨rfl, List.forall_mem_cons.mpr ⟨rfl, fun _ h => absurd h List.not_mem_nil⟩⟩) ?_
        exact q
      refine xS_call (q := 160) (n := 3) (kq := 4) (as := [xa 508, xi v20, xi v19]) (st1 := []) rfl rfl rfl rfl rfl rfl rfl rfl rfl rfl (fun _ => xw_rcv1 (t := 10) (xw_obd (by decide +kernel)) rfl) rfl (List.forall_mem_cons.mpr ⟨rfl, List.forall_mem_cons.mpr ⟨rfl, List.forall_mem_cons.mpr ⟨rfl, fun _ h => absurd h List.not_mem_nil⟩⟩⟩) (ygf160 hB _ _ _ cv20 cv19) (fun v24 m24 cv24 => ?_)
      refine xS_if (fun h2 => ?_) (fun h2 => ?_)
      · refine xS_of (pc' := 175) (L' := []) (st' := [xa 0]) (m' := m24) (fun ex ns r q => ?_) ?_
        · refine xw_if_eqT rfl (w32_cg (w32_of (xw_zr cv24))) h2 ?_
          refine xw_aload_n rfl rfl rfl ?_
          refine xw_lo (L2 := []) (fun _ h => absurd h List.not_mem_nil) ?_
          exact q
        refine xS_call (q := 163) (n := 1) (kq := 1) (as := [xa 0]) (st1 := []) rfl rfl rfl rfl rfl rfl rfl rfl rfl rfl (fun _ => xw_rcv1 (t := 0) (xw_obd (by decide +kernel)) rfl) rfl (List.forall_mem_cons.mpr ⟨rfl, fun _ h => absurd h List.not_mem_nil⟩) (ygf163 hB _) (fun v25 m25 cv25 => ?_)
        exact xS_ret (v := v25) rfl rfl xw_rtI cv25
      · refine xS_of (pc' := 178) (L' := [(0, xa 0), (1, xi v19)]) (st' := [xi (w32 (v19 + 1))]) (m' := m24) (fun ex ns r q => ?_) ?_
        · refine xw_if_eqF rfl (w32_cg (w32_of (xw_zr cv24))) h2 ?_
          refine xw_iload_n rfl rfl ?_
          refine xw_iconst rfl ?_
          refine xw_iadd rfl ?_
          refine xw_goto rfl ?_
          refine xw_cst (st' := [xi (w32 (v19 + 1))]) (xw_sc (xi_c rfl) rfl) ?_
          exact q
        exact xS_ret (v := (w32 (v19 + 1))) rfl rfl xw_rtI (w32_w _)

theorem ygk218_16 {B : Nat} (hB : B ≤ 512) {xs : Nat → Int32} {SL d : Nat} : ∀ x1 m, w32 x1 = x1 → xS B xs SL (d + 3) 218 (2, none, [], 1) 0 16 [(0, xa 0), (1, xi x1)] [] m (yk218_16 B x1 m) := by
  intro x1 m c1
  unfold yk218_16
  refine xS_of (pc' := 17) (L' := [(0, xa 0), (1, xi x1)]) (st' := [xi 0]) (m' := m) (fun ex ns r q => ?_) ?_
  · refine xw_iconst rfl ?_
    refine xw_lo (L2 := [(0, xa 0), (1, xi x1)]) (List.forall_mem_cons.mpr ⟨rfl, List.forall_mem_cons.mpr ⟨rfl, fun _ h => absurd h List.not_mem_nil⟩⟩) ?_
    exact q
  refine xS_call (q := 43) (n := 1) (kq := 0) (as := [xi 0]) (st1 := []) rfl rfl rfl rfl rfl rfl rfl rfl rfl rfl (fun _ => xw_rcv0 rfl) rfl (List.forall_mem_cons.mpr ⟨rfl, fun _ h => absurd h List.not_mem_nil⟩) (ygf43 hB _ _ rfl) (fun v1 m1 cv1 => ?_)
  refine xS_of (pc' := 21) (L' := [(0, xa 0), (1, xi x1)]) (st' := [xa 0]) (m' := m1) (fun ex ns r q => ?_) ?_
  · refine xw_aload_n rfl rfl rfl ?_
    refine xw_lo (L2 := [(0, xa 0), (1, xi x1)]) (List.forall_mem_cons.mpr ⟨rfl, List.forall_mem_cons.mpr ⟨rfl, fun _ h => absurd h List.not_mem_nil⟩⟩) ?_
    exact q
  refine xS_call (q := 38) (n := 1) (kq := 0) (as := [xa 0]) (st1 := []) rfl rfl rfl rfl rfl rfl rfl rfl rfl rfl (fun _ => xw_rcv1 (t := 0) (xw_obd (by decide +kernel)) rfl) rfl (List.forall_mem_cons.mpr ⟨rfl, fun _ h => absurd h List.not_mem_nil⟩) (ygf38 hB _) (fun v2 m2 cv2 => ?_)
  refine xS_of (pc' := 33) (L' := [(0, xa 0), (1, xi x1)]) (st' := [xi x1]) (m' := (xw_u m2 508 18 x1)) (fun ex ns r q => ?_) ?_
  · refine xw_aload_n rfl rfl rfl ?_
    refine xw_gfR (n := 508) (e := 508) rfl (xw_obd (by decide +kernel)) (by decide +kernel) (by decide +kernel) rfl ?_
    refine xw_iload_n rfl rfl ?_
    refine xw_pfI rfl (xw_obd (by decide +kernel)) xk10_18 (qi := 18) rfl (xw_okI rfl) ?_
    refine xw_iload_n rfl rfl ?_
    exact q
  refine xS_if (fun h0 => ?_) (fun h0 => ?_)
  · refine xS_of (pc' := 37) (L' := []) (st' := [xa 0]) (m' := (xw_u m2 508 18 x1)) (fun ex ns r q => ?_) ?_
    · refine xw_if_neF rfl (w32_cg c1) h0 ?_
      refine xw_aload_n rfl rfl rfl ?_
      refine xw_lo (L2 := []) (fun _ h => absurd h List.not_mem_nil) ?_
      exact q
    refine xS_call (q := 163) (n := 1) (kq := 1) (as := [xa 0]) (st1 := []) rfl rfl rfl rfl rfl rfl rfl rfl rfl rfl (fun _ => xw_rcv1 (t := 0) (xw_obd (by decide +kernel)) rfl) rfl (List.forall_mem_cons.mpr ⟨rfl, fun _ h => absurd h List.not_mem_nil⟩) (ygf163 hB _) (fun v3 m3 cv3 => ?_)
    refine xS_of (pc' := 41) (L' := []) (st' := []) (m' := m3) (fun ex ns r q => ?_) ?_
    · refine xw_pop rfl rfl ?_
      exact q
    exact xS_ret (v := 0) rfl rfl rfl rfl
  · refine xS_of (pc' := 41) (L' := [(0, xa 0), (1, xi x1)]) (st' := []) (m' := (xw_u m2 508 18 x1)) (fun ex ns r q => ?_) ?_
    · refine xw_if_neT rfl (w32_cg c1) h0 ?_
      exact q
    exact xS_ret (v := 0) rfl rfl rfl rfl
theorem ygf218 {B : Nat} (hB : B ≤ 512) {xs : Nat → Int32} {SL d : Nat} : ∀ p0 m, w32 p0 = p0 → xS B xs SL (d + 3) 218 (2, none, [], 1) 0 0 [(0, xa 0), (1, xi p0)] [] m (yf218 B p0 m) := by
  intro p0 m cp0
  unfold yf218
  refine xS_of (pc' := 2) (L' := [(0, xa 0), (1, xi p0)]) (st' := [xi (-1), xi p0]) (m' := m) (fun ex ns r q => ?_) ?_
  · refine xw_iload_n rfl rfl ?_
    refine xw_iconst rfl ?_
    exact q
  refine xS_if (fun h0 => ?_) (fun h0 => ?_)
  · refine xS_of (pc' := 16) (L' := [(0, xa 0), (1, xi p0)]) (st' := []) (m' := m) (fun ex ns r q => ?_) ?_
    · refine xw_ic_ltT rfl (w32_cg cp0) (w32_cg rfl) h0 ?_
      refine xw_lo (L2 := [(0, xa 0), (1, xi p0)]) (List.forall_mem_cons.mpr ⟨rfl, List.forall_mem_cons.mpr ⟨rfl, fun _ h => absurd h List.not_mem_nil⟩⟩) ?_
      exact q
    exact ygk218_16 hB _ _ cp0
  · refine xS_of (pc' := 9) (L' := [(0, xa 0), (1, xi p0)]) (st' := [xi 1000, xi p0]) (m' := m) (fun ex ns r q => ?_) ?_
    · refine xw_ic_ltF rfl (w32_cg cp0) (w32_cg rfl) h0 ?_
      refine xw_iload_n rfl rfl ?_
      refine xw_sipush (e := 1000) rfl (by decide +kernel) ?_
      exact q
    refine xS_if (fun h1 => ?_) (fun h1 => ?_)
    · refine xS_of (pc' := 16) (L' := [(0, xa 0), (1, xi p0)]) (st' := []) (m' := m) (fun ex ns r q => ?_) ?_
      · refine xw_ic_gtT rfl (w32_cg cp0) (w32_cg rfl) h1 ?_
        refine xw_lo (L2 := [(0, xa 0), (1, xi p0)]) (List.forall_mem_cons.mpr ⟨rfl, List.forall_mem_cons.mpr ⟨rfl, fun _ h => absurd h List.not_mem_nil⟩⟩) ?_
        exact q
      exact ygk218_16 hB _ _ cp0
    · refine xS_of (pc' := 17) (L' := [(0, xa 0), (1, xi p0)]) (st' := [xi 1]) (m' := m) (fun ex ns r q => ?_) ?_
      · refine xw_ic_gtF rfl (w32_cg cp0) (w32_cg rfl) h1 ?_
        refine xw_iconst rfl ?_
        refine xw_goto rfl ?_
        refine xw_lo (L2 := [(0, xa 0), (1, xi p0)]) (List.forall_mem_cons.mpr ⟨rfl, List.forall_mem_cons.mpr ⟨rfl, fun _ h => absurd h List.not_mem_nil⟩⟩) ?_
        exact q
      refine xS_call (q := 43) (n := 1) (kq := 0) (as := [xi 1]) (st1 := []) rfl rfl rfl rfl rfl rfl rfl rfl rfl rfl (fun _ => xw_rcv0 rfl) rfl (List.forall_mem_cons.mpr ⟨rfl, fun _ h => absurd h List.not_mem_nil⟩) (ygf43 hB _ _ rfl) (fun v1 m1 cv1 => ?_)
      refine xS_of (pc' := 21) (L' := [(0, xa 0), (1, xi p0)]) (st' := [xa 0]) (m' := m1) (fun ex ns r q => ?_) ?_
      · refine xw_aload_n rfl rfl rfl ?_
        refine xw_lo (L2 := [(0, xa 0), (1, xi p0)]) (List.forall_mem_cons.mpr ⟨rfl, List.forall_mem_cons.mpr ⟨rfl, fun _ h => absurd h List.not_mem_nil⟩⟩) ?_
        exact q
      refine xS_call (q := 38) (n := 1) (kq := 0) (as := [xa 0]) (st1 := []) rfl rfl rfl rfl rfl rfl rfl rfl rfl rfl (fun _ => xw_rcv1 (t := 0) (xw_obd (by decide +kernel)) rfl) rfl (List.forall_mem_cons.mpr ⟨rfl, fun _ h => absurd h List.not_mem_nil⟩) (ygf38 hB _) (fun v2 m2 cv2 => ?_)
      refine xS_of (pc' := 33) (L' := [(0, xa 0), (1, xi p0)]) (st' := [xi p0]) (m' := (xw_u m2 508 18 p0)) (fun ex ns r q => ?_) ?_
      · refine xw_aload_n rfl rfl rfl ?_
        refine xw_gfR (n := 508) (e := 508) rfl (xw_obd (by decide +kernel)) (by decide +kernel) (by decide +kernel) rfl ?_
        refine xw_iload_n rfl rfl ?_
        refine xw_pfI rfl (xw_obd (by decide +kernel)) xk10_18 (qi := 18) rfl (xw_okI rfl) ?_
        refine xw_iload_n rfl rfl ?_
        exact q
      refine xS_if (fun h2 => ?_) (fun h2 => ?_)
      · refine xS_of (pc' := 37) (L' := []) (st' := [xa 0]) (m' := (xw_u m2 508 18 p0)) (fun ex ns r q => ?_) ?_
        · refine xw_if_neF rfl (w32_cg cp0) h2 ?_
          refine xw_aload_n rfl rfl rfl ?_
          refine xw_lo (L2 := []) (fun _ h => absurd h List.not_mem_nil) ?_
          exact q
        refine xS_call (q := 163) (n := 1) (kq := 1) (as := [xa 0]) (st1 := []) rfl rfl rfl rfl rfl rfl rfl rfl rfl rfl (fun _ => xw_rcv1 (t := 0) (xw_obd (by decide +kernel)) rfl) rfl (List.forall_mem_cons.mpr ⟨rfl, fun _ h => absurd h List.not_mem_nil⟩) (ygf163 hB _) (fun v3 m3 cv3 => ?_)
        refine xS_of (pc' := 41) (L' := []) (st' := []) (m' := m3) (fun ex ns r q => ?_) ?_
        · refine xw_pop rfl rfl ?_
          exact q
        exact xS_ret (v := 0) rfl rfl rfl rfl
      · refine xS_of (pc' := 41) (L' := [(0, xa 0), (1, xi p0)]) (st' := []) (m' := (xw_u m2 508 18 p0)) (fun ex ns r q => ?_) ?_
        · refine xw_if_neT rfl (w32_cg cp0) h2 ?_
          exact q
        exact xS_ret (v := 0) rfl rfl rfl rfl

theorem ysl221_9 {B : Nat} (hB : B ≤ 512) {xs : Nat → Int32} {SL d : Nat} {r9 : Int → Int → xw_M → xP} (hr9 : ∀ x1 x2 m, w32 x1 = x1 → w32 x2 = x2 → xS B xs SL (d + 0) 221 (3, (some .int), [], 11) 1 9 [(0, xa 508), (1, xi x1), (2, xi x2)] [] m (r9 x1 x2 m)) : ∀ x1 x2 m, w32 x1 = x1 → w32 x2 = x2 → xS B xs SL (d + 0) 221 (3, (some .int), [], 11) 1 9 [(0, xa 508), (1, xi x1), (2, xi x2)] [] m (yl221_9 B r9 x1 x2 m) := by
  intro x1 x2 m c1 c2
  unfold yl221_9
  refine xS_of (pc' := 14) (L' := [(0, xa 508), (1, xi x1), (2, xi x2)]) (st' := [xi (xR m 508 14), xi x2]) (m' := m) (fun ex ns r q => ?_) ?_
  · refine xw_iload_n rfl rfl ?_
    refine xw_aload_n rfl rfl rfl ?_
    refine xw_gfIc (v := (m 508 14)) (v' := (xR m 508 14)) rfl (xw_obd (by decide +kernel)) xk10_14 (qi := 14) rfl rfl rfl ?_
    exact q
  refine xS_if (fun h0 => ?_) (fun h0 => ?_)
  · refine xS_g (fun g1 => ?_)
    refine xS_of (pc' := 9) (L' := [(0, xa 508), (1, xi (w32 (x1 - (xR m 515 x2)))), (2, xi (w32 (x2 + 1)))]) (st' := []) (m' := m) (fun ex ns r q => ?_) ?_
    · refine xw_ic_geF rfl (w32_cg c2) (w32_cg (w32_xR _ _ _)) (Int.not_le.mpr h0) ?_
      refine xw_iload_n rfl rfl ?_
      refine xw_aload_n rfl rfl rfl ?_
      refine xw_gfR (n := 515) (e := 515) rfl (xw_obd (by decide +kernel)) (by decide +kernel) (by decide +kernel) rfl ?_
      refine xw_iload_n rfl rfl ?_
      refine xw_ialdc (n := 200) (v := (m 515 x2)) (v' := (xR m 515 x2)) rfl hB (xw_obd (by decide +kernel)) rfl g1 rfl rfl ?_
      refine xw_isub rfl ?_
      refine xw_cst (st' := [xi (w32 (x1 - (xR m 515 x2)))]) (xw_sc (xi_c rfl) rfl) ?_
      refine xw_istore_n (L' := [(1, xi (w32 (x1 - (xR m 515 x2)))), (0, xa 508), (2, xi x2)]) rfl (by decide) rfl ?_
      refine xw_iincc (z := (w32 (x2 + 1))) (L' := [(2, xi (w32 (x2 + 1))), (1, xi (w32 (x1 - (xR m 515 x2)))), (0, xa 508)]) rfl rfl (by decide) rfl rfl ?_
      refine xw_goto rfl ?_
      refine xw_lo (L2 := [(0, xa 508), (1, xi (w32 (x1 - (xR m 515 x2)))), (2, xi (w32 (x2 + 1)))]) (List.forall_mem_cons.mpr ⟨rfl, List.forall_mem_cons.mpr ⟨rfl, List.forall_mem_cons.mpr ⟨rfl, fun _ h => absurd h List.not_mem_nil⟩⟩⟩) ?_
      exact q
    exact hr9 _ _ _ (w32_w _) (w32_w _)
  · refine xS_of (pc' := 33) (L' := [(0, xa 508), (1, xi x1), (2, xi x2)]) (st' := [xi x1]) (m' := m) (fun ex ns r q => ?_) ?_
    · refine xw_ic_geT rfl (w32_cg c2) (w32_cg (w32_xR _ _ _)) (Int.not_lt.mp h0) ?_
      refine xw_iload_n rfl rfl ?_
      exact q
    exact xS_ret (v := x1) rfl rfl xw_rtI c1
theorem ygl221_9 {B : Nat} (hB : B ≤ 512) {xs : Nat → Int32} {SL d : Nat} : ∀ n x1 x2 m, w32 x1 = x1 → w32 x2 = x2 → xS B xs SL (d + 0) 221 (3, (some .int), [], 11) 1 9 [(0, xa 508), (1, xi x1), (2, xi x2)] [] m (xl2 (yl221_9 B) n x1 x2 m) := by
  intro n
  induction n with
  | zero => intro x1 x2 m c1 c2; exact xS_none
  | succ n ih => exact ysl221_9 hB ih
theorem ygf221 {B : Nat} (hB : B ≤ 512) {xs : Nat → Int32} {SL d : Nat} : ∀ m, xS B xs SL (d + 0) 221 (3, (some .int), [], 11) 1 0 [(0, xa 508)] [] m (yf221 B m) := by
  intro m
  unfold yf221
  refine xS_of (pc' := 9) (L' := [(0, xa 508), (1, xi (w32 ((xR m 508 0) - 2))), (2, xi 0)]) (st' := []) (m' := m) (fun ex ns r q => ?_) ?_
  · refine xw_aload_n rfl rfl rfl ?_
    refine xw_gfIc (v := (m 508 0)) (v' := (xR m 508 0)) rfl (xw_obd (by decide +kernel)) xk10_0 (qi := 0) rfl rfl rfl ?_
    refine xw_iconst rfl ?_
    refine xw_isub rfl ?_
    refine xw_cst (st' := [xi (w32 ((xR m 508 0) - 2))]) (xw_sc (xi_c rfl) rfl) ?_
    refine xw_istore_n (L' := [(1, xi (w32 ((xR m 508 0) - 2))), (0, xa 508)]) rfl (by decide) rfl ?_
    refine xw_iconst rfl ?_
    refine xw_istore_n (L' := [(2, xi 0), (1, xi (w32 ((xR m 508 0) - 2))), (0, xa 508)]) rfl (by decide) rfl ?_
    refine xw_lo (L2 := [(0, xa 508), (1, xi (w32 ((xR m 508 0) - 2))), (2, xi 0)]) (List.forall_mem_cons.mpr ⟨rfl, List.forall_mem_cons.mpr ⟨rfl, List.forall_mem_cons.mpr ⟨rfl, fun _ h => absurd h List.not_mem_nil⟩⟩⟩) ?_
    exact q
  exact ygl221_9 hB 1000000 _ _ _ (w32_w _) rfl
theorem ygk220_14 {B : Nat} (hB : B ≤ 512) {xs : Nat → Int32} {SL d : Nat} : ∀ x1 m, w32 x1 = x1 → xS B xs SL (d + 2) 220 (2, (some .int), [], 1) 1 14 [(0, xa 0), (1, xi x1)] [] m (yk220_14 B x1 m) := by
  intro x1 m c1
  unfold yk220_14
  refine xS_of (pc' := 15) (L' := [(0, xa 0), (1, xi x1)]) (st' := [xi 0]) (m' := m) (fun ex ns r q => ?_) ?_
  · refine xw_iconst rfl ?_
    refine xw_lo (L2 := [(0, xa 0), (1, xi x1)]) (List.forall_mem_cons.mpr ⟨rfl, List.forall_mem_cons.mpr ⟨rfl, fun _ h => absurd h List.not_mem_nil⟩⟩) ?_
    exact q
  refine xS_call (q := 43) (n := 1) (kq := 0) (as := [xi 0]) (st1 := []) rfl rfl rfl rfl rfl rfl rfl rfl rfl rfl (fun _ => xw_rcv0 rfl) rfl (List.forall_mem_cons.mpr ⟨rfl, fun _ h => absurd h List.not_mem_nil⟩) (ygf43 hB _ _ rfl) (fun v1 m1 cv1 => ?_)
  refine xS_of (pc' := 19) (L' := [(0, xa 0), (1, xi x1)]) (st' := [xa 0]) (m' := m1) (fun ex ns r q => ?_) ?_
  · refine xw_aload_n rfl rfl rfl ?_
    refine xw_lo (L2 := [(0, xa 0), (1, xi x1)]) (List.forall_mem_cons.mpr ⟨rfl, List.forall_mem_cons.mpr ⟨rfl, fun _ h => absurd h List.not_mem_nil⟩⟩) ?_
    exact q
  refine xS_call (q := 38) (n := 1) (kq := 0) (as := [xa 0]) (st1 := []) rfl rfl rfl rfl rfl rfl rfl rfl rfl rfl (fun _ => xw_rcv1 (t := 0) (xw_obd (by decide +kernel)) rfl) rfl (List.forall_mem_cons.mpr ⟨rfl, fun _ h => absurd h List.not_mem_nil⟩) (ygf38 hB _) (fun v2 m2 cv2 => ?_)
  refine xS_of (pc' := 23) (L' := [(0, xa 0), (1, xi x1)]) (st' := [xi x1]) (m' := m2) (fun ex ns r q => ?_) ?_
  · refine xw_iload_n rfl rfl ?_
    exact q
  refine xS_if (fun h0 => ?_) (fun h0 => ?_)
  · refine xS_of (pc' := 67) (L' := [(0, xa 0), (1, xi x1)]) (st' := [xi (xR m2 508 9)]) (m' := m2) (fun ex ns r q => ?_) ?_
    · refine xw_sw (t := 60) rfl (by rw [h0]; rfl) ?_
      refine xw_aload_n rfl rfl rfl ?_
      refine xw_gfR (n := 508) (e := 508) rfl (xw_obd (by decide +kernel)) (by decide +kernel) (by decide +kernel) rfl ?_
      refine xw_gfIc (v := (m2 508 9)) (v' := (xR m2 508 9)) rfl (xw_obd (by decide +kernel)) xk10_9 (qi := 9) rfl rfl rfl ?_
      exact q
    exact xS_ret (v := (xR m2 508 9)) rfl rfl xw_rtI (w32_xR _ _ _)
  · refine xS_if (fun h1 => ?_) (fun h1 => ?_)
    · refine xS_of (pc' := 75) (L' := [(0, xa 0), (1, xi x1)]) (st' := [xi (xR m2 508 10)]) (m' := m2) (fun ex ns r q => ?_) ?_
      · refine xw_sw (t := 68) rfl (by rw [h1]; rfl) ?_
        refine xw_aload_n rfl rfl rfl ?_
        refine xw_gfR (n := 508) (e := 508) rfl (xw_obd (by decide +kernel)) (by decide +kernel) (by decide +kernel) rfl ?_
        refine xw_gfIc (v := (m2 508 10)) (v' := (xR m2 508 10)) rfl (xw_obd (by decide +kernel)) xk10_10 (qi := 10) rfl rfl rfl ?_
        exact q
      exact xS_ret (v := (xR m2 508 10)) rfl rfl xw_rtI (w32_xR _ _ _)
    · refine xS_if (fun h2 => ?_) (fun h2 => ?_)
      · refine xS_of (pc' := 83) (L' := [(0, xa 0), (1, xi x1)]) (st' := [xi (xR m2 508 11)]) (m' := m2) (fun ex ns r q => ?_) ?_
        · refine xw_sw (t := 76) rfl (by rw [h2]; rfl) ?_
          refine xw_aload_n rfl rfl rfl ?_
          refine xw_gfR (n := 508) (e := 508) rfl (xw_obd (by decide +kernel)) (by decide +kernel) (by decide +kernel) rfl ?_
          refine xw_gfIc (v := (m2 508 11)) (v' := (xR m2 508 11)) rfl (xw_obd (by decide +kernel)) xk10_11 (qi := 11) rfl rfl rfl ?_
          exact q
        exact xS_ret (v := (xR m2 508 11)) rfl rfl xw_rtI (w32_xR _ _ _)
      · refine xS_if (fun h3 => ?_) (fun h3 => ?_)
        · refine xS_of (pc' := 91) (L' := [(0, xa 0), (1, xi x1)]) (st' := [xi (xR m2 508 14)]) (m' := m2) (fun ex ns r q => ?_) ?_
          · refine xw_sw (t := 84) rfl (by rw [h3]; rfl) ?_
            refine xw_aload_n rfl rfl rfl ?_
            refine xw_gfR (n := 508) (e := 508) rfl (xw_obd (by decide +kernel)) (by decide +kernel) (by decide +kernel) rfl ?_
            refine xw_gfIc (v := (m2 508 14)) (v' := (xR m2 508 14)) rfl (xw_obd (by decide +kernel)) xk10_14 (qi := 14) rfl rfl rfl ?_
            exact q
          exact xS_ret (v := (xR m2 508 14)) rfl rfl xw_rtI (w32_xR _ _ _)
        · refine xS_if (fun h4 => ?_) (fun h4 => ?_)
          · refine xS_of (pc' := 96) (L' := []) (st' := [xa 508]) (m' := m2) (fun ex ns r q => ?_) ?_
            · refine xw_sw (t := 92) rfl (by rw [h4]; rfl) ?_
              refine xw_aload_n rfl rfl rfl ?_
              refine xw_gfR (n := 508) (e := 508) rfl (xw_obd (by decide +kernel)) (by decide +kernel) (by decide +kernel) rfl ?_
              refine xw_lo (L2 := []) (fun _ h => absurd h List.not_mem_nil) ?_
              exact q
            refine xS_call (q := 221) (n := 1) (kq := 1) (as := [xa 508]) (st1 := []) rfl rfl rfl rfl rfl rfl rfl rfl rfl rfl (fun _ => xw_rcv1 (t := 10) (xw_obd (by decide +kernel)) rfl) rfl (List.forall_mem_cons.mpr ⟨rfl, fun _ h => absurd h List.not_mem_nil⟩) (ygf221 hB _) (fun v3 m3 cv3 => ?_)
            exact xS_ret (v := v3) rfl rfl xw_rtI cv3
          · refine xS_if (fun h5 => ?_) (fun h5 => ?_)
            · refine xS_of (pc' := 107) (L' := [(0, xa 0), (1, xi x1)]) (st' := [xi (xR m2 373 5)]) (m' := m2) (fun ex ns r q => ?_) ?_
              · refine xw_sw (t := 100) rfl (by rw [h5]; rfl) ?_
                refine xw_aload_n rfl rfl rfl ?_
                refine xw_gfR (n := 373) (e := 373) rfl (xw_obd (by decide +kernel)) (by decide +kernel) (by decide +kernel) rfl ?_
                refine xw_gfIc (v := (m2 373 5)) (v' := (xR m2 373 5)) rfl (xw_obd (by decide +kernel)) xk8_5 (qi := 5) rfl rfl rfl ?_
                exact q
              exact xS_ret (v := (xR m2 373 5)) rfl rfl xw_rtI (w32_xR _ _ _)
            · refine xS_of (pc' := 115) (L' := [(0, xa 0), (1, xi x1)]) (st' := [xi (xR m2 1 1)]) (m' := m2) (fun ex ns r q => ?_) ?_
              · refine xw_sw (t := 108) rfl (xw_swd (w32_cg c1) (by have := h0; have := h1; have := h2; have := h3; have := h4; have := h5; omega) rfl) ?_
                refine xw_aload_n rfl rfl rfl ?_
                refine xw_gfR (n := 1) (e := 1) rfl (xw_obd (by decide +kernel)) (by decide +kernel) (by decide +kernel) rfl ?_
                refine xw_gfIc (v := (m2 1 1)) (v' := (xR m2 1 1)) rfl (xw_obd (by decide +kernel)) xk1_1 (qi := 1) rfl rfl rfl ?_
                exact q
              exact xS_ret (v := (xR m2 1 1)) rfl rfl xw_rtI (w32_xR _ _ _)
theorem ygf220 {B : Nat} (hB : B ≤ 512) {xs : Nat → Int32} {SL d : Nat} : ∀ p0 m, w32 p0 = p0 → xS B xs SL (d + 2) 220 (2, (some .int), [], 1) 1 0 [(0, xa 0), (1, xi p0)] [] m (yf220 B p0 m) := by
  intro p0 m cp0
  unfold yf220
  refine xS_of (pc' := 1) (L' := [(0, xa 0), (1, xi p0)]) (st' := [xi p0]) (m' := m) (fun ex ns r q => ?_) ?_
  · refine xw_iload_n rfl rfl ?_
    exact q
  refine xS_if (fun h0 => ?_) (fun h0 => ?_)
  · refine xS_of (pc' := 14) (L' := [(0, xa 0), (1, xi p0)]) (st' := []) (m' := m) (fun ex ns r q => ?_) ?_
    · refine xw_if_ltT rfl (w32_cg cp0) h0 ?_
      refine xw_lo (L2 := [(0, xa 0), (1, xi p0)]) (List.forall_mem_cons.mpr ⟨rfl, List.forall_mem_cons.mpr ⟨rfl, fun _ h => absurd h List.not_mem_nil⟩⟩) ?_
      exact q
    exact ygk220_14 hB _ _ cp0
  · refine xS_of (pc' := 7) (L' := [(0, xa 0), (1, xi p0)]) (st' := [xi 6, xi p0]) (m' := m) (fun ex ns r q => ?_) ?_
    · refine xw_if_ltF rfl (w32_cg cp0) h0 ?_
      refine xw_iload_n rfl rfl ?_
      refine xw_bipush (e := 6) rfl (by decide +kernel) ?_
      exact q
    refine xS_if (fun h1 => ?_) (fun h1 => ?_)
    · refine xS_of (pc' := 14) (L' := [(0, xa 0), (1, xi p0)]) (st' := []) (m' := m) (fun ex ns r q => ?_) ?_
      · refine xw_ic_gtT rfl (w32_cg cp0) (w32_cg rfl) h1 ?_
        refine xw_lo (L2 := [(0, xa 0), (1, xi p0)]) (List.forall_mem_cons.mpr ⟨rfl, List.forall_mem_cons.mpr ⟨rfl, fun _ h => absurd h List.not_mem_nil⟩⟩) ?_
        exact q
      exact ygk220_14 hB _ _ cp0
    · refine xS_of (pc' := 15) (L' := [(0, xa 0), (1, xi p0)]) (st' := [xi 1]) (m' := m) (fun ex ns r q => ?_) ?_
      · refine xw_ic_gtF rfl (w32_cg cp0) (w32_cg rfl) h1 ?_
        refine xw_iconst rfl ?_
        refine xw_goto rfl ?_
        refine xw_lo (L2 := [(0, xa 0), (1, xi p0)]) (List.forall_mem_cons.mpr ⟨rfl, List.forall_mem_cons.mpr ⟨rfl, fun _ h => absurd h List.not_mem_nil⟩⟩) ?_
        exact q
      refine xS_call (q := 43) (n := 1) (kq := 0) (as := [xi 1]) (st1 := []) rfl rfl rfl rfl rfl rfl rfl rfl rfl rfl (fun _ => xw_rcv0 rfl) rfl (List.forall_mem_cons.mpr ⟨rfl, fun _ h => absurd h List.not_mem_nil⟩) (ygf43 hB _ _ rfl) (fun v1 m1 cv1 => ?_)
      refine xS_of (pc' := 19) (L' := [(0, xa 0), (1, xi p0)]) (st' := [xa 0]) (m' := m1) (fun ex ns r q => ?_) ?_
      · refine xw_aload_n rfl rfl rfl ?_
        refine xw_lo (L2 := [(0, xa 0), (1, xi p0)]) (List.forall_mem_cons.mpr ⟨rfl, List.forall_mem_cons.mpr ⟨rfl, fun _ h => absurd h List.not_mem_nil⟩⟩) ?_
        exact q
      refine xS_call (q := 38) (n := 1) (kq := 0) (as := [xa 0]) (st1 := []) rfl rfl rfl rfl rfl rfl rfl rfl rfl rfl (fun _ => xw_rcv1 (t := 0) (xw_obd (by decide +kernel)) rfl) rfl (List.forall_mem_cons.mpr ⟨rfl, fun _ h => absurd h List.not_mem_nil⟩) (ygf38 hB _) (fun v2 m2 cv2 => ?_)
      refine xS_of (pc' := 23) (L' := [(0, xa 0), (1, xi p0)]) (st' := [xi p0]) (m' := m2) (fun ex ns r q => ?_) ?_
      · refine xw_iload_n rfl rfl ?_
        exact q
      refine xS_if (fun h2 => ?_) (fun h2 => ?_)
      · refine xS_of (pc' := 67) (L' := [(0, xa 0), (1, xi p0)]) (st' := [xi (xR m2 508 9)]) (m' := m2) (fun ex ns r q => ?_) ?_
        · refine xw_sw (t := 60) rfl (by rw [h2]; rfl) ?_
          refine xw_aload_n rfl rfl rfl ?_
          refine xw_gfR (n := 508) (e := 508) rfl (xw_obd (by decide +kernel)) (by decide +kernel) (by decide +kernel) rfl ?_
          refine xw_gfIc (v := (m2 508 9)) (v' := (xR m2 508 9)) rfl (xw_obd (by decide +kernel)) xk10_9 (qi := 9) rfl rfl rfl ?_
          exact q
        exact xS_ret (v := (xR m2 508 9)) rfl rfl xw_rtI (w32_xR _ _ _)
      · refine xS_if (fun h3 => ?_) (fun h3 => ?_)
        · refine xS_of (pc' := 75) (L' := [(0, xa 0), (1, xi p0)]) (st' := [xi (xR m2 508 10)]) (m' := m2) (fun ex ns r q => ?_) ?_
          · refine xw_sw (t := 68) rfl (by rw [h3]; rfl) ?_
            refine xw_aload_n rfl rfl rfl ?_
            refine xw_gfR (n := 508) (e := 508) rfl (xw_obd (by decide +kernel)) (by decide +kernel) (by decide +kernel) rfl ?_
            refine xw_gfIc (v := (m2 508 10)) (v' := (xR m2 508 10)) rfl (xw_obd (by decide +kernel)) xk10_10 (qi := 10) rfl rfl rfl ?_
            exact q
          exact xS_ret (v := (xR m2 508 10)) rfl rfl xw_rtI (w32_xR _ _ _)
        · refine xS_if (fun h4 => ?_) (fun h4 => ?_)
          · refine xS_of (pc' := 83) (L' := [(0, xa 0), (1, xi p0)]) (st' := [xi (xR m2 508 11)]) (m' := m2) (fun ex ns r q => ?_) ?_
            · refine xw_sw (t := 76) rfl (by rw [h4]; rfl) ?_
              refine xw_aload_n rfl rfl rfl ?_
              refine xw_gfR (n := 508) (e := 508) rfl (xw_obd (by decide +kernel)) (by decide +kernel) (by decide +kernel) rfl ?_
              refine xw_gfIc (v := (m2 508 11)) (v' := (xR m2 508 11)) rfl (xw_obd (by decide +kernel)) xk10_11 (qi := 11) rfl rfl rfl ?_
              exact q
            exact xS_ret (v := (xR m2 508 11)) rfl rfl xw_rtI (w32_xR _ _ _)
          · refine xS_if (fun h5 => ?_) (fun h5 => ?_)
            · refine xS_of (pc' := 91) (L' := [(0, xa 0), (1, xi p0)]) (st' := [xi (xR m2 508 14)]) (m' := m2) (fun ex ns r q => ?_) ?_
              · refine xw_sw (t := 84) rfl (by rw [h5]; rfl) ?_
                refine xw_aload_n rfl rfl rfl ?_
                refine xw_gfR (n := 508) (e := 508) rfl (xw_obd (by decide +kernel)) (by decide +kernel) (by decide +kernel) rfl ?_
                refine xw_gfIc (v := (m2 508 14)) (v' := (xR m2 508 14)) rfl (xw_obd (by decide +kernel)) xk10_14 (qi := 14) rfl rfl rfl ?_
                exact q
              exact xS_ret (v := (xR m2 508 14)) rfl rfl xw_rtI (w32_xR _ _ _)
            · refine xS_if (fun h6 => ?_) (fun h6 => ?_)
              · refine xS_of (pc' := 96) (L' := []) (st' := [xa 508]) (m' := m2) (fun ex ns r q => ?_) ?_
                · refine xw_sw (t := 92) rfl (by rw [h6]; rfl) ?_
                  refine xw_aload_n rfl rfl rfl ?_
                  refine xw_gfR (n := 508) (e := 508) rfl (xw_obd (by decide +kernel)) (by decide +kernel) (by decide +kernel) rfl ?_
                  refine xw_lo (L2 := []) (fun _ h => absurd h List.not_mem_nil) ?_
                  exact q
                refine xS_call (q := 221) (n := 1) (kq := 1) (as := [xa 508]) (st1 := []) rfl rfl rfl rfl rfl rfl rfl rfl rfl rfl (fun _ => xw_rcv1 (t := 10) (xw_obd (by decide +kernel)) rfl) rfl (List.forall_mem_cons.mpr ⟨rfl, fun _ h => absurd h List.not_mem_nil⟩) (ygf221 hB _) (fun v3 m3 cv3 => ?_)
                exact xS_ret (v := v3) rfl rfl xw_rtI cv3
              · refine xS_if (fun h7 => ?_) (fun h7 => ?_)
                · refine xS_of (pc' := 107) (L' := [(0, xa 0), (1, xi p0)]) (st' := [xi (xR m2 373 5)]) (m' := m2) (fun ex ns r q => ?_) ?_
                  · refine xw_sw (t := 100) rfl (by rw [h7]; rfl) ?_
                    refine xw_aload_n rfl rfl rfl ?_
                    refine xw_gfR (n := 373) (e := 373) rfl (xw_obd (by decide +kernel)) (by decide +kernel) (by decide +kernel) rfl ?_
                    refine xw_gfIc (v := (m2 373 5)) (v' := (xR m2 373 5)) rfl (xw_obd (by decide +kernel)) xk8_5 (qi := 5) rfl rfl rfl ?_
                    exact q
                  exact xS_ret (v := (xR m2 373 5)) rfl rfl xw_rtI (w32_xR _ _ _)
                · refine xS_of (pc' := 115) (L' := [(0, xa 0), (1, xi p0)]) (st' := [xi (xR m2 1 1)]) (m' := m2) (fun ex ns r q => ?_) ?_
                  · refine xw_sw (t := 108) rfl (xw_swd (w32_cg cp0) (by have := h2; have := h3; have := h4; have := h5; have := h6; have := h7; omega) rfl) ?_
                    refine xw_aload_n rfl rfl rfl ?_
                    refine xw_gfR (n := 1) (e := 1) rfl (xw_obd (by decide +kernel)) (by decide +kernel) (by decide +kernel) rfl ?_
                    refine xw_gfIc (v := (m2 1 1)) (v' := (xR m2 1 1)) rfl (xw_obd (by decide +kernel)) xk1_1 (qi := 1) rfl rfl rfl ?_
                    exact q
                  exact xS_ret (v := (xR m2 1 1)) rfl rfl xw_rtI (w32_xR _ _ _)

