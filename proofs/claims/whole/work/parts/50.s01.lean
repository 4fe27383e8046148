/-! the machine does what the functions say, 1 -/
theorem ygf56 {B : Nat} (hB : B ≤ 512) {xs : Nat → Int32} {SL d : Nat} : ∀ m, xS B xs SL (d + 1) 56 (1, none, [], 2) 0 0 [(0, xa 1)] [] m (yf56 B m) := by
  intro m
  unfold yf56
  refine xS_of (pc' := 5) (L' := [(0, xa 1)]) (st' := [xi (xR m 1 3), xa 1]) (m' := m) (fun ex ns r q => ?_) ?_
  · refine xw_aload_n rfl rfl rfl ?_
    refine xw_aload_n rfl rfl rfl ?_
    refine xw_gfIc (v := (m 1 3)) (v' := (xR m 1 3)) rfl (xw_obd (by decide +kernel)) xk1_3 (qi := 3) rfl rfl rfl ?_
    exact q
  refine xS_if (fun h0 => ?_) (fun h0 => ?_)
  · refine xS_of (pc' := 17) (L' := []) (st' := [xi (xR m 1 4), xi 3, xa 1]) (m' := m) (fun ex ns r q => ?_) ?_
    · refine xw_if_neF rfl (w32_cg (w32_xR _ _ _)) h0 ?_
      refine xw_iconst rfl ?_
      refine xw_goto rfl ?_
      refine xw_aload_n rfl rfl rfl ?_
      refine xw_gfIc (v := (m 1 4)) (v' := (xR m 1 4)) rfl (xw_obd (by decide +kernel)) xk1_4 (qi := 4) rfl rfl rfl ?_
      refine xw_lo (L2 := []) (fun _ h => absurd h List.not_mem_nil) ?_
      exact q
    refine xS_call (q := 54) (n := 3) (kq := 0) (as := [xa 1, xi 3, xi (xR m 1 4)]) (st1 := []) rfl rfl rfl rfl rfl rfl rfl rfl rfl rfl (fun _ => xw_rcv1 (t := 1) (xw_obd (by decide +kernel)) rfl) rfl (List.forall_mem_cons.mpr ⟨rfl, List.forall_mem_cons.mpr ⟨rfl, List.forall_mem_cons.mpr ⟨rfl, fun _ h => absurd h List.not_mem_nil⟩⟩⟩) (ygf54 hB _ _ _ rfl (w32_xR _ _ _)) (fun v1 m1 cv1 => ?_)
    exact xS_ret (v := 0) rfl rfl rfl rfl
  · refine xS_of (pc' := 17) (L' := []) (st' := [xi (xR m 1 4), xi 4, xa 1]) (m' := m) (fun ex ns r q => ?_) ?_
    · refine xw_if_neT rfl (w32_cg (w32_xR _ _ _)) h0 ?_
      refine xw_iconst rfl ?_
      refine xw_aload_n rfl rfl rfl ?_
      refine xw_gfIc (v := (m 1 4)) (v' := (xR m 1 4)) rfl (xw_obd (by decide +kernel)) xk1_4 (qi := 4) rfl rfl rfl ?_
      refine xw_lo (L2 := []) (fun _ h => absurd h List.not_mem_nil) ?_
      exact q
    refine xS_call (q := 54) (n := 3) (kq := 0) (as := [xa 1, xi 4, xi (xR m 1 4)]) (st1 := []) rfl rfl rfl rfl rfl rfl rfl rfl rfl rfl (fun _ => xw_rcv1 (t := 1) (xw_obd (by decide +kernel)) rfl) rfl (List.forall_mem_cons.mpr ⟨rfl, List.forall_mem_cons.mpr ⟨rfl, List.forall_mem_cons.mpr ⟨rfl, fun _ h => absurd h List.not_mem_nil⟩⟩⟩) (ygf54 hB _ _ _ rfl (w32_xR _ _ _)) (fun v2 m2 cv2 => ?_)
    exact xS_ret (v := 0) rfl rfl rfl rfl
theorem ygk46_52 {B : Nat} (hB : B ≤ 512) {xs : Nat → Int32} {SL d : Nat} : ∀ x1 m, w32 x1 = x1 → xS B xs SL (d + 2) 46 (2, (some .boolean), [], 6) 4 52 [(0, xa 293), (1, xi x1)] [] m (yk46_52 B x1 m) := by
  intro x1 m c1
  unfold yk46_52
  refine xS_of (pc' := 63) (L' := [(0, xa 293), (1, xi x1)]) (st' := [xi 203, xi (xR m 1 3), xi x1]) (m' := m) (fun ex ns r q => ?_) ?_
  · refine xw_iload_n rfl rfl ?_
    refine xw_aload_n rfl rfl rfl ?_
    refine xw_gfR (n := 1) (e := 1) rfl (xw_obd (by decide +kernel)) (by decide +kernel) (by decide +kernel) rfl ?_
    refine xw_gfIc (v := (m 1 3)) (v' := (xR m 1 3)) rfl (xw_obd (by decide +kernel)) xk1_3 (qi := 3) rfl rfl rfl ?_
    refine xw_sipush (e := 203) rfl (by decide +kernel) ?_
    exact q
  refine xS_if (fun h0 => ?_) (fun h0 => ?_)
  · refine xS_of (pc' := 71) (L' := [(0, xa 293), (1, xi x1)]) (st' := [xi 1, xi x1]) (m' := m) (fun ex ns r q => ?_) ?_
    · refine xw_ic_neF rfl (w32_cg (w32_xR _ _ _)) (w32_cg rfl) h0 ?_
      refine xw_iconst rfl ?_
      refine xw_goto rfl ?_
      exact q
    refine xS_if (fun h1 => ?_) (fun h1 => ?_)
    · refine xS_of (pc' := 87) (L' := []) (st' := [xi (xR m 1 4), xi 8, xa 1]) (m' := m) (fun ex ns r q => ?_) ?_
      · refine xw_ic_neF rfl (w32_cg c1) (w32_cg rfl) h1 ?_
        refine xw_aload_n rfl rfl rfl ?_
        refine xw_gfR (n := 1) (e := 1) rfl (xw_obd (by decide +kernel)) (by decide +kernel) (by decide +kernel) rfl ?_
        refine xw_bipush (e := 8) rfl (by decide +kernel) ?_
        refine xw_aload_n rfl rfl rfl ?_
        refine xw_gfR (n := 1) (e := 1) rfl (xw_obd (by decide +kernel)) (by decide +kernel) (by decide +kernel) rfl ?_
        refine xw_gfIc (v := (m 1 4)) (v' := (xR m 1 4)) rfl (xw_obd (by decide +kernel)) xk1_4 (qi := 4) rfl rfl rfl ?_
        refine xw_lo (L2 := []) (fun _ h => absurd h List.not_mem_nil) ?_
        exact q
      refine xS_call (q := 54) (n := 3) (kq := 0) (as := [xa 1, xi 8, xi (xR m 1 4)]) (st1 := []) rfl rfl rfl rfl rfl rfl rfl rfl rfl rfl (fun _ => xw_rcv1 (t := 1) (xw_obd (by decide +kernel)) rfl) rfl (List.forall_mem_cons.mpr ⟨rfl, List.forall_mem_cons.mpr ⟨rfl, List.forall_mem_cons.mpr ⟨rfl, fun _ h => absurd h List.not_mem_nil⟩⟩⟩) (ygf54 hB _ _ _ rfl (w32_xR _ _ _)) (fun v1 m1 cv1 => ?_)
      refine xS_of (pc' := 91) (L' := []) (st' := [xi 1]) (m' := m1) (fun ex ns r q => ?_) ?_
      · refine xw_iconst rfl ?_
        exact q
      exact xS_ret (v := 1) rfl rfl (xw_rtZ (Or.inr rfl)) (Or.inr rfl)
    · refine xS_of (pc' := 91) (L' := [(0, xa 293), (1, xi x1)]) (st' := [xi 1]) (m' := m) (fun ex ns r q => ?_) ?_
      · refine xw_ic_neT rfl (w32_cg c1) (w32_cg rfl) h1 ?_
        refine xw_iconst rfl ?_
        exact q
      exact xS_ret (v := 1) rfl rfl (xw_rtZ (Or.inr rfl)) (Or.inr rfl)
  · refine xS_of (pc' := 71) (L' := [(0, xa 293), (1, xi x1)]) (st' := [xi 0, xi x1]) (m' := m) (fun ex ns r q => ?_) ?_
    · refine xw_ic_neT rfl (w32_cg (w32_xR _ _ _)) (w32_cg rfl) h0 ?_
      refine xw_iconst rfl ?_
      exact q
    refine xS_if (fun h1 => ?_) (fun h1 => ?_)
    · refine xS_of (pc' := 87) (L' := []) (st' := [xi (xR m 1 4), xi 8, xa 1]) (m' := m) (fun ex ns r q => ?_) ?_
      · refine xw_ic_neF rfl (w32_cg c1) (w32_cg rfl) h1 ?_
        refine xw_aload_n rfl rfl rfl ?_
        refine xw_gfR (n := 1) (e := 1) rfl (xw_obd (by decide +kernel)) (by decide +kernel) (by decide +kernel) rfl ?_
        refine xw_bipush (e := 8) rfl (by decide +kernel) ?_
        refine xw_aload_n rfl rfl rfl ?_
        refine xw_gfR (n := 1) (e := 1) rfl (xw_obd (by decide +kernel)) (by decide +kernel) (by decide +kernel) rfl ?_
        refine xw_gfIc (v := (m 1 4)) (v' := (xR m 1 4)) rfl (xw_obd (by decide +kernel)) xk1_4 (qi := 4) rfl rfl rfl ?_
        refine xw_lo (L2 := []) (fun _ h => absurd h List.not_mem_nil) ?_
        exact q
      refine xS_call (q := 54) (n := 3) (kq := 0) (as := [xa 1, xi 8, xi (xR m 1 4)]) (st1 := []) rfl rfl rfl rfl rfl rfl rfl rfl rfl rfl (fun _ => xw_rcv1 (t := 1) (xw_obd (by decide +kernel)) rfl) rfl (List.forall_mem_cons.mpr ⟨rfl, List.forall_mem_cons.mpr ⟨rfl, List.forall_mem_cons.mpr ⟨rfl, fun _ h => absurd h List.not_mem_nil⟩⟩⟩) (ygf54 hB _ _ _ rfl (w32_xR _ _ _)) (fun v2 m2 cv2 => ?_)
      refine xS_of (pc' := 91) (L' := []) (st' := [xi 1]) (m' := m2) (fun ex ns r q => ?_) ?_
      · refine xw_iconst rfl ?_
        exact q
      exact xS_ret (v := 1) rfl rfl (xw_rtZ (Or.inr rfl)) (Or.inr rfl)
    · refine xS_of (pc' := 91) (L' := [(0, xa 293), (1, xi x1)]) (st' := [xi 1]) (m' := m) (fun ex ns r q => ?_) ?_
      · refine xw_ic_neT rfl (w32_cg c1) (w32_cg rfl) h1 ?_
        refine xw_iconst rfl ?_
        exact q
      exact xS_ret (v := 1) rfl rfl (xw_rtZ (Or.inr rfl)) (Or.inr rfl)
theorem ygk46_45 {B : Nat} (hB : B ≤ 512) {xs : Nat → Int32} {SL d : Nat} : ∀ x1 m, w32 x1 = x1 → xS B xs SL (d + 2) 46 (2, (some .boolean), [], 6) 4 45 [(0, xa 293), (1, xi x1)] [] m (yk46_45 B x1 m) := by
  intro x1 m c1
  unfold yk46_45
  refine xS_of (pc' := 49) (L' := [(0, xa 293), (1, xi x1)]) (st' := [xa 1]) (m' := m) (fun ex ns r q => ?_) ?_
  · refine xw_aload_n rfl rfl rfl ?_
    refine xw_gfR (n := 1) (e := 1) rfl (xw_obd (by decide +kernel)) (by decide +kernel) (by decide +kernel) rfl ?_
    refine xw_lo (L2 := [(0, xa 293), (1, xi x1)]) (List.forall_mem_cons.mpr ⟨rfl, List.forall_mem_cons.mpr ⟨rfl, fun _ h => absurd h List.not_mem_nil⟩⟩) ?_
    exact q
  refine xS_call (q := 56) (n := 1) (kq := 0) (as := [xa 1]) (st1 := []) rfl rfl rfl rfl rfl rfl rfl rfl rfl rfl (fun _ => xw_rcv1 (t := 1) (xw_obd (by decide +kernel)) rfl) rfl (List.forall_mem_cons.mpr ⟨rfl, fun _ h => absurd h List.not_mem_nil⟩) (ygf56 hB _) (fun v1 m1 cv1 => ?_)
  refine xS_of (pc' := 52) (L' := [(0, xa 293), (1, xi x1)]) (st' := []) (m' := m1) (fun ex ns r q => ?_) ?_
  · refine xw_lo (L2 := [(0, xa 293), (1, xi x1)]) (List.forall_mem_cons.mpr ⟨rfl, List.forall_mem_cons.mpr ⟨rfl, fun _ h => absurd h List.not_mem_nil⟩⟩) ?_
    exact q
  exact ygk46_52 hB _ _ c1
theorem ygf46 {B : Nat} (hB : B ≤ 512) {xs : Nat → Int32} {SL d : Nat} : ∀ p0 m, w32 p0 = p0 → xS B xs SL (d + 2) 46 (2, (some .boolean), [], 6) 4 0 [(0, xa 293), (1, xi p0)] [] m (yf46 B p0 m) := by
  intro p0 m cp0
  unfold yf46
  refine xS_of (pc' := 4) (L' := [(0, xa 293), (1, xi p0)]) (st' := [xa 1]) (m' := m) (fun ex ns r q => ?_) ?_
  · refine xw_aload_n rfl rfl rfl ?_
    refine xw_gfR (n := 1) (e := 1) rfl (xw_obd (by decide +kernel)) (by decide +kernel) (by decide +kernel) rfl ?_
    refine xw_lo (L2 := [(0, xa 293), (1, xi p0)]) (List.forall_mem_cons.mpr ⟨rfl, List.forall_mem_cons.mpr ⟨rfl, fun _ h => absurd h List.not_mem_nil⟩⟩) ?_
    exact q
  refine xS_call (q := 47) (n := 1) (kq := 0) (as := [xa 1]) (st1 := []) rfl rfl rfl rfl rfl rfl rfl rfl rfl rfl (fun _ => xw_rcv1 (t := 1) (xw_obd (by decide +kernel)) rfl) rfl (List.forall_mem_cons.mpr ⟨rfl, fun _ h => absurd h List.not_mem_nil⟩) (ygf47 hB _) (fun v1 m1 cv1 => ?_)
  refine xS_of (pc' := 14) (L' := [(0, xa 293), (1, xi p0)]) (st' := [xi (xR m1 1 3)]) (m' := m1) (fun ex ns r q => ?_) ?_
  · refine xw_aload_n rfl rfl rfl ?_
    refine xw_gfR (n := 1) (e := 1) rfl (xw_obd (by decide +kernel)) (by decide +kernel) (by decide +kernel) rfl ?_
    refine xw_gfIc (v := (m1 1 3)) (v' := (xR m1 1 3)) rfl (xw_obd (by decide +kernel)) xk1_3 (qi := 3) rfl rfl rfl ?_
    exact q
  refine xS_if (fun h0 => ?_) (fun h0 => ?_)
  · refine xS_of (pc' := 18) (L' := [(0, xa 293), (1, xi p0)]) (st' := [xi 0]) (m' := m1) (fun ex ns r q => ?_) ?_
    · refine xw_if_neF rfl (w32_cg (w32_xR _ _ _)) h0 ?_
      refine xw_iconst rfl ?_
      exact q
    exact xS_ret (v := 0) rfl rfl (xw_rtZ (Or.inl rfl)) (Or.inl rfl)
  · refine xS_of (pc' := 29) (L' := [(0, xa 293), (1, xi p0)]) (st' := [xi 200, xi (xR m1 1 3)]) (m' := m1) (fun ex ns r q => ?_) ?_
    · refine xw_if_neT rfl (w32_cg (w32_xR _ _ _)) h0 ?_
      refine xw_aload_n rfl rfl rfl ?_
      refine xw_gfR (n := 1) (e := 1) rfl (xw_obd (by decide +kernel)) (by decide +kernel) (by decide +kernel) rfl ?_
      refine xw_gfIc (v := (m1 1 3)) (v' := (xR m1 1 3)) rfl (xw_obd (by decide +kernel)) xk1_3 (qi := 3) rfl rfl rfl ?_
      refine xw_sipush (e := 200) rfl (by decide +kernel) ?_
      exact q
    refine xS_if (fun h1 => ?_) (fun h1 => ?_)
    · refine xS_of (pc' := 45) (L' := [(0, xa 293), (1, xi p0)]) (st' := []) (m' := m1) (fun ex ns r q => ?_) ?_
      · refine xw_ic_ltT rfl (w32_cg (w32_xR _ _ _)) (w32_cg rfl) h1 ?_
        refine xw_lo (L2 := [(0, xa 293), (1, xi p0)]) (List.forall_mem_cons.mpr ⟨rfl, List.forall_mem_cons.mpr ⟨rfl, fun _ h => absurd h List.not_mem_nil⟩⟩) ?_
        exact q
      exact ygk46_45 hB _ _ cp0
    · refine xS_of (pc' := 42) (L' := [(0, xa 293), (1, xi p0)]) (st' := [xi 203, xi (xR m1 1 3)]) (m' := m1) (fun ex ns r q => ?_) ?_
      · refine xw_ic_ltF rfl (w32_cg (w32_xR _ _ _)) (w32_cg rfl) h1 ?_
        refine xw_aload_n rfl rfl rfl ?_
        refine xw_gfR (n := 1) (e := 1) rfl (xw_obd (by decide +kernel)) (by decide +kernel) (by decide +kernel) rfl ?_
        refine xw_gfIc (v := (m1 1 3)) (v' := (xR m1 1 3)) rfl (xw_obd (by decide +kernel)) xk1_3 (qi := 3) rfl rfl rfl ?_
        refine xw_sipush (e := 203) rfl (by decide +kernel) ?_
        exact q
      refine xS_if (fun h2 => ?_) (fun h2 => ?_)
      · refine xS_of (pc' := 45) (L' := [(0, xa 293), (1, xi p0)]) (st' := []) (m' := m1) (fun ex ns r q => ?_) ?_
        · refine xw_ic_leF rfl (w32_cg (w32_xR _ _ _)) (w32_cg rfl) (Int.not_le.mpr h2) ?_
          refine xw_lo (L2 := [(0, xa 293), (1, xi p0)]) (List.forall_mem_cons.mpr ⟨rfl, List.forall_mem_cons.mpr ⟨rfl, fun _ h => absurd h List.not_mem_nil⟩⟩) ?_
          exact q
        exact ygk46_45 hB _ _ cp0
      · refine xS_of (pc' := 52) (L' := [(0, xa 293), (1, xi p0)]) (st' := []) (m' := m1) (fun ex ns r q => ?_) ?_
        · refine xw_ic_leT rfl (w32_cg (w32_xR _ _ _)) (w32_cg rfl) (Int.not_lt.mp h2) ?_
          refine xw_lo (L2 := [(0, xa 293), (1, xi p0)]) (List.forall_mem_cons.mpr ⟨rfl, List.forall_mem_cons.mpr ⟨rfl, fun _ h => absurd h List.not_mem_nil⟩⟩) ?_
          exact q
        exact ygk46_52 hB _ _ cp0
theorem ygf58 {B : Nat} (hB : B ≤ 512) {xs : Nat → Int32} {SL d : Nat} : ∀ p0 m, w32 p0 = p0 → xS B xs SL (d + 1) 58 (2, none, [], 5) 0 0 [(0, xa 223), (1, xi p0)] [] m (yf58 B p0 m) := by
  intro p0 m cp0
  unfold yf58
  refine xS_of (pc' := 42) (L' := []) (st' := [xi 4, xa 292]) (m' := (xw_u (xw_u (xw_u (xw_u (xw_u (xw_u (xw_u m 223 1 p0) 223 2 0) 223 6 0) 223 8 1) 228 0 0) 223 10 0) 223 13 0)) (fun ex ns r q => ?_) ?_
  · refine xw_aload_n rfl rfl rfl ?_
    refine xw_iload_n rfl rfl ?_
    refine xw_pfI rfl (xw_obd (by decide +kernel)) xk4_1 (qi := 1) rfl (xw_okI rfl) ?_
    refine xw_aload_n rfl rfl rfl ?_
    refine xw_iconst rfl ?_
    refine xw_pfI rfl (xw_obd (by decide +kernel)) xk4_2 (qi := 2) rfl (xw_okI rfl) ?_
    refine xw_aload_n rfl rfl rfl ?_
    refine xw_iconst rfl ?_
    refine xw_pfI rfl (xw_obd (by decide +kernel)) xk4_6 (qi := 6) rfl (xw_okI rfl) ?_
    refine xw_aload_n rfl rfl rfl ?_
    refine xw_iconst rfl ?_
    refine xw_pfI rfl (xw_obd (by decide +kernel)) xk4_8 (qi := 8) rfl (xw_okI rfl) ?_
    refine xw_aload_n rfl rfl rfl ?_
    refine xw_gfR (n := 228) (e := 228) rfl (xw_obd (by decide +kernel)) (by decide +kernel) (by decide +kernel) rfl ?_
    refine xw_iconst rfl ?_
    refine xw_iconst rfl ?_
    refine xw_iast (n := 32) rfl hB (xw_obd (by decide +kernel)) rfl ⟨by decide, by decide⟩ ?_
    refine xw_aload_n rfl rfl rfl ?_
    refine xw_iconst rfl ?_
    refine xw_pfI rfl (xw_obd (by decide +kernel)) xk4_10 (qi := 10) rfl (xw_okI rfl) ?_
    refine xw_aload_n rfl rfl rfl ?_
    refine xw_iconst rfl ?_
    refine xw_pfI rfl (xw_obd (by decide +kernel)) xk4_13 (qi := 13) rfl (xw_okI rfl) ?_
    refine xw_aload_n rfl rfl rfl ?_
    refine xw_gfR (n := 292) (e := 292) rfl (xw_obd (by decide +kernel)) (by decide +kernel) (by decide +kernel) rfl ?_
    refine xw_iconst rfl ?_
    refine xw_lo (L2 := []) (fun _ h => absurd h List.not_mem_nil) ?_
    exact q
  refine xS_call (q := 31) (n := 2) (kq := 0) (as := [xa 292, xi 4]) (st1 := []) rfl rfl rfl rfl rfl rfl rfl rfl rfl rfl (fun _ => xw_rcv0 rfl) rfl (List.forall_mem_cons.mpr ⟨rfl, List.forall_mem_cons.mpr ⟨rfl, fun _ h => absurd h List.not_mem_nil⟩⟩) (ygf31 hB _ _ _ rfl) (fun v1 m1 cv1 => ?_)
  exact xS_ret (v := 0) rfl rfl rfl rfl
theorem ygk61_26 {B : Nat} (hB : B ≤ 512) {xs : Nat → Int32} {SL d : Nat} : ∀ m, xS B xs SL (d + 1) 61 (2, none, [], 2) 0 26 [(0, xa 1)] [] m (yk61_26 B m) := by
  intro m
  unfold yk61_26
  refine xS_of (pc' := 57) (L' := []) (st' := [xi (xR m 1 4), xi 5, xa 1]) (m' := m) (fun ex ns r q => ?_) ?_
  · refine xw_iconst rfl ?_
    refine xw_goto rfl ?_
    refine xw_istore_n (L' := [(1, xi 1), (0, xa 1)]) rfl (by decide) rfl ?_
    refine xw_aload_n rfl rfl rfl ?_
    refine xw_iload_n rfl rfl ?_
    refine xw_if_eqF rfl (w32_cg rfl) (by decide) ?_
    refine xw_iconst rfl ?_
    refine xw_goto rfl ?_
    refine xw_aload_n rfl rfl rfl ?_
    refine xw_gfIc (v := (m 1 4)) (v' := (xR m 1 4)) rfl (xw_obd (by decide +kernel)) xk1_4 (qi := 4) rfl rfl rfl ?_
    refine xw_lo (L2 := []) (fun _ h => absurd h List.not_mem_nil) ?_
    exact q
  refine xS_call (q := 54) (n := 3) (kq := 0) (as := [xa 1, xi 5, xi (xR m 1 4)]) (st1 := []) rfl rfl rfl rfl rfl rfl rfl rfl rfl rfl (fun _ => xw_rcv1 (t := 1) (xw_obd (by decide +kernel)) rfl) rfl (List.forall_mem_cons.mpr ⟨rfl, List.forall_mem_cons.mpr ⟨rfl, List.forall_mem_cons.mpr ⟨rfl, fun _ h => absurd h List.not_mem_nil⟩⟩⟩) (ygf54 hB _ _ _ rfl (w32_xR _ _ _)) (fun v1 m1 cv1 => ?_)
  exact xS_ret (v := 0) rfl rfl rfl rfl
theorem ygf61 {B : Nat} (hB : B ≤ 512) {xs : Nat → Int32} {SL d : Nat} : ∀ m, xS B xs SL (d + 1) 61 (2, none, [], 2) 0 0 [(0, xa 1)] [] m (yf61 B m) := by
  intro m
  unfold yf61
  refine xS_of (pc' := 5) (L' := [(0, xa 1)]) (st' := [xi 1, xi (xR m 1 3)]) (m' := m) (fun ex ns r q => ?_) ?_
  · refine xw_aload_n rfl rfl rfl ?_
    refine xw_gfIc (v := (m 1 3)) (v' := (xR m 1 3)) rfl (xw_obd (by decide +kernel)) xk1_3 (qi := 3) rfl rfl rfl ?_
    refine xw_iconst rfl ?_
    exact q
  refine xS_if (fun h0 => ?_) (fun h0 => ?_)
  · refine xS_of (pc' := 60) (L' := [(0, xa 1)]) (st' := []) (m' := m) (fun ex ns r q => ?_) ?_
    · refine xw_ic_eqT rfl (w32_cg (w32_xR _ _ _)) (w32_cg rfl) h0 ?_
      exact q
    exact xS_ret (v := 0) rfl rfl rfl rfl
  · refine xS_of (pc' := 13) (L' := [(0, xa 1)]) (st' := [xi 2, xi (xR m 1 3)]) (m' := m) (fun ex ns r q => ?_) ?_
    · refine xw_ic_eqF rfl (w32_cg (w32_xR _ _ _)) (w32_cg rfl) h0 ?_
      refine xw_aload_n rfl rfl rfl ?_
      refine xw_gfIc (v := (m 1 3)) (v' := (xR m 1 3)) rfl (xw_obd (by decide +kernel)) xk1_3 (qi := 3) rfl rfl rfl ?_
      refine xw_iconst rfl ?_
      exact q
    refine xS_if (fun h1 => ?_) (fun h1 => ?_)
    · refine xS_of (pc' := 26) (L' := [(0, xa 1)]) (st' := []) (m' := m) (fun ex ns r q => ?_) ?_
      · refine xw_ic_eqT rfl (w32_cg (w32_xR _ _ _)) (w32_cg rfl) h1 ?_
        refine xw_lo (L2 := [(0, xa 1)]) (List.forall_mem_cons.mpr ⟨rfl, fun _ h => absurd h List.not_mem_nil⟩) ?_
        exact q
      exact ygk61_26 hB _
    · refine xS_of (pc' := 23) (L' := [(0, xa 1)]) (st' := [xi 200, xi (xR m 1 3)]) (m' := m) (fun ex ns r q => ?_) ?_
      · refine xw_ic_eqF rfl (w32_cg (w32_xR _ _ _)) (w32_cg rfl) h1 ?_
        refine xw_aload_n rfl rfl rfl ?_
        refine xw_gfIc (v := (m 1 3)) (v' := (xR m 1 3)) rfl (xw_obd (by decide +kernel)) xk1_3 (qi := 3) rfl rfl rfl ?_
        refine xw_sipush (e := 200) rfl (by decide +kernel) ?_
        exact q
      refine xS_if (fun h2 => ?_) (fun h2 => ?_)
      · refine xS_of (pc' := 45) (L' := [(1, xi 0), (0, xa 1)]) (st' := [xi (xR m 1 3), xa 1]) (m' := m) (fun ex ns r q => ?_) ?_
        · refine xw_ic_ltT rfl (w32_cg (w32_xR _ _ _)) (w32_cg rfl) h2 ?_
          refine xw_iconst rfl ?_
          refine xw_istore_n (L' := [(1, xi 0), (0, xa 1)]) rfl (by decide) rfl ?_
          refine xw_aload_n rfl rfl rfl ?_
          refine xw_iload_n rfl rfl ?_
          refine xw_if_eqT rfl (w32_cg rfl) (by decide) ?_
          refine xw_aload_n rfl rfl rfl ?_
          refine xw_gfIc (v := (m 1 3)) (v' := (xR m 1 3)) rfl (xw_obd (by decide +kernel)) xk1_3 (qi := 3) rfl rfl rfl ?_
          exact q
        refine xS_if (fun h3 => ?_) (fun h3 => ?_)
        · refine xS_of (pc' := 57) (L' := []) (st' := [xi (xR m 1 4), xi 3, xa 1]) (m' := m) (fun ex ns r q => ?_) ?_
          · refine xw_if_neF rfl (w32_cg (w32_xR _ _ _)) h3 ?_
            refine xw_iconst rfl ?_
            refine xw_goto rfl ?_
            refine xw_aload_n rfl rfl rfl ?_
            refine xw_gfIc (v := (m 1 4)) (v' := (xR m 1 4)) rfl (xw_obd (by decide +kernel)) xk1_4 (qi := 4) rfl rfl rfl ?_
            refine xw_lo (L2 := []) (fun _ h => absurd h List.not_mem_nil) ?_
            exact q
          refine xS_call (q := 54) (n := 3) (kq := 0) (as := [xa 1, xi 3, xi (xR m 1 4)]) (st1 := []) rfl rfl rfl rfl rfl rfl rfl rfl rfl rfl (fun _ => xw_rcv1 (t := 1) (xw_obd (by decide +kernel)) rfl) rfl (List.forall_mem_cons.mpr ⟨rfl, List.forall_mem_cons.mpr ⟨rfl, List.forall_mem_cons.mpr ⟨rfl, fun _ h => absurd h List.not_mem_nil⟩⟩⟩) (ygf54 hB _ _ _ rfl (w32_xR _ _ _)) (fun v1 m1 cv1 => ?_)
          exact xS_ret (v := 0) rfl rfl rfl rfl
        · refine xS_of (pc' := 57) (L' := []) (st' := [xi (xR m 1 4), xi 4, xa 1]) (m' := m) (fun ex ns r q => ?_) ?_
          · refine xw_if_neT rfl (w32_cg (w32_xR _ _ _)) h3 ?_
            refine xw_iconst rfl ?_
            refine xw_aload_n rfl rfl rfl ?_
            refine xw_gfIc (v := (m 1 4)) (v' := (xR m 1 4)) rfl (xw_obd (by decide +kernel)) xk1_4 (qi := 4) rfl rfl rfl ?_
            refine xw_lo (L2 := []) (fun _ h => absurd h List.not_mem_nil) ?_
            exact q
          refine xS_call (q := 54) (n := 3) (kq := 0) (as := [xa 1, xi 4, xi (xR m 1 4)]) (st1 := []) rfl rfl rfl rfl rfl rfl rfl rfl rfl rfl (fun _ => xw_rcv1 (t := 1) (xw_obd (by decide +kernel)) rfl) rfl (List.forall_mem_cons.mpr ⟨rfl, List.forall_mem_cons.mpr ⟨rfl, List.forall_mem_cons.mpr ⟨rfl, fun _ h => absurd h List.not_mem_nil⟩⟩⟩) (ygf54 hB _ _ _ rfl (w32_xR _ _ _)) (fun v2 m2 cv2 => ?_)
          exact xS_ret (v := 0) rfl rfl rfl rfl
      · refine xS_of (pc' := 26) (L' := [(0, xa 1)]) (st' := []) (m' := m) (fun ex ns r q => ?_) ?_
        · refine xw_ic_ltF rfl (w32_cg (w32_xR _ _ _)) (w32_cg rfl) h2 ?_
          refine xw_lo (L2 := [(0, xa 1)]) (List.forall_mem_cons.mpr ⟨rfl, fun _ h => absurd h List.not_mem_nil⟩) ?_
          exact q
        exact ygk61_26 hB _
theorem ysl63_17 {B : Nat} (hB : B ≤ 512) {xs : Nat → Int32} {SL d : Nat} {r17 : Int → Int → Int → xw_M → xP} (hr17 : ∀ x1 x2 x3 m, w32 x2 = x2 → w32 x3 = x3 → xS B xs SL (d + 0) 63 (4, (some .boolean), [], 2) 4 17 [(0, xa 1), (1, xa x1), (2, xi x2), (3, xi x3)] [] m (r17 x1 x2 x3 m)) : ∀ x1 x2 x3 m, w32 x2 = x2 → w32 x3 = x3 → xS B xs SL (d + 0) 63 (4, (some .boolean), [], 2) 4 17 [(0, xa 1), (1, xa x1), (2, xi x2), (3, xi x3)] [] m (yl63_17 B r17 x1 x2 x3 m) := by
  intro x1 x2 x3 m c2 c3
  unfold yl63_17
  refine xS_of (pc' := 19) (L' := [(0, xa 1), (1, xa x1), (2, xi x2), (3, xi x3)]) (st' := [xi x2, xi x3]) (m' := m) (fun ex ns r q => ?_) ?_
  · refine xw_iload_n rfl rfl ?_
    refine xw_iload_n rfl rfl ?_
    exact q
  refine xS_if (fun h0 => ?_) (fun h0 => ?_)
  · refine xS_g (fun g1 => ?_)
    refine xS_g (fun g2 => ?_)
    refine xS_g (fun g3 => ?_)
    refine xS_of (pc' := 36) (L' := [(0, xa 1), (1, xa x1), (2, xi x2), (3, xi x3)]) (st' := [xi (xR m x1 x3), xi (xR m 2 ((xR m 1 4) + x3))]) (m' := m) (fun ex ns r q => ?_) ?_
    · refine xw_ic_geF rfl (w32_cg c3) (w32_cg c2) (Int.not_le.mpr h0) ?_
      refine xw_aload_n rfl rfl rfl ?_
      refine xw_gfR (n := 2) (e := 2) rfl (xw_obd (by decide +kernel)) (by decide +kernel) (by decide +kernel) rfl ?_
      refine xw_aload_n rfl rfl rfl ?_
      refine xw_gfIc (v := (m 1 4)) (v' := (xR m 1 4)) rfl (xw_obd (by decide +kernel)) xk1_4 (qi := 4) rfl rfl rfl ?_
      refine xw_iload_n rfl rfl ?_
      refine xw_iadd rfl ?_
      refine xw_baldc (n := 65536) (v := (m 2 ((xR m 1 4) + x3))) (v' := (xR m 2 ((xR m 1 4) + x3))) rfl hB (xw_obd (by decide +kernel)) rfl g1 rfl rfl ?_
      refine xw_aload_n rfl rfl rfl ?_
      refine xw_iload_n rfl rfl ?_
      refine xw_baldc (n := (xw_le B x1)) (v := (m x1 x3)) (v' := (xR m x1 x3)) rfl hB (xw_obd g3) rfl g2 rfl rfl ?_
      exact q
    refine xS_if (fun h4 => ?_) (fun h4 => ?_)
    · refine xS_of (pc' := 17) (L' := [(0, xa 1), (1, xa x1), (2, xi x2), (3, xi (w32 (x3 + 1)))]) (st' := []) (m' := m) (fun ex ns r q => ?_) ?_
      · refine xw_ic_eqT rfl (w32_cg (w32_xR _ _ _)) (w32_cg (w32_xR _ _ _)) h4 ?_
        refine xw_iincc (z := (w32 (x3 + 1))) (L' := [(3, xi (w32 (x3 + 1))), (0, xa 1), (1, xa x1), (2, xi x2)]) rfl rfl (by decide) rfl rfl ?_
        refine xw_goto rfl ?_
        refine xw_lo (L2 := [(0, xa 1), (1, xa x1), (2, xi x2), (3, xi (w32 (x3 + 1)))]) (List.forall_mem_cons.mpr ⟨rfl, List.forall_mem_cons.mpr ⟨rfl, List.forall_mem_cons.mpr ⟨rfl, List.forall_mem_cons.mpr ⟨rfl, fun _ h => absurd h List.not_mem_nil⟩⟩⟩⟩) ?_
        exact q
      exact hr17 _ _ _ _ c2 (w32_w _)
    · refine xS_of (pc' := 40) (L' := [(0, xa 1), (1, xa x1), (2, xi x2), (3, xi x3)]) (st' := [xi 0]) (m' := m) (fun ex ns r q => ?_) ?_
      · refine xw_ic_eqF rfl (w32_cg (w32_xR _ _ _)) (w32_cg (w32_xR _ _ _)) h4 ?_
        refine xw_iconst rfl ?_
        exact q
      exact xS_ret (v := 0) rfl rfl (xw_rtZ (Or.inl rfl)) (Or.inl rfl)
  · refine xS_of (pc' := 48) (L' := [(0, xa 1), (1, xa x1), (2, xi x2), (3, xi x3)]) (st' := [xi 1]) (m' := m) (fun ex ns r q => ?_) ?_
    · refine xw_ic_geT rfl (w32_cg c3) (w32_cg c2) (Int.not_lt.mp h0) ?_
      refine xw_iconst rfl ?_
      exact q
    exact xS_ret (v := 1) rfl rfl (xw_rtZ (Or.inr rfl)) (Or.inr rfl)
theorem ygl63_17 {B : Nat} (hB : B ≤ 512) {xs : Nat → Int32} {SL d : Nat} : ∀ n x1 x2 x3 m, w32 x2 = x2 → w32 x3 = x3 → xS B xs SL (d + 0) 63 (4, (some .boolean), [], 2) 4 17 [(0, xa 1), (1, xa x1), (2, xi x2), (3, xi x3)] [] m (xl3 (yl63_17 B) n x1 x2 x3 m) := by
  intro n
  induction n with
  | zero => intro x1 x2 x3 m c2 c3; exact xS_none
  | succ n ih => exact ysl63_17 hB ih
theorem ygf63 {B : Nat} (hB : B ≤ 512) {xs : Nat → Int32} {SL d : Nat} : ∀ p0 p1 m, w32 p1 = p1 → xS B xs SL (d + 0) 63 (4, (some .boolean), [], 2) 4 0 [(0, xa 1), (1, xa p0), (2, xi p1)] [] m (yf63 B p0 p1 m) := by
  intro p0 p1 m cp1
  unfold yf63
  refine xS_of (pc' := 10) (L' := [(0, xa 1), (1, xa p0), (2, xi p1)]) (st' := [xi p1, xi (w32 ((xR m 1 2) - (xR m 1 4)))]) (m' := m) (fun ex ns r q => ?_) ?_
  · refine xw_aload_n rfl rfl rfl ?_
    refine xw_gfIc (v := (m 1 2)) (v' := (xR m 1 2)) rfl (xw_obd (by decide +kernel)) xk1_2 (qi := 2) rfl rfl rfl ?_
    refine xw_aload_n rfl rfl rfl ?_
    refine xw_gfIc (v := (m 1 4)) (v' := (xR m 1 4)) rfl (xw_obd (by decide +kernel)) xk1_4 (qi := 4) rfl rfl rfl ?_
    refine xw_isub rfl ?_
    refine xw_iload_n rfl rfl ?_
    refine xw_cst (st' := [xi p1, xi (w32 ((xR m 1 2) - (xR m 1 4)))]) (xw_sc rfl (xw_sc (xi_c rfl) rfl)) ?_
    exact q
  refine xS_if (fun h0 => ?_) (fun h0 => ?_)
  · refine xS_of (pc' := 17) (L' := [(0, xa 1), (1, xa p0), (2, xi p1), (3, xi 0)]) (st' := []) (m' := m) (fun ex ns r q => ?_) ?_
    · refine xw_ic_eqT rfl (w32_cg (w32_w _)) (w32_cg cp1) h0 ?_
      refine xw_iconst rfl ?_
      refine xw_istore_n (L' := [(3, xi 0), (0, xa 1), (1, xa p0), (2, xi p1)]) rfl (by decide) rfl ?_
      refine xw_lo (L2 := [(0, xa 1), (1, xa p0), (2, xi p1), (3, xi 0)]) (List.forall_mem_cons.mpr ⟨rfl, List.forall_mem_cons.mpr ⟨rfl, List.forall_mem_cons.mpr ⟨rfl, List.forall_mem_cons.mpr ⟨rfl, fun _ h => absurd h List.not_mem_nil⟩⟩⟩⟩) ?_
      exact q
    exact ygl63_17 hB 1000000 _ _ _ _ cp1 rfl
  · refine xS_of (pc' := 14) (L' := [(0, xa 1), (1, xa p0), (2, xi p1)]) (st' := [xi 0]) (m' := m) (fun ex ns r q => ?_) ?_
    · refine xw_ic_eqF rfl (w32_cg (w32_w _)) (w32_cg cp1) h0 ?_
      refine xw_iconst rfl ?_
      exact q
    exact xS_ret (v := 0) rfl rfl (xw_rtZ (Or.inl rfl)) (Or.inl rfl)
theorem ysl62_2 {B : Nat} (hB : B ≤ 512) {xs : Nat → Int32} {SL d : Nat} {r2 : Int → xw_M → xP} (hr2 : ∀ x2 m, w32 x2 = x2 → xS B xs SL (d + 1) 62 (3, (some .int), [], 3) 1 2 [(0, xa 3), (1, xa 1), (2, xi x2)] [] m (r2 x2 m)) : ∀ x2 m, w32 x2 = x2 → xS B xs SL (d + 1) 62 (3, (some .int), [], 3) 1 2 [(0, xa 3), (1, xa 1), (2, xi x2)] [] m (yl62_2 B r2 x2 m) := by
  intro x2 m c2
  unfold yl62_2
  refine xS_of (pc' := 7) (L' := [(0, xa 3), (1, xa 1), (2, xi x2)]) (st' := [xi (xR m 3 1), xi x2]) (m' := m) (fun ex ns r q => ?_) ?_
  · refine xw_iload_n rfl rfl ?_
    refine xw_aload_n rfl rfl rfl ?_
    refine xw_gfIc (v := (m 3 1)) (v' := (xR m 3 1)) rfl (xw_obd (by decide +kernel)) xk2_1 (qi := 1) rfl rfl rfl ?_
    exact q
  refine xS_if (fun h0 => ?_) (fun h0 => ?_)
  · refine xS_g (fun g1 => ?_)
    refine xS_g (fun g2 => ?_)
    refine xS_of (pc' := 29) (L' := [(0, xa 3), (1, xa 1), (2, xi x2)]) (st' := [xi (xR m (15 + (26 * x2)) 9), xa (xw_rf (15 + (26 * x2)) 0), xa 1]) (m' := m) (fun ex ns r q => ?_) ?_
    · refine xw_ic_geF rfl (w32_cg c2) (w32_cg (w32_xR _ _ _)) (Int.not_le.mpr h0) ?_
      refine xw_aload_n rfl rfl rfl ?_
      refine xw_aload_n rfl rfl rfl ?_
      refine xw_gfR (n := 4) (e := 4) rfl (xw_obd (by decide +kernel)) (by decide +kernel) (by decide +kernel) rfl ?_
      refine xw_iload_n rfl rfl ?_
      refine xw_aald (t := 23) (n := 8) (q := 15 + 26 * (x2).toNat) (e := (15 + (26 * x2))) rfl hB (xw_obd (by decide +kernel)) (by decide) rfl g1 (show 20 + 26 * (x2 : Int).toNat = 15 + 26 * (x2 : Int).toNat + 5 from by omega) (by have := g1; omega) ?_
      refine xw_gfV (qi := 0) rfl (xw_obd g2) xk3_0 rfl ?_
      refine xw_aload_n rfl rfl rfl ?_
      refine xw_gfR (n := 4) (e := 4) rfl (xw_obd (by decide +kernel)) (by decide +kernel) (by decide +kernel) rfl ?_
      refine xw_iload_n rfl rfl ?_
      refine xw_aald (t := 23) (n := 8) (q := 15 + 26 * (x2).toNat) (e := (15 + (26 * x2))) rfl hB (xw_obd (by decide +kernel)) (by decide) rfl g1 (show 20 + 26 * (x2 : Int).toNat = 15 + 26 * (x2 : Int).toNat + 5 from by omega) (by have := g1; omega) ?_
      refine xw_gfIc (v := (m (15 + (26 * x2)) 9)) (v' := (xR m (15 + (26 * x2)) 9)) rfl (xw_obd g2) xk3_9 (qi := 9) rfl rfl rfl ?_
      refine xw_lo (L2 := [(0, xa 3), (1, xa 1), (2, xi x2)]) (List.forall_mem_cons.mpr ⟨rfl, List.forall_mem_cons.mpr ⟨rfl, List.forall_mem_cons.mpr ⟨rfl, fun _ h => absurd h List.not_mem_nil⟩⟩⟩) ?_
      exact q
    refine xS_call (q := 63) (n := 3) (kq := 4) (as := [xa 1, xa (xw_rf (15 + (26 * x2)) 0), xi (xR m (15 + (26 * x2)) 9)]) (st1 := []) rfl rfl rfl rfl rfl rfl rfl rfl rfl rfl (fun _ => xw_rcv1 (t := 1) (xw_obd (by decide +kernel)) rfl) rfl (List.forall_mem_cons.mpr ⟨rfl, List.forall_mem_cons.mpr ⟨rfl, List.forall_mem_cons.mpr ⟨rfl, fun _ h => absurd h List.not_mem_nil⟩⟩⟩) (ygf63 hB _ _ _ (w32_xR _ _ _)) (fun v1 m1 cv1 => ?_)
    refine xS_if (fun h3 => ?_) (fun h3 => ?_)
    · refine xS_of (pc' := 2) (L' := [(0, xa 3), (1, xa 1), (2, xi (w32 (x2 + 1)))]) (st' := []) (m' := m1) (fun ex ns r q => ?_) ?_
      · refine xw_if_eqT rfl (w32_cg (w32_of (xw_zr cv1))) h3 ?_
        refine xw_iincc (z := (w32 (x2 + 1))) (L' := [(2, xi (w32 (x2 + 1))), (0, xa 3), (1, xa 1)]) rfl rfl (by decide) rfl rfl ?_
        refine xw_goto rfl ?_
        refine xw_lo (L2 := [(0, xa 3), (1, xa 1), (2, xi (w32 (x2 + 1)))]) (List.forall_mem_cons.mpr ⟨rfl, List.forall_mem_cons.mpr ⟨rfl, List.forall_mem_cons.mpr ⟨rfl, fun _ h => absurd h List.not_mem_nil⟩⟩⟩) ?_
        exact q
      exact hr2 _ _ (w32_w _)
    · refine xS_of (pc' := 36) (L' := [(0, xa 3), (1, xa 1), (2, xi x2)]) (st' := [xi x2]) (m' := m1) (fun ex ns r q => ?_) ?_
      · refine xw_if_eqF rfl (w32_cg (w32_of (xw_zr cv1))) h3 ?_
        refine xw_iload_n rfl rfl ?_
        exact q
      exact xS_ret (v := x2) rfl rfl xw_rtI c2
  · refine xS_of (pc' := 44) (L' := [(0, xa 3), (1, xa 1), (2, xi x2)]) (st' := [xi (-1)]) (m' := m) (fun ex ns r q => ?_) ?_
    · refine xw_ic_geT rfl (w32_cg c2) (w32_cg (w32_xR _ _ _)) (Int.not_lt.mp h0) ?_
      refine xw_iconst rfl ?_
      exact q
    exact xS_ret (v := (-1)) rfl rfl xw_rtI rfl
theorem ygl62_2 {B : Nat} (hB : B ≤ 512) {xs : Nat → Int32} {SL d : Nat} : ∀ n x2 m, w32 x2 = x2 → xS B xs SL (d + 1) 62 (3, (some .int), [], 3) 1 2 [(0, xa 3), (1, xa 1), (2, xi x2)] [] m (xl1 (yl62_2 B) n x2 m) := by
  intro n
  induction n with
  | zero => intro x2 m c2; exact xS_none
  | succ n ih => exact ysl62_2 hB ih
theorem ygf62 {B : Nat} (hB : B ≤ 512) {xs : Nat → Int32} {SL d : Nat} : ∀ m, xS B xs SL (d + 1) 62 (3, (some .int), [], 3) 1 0 [(0, xa 3), (1, xa 1)] [] m (yf62 B m) := by
  intro m
  unfold yf62
  refine xS_of (pc' := 2) (L' := [(0, xa 3), (1, xa 1), (2, xi 0)]) (st' := []) (m' := m) (fun ex ns r q => ?_) ?_
  · refine xw_iconst rfl ?_
    refine xw_istore_n (L' := [(2, xi 0), (0, xa 3), (1, xa 1)]) rfl (by decide) rfl ?_
    refine xw_lo (L2 := [(0, xa 3), (1, xa 1), (2, xi 0)]) (List.forall_mem_cons.mpr ⟨rfl, List.forall_mem_cons.mpr ⟨rfl, List.forall_mem_cons.mpr ⟨rfl, fun _ h => absurd h List.not_mem_nil⟩⟩⟩) ?_
    exact q
  exact ygl62_2 hB 1000000 _ _ rfl
theorem ygf60 {B : Nat} (hB : B ≤ 512) {xs : Nat → Int32} {SL d : Nat} : ∀ m, xS B xs SL (d + 2) 60 (2, (some .int), [], 6) 1 0 [(0, xa 293)] [] m (yf60 B m) := by
  intro m
  unfold yf60
  refine xS_of (pc' := 4) (L' := [(0, xa 293)]) (st' := [xa 1]) (m' := m) (fun ex ns r q => ?_) ?_
  · refine xw_aload_n rfl rfl rfl ?_
    refine xw_gfR (n := 1) (e := 1) rfl (xw_obd (by decide +kernel)) (by decide +kernel) (by decide +kernel) rfl ?_
    refine xw_lo (L2 := [(0, xa 293)]) (List.forall_mem_cons.mpr ⟨rfl, fun _ h => absurd h List.not_mem_nil⟩) ?_
    exact q
  refine xS_call (q := 61) (n := 1) (kq := 0) (as := [xa 1]) (st1 := []) rfl rfl rfl rfl rfl rfl rfl rfl rfl rfl (fun _ => xw_rcv1 (t := 1) (xw_obd (by decide +kernel)) rfl) rfl (List.forall_mem_cons.mpr ⟨rfl, fun _ h => absurd h List.not_mem_nil⟩) (ygf61 hB _) (fun v1 m1 cv1 => ?_)
  refine xS_of (pc' := 15) (L' := [(0, xa 293)]) (st' := [xa 1, xa 3]) (m' := m1) (fun ex ns r q => ?_) ?_
  · refine xw_aload_n rfl rfl rfl ?_
    refine xw_gfR (n := 3) (e := 3) rfl (xw_obd (by decide +kernel)) (by decide +kernel) (by decide +kernel) rfl ?_
    refine xw_aload_n rfl rfl rfl ?_
    refine xw_gfR (n := 1) (e := 1) rfl (xw_obd (by decide +kernel)) (by decide +kernel) (by decide +kernel) rfl ?_
    refine xw_lo (L2 := [(0, xa 293)]) (List.forall_mem_cons.mpr ⟨rfl, fun _ h => absurd h List.not_mem_nil⟩) ?_
    exact q
  refine xS_call (q := 62) (n := 2) (kq := 1) (as := [xa 3, xa 1]) (st1 := []) rfl rfl rfl rfl rfl rfl rfl rfl rfl rfl (fun _ => xw_rcv1 (t := 2) (xw_obd (by decide +kernel)) rfl) rfl (List.forall_mem_cons.mpr ⟨rfl, List.forall_mem_cons.mpr ⟨rfl, fun _ h => absurd h List.not_mem_nil⟩⟩) (ygf62 hB _) (fun v2 m2 cv2 => ?_)
  refine xS_of (pc' := 21) (L' := [(1, xi v2), (0, xa 293)]) (st' := [xi (-1), xi v2]) (m' := m2) (fun ex ns r q => ?_) ?_
  · refine xw_istore_n (L' := [(1, xi v2), (0, xa 293)]) rfl (by decide) rfl ?_
    refine xw_iload_n rfl rfl ?_
    refine xw_iconst rfl ?_
    exact q
  refine xS_if (fun h0 => ?_) (fun h0 => ?_)
  · refine xS_of (pc' := 36) (L' := [(1, xi v2)]) (st' := [xi (xR m2 1 4), xi 5, xa 1]) (m' := m2) (fun ex ns r q => ?_) ?_
    · refine xw_ic_neF rfl (w32_cg cv2) (w32_cg rfl) h0 ?_
      refine xw_aload_n rfl rfl rfl ?_
      refine xw_gfR (n := 1) (e := 1) rfl (xw_obd (by decide +kernel)) (by decide +kernel) (by decide +kernel) rfl ?_
      refine xw_iconst rfl ?_
      refine xw_aload_n rfl rfl rfl ?_
      refine xw_gfR (n := 1) (e := 1) rfl (xw_obd (by decide +kernel)) (by decide +kernel) (by decide +kernel) rfl ?_
      refine xw_gfIc (v := (m2 1 4)) (v' := (xR m2 1 4)) rfl (xw_obd (by decide +kernel)) xk1_4 (qi := 4) rfl rfl rfl ?_
      refine xw_lo (L2 := [(1, xi v2)]) (List.forall_mem_cons.mpr ⟨rfl, fun _ h => absurd h List.not_mem_nil⟩) ?_
      exact q
    refine xS_call (q := 54) (n := 3) (kq := 0) (as := [xa 1, xi 5, xi (xR m2 1 4)]) (st1 := []) rfl rfl rfl rfl rfl rfl rfl rfl rfl rfl (fun _ => xw_rcv1 (t := 1) (xw_obd (by decide +kernel)) rfl) rfl (List.forall_mem_cons.mpr ⟨rfl, List.forall_mem_cons.mpr ⟨rfl, List.forall_mem_cons.mpr ⟨rfl, fun _ h => absurd h List.not_mem_nil⟩⟩⟩) (ygf54 hB _ _ _ rfl (w32_xR _ _ _)) (fun v3 m3 cv3 => ?_)
    refine xS_of (pc' := 40) (L' := [(1, xi v2)]) (st' := [xi v2]) (m' := m3) (fun ex ns r q => ?_) ?_
    · refine xw_iload_n rfl rfl ?_
      exact q
    exact xS_ret (v := v2) rfl rfl xw_rtI cv2
  · refine xS_of (pc' := 40) (L' := [(1, xi v2), (0, xa 293)]) (st' := [xi v2]) (m' := m2) (fun ex ns r q => ?_) ?_
    · refine xw_ic_neT rfl (w32_cg cv2) (w32_cg rfl) h0 ?_
      refine xw_iload_n rfl rfl ?_
      exact q
    exact xS_ret (v := v2) rfl rfl xw_rtI cv2
theorem ygf64 {B : Nat} (hB : B ≤ 512) {xs : Nat → Int32} {SL d : Nat} : ∀ p0 p1 m, w32 p0 = p0 → w32 p1 = p1 → xS B xs SL (d + 1) 64 (3, none, [], 6) 0 0 [(0, xa 293), (1, xi p0), (2, xi p1)] [] m (yf64 B p0 p1 m) := by
  intro p0 p1 m cp0 cp1
  unfold yf64
  refine xS_of (pc' := 2) (L' := [(0, xa 293), (1, xi p0), (2, xi p1)]) (st' := [xi p1, xi p0]) (m' := m) (fun ex ns r q => ?_) ?_
  · refine xw_iload_n rfl rfl ?_
    refine xw_iload_n rfl rfl ?_
    exact q
  refine xS_if (fun h0 => ?_) (fun h0 => ?_)
  · refine xS_of (pc' := 21) (L' := [(0, xa 293), (1, xi p0), (2, xi p1)]) (st' := []) (m' := m) (fun ex ns r q => ?_) ?_
    · refine xw_ic_ltT rfl (w32_cg cp0) (w32_cg cp1) h0 ?_
      exact q
    exact xS_ret (v := 0) rfl rfl rfl rfl
  · refine xS_of (pc' := 18) (L' := []) (st' := [xi (xR m 1 4), xi 7, xa 1]) (m' := m) (fun ex ns r q => ?_) ?_
    · refine xw_ic_ltF rfl (w32_cg cp0) (w32_cg cp1) h0 ?_
      refine xw_aload_n rfl rfl rfl ?_
      refine xw_gfR (n := 1) (e := 1) rfl (xw_obd (by decide +kernel)) (by decide +kernel) (by decide +kernel) rfl ?_
      refine xw_bipush (e := 7) rfl (by decide +kernel) ?_
      refine xw_aload_n rfl rfl rfl ?_
      refine xw_gfR (n := 1) (e := 1) rfl (xw_obd (by decide +kernel)) (by decide +kernel) (by decide +kernel) rfl ?_
      refine xw_gfIc (v := (m 1 4)) (v' := (xR m 1 4)) rfl (xw_obd (by decide +kernel)) xk1_4 (qi := 4) rfl rfl rfl ?_
      refine xw_lo (L2 := []) (fun _ h => absurd h List.not_mem_nil) ?_
      exact q
    refine xS_call (q := 54) (n := 3) (kq := 0) (as := [xa 1, xi 7, xi (xR m 1 4)]) (st1 := []) rfl rfl rfl rfl rfl rfl rfl rfl rfl rfl (fun _ => xw_rcv1 (t := 1) (xw_obd (by decide +kernel)) rfl) rfl (List.forall_mem_cons.mpr ⟨rfl, List.forall_mem_cons.mpr ⟨rfl, List.forall_mem_cons.mpr ⟨rfl, fun _ h => absurd h List.not_mem_nil⟩⟩⟩) (ygf54 hB _ _ _ rfl (w32_xR _ _ _)) (fun v1 m1 cv1 => ?_)
    exact xS_ret (v := 0) rfl rfl rfl rfl
theorem ysl66_2 {B : Nat} (hB : B ≤ 512) {xs : Nat → Int32} {SL d : Nat} {r2 : Int → Int → xw_M → xP} (hr2 : ∀ x0 x2 m, w32 x2 = x2 → xS B xs SL (d + 1) 66 (3, (some .int), [], 4) 1 2 [(0, xa x0), (1, xa 1), (2, xi x2)] [] m (r2 x0 x2 m)) : ∀ x0 x2 m, w32 x2 = x2 → xS B xs SL (d + 1) 66 (3, (some .int), [], 4) 1 2 [(0, xa x0), (1, xa 1), (2, xi x2)] [] m (yl66_2 B r2 x0 x2 m) := by
  intro x0 x2 m c2
  unfold yl66_2
  refine xS_g (fun g0 => ?_)
  refine xS_of (pc' := 7) (L' := [(0, xa x0), (1, xa 1), (2, xi x2)]) (st' := [xi (xR m x0 10), xi x2]) (m' := m) (fun ex ns r q => ?_) ?_
  · refine xw_iload_n rfl rfl ?_
    refine xw_aload_n rfl rfl rfl ?_
    refine xw_gfIc (v := (m x0 10)) (v' := (xR m x0 10)) rfl (xw_obd g0) xk3_10 (qi := 10) rfl rfl rfl ?_
    exact q
  refine xS_if (fun h1 => ?_) (fun h1 => ?_)
  · refine xS_g (fun g2 => ?_)
    refine xS_g (fun g3 => ?_)
    refine xS_g (fun g4 => ?_)
    refine xS_g (fun g5 => ?_)
    refine xS_g (fun g6 => ?_)
    refine xS_of (pc' := 23) (L' := [(0, xa x0), (1, xa 1), (2, xi x2)]) (st' := [xi (xR m (xw_rf x0 2) x2), xa (xw_rf (xw_rf x0 1) x2), xa 1]) (m' := m) (fun ex ns r q => ?_) ?_
    · refine xw_ic_geF rfl (w32_cg c2) (w32_cg (w32_xR _ _ _)) (Int.not_le.mpr h1) ?_
      refine xw_aload_n rfl rfl rfl ?_
      refine xw_aload_n rfl rfl rfl ?_
      refine xw_gfV (qi := 1) rfl (xw_obd g0) xk3_1 rfl ?_
      refine xw_iload_n rfl rfl ?_
      refine xw_aald (t := 22) (n := (xw_le B (xw_rf x0 1))) (q := xw_kd (xw_rf x0 1) x2 - 5) (e := (xw_rf (xw_rf x0 1) x2)) rfl hB (xw_obd g4) (by decide) rfl g2 (by have := g3; omega) (xw_rfn g3) ?_
      refine xw_aload_n rfl rfl rfl ?_
      refine xw_gfV (qi := 2) rfl (xw_obd g0) xk3_2 rfl ?_
      refine xw_iload_n rfl rfl ?_
      refine xw_ialdc (n := (xw_le B (xw_rf x0 2))) (v := (m (xw_rf x0 2) x2)) (v' := (xR m (xw_rf x0 2) x2)) rfl hB (xw_obd g6) rfl g5 rfl rfl ?_
      refine xw_lo (L2 := [(0, xa x0), (1, xa 1), (2, xi x2)]) (List.forall_mem_cons.mpr ⟨rfl, List.forall_mem_cons.mpr ⟨rfl, List.forall_mem_cons.mpr ⟨rfl, fun _ h => absurd h List.not_mem_nil⟩⟩⟩) ?_
      exact q
    refine xS_call (q := 63) (n := 3) (kq := 4) (as := [xa 1, xa (xw_rf (xw_rf x0 1) x2), xi (xR m (xw_rf x0 2) x2)]) (st1 := []) rfl rfl rfl rfl rfl rfl rfl rfl rfl rfl (fun _ => xw_rcv1 (t := 1) (xw_obd (by decide +kernel)) rfl) rfl (List.forall_mem_cons.mpr ⟨rfl, List.forall_mem_cons.mpr ⟨rfl, List.forall_mem_cons.mpr ⟨rfl, fun _ h => absurd h List.not_mem_nil⟩⟩⟩) (ygf63 hB _ _ _ (w32_xR _ _ _)) (fun v1 m1 cv1 => ?_)
    refine xS_if (fun h7 => ?_) (fun h7 => ?_)
    · refine xS_of (pc' := 2) (L' := [(0, xa x0), (1, xa 1), (2, xi (w32 (x2 + 1)))]) (st' := []) (m' := m1) (fun ex ns r q => ?_) ?_
      · refine xw_if_eqT rfl (w32_cg (w32_of (xw_zr cv1))) h7 ?_
        refine xw_iincc (z := (w32 (x2 + 1))) (L' := [(2, xi (w32 (x2 + 1))), (0, xa x0), (1, xa 1)]) rfl rfl (by decide) rfl rfl ?_
        refine xw_goto rfl ?_
        refine xw_lo (L2 := [(0, xa x0), (1, xa 1), (2, xi (w32 (x2 + 1)))]) (List.forall_mem_cons.mpr ⟨rfl, List.forall_mem_cons.mpr ⟨rfl, List.forall_mem_cons.mpr ⟨rfl, fun _ h => absurd h List.not_mem_nil⟩⟩⟩) ?_
        exact q
      exact hr2 _ _ _ (w32_w _)
    · refine xS_of (pc' := 30) (L' := [(0, xa x0), (1, xa 1), (2, xi x2)]) (st' := [xi x2]) (m' := m1) (fun ex ns r q => ?_) ?_
      · refine xw_if_eqF rfl (w32_cg (w32_of (xw_zr cv1))) h7 ?_
        refine xw_iload_n rfl rfl ?_
        exact q
      exact xS_ret (v := x2) rfl rfl xw_rtI c2
  · refine xS_of (pc' := 38) (L' := [(0, xa x0), (1, xa 1), (2, xi x2)]) (st' := [xi (-1)]) (m' := m) (fun ex ns r q => ?_) ?_
    · refine xw_ic_geT rfl (w32_cg c2) (w32_cg (w32_xR _ _ _)) (Int.not_lt.mp h1) ?_
      refine xw_iconst rfl ?_
      exact q
    exact xS_ret (v := (-1)) rfl rfl xw_rtI rfl
theorem ygl66_2 {B : Nat} (hB : B ≤ 512) {xs : Nat → Int32} {SL d : Nat} : ∀ n x0 x2 m, w32 x2 = x2 → xS B xs SL (d + 1) 66 (3, (some .int), [], 4) 1 2 [(0, xa x0), (1, xa 1), (2, xi x2)] [] m (xl2 (yl66_2 B) n x0 x2 m) := by
  intro n
  induction n with
  | zero => intro x0 x2 m c2; exact xS_none
  | succ n ih => exact ysl66_2 hB ih
theorem ygf66 {B : Nat} (hB : B ≤ 512) {xs : Nat → Int32} {SL d : Nat} : ∀ t m, xS B xs SL (d + 1) 66 (3, (some .int), [], 4) 1 0 [(0, xa t), (1, xa 1)] [] m (yf66 B t m) := by
  intro t m
  unfold yf66
  refine xS_of (pc' := 2) (L' := [(0, xa t), (1, xa 1), (2, xi 0)]) (st' := []) (m' := m) (fun ex ns r q => ?_) ?_
  · refine xw_iconst rfl ?_
    refine xw_istore_n (L' := [(2, xi 0), (0, xa t), (1, xa 1)]) rfl (by decide) rfl ?_
    refine xw_lo (L2 := [(0, xa t), (1, xa 1), (2, xi 0)]) (List.forall_mem_cons.mpr ⟨rfl, List.forall_mem_cons.mpr ⟨rfl, List.forall_mem_cons.mpr ⟨rfl, fun _ h => absurd h List.not_mem_nil⟩⟩⟩) ?_
    exact q
  exact ygl66_2 hB 1000000 _ _ _ rfl
theorem ygk65_77 {B : Nat} (hB : B ≤ 512) {xs : Nat → Int32} {SL d : Nat} : ∀ x1 x2 m, w32 x1 = x1 → w32 x2 = x2 → xS B xs SL (d + 2) 65 (3, (some .int), [], 6) 1 77 [(1, xi x1), (2, xi x2)] [] m (yk65_77 B x1 x2 m) := by
  intro x1 x2 m c1 c2
  unfold yk65_77
  refine xS_of (pc' := 82) (L' := [(1, xi x1), (2, xi x2)]) (st' := [xi (w32 ((x1 * 4) + x2))]) (m' := m) (fun ex ns r q => ?_) ?_
  · refine xw_iload_n rfl rfl ?_
    refine xw_iconst rfl ?_
    refine xw_imul rfl ?_
    refine xw_iload_n rfl rfl ?_
    refine xw_iadd rfl ?_
    refine xw_cst (st' := [xi (w32 ((x1 * 4) + x2))]) (xw_sc (xi_c rfl) rfl) ?_
    exact q
  exact xS_ret (v := (w32 ((x1 * 4) + x2))) rfl rfl xw_rtI (w32_w _)
theorem ygk65_26 {B : Nat} (hB : B ≤ 512) {xs : Nat → Int32} {SL d : Nat} : ∀ x1 m, w32 x1 = x1 → xS B xs SL (d + 2) 65 (3, (some .int), [], 6) 1 26 [(0, xa 293), (1, xi x1)] [] m (yk65_26 B x1 m) := by
  intro x1 m c1
  unfold yk65_26
  refine xS_of (pc' := 30) (L' := [(0, xa 293), (1, xi x1)]) (st' := [xa 1]) (m' := m) (fun ex ns r q => ?_) ?_
  · refine xw_aload_n rfl rfl rfl ?_
    refine xw_gfR (n := 1) (e := 1) rfl (xw_obd (by decide +kernel)) (by decide +kernel) (by decide +kernel) rfl ?_
    refine xw_lo (L2 := [(0, xa 293), (1, xi x1)]) (List.forall_mem_cons.mpr ⟨rfl, List.forall_mem_cons.mpr ⟨rfl, fun _ h => absurd h List.not_mem_nil⟩⟩) ?_
    exact q
  refine xS_call (q := 47) (n := 1) (kq := 0) (as := [xa 1]) (st1 := []) rfl rfl rfl rfl rfl rfl rfl rfl rfl rfl (fun _ => xw_rcv1 (t := 1) (xw_obd (by decide +kernel)) rfl) rfl (List.forall_mem_cons.mpr ⟨rfl, fun _ h => absurd h List.not_mem_nil⟩) (ygf47 hB _) (fun v1 m1 cv1 => ?_)
  refine xS_of (pc' := 37) (L' := [(0, xa 293), (1, xi x1)]) (st' := [xa 1]) (m' := m1) (fun ex ns r q => ?_) ?_
  · refine xw_aload_n rfl rfl rfl ?_
    refine xw_gfR (n := 1) (e := 1) rfl (xw_obd (by decide +kernel)) (by decide +kernel) (by decide +kernel) rfl ?_
    refine xw_lo (L2 := [(0, xa 293), (1, xi x1)]) (List.forall_mem_cons.mpr ⟨rfl, List.forall_mem_cons.mpr ⟨rfl, fun _ h => absurd h List.not_mem_nil⟩⟩) ?_
    exact q
  refine xS_call (q := 61) (n := 1) (kq := 0) (as := [xa 1]) (st1 := []) rfl rfl rfl rfl rfl rfl rfl rfl rfl rfl (fun _ => xw_rcv1 (t := 1) (xw_obd (by decide +kernel)) rfl) rfl (List.forall_mem_cons.mpr ⟨rfl, fun _ h => absurd h List.not_mem_nil⟩) (ygf61 hB _) (fun v2 m2 cv2 => ?_)
  refine xS_g (fun g0 => ?_)
  refine xS_g (fun g1 => ?_)
  refine xS_of (pc' := 53) (L' := [(0, xa 293), (1, xi x1)]) (st' := [xa 1, xa (15 + (26 * x1))]) (m' := m2) (fun ex ns r q => ?_) ?_
  · refine xw_aload_n rfl rfl rfl ?_
    refine xw_gfR (n := 3) (e := 3) rfl (xw_obd (by decide +kernel)) (by decide +kernel) (by decide +kernel) rfl ?_
    refine xw_gfR (n := 4) (e := 4) rfl (xw_obd (by decide +kernel)) (by decide +kernel) (by decide +kernel) rfl ?_
    refine xw_iload_n rfl rfl ?_
    refine xw_aald (t := 23) (n := 8) (q := 15 + 26 * (x1).toNat) (e := (15 + (26 * x1))) rfl hB (xw_obd (by decide +kernel)) (by decide) rfl g0 (show 20 + 26 * (x1 : Int).toNat = 15 + 26 * (x1 : Int).toNat + 5 from by omega) (by have := g0; omega) ?_
    refine xw_aload_n rfl rfl rfl ?_
    refine xw_gfR (n := 1) (e := 1) rfl (xw_obd (by decide +kernel)) (by decide +kernel) (by decide +kernel) rfl ?_
    refine xw_lo (L2 := [(0, xa 293), (1, xi x1)]) (List.forall_mem_cons.mpr ⟨rfl, List.forall_mem_cons.mpr ⟨rfl, fun _ h => absurd h List.not_mem_nil⟩⟩) ?_
    exact q
  refine xS_call (q := 66) (n := 2) (kq := 1) (as := [xa (15 + (26 * x1)), xa 1]) (st1 := []) rfl rfl rfl rfl rfl rfl rfl rfl rfl rfl (fun _ => xw_rcv1 (t := 3) (xw_obd g1) rfl) rfl (List.forall_mem_cons.mpr ⟨rfl, List.forall_mem_cons.mpr ⟨rfl, fun _ h => absurd h List.not_mem_nil⟩⟩) (ygf66 hB _ _) (fun v3 m3 cv3 => ?_)
  refine xS_of (pc' := 59) (L' := [(2, xi v3), (0, xa 293), (1, xi x1)]) (st' := [xi (-1), xi v3]) (m' := m3) (fun ex ns r q => ?_) ?_
  · refine xw_istore_n (L' := [(2, xi v3), (0, xa 293), (1, xi x1)]) rfl (by decide) rfl ?_
    refine xw_iload_n rfl rfl ?_
    refine xw_iconst rfl ?_
    exact q
  refine xS_if (fun h2 => ?_) (fun h2 => ?_)
  · refine xS_of (pc' := 74) (L' := [(1, xi x1), (2, xi v3)]) (st' := [xi (xR m3 1 4), xi 5, xa 1]) (m' := m3) (fun ex ns r q => ?_) ?_
    · refine xw_ic_neF rfl (w32_cg cv3) (w32_cg rfl) h2 ?_
      refine xw_aload_n rfl rfl rfl ?_
      refine xw_gfR (n := 1) (e := 1) rfl (xw_obd (by decide +kernel)) (by decide +kernel) (by decide +kernel) rfl ?_
      refine xw_iconst rfl ?_
      refine xw_aload_n rfl rfl rfl ?_
      refine xw_gfR (n := 1) (e := 1) rfl (xw_obd (by decide +kernel)) (by decide +kernel) (by decide +kernel) rfl ?_
      refine xw_gfIc (v := (m3 1 4)) (v' := (xR m3 1 4)) rfl (xw_obd (by decide +kernel)) xk1_4 (qi := 4) rfl rfl rfl ?_
      refine xw_lo (L2 := [(1, xi x1), (2, xi v3)]) (List.forall_mem_cons.mpr ⟨rfl, List.forall_mem_cons.mpr ⟨rfl, fun _ h => absurd h List.not_mem_nil⟩⟩) ?_
      exact q
    refine xS_call (q := 54) (n := 3) (kq := 0) (as := [xa 1, xi 5, xi (xR m3 1 4)]) (st1 := []) rfl rfl rfl rfl rfl rfl rfl rfl rfl rfl (fun _ => xw_rcv1 (t := 1) (xw_obd (by decide +kernel)) rfl) rfl (List.forall_mem_cons.mpr ⟨rfl, List.forall_mem_cons.mpr ⟨rfl, List.forall_mem_cons.mpr ⟨rfl, fun _ h => absurd h List.not_mem_nil⟩⟩⟩) (ygf54 hB _ _ _ rfl (w32_xR _ _ _)) (fun v4 m4 cv4 => ?_)
    refine xS_of (pc' := 77) (L' := [(1, xi x1), (2, xi v3)]) (st' := []) (m' := m4) (fun ex ns r q => ?_) ?_
    · refine xw_lo (L2 := [(1, xi x1), (2, xi v3)]) (List.forall_mem_cons.mpr ⟨rfl, List.forall_mem_cons.mpr ⟨rfl, fun _ h => absurd h List.not_mem_nil⟩⟩) ?_
      exact q
    exact ygk65_77 hB _ _ _ c1 cv3
  · refine xS_of (pc' := 77) (L' := [(1, xi x1), (2, xi v3)]) (st' := []) (m' := m3) (fun ex ns r q => ?_) ?_
    · refine xw_ic_neT rfl (w32_cg cv3) (w32_cg rfl) h2 ?_
      refine xw_lo (L2 := [(1, xi x1), (2, xi v3)]) (List.forall_mem_cons.mpr ⟨rfl, List.forall_mem_cons.mpr ⟨rfl, fun _ h => absurd h List.not_mem_nil⟩⟩) ?_
      exact q
    exact ygk65_77 hB _ _ _ c1 cv3
theorem ygf65 {B : Nat} (hB : B ≤ 512) {xs : Nat → Int32} {SL d : Nat} : ∀ p0 m, w32 p0 = p0 → xS B xs SL (d + 2) 65 (3, (some .int), [], 6) 1 0 [(0, xa 293), (1, xi p0)] [] m (yf65 B p0 m) := by
  intro p0 m cp0
  unfold yf65
  refine xS_of (pc' := 4) (L' := [(0, xa 293), (1, xi p0)]) (st' := [xa 1]) (m' := m) (fun ex ns r q => ?_) ?_
  · refine xw_aload_n rfl rfl rfl ?_
    refine xw_gfR (n := 1) (e := 1) rfl (xw_obd (by decide +kernel)) (by decide +kernel) (by decide +kernel) rfl ?_
    refine xw_lo (L2 := [(0, xa 293), (1, xi p0)]) (List.forall_mem_cons.mpr ⟨rfl, List.forall_mem_cons.mpr ⟨rfl, fun _ h => absurd h List.not_mem_nil⟩⟩) ?_
    exact q
  refine xS_call (q := 47) (n := 1) (kq := 0) (as := [xa 1]) (st1 := []) rfl rfl rfl rfl rfl rfl rfl rfl rfl rfl (fun _ => xw_rcv1 (t := 1) (xw_obd (by decide +kernel)) rfl) rfl (List.forall_mem_cons.mpr ⟨rfl, fun _ h => absurd h List.not_mem_nil⟩) (ygf47 hB _) (fun v1 m1 cv1 => ?_)
  refine xS_of (pc' := 16) (L' := [(0, xa 293), (1, xi p0)]) (st' := [xi 46, xi (xR m1 1 3)]) (m' := m1) (fun ex ns r q => ?_) ?_
  · refine xw_aload_n rfl rfl rfl ?_
    refine xw_gfR (n := 1) (e := 1) rfl (xw_obd (by decide +kernel)) (by decide +kernel) (by decide +kernel) rfl ?_
    refine xw_gfIc (v := (m1 1 3)) (v' := (xR m1 1 3)) rfl (xw_obd (by decide +kernel)) xk1_3 (qi := 3) rfl rfl rfl ?_
    refine xw_bipush (e := 46) rfl (by decide +kernel) ?_
    exact q
  refine xS_if (fun h0 => ?_) (fun h0 => ?_)
  · refine xS_of (pc' := 26) (L' := [(0, xa 293), (1, xi p0)]) (st' := []) (m' := m1) (fun ex ns r q => ?_) ?_
    · refine xw_ic_eqT rfl (w32_cg (w32_xR _ _ _)) (w32_cg rfl) h0 ?_
      refine xw_lo (L2 := [(0, xa 293), (1, xi p0)]) (List.forall_mem_cons.mpr ⟨rfl, List.forall_mem_cons.mpr ⟨rfl, fun _ h => absurd h List.not_mem_nil⟩⟩) ?_
      exact q
    exact ygk65_26 hB _ _ cp0
  · refine xS_of (pc' := 23) (L' := [(0, xa 293), (1, xi p0)]) (st' := [xa 1]) (m' := m1) (fun ex ns r q => ?_) ?_
    · refine xw_ic_eqF rfl (w32_cg (w32_xR _ _ _)) (w32_cg rfl) h0 ?_
      refine xw_aload_n rfl rfl rfl ?_
      refine xw_gfR (n := 1) (e := 1) rfl (xw_obd (by decide +kernel)) (by decide +kernel) (by decide +kernel) rfl ?_
      refine xw_lo (L2 := [(0, xa 293), (1, xi p0)]) (List.forall_mem_cons.mpr ⟨rfl, List.forall_mem_cons.mpr ⟨rfl, fun _ h => absurd h List.not_mem_nil⟩⟩) ?_
      exact q
    refine xS_call (q := 56) (n := 1) (kq := 0) (as := [xa 1]) (st1 := []) rfl rfl rfl rfl rfl rfl rfl rfl rfl rfl (fun _ => xw_rcv1 (t := 1) (xw_obd (by decide +kernel)) rfl) rfl (List.forall_mem_cons.mpr ⟨rfl, fun _ h => absurd h List.not_mem_nil⟩) (ygf56 hB _) (fun v2 m2 cv2 => ?_)
    refine xS_of (pc' := 26) (L' := [(0, xa 293), (1, xi p0)]) (st' := []) (m' := m2) (fun ex ns r q => ?_) ?_
    · refine xw_lo (L2 := [(0, xa 293), (1, xi p0)]) (List.forall_mem_cons.mpr ⟨rfl, List.forall_mem_cons.mpr ⟨rfl, fun _ h => absurd h List.not_mem_nil⟩⟩) ?_
      exact q
    exact ygk65_26 hB _ _ cp0
theorem ygf67 {B : Nat} (hB : B ≤ 512) {xs : Nat → Int32} {SL d : Nat} : ∀ p0 p1 p2 m, w32 p0 = p0 → w32 p1 = p1 → w32 p2 = p2 → xS B xs SL (d + 0) 67 (4, none, [], 5) 0 0 [(0, xa 223), (1, xi p0), (2, xi p1), (3, xi p2)] [] m (yf67 B p0 p1 p2 m) := by
  intro p0 p1 p2 m cp0 cp1 cp2
  unfold yf67
  refine xS_g (fun g0 => ?_)
  refine xS_of (pc' := 40) (L' := [(0, xa 223), (1, xi p0), (2, xi p1), (3, xi p2)]) (st' := []) (m' := (xw_u (xw_u (xw_u (xw_u m 224 (xR m 223 2) p0) 225 (xR m 223 2) p1) 226 (xR m 223 2) p2) 223 2 ((xR m 223 2) + 1))) (fun ex ns r q => ?_) ?_
  · refine xw_aload_n rfl rfl rfl ?_
    refine xw_gfR (n := 224) (e := 224) rfl (xw_obd (by decide +kernel)) (by decide +kernel) (by decide +kernel) rfl ?_
    refine xw_aload_n rfl rfl rfl ?_
    refine xw_gfIc (v := (m 223 2)) (v' := (xR m 223 2)) rfl (xw_obd (by decide +kernel)) xk4_2 (qi := 2) rfl rfl rfl ?_
    refine xw_iload_n rfl rfl ?_
    refine xw_iast (n := 24) rfl hB (xw_obd (by decide +kernel)) rfl g0 ?_
    refine xw_aload_n rfl rfl rfl ?_
    refine xw_gfR (n := 225) (e := 225) rfl (xw_obd (by decide +kernel)) (by decide +kernel) (by decide +kernel) rfl ?_
    refine xw_aload_n rfl rfl rfl ?_
    refine xw_gfIc (v := (m 223 2)) (v' := (xR m 223 2)) rfl (xw_obd (by decide +kernel)) xk4_2 (qi := 2) rfl (xw_un (fun e => absurd e.1 (by decide)) rfl) rfl ?_
    refine xw_iload_n rfl rfl ?_
    refine xw_iast (n := 24) rfl hB (xw_obd (by decide +kernel)) rfl g0 ?_
    refine xw_aload_n rfl rfl rfl ?_
    refine xw_gfR (n := 226) (e := 226) rfl (xw_obd (by decide +kernel)) (by decide +kernel) (by decide +kernel) rfl ?_
    refine xw_aload_n rfl rfl rfl ?_
    refine xw_gfIc (v := (m 223 2)) (v' := (xR m 223 2)) rfl (xw_obd (by decide +kernel)) xk4_2 (qi := 2) rfl (xw_un (fun e => absurd e.1 (by decide)) (xw_un (fun e => absurd e.1 (by decide)) rfl)) rfl ?_
    refine xw_iload_n rfl rfl ?_
    refine xw_iast (n := 24) rfl hB (xw_obd (by decide +kernel)) rfl g0 ?_
    refine xw_aload_n rfl rfl rfl ?_
    refine xw_dup rfl rfl ?_
    refine xw_gfIc (v := (m 223 2)) (v' := (xR m 223 2)) rfl (xw_obd (by decide +kernel)) xk4_2 (qi := 2) rfl (xw_un (fun e => absurd e.1 (by decide)) (xw_un (fun e => absurd e.1 (by decide)) (xw_un (fun e => absurd e.1 (by decide)) rfl))) rfl ?_
    refine xw_iconst rfl ?_
    refine xw_iadd rfl ?_
    refine xw_pfI rfl (xw_obd (by decide +kernel)) xk4_2 (qi := 2) rfl (xw_okI rfl) ?_
    exact q
  exact xS_ret (v := 0) rfl rfl rfl rfl
theorem ygf68 {B : Nat} (hB : B ≤ 512) {xs : Nat → Int32} {SL d : Nat} : ∀ p0 m, w32 p0 = p0 → xS B xs SL (d + 2) 68 (2, none, [], 2) 0 0 [(0, xa 1), (1, xi p0)] [] m (yf68 B p0 m) := by
  intro p0 m cp0
  unfold yf68
  refine xS_of (pc' := 1) (L' := [(0, xa 1), (1, xi p0)]) (st' := [xa 1]) (m' := m) (fun ex ns r q => ?_) ?_
  · refine xw_aload_n rfl rfl rfl ?_
    refine xw_lo (L2 := [(0, xa 1), (1, xi p0)]) (List.forall_mem_cons.mpr ⟨rfl, List.forall_mem_cons.mpr ⟨rfl, fun _ h => absurd h List.not_mem_nil⟩⟩) ?_
    exact q
  refine xS_call (q := 47) (n := 1) (kq := 0) (as := [xa 1]) (st1 := []) rfl rfl rfl rfl rfl rfl rfl rfl rfl rfl (fun _ => xw_rcv1 (t := 1) (xw_obd (by decide +kernel)) rfl) rfl (List.forall_mem_cons.mpr ⟨rfl, fun _ h => absurd h List.not_mem_nil⟩) (ygf47 hB _) (fun v1 m1 cv1 => ?_)
  refine xS_of (pc' := 9) (L' := [(0, xa 1), (1, xi p0)]) (st' := [xi p0, xi (xR m1 1 3)]) (m' := m1) (fun ex ns r q => ?_) ?_
  · refine xw_aload_n rfl rfl rfl ?_
    refine xw_gfIc (v := (m1 1 3)) (v' := (xR m1 1 3)) rfl (xw_obd (by decide +kernel)) xk1_3 (qi := 3) rfl rfl rfl ?_
    refine xw_iload_n rfl rfl ?_
    exact q
  refine xS_if (fun h0 => ?_) (fun h0 => ?_)
  · refine xS_of (pc' := 16) (L' := [(0, xa 1), (1, xi p0)]) (st' := []) (m' := m1) (fun ex ns r q => ?_) ?_
    · refine xw_ic_eqT rfl (w32_cg (w32_xR _ _ _)) (w32_cg cp0) h0 ?_
      exact q
    exact xS_ret (v := 0) rfl rfl rfl rfl
  · refine xS_of (pc' := 13) (L' := []) (st' := [xa 1]) (m' := m1) (fun ex ns r q => ?_) ?_
    · refine xw_ic_eqF rfl (w32_cg (w32_xR _ _ _)) (w32_cg cp0) h0 ?_
      refine xw_aload_n rfl rfl rfl ?_
      refine xw_lo (L2 := []) (fun _ h => absurd h List.not_mem_nil) ?_
      exact q
    refine xS_call (q := 56) (n := 1) (kq := 0) (as := [xa 1]) (st1 := []) rfl rfl rfl rfl rfl rfl rfl rfl rfl rfl (fun _ => xw_rcv1 (t := 1) (xw_obd (by decide +kernel)) rfl) rfl (List.forall_mem_cons.mpr ⟨rfl, fun _ h => absurd h List.not_mem_nil⟩) (ygf56 hB _) (fun v2 m2 cv2 => ?_)
    exact xS_ret (v := 0) rfl rfl rfl rfl
theorem ysl70_2 {B : Nat} (hB : B ≤ 512) {xs : Nat → Int32} {SL d : Nat} {r2 : Int → xw_M → xP} (hr2 : ∀ x2 m, w32 x2 = x2 → xS B xs SL (d + 1) 70 (3, (some .int), [], 3) 1 2 [(0, xa 3), (1, xa 1), (2, xi x2)] [] m (r2 x2 m)) : ∀ x2 m, w32 x2 = x2 → xS B xs SL (d + 1) 70 (3, (some .int), [], 3) 1 2 [(0, xa 3), (1, xa 1), (2, xi x2)] [] m (yl70_2 B r2 x2 m) := by
  intro x2 m c2
  unfold yl70_2
  refine xS_of (pc' := 7) (L' := [(0, xa 3), (1, xa 1), (2, xi x2)]) (st' := [xi (xR m 3 2), xi x2]) (m' := m) (fun ex ns r q => ?_) ?_
  · refine xw_iload_n rfl rfl ?_
    refine xw_aload_n rfl rfl rfl ?_
    refine xw_gfIc (v := (m 3 2)) (v' := (xR m 3 2)) rfl (xw_obd (by decide +kernel)) xk2_2 (qi := 2) rfl rfl rfl ?_
    exact q
  refine xS_if (fun h0 => ?_) (fun h0 => ?_)
  · refine xS_g (fun g1 => ?_)
    refine xS_of (pc' := 23) (L' := [(0, xa 3), (1, xa 1), (2, xi x2)]) (st' := [xi (xR m 14 x2), xa (6 + x2), xa 1]) (m' := m) (fun ex ns r q => ?_) ?_
    · refine xw_ic_geF rfl (w32_cg c2) (w32_cg (w32_xR _ _ _)) (Int.not_le.mpr h0) ?_
      refine xw_aload_n rfl rfl rfl ?_
      refine xw_aload_n rfl rfl rfl ?_
      refine xw_gfR (n := 5) (e := 5) rfl (xw_obd (by decide +kernel)) (by decide +kernel) (by decide +kernel) rfl ?_
      refine xw_iload_n rfl rfl ?_
      refine xw_aald (t := 22) (n := 8) (q := 6 + 1 * (x2).toNat) (e := (6 + x2)) rfl hB (xw_obd (by decide +kernel)) (by decide) rfl g1 (show 11 + 1 * (x2 : Int).toNat = 6 + 1 * (x2 : Int).toNat + 5 from by omega) (by have := g1; omega) ?_
      refine xw_aload_n rfl rfl rfl ?_
      refine xw_gfR (n := 14) (e := 14) rfl (xw_obd (by decide +kernel)) (by decide +kernel) (by decide +kernel) rfl ?_
      refine xw_iload_n rfl rfl ?_
      refine xw_ialdc (n := 8) (v := (m 14 x2)) (v' := (xR m 14 x2)) rfl hB (xw_obd (by decide +kernel)) rfl g1 rfl rfl ?_
      refine xw_lo (L2 := [(0, xa 3), (1, xa 1), (2, xi x2)]) (List.forall_mem_cons.mpr ⟨rfl, List.forall_mem_cons.mpr ⟨rfl, List.forall_mem_cons.mpr ⟨rfl, fun _ h => absurd h List.not_mem_nil⟩⟩⟩) ?_
      exact q
    refine xS_call (q := 63) (n := 3) (kq := 4) (as := [xa 1, xa (6 + x2), xi (xR m 14 x2)]) (st1 := []) rfl rfl rfl rfl rfl rfl rfl rfl rfl rfl (fun _ => xw_rcv1 (t := 1) (xw_obd (by decide +kernel)) rfl) rfl (List.forall_mem_cons.mpr ⟨rfl, List.forall_mem_cons.mpr ⟨rfl, List.forall_mem_cons.mpr ⟨rfl, fun _ h => absurd h List.not_mem_nil⟩⟩⟩) (ygf63 hB _ _ _ (w32_xR _ _ _)) (fun v1 m1 cv1 => ?_)
    refine xS_if (fun h2 => ?_) (fun h2 => ?_)
    · refine xS_of (pc' := 2) (L' := [(0, xa 3), (1, xa 1), (2, xi (w32 (x2 + 1)))]) (st' := []) (m' := m1) (fun ex ns r q => ?_) ?_
      · refine xw_if_eqT rfl (w32_cg (w32_of (xw_zr cv1))) h2 ?_
        refine xw_iincc (z := (w32 (x2 + 1))) (L' := [(2, xi (w32 (x2 + 1))), (0, xa 3), (1, xa 1)]) rfl rfl (by decide) rfl rfl ?_
        refine xw_goto rfl ?_
        refine xw_lo (L2 := [(0, xa 3), (1, xa 1), (2, xi (w32 (x2 + 1)))]) (List.forall_mem_cons.mpr ⟨rfl, List.forall_mem_cons.mpr ⟨rfl, List.forall_mem_cons.mpr ⟨rfl, fun _ h => absurd h List.not_mem_nil⟩⟩⟩) ?_
        exact q
      exact hr2 _ _ (w32_w _)
    · refine xS_of (pc' := 30) (L' := [(0, xa 3), (1, xa 1), (2, xi x2)]) (st' := [xi x2]) (m' := m1) (fun ex ns r q => ?_) ?_
      · refine xw_if_eqF rfl (w32_cg (w32_of (xw_zr cv1))) h2 ?_
        refine xw_iload_n rfl rfl ?_
        exact q
      exact xS_ret (v := x2) rfl rfl xw_rtI c2
  · refine xS_of (pc' := 38) (L' := [(0, xa 3), (1, xa 1), (2, xi x2)]) (st' := [xi (-1)]) (m' := m) (fun ex ns r q => ?_) ?_
    · refine xw_ic_geT rfl (w32_cg c2) (w32_cg (w32_xR _ _ _)) (Int.not_lt.mp h0) ?_
      refine xw_iconst rfl ?_
      exact q
    exact xS_ret (v := (-1)) rfl rfl xw_rtI rfl
theorem ygl70_2 {B : Nat} (hB : B ≤ 512) {xs : Nat → Int32} {SL d : Nat} : ∀ n x2 m, w32 x2 = x2 → xS B xs SL (d + 1) 70 (3, (some .int), [], 3) 1 2 [(0, xa 3), (1, xa 1), (2, xi x2)] [] m (xl1 (yl70_2 B) n x2 m) := by
  intro n
  induction n with
  | zero => intro x2 m c2; exact xS_none
  | succ n ih => exact ysl70_2 hB ih
theorem ygf70 {B : Nat} (hB : B ≤ 512) {xs : Nat → Int32} {SL d : Nat} : ∀ m, xS B xs SL (d + 1) 70 (3, (some .int), [], 3) 1 0 [(0, xa 3), (1, xa 1)] [] m (yf70 B m) := by
  intro m
  unfold yf70
  refine xS_of (pc' := 2) (L' := [(0, xa 3), (1, xa 1), (2, xi 0)]) (st' := []) (m' := m) (fun ex ns r q => ?_) ?_
  · refine xw_iconst rfl ?_
    refine xw_istore_n (L' := [(2, xi 0), (0, xa 3), (1, xa 1)]) rfl (by decide) rfl ?_
    refine xw_lo (L2 := [(0, xa 3), (1, xa 1), (2, xi 0)]) (List.forall_mem_cons.mpr ⟨rfl, List.forall_mem_cons.mpr ⟨rfl, List.forall_mem_cons.mpr ⟨rfl, fun _ h => absurd h List.not_mem_nil⟩⟩⟩) ?_
    exact q
  exact ygl70_2 hB 1000000 _ _ rfl
theorem ygf69 {B : Nat} (hB : B ≤ 512) {xs : Nat → Int32} {SL d : Nat} : ∀ m, xS B xs SL (d + 2) 69 (2, (some .int), [], 6) 1 0 [(0, xa 293)] [] m (yf69 B m) := by
  intro m
  unfold yf69
  refine xS_of (pc' := 4) (L' := [(0, xa 293)]) (st' := [xa 1]) (m' := m) (fun ex ns r q => ?_) ?_
  · refine xw_aload_n rfl rfl rfl ?_
    refine xw_gfR (n := 1) (e := 1) rfl (xw_obd (by decide +kernel)) (by decide +kernel) (by decide +kernel) rfl ?_
    refine xw_lo (L2 := [(0, xa 293)]) (List.forall_mem_cons.mpr ⟨rfl, fun _ h => absurd h List.not_mem_nil⟩) ?_
    exact q
  refine xS_call (q := 61) (n := 1) (kq := 0) (as := [xa 1]) (st1 := []) rfl rfl rfl rfl rfl rfl rfl rfl rfl rfl (fun _ => xw_rcv1 (t := 1) (xw_obd (by decide +kernel)) rfl) rfl (List.forall_mem_cons.mpr ⟨rfl, fun _ h => absurd h List.not_mem_nil⟩) (ygf61 hB _) (fun v1 m1 cv1 => ?_)
  refine xS_of (pc' := 15) (L' := [(0, xa 293)]) (st' := [xa 1, xa 3]) (m' := m1) (fun ex ns r q => ?_) ?_
  · refine xw_aload_n rfl rfl rfl ?_
    refine xw_gfR (n := 3) (e := 3) rfl (xw_obd (by decide +kernel)) (by decide +kernel) (by decide +kernel) rfl ?_
    refine xw_aload_n rfl rfl rfl ?_
    refine xw_gfR (n := 1) (e := 1) rfl (xw_obd (by decide +kernel)) (by decide +kernel) (by decide +kernel) rfl ?_
    refine xw_lo (L2 := [(0, xa 293)]) (List.forall_mem_cons.mpr ⟨rfl, fun _ h => absurd h List.not_mem_nil⟩) ?_
    exact q
  refine xS_call (q := 70) (n := 2) (kq := 1) (as := [xa 3, xa 1]) (st1 := []) rfl rfl rfl rfl rfl rfl rfl rfl rfl rfl (fun _ => xw_rcv1 (t := 2) (xw_obd (by decide +kernel)) rfl) rfl (List.forall_mem_cons.mpr ⟨rfl, List.forall_mem_cons.mpr ⟨rfl, fun _ h => absurd h List.not_mem_nil⟩⟩) (ygf70 hB _) (fun v2 m2 cv2 => ?_)
  refine xS_of (pc' := 21) (L' := [(1, xi v2), (0, xa 293)]) (st' := [xi (-1), xi v2]) (m' := m2) (fun ex ns r q => ?_) ?_
  · refine xw_istore_n (L' := [(1, xi v2), (0, xa 293)]) rfl (by decide) rfl ?_
    refine xw_iload_n rfl rfl ?_
    refine xw_iconst rfl ?_
    exact q
  refine xS_if (fun h0 => ?_) (fun h0 => ?_)
  · refine xS_of (pc' := 36) (L' := [(1, xi v2)]) (st' := [xi (xR m2 1 4), xi 5, xa 1]) (m' := m2) (fun ex ns r q => ?_) ?_
    · refine xw_ic_neF rfl (w32_cg cv2) (w32_cg rfl) h0 ?_
      refine xw_aload_n rfl rfl rfl ?_
      refine xw_gfR (n := 1) (e := 1) rfl (xw_obd (by decide +kernel)) (by decide +kernel) (by decide +kernel) rfl ?_
      refine xw_iconst rfl ?_
      refine xw_aload_n rfl rfl rfl ?_
      refine xw_gfR (n := 1) (e := 1) rfl (xw_obd (by decide +kernel)) (by decide +kernel) (by decide +kernel) rfl ?_
      refine xw_gfIc (v := (m2 1 4)) (v' := (xR m2 1 4)) rfl (xw_obd (by decide +kernel)) xk1_4 (qi := 4) rfl rfl rfl ?_
      refine xw_lo (L2 := [(1, xi v2)]) (List.forall_mem_cons.mpr ⟨rfl, fun _ h => absurd h List.not_mem_nil⟩) ?_
      exact q
    refine xS_call (q := 54) (n := 3) (kq := 0) (as := [xa 1, xi 5, xi (xR m2 1 4)]) (st1 := []) rfl rfl rfl rfl rfl rfl rfl rfl rfl rfl (fun _ => xw_rcv1 (t := 1) (xw_obd (by decide +kernel)) rfl) rfl (List.forall_mem_cons.mpr ⟨rfl, List.forall_mem_cons.mpr ⟨rfl, List.forall_mem_cons.mpr ⟨rfl, fun _ h => absurd h List.not_mem_nil⟩⟩⟩) (ygf54 hB _ _ _ rfl (w32_xR _ _ _)) (fun v3 m3 cv3 => ?_)
    refine xS_of (pc' := 40) (L' := [(1, xi v2)]) (st' := [xi v2]) (m' := m3) (fun ex ns r q => ?_) ?_
    · refine xw_iload_n rfl rfl ?_
      exact q
    exact xS_ret (v := v2) rfl rfl xw_rtI cv2
  · refine xS_of (pc' := 40) (L' := [(1, xi v2), (0, xa 293)]) (st' := [xi v2]) (m' := m2) (fun ex ns r q => ?_) ?_
    · refine xw_ic_neT rfl (w32_cg cv2) (w32_cg rfl) h0 ?_
      refine xw_iload_n rfl rfl ?_
      exact q
    exact xS_ret (v := v2) rfl rfl xw_rtI cv2
theorem ygk59_30 {B : Nat} (hB : B ≤ 512) {xs : Nat → Int32} {SL d : Nat} : ∀ x1 m, w32 x1 = x1 → xS B xs SL (d + 3) 59 (4, none, [], 6) 0 30 [(0, xa 293), (1, xi x1)] [] m (yk59_30 B x1 m) := by
  intro x1 m c1
  unfold yk59_30
  refine xS_of (pc' := 31) (L' := [(0, xa 293), (1, xi x1)]) (st' := [xa 293]) (m' := m) (fun ex ns r q => ?_) ?_
  · refine xw_aload_n rfl rfl rfl ?_
    refine xw_lo (L2 := [(0, xa 293), (1, xi x1)]) (List.forall_mem_cons.mpr ⟨rfl, List.forall_mem_cons.mpr ⟨rfl, fun _ h => absurd h List.not_mem_nil⟩⟩) ?_
    exact q
  refine xS_call (q := 60) (n := 1) (kq := 1) (as := [xa 293]) (st1 := []) rfl rfl rfl rfl rfl rfl rfl rfl rfl rfl (fun _ => xw_rcv1 (t := 5) (xw_obd (by decide +kernel)) rfl) rfl (List.forall_mem_cons.mpr ⟨rfl, fun _ h => absurd h List.not_mem_nil⟩) (ygf60 hB _) (fun v1 m1 cv1 => ?_)
  refine xS_of (pc' := 45) (L' := [(0, xa 293), (1, xi x1), (3, xi v1)]) (st' := [xi 24, xi (xR m1 223 2), xa 293]) (m' := m1) (fun ex ns r q => ?_) ?_
  · refine xw_istore_n (L' := [(3, xi v1), (0, xa 293), (1, xi x1)]) rfl (by decide) rfl ?_
    refine xw_aload_n rfl rfl rfl ?_
    refine xw_aload_n rfl rfl rfl ?_
    refine xw_gfR (n := 223) (e := 223) rfl (xw_obd (by decide +kernel)) (by decide +kernel) (by decide +kernel) rfl ?_
    refine xw_gfIc (v := (m1 223 2)) (v' := (xR m1 223 2)) rfl (xw_obd (by decide +kernel)) xk4_2 (qi := 2) rfl rfl rfl ?_
    refine xw_bipush (e := 24) rfl (by decide +kernel) ?_
    refine xw_lo (L2 := [(0, xa 293), (1, xi x1), (3, xi v1)]) (List.forall_mem_cons.mpr ⟨rfl, List.forall_mem_cons.mpr ⟨rfl, List.forall_mem_cons.mpr ⟨rfl, fun _ h => absurd h List.not_mem_nil⟩⟩⟩) ?_
    exact q
  refine xS_call (q := 64) (n := 3) (kq := 0) (as := [xa 293, xi (xR m1 223 2), xi 24]) (st1 := []) rfl rfl rfl rfl rfl rfl rfl rfl rfl rfl (fun _ => xw_rcv1 (t := 5) (xw_obd (by decide +kernel)) rfl) rfl (List.forall_mem_cons.mpr ⟨rfl, List.forall_mem_cons.mpr ⟨rfl, List.forall_mem_cons.mpr ⟨rfl, fun _ h => absurd h List.not_mem_nil⟩⟩⟩) (ygf64 hB _ _ _ (w32_xR _ _ _) rfl) (fun v2 m2 cv2 => ?_)
  refine xS_of (pc' := 55) (L' := [(1, xi x1)]) (st' := [xi v1, xa 293, xi 1, xa 223]) (m' := m2) (fun ex ns r q => ?_) ?_
  · refine xw_aload_n rfl rfl rfl ?_
    refine xw_gfR (n := 223) (e := 223) rfl (xw_obd (by decide +kernel)) (by decide +kernel) (by decide +kernel) rfl ?_
    refine xw_iconst rfl ?_
    refine xw_aload_n rfl rfl rfl ?_
    refine xw_iload_n rfl rfl ?_
    refine xw_lo (L2 := [(1, xi x1)]) (List.forall_mem_cons.mpr ⟨rfl, fun _ h => absurd h List.not_mem_nil⟩) ?_
    exact q
  refine xS_call (q := 65) (n := 2) (kq := 1) (as := [xa 293, xi v1]) (st1 := [xi 1, xa 223]) rfl rfl rfl rfl rfl rfl rfl rfl rfl rfl (fun _ => xw_rcv1 (t := 5) (xw_obd (by decide +kernel)) rfl) rfl (List.forall_mem_cons.mpr ⟨rfl, List.forall_mem_cons.mpr ⟨rfl, fun _ h => absurd h List.not_mem_nil⟩⟩) (ygf65 hB _ _ cv1) (fun v3 m3 cv3 => ?_)
  refine xS_of (pc' := 59) (L' := []) (st' := [xi x1, xi v3, xi 1, xa 223]) (m' := m3) (fun ex ns r q => ?_) ?_
  · refine xw_iload_n rfl rfl ?_
    refine xw_lo (L2 := []) (fun _ h => absurd h List.not_mem_nil) ?_
    exact q
  refine xS_call (q := 67) (n := 4) (kq := 0) (as := [xa 223, xi 1, xi v3, xi x1]) (st1 := []) rfl rfl rfl rfl rfl rfl rfl rfl rfl rfl (fun _ => xw_rcv1 (t := 4) (xw_obd (by decide +kernel)) rfl) rfl (List.forall_mem_cons.mpr ⟨rfl, List.forall_mem_cons.mpr ⟨rfl, List.forall_mem_cons.mpr ⟨rfl, List.forall_mem_cons.mpr ⟨rfl, fun _ h => absurd h List.not_mem_nil⟩⟩⟩⟩) (ygf67 hB _ _ _ _ rfl cv3 c1) (fun v4 m4 cv4 => ?_)
  exact xS_ret (v := 0) rfl rfl rfl rfl
theorem ygk59_136 {B : Nat} (hB : B ≤ 512) {xs : Nat → Int32} {SL d : Nat} : ∀ x1 x2 x3 m, w32 x1 = x1 → w32 x2 = x2 → w32 x3 = x3 → xS B xs SL (d + 3) 59 (4, none, [], 6) 0 136 [(0, xa 293), (1, xi x1), (2, xi x2), (3, xi x3)] [] m (yk59_136 B x1 x2 x3 m) := by
  intro x1 x2 x3 m c1 c2 c3
  unfold yk59_136
  refine xS_of (pc' := 143) (L' := [(0, xa 293)]) (st' := [xi x1, xi x3, xi x2, xa 223]) (m' := m) (fun ex ns r q => ?_) ?_
  · refine xw_aload_n rfl rfl rfl ?_
    refine xw_gfR (n := 223) (e := 223) rfl (xw_obd (by decide +kernel)) (by decide +kernel) (by decide +kernel) rfl ?_
    refine xw_iload_n rfl rfl ?_
    refine xw_iload_n rfl rfl ?_
    refine xw_iload_n rfl rfl ?_
    refine xw_lo (L2 := [(0, xa 293)]) (List.forall_mem_cons.mpr ⟨rfl, fun _ h => absurd h List.not_mem_nil⟩) ?_
    exact q
  refine xS_call (q := 67) (n := 4) (kq := 0) (as := [xa 223, xi x2, xi x3, xi x1]) (st1 := []) rfl rfl rfl rfl rfl rfl rfl rfl rfl rfl (fun _ => xw_rcv1 (t := 4) (xw_obd (by decide +kernel)) rfl) rfl (List.forall_mem_cons.mpr ⟨rfl, List.forall_mem_cons.mpr ⟨rfl, List.forall_mem_cons.mpr ⟨rfl, List.forall_mem_cons.mpr ⟨rfl, fun _ h => absurd h List.not_mem_nil⟩⟩⟩⟩) (ygf67 hB _ _ _ _ c2 c3 c1) (fun v1 m1 cv1 => ?_)
  refine xS_of (pc' := 152) (L' := []) (st' := [xi 41, xa 1]) (m' := m1) (fun ex ns r q => ?_) ?_
  · refine xw_aload_n rfl rfl rfl ?_
    refine xw_gfR (n := 1) (e := 1) rfl (xw_obd (by decide +kernel)) (by decide +kernel) (by decide +kernel) rfl ?_
    refine xw_bipush (e := 41) rfl (by decide +kernel) ?_
    refine xw_lo (L2 := []) (fun _ h => absurd h List.not_mem_nil) ?_
    exact q
  refine xS_call (q := 68) (n := 2) (kq := 0) (as := [xa 1, xi 41]) (st1 := []) rfl rfl rfl rfl rfl rfl rfl rfl rfl rfl (fun _ => xw_rcv1 (t := 1) (xw_obd (by decide +kernel)) rfl) rfl (List.forall_mem_cons.mpr ⟨rfl, List.forall_mem_cons.mpr ⟨rfl, fun _ h => absurd h List.not_mem_nil⟩⟩) (ygf68 hB _ _ rfl) (fun v2 m2 cv2 => ?_)
  exact xS_ret (v := 0) rfl rfl rfl rfl
theorem ygf59 {B : Nat} (hB : B ≤ 512) {xs : Nat → Int32} {SL d : Nat} : ∀ m, xS B xs SL (d + 3) 59 (4, none, [], 6) 0 0 [(0, xa 293)] [] m (yf59 B m) := by
  intro m
  unfold yf59
  refine xS_of (pc' := 20) (L' := [(2, xi (xR m 1 3)), (1, xi (xR m 1 4)), (0, xa 293)]) (st' := [xi 209, xi (xR m 1 3)]) (m' := m) (fun ex ns r q => ?_) ?_
  · refine xw_aload_n rfl rfl rfl ?_
    refine xw_gfR (n := 1) (e := 1) rfl (xw_obd (by decide +kernel)) (by decide +kernel) (by decide +kernel) rfl ?_
    refine xw_gfIc (v := (m 1 4)) (v' := (xR m 1 4)) rfl (xw_obd (by decide +kernel)) xk1_4 (qi := 4) rfl rfl rfl ?_
    refine xw_istore_n (L' := [(1, xi (xR m 1 4)), (0, xa 293)]) rfl (by decide) rfl ?_
    refine xw_aload_n rfl rfl rfl ?_
    refine xw_gfR (n := 1) (e := 1) rfl (xw_obd (by decide +kernel)) (by decide +kernel) (by decide +kernel) rfl ?_
    refine xw_gfIc (v := (m 1 3)) (v' := (xR m 1 3)) rfl (xw_obd (by decide +kernel)) xk1_3 (qi := 3) rfl rfl rfl ?_
    refine xw_istore_n (L' := [(2, xi (xR m 1 3)), (1, xi (xR m 1 4)), (0, xa 293)]) rfl (by decide) rfl ?_
    refine xw_iload_n rfl rfl ?_
    refine xw_sipush (e := 209) rfl (by decide +kernel) ?_
    exact q
  refine xS_if (fun h0 => ?_) (fun h0 => ?_)
  · refine xS_of (pc' := 30) (L' := [(0, xa 293), (1, xi (xR m 1 4))]) (st' := []) (m' := m) (fun ex ns r q => ?_) ?_
    · refine xw_ic_ltT rfl (w32_cg (w32_xR _ _ _)) (w32_cg rfl) h0 ?_
      refine xw_lo (L2 := [(0, xa 293), (1, xi (xR m 1 4))]) (List.forall_mem_cons.mpr ⟨rfl, List.forall_mem_cons.mpr ⟨rfl, fun _ h => absurd h List.not_mem_nil⟩⟩) ?_
      exact q
    exact ygk59_30 hB _ _ (w32_xR _ _ _)
  · refine xS_of (pc' := 27) (L' := [(2, xi (xR m 1 3)), (1, xi (xR m 1 4)), (0, xa 293)]) (st' := [xi 213, xi (xR m 1 3)]) (m' := m) (fun ex ns r q => ?_) ?_
    · refine xw_ic_ltF rfl (w32_cg (w32_xR _ _ _)) (w32_cg rfl) h0 ?_
      refine xw_iload_n rfl rfl ?_
      refine xw_sipush (e := 213) rfl (by decide +kernel) ?_
      exact q
    refine xS_if (fun h1 => ?_) (fun h1 => ?_)
    · refine xS_of (pc' := 30) (L' := [(0, xa 293), (1, xi (xR m 1 4))]) (st' := []) (m' := m) (fun ex ns r q => ?_) ?_
      · refine xw_ic_leF rfl (w32_cg (w32_xR _ _ _)) (w32_cg rfl) (Int.not_le.mpr h1) ?_
        refine xw_lo (L2 := [(0, xa 293), (1, xi (xR m 1 4))]) (List.forall_mem_cons.mpr ⟨rfl, List.forall_mem_cons.mpr ⟨rfl, fun _ h => absurd h List.not_mem_nil⟩⟩) ?_
        exact q
      exact ygk59_30 hB _ _ (w32_xR _ _ _)
    · refine xS_of (pc' := 73) (L' := [(0, xa 293), (1, xi (xR m 1 4)), (2, xi (xR m 1 3))]) (st' := [xi 24, xi (xR m 223 2), xa 293]) (m' := m) (fun ex ns r q => ?_) ?_
      · refine xw_ic_leT rfl (w32_cg (w32_xR _ _ _)) (w32_cg rfl) (Int.not_lt.mp h1) ?_
        refine xw_aload_n rfl rfl rfl ?_
        refine xw_aload_n rfl rfl rfl ?_
        refine xw_gfR (n := 223) (e := 223) rfl (xw_obd (by decide +kernel)) (by decide +kernel) (by decide +kernel) rfl ?_
        refine xw_gfIc (v := (m 223 2)) (v' := (xR m 223 2)) rfl (xw_obd (by decide +kernel)) xk4_2 (qi := 2) rfl rfl rfl ?_
        refine xw_bipush (e := 24) rfl (by decide +kernel) ?_
        refine xw_lo (L2 := [(0, xa 293), (1, xi (xR m 1 4)), (2, xi (xR m 1 3))]) (List.forall_mem_cons.mpr ⟨rfl, List.forall_mem_cons.mpr ⟨rfl, List.forall_mem_cons.mpr ⟨rfl, fun _ h => absurd h List.not_mem_nil⟩⟩⟩) ?_
        exact q
      refine xS_call (q := 64) (n := 3) (kq := 0) (as := [xa 293, xi (xR m 223 2), xi 24]) (st1 := []) rfl rfl rfl rfl rfl rfl rfl rfl rfl rfl (fun _ => xw_rcv1 (t := 5) (xw_obd (by decide +kernel)) rfl) rfl (List.forall_mem_cons.mpr ⟨rfl, List.forall_mem_cons.mpr ⟨rfl, List.forall_mem_cons.mpr ⟨rfl, fun _ h => absurd h List.not_mem_nil⟩⟩⟩) (ygf64 hB _ _ _ (w32_xR _ _ _) rfl) (fun v1 m1 cv1 => ?_)
      refine xS_of (pc' := 82) (L' := [(0, xa 293), (1, xi (xR m 1 4)), (2, xi (xR m 1 3))]) (st' := [xi 40, xa 1]) (m' := m1) (fun ex ns r q => ?_) ?_
      · refine xw_aload_n rfl rfl rfl ?_
        refine xw_gfR (n := 1) (e := 1) rfl (xw_obd (by decide +kernel)) (by decide +kernel) (by decide +kernel) rfl ?_
        refine xw_bipush (e := 40) rfl (by decide +kernel) ?_
        refine xw_lo (L2 := [(0, xa 293), (1, xi (xR m 1 4)), (2, xi (xR m 1 3))]) (List.forall_mem_cons.mpr ⟨rfl, List.forall_mem_cons.mpr ⟨rfl, List.forall_mem_cons.mpr ⟨rfl, fun _ h => absurd h List.not_mem_nil⟩⟩⟩) ?_
        exact q
      refine xS_call (q := 68) (n := 2) (kq := 0) (as := [xa 1, xi 40]) (st1 := []) rfl rfl rfl rfl rfl rfl rfl rfl rfl rfl (fun _ => xw_rcv1 (t := 1) (xw_obd (by decide +kernel)) rfl) rfl (List.forall_mem_cons.mpr ⟨rfl, List.forall_mem_cons.mpr ⟨rfl, fun _ h => absurd h List.not_mem_nil⟩⟩) (ygf68 hB _ _ rfl) (fun v2 m2 cv2 => ?_)
      refine xS_of (pc' := 91) (L' := [(3, xi 0), (0, xa 293), (1, xi (xR m 1 4)), (2, xi (xR m 1 3))]) (st' := [xi 211, xi (xR m 1 3)]) (m' := m2) (fun ex ns r q => ?_) ?_
      · refine xw_iconst rfl ?_
        refine xw_istore_n (L' := [(3, xi 0), (0, xa 293), (1, xi (xR m 1 4)), (2, xi (xR m 1 3))]) rfl (by decide) rfl ?_
        refine xw_iload_n rfl rfl ?_
        refine xw_sipush (e := 211) rfl (by decide +kernel) ?_
        exact q
      refine xS_if (fun h2 => ?_) (fun h2 => ?_)
      · refine xS_of (pc' := 100) (L' := [(0, xa 293), (1, xi (xR m 1 4)), (2, xi (xR m 1 3)), (3, xi 0)]) (st' := [xi 42, xa 1]) (m' := m2) (fun ex ns r q => ?_) ?_
        · refine xw_ic_neF rfl (w32_cg (w32_xR _ _ _)) (w32_cg rfl) h2 ?_
          refine xw_aload_n rfl rfl rfl ?_
          refine xw_gfR (n := 1) (e := 1) rfl (xw_obd (by decide +kernel)) (by decide +kernel) (by decide +kernel) rfl ?_
          refine xw_bipush (e := 42) rfl (by decide +kernel) ?_
          refine xw_lo (L2 := [(0, xa 293), (1, xi (xR m 1 4)), (2, xi (xR m 1 3)), (3, xi 0)]) (List.forall_mem_cons.mpr ⟨rfl, List.forall_mem_cons.mpr ⟨rfl, List.forall_mem_cons.mpr ⟨rfl, List.forall_mem_cons.mpr ⟨rfl, fun _ h => absurd h List.not_mem_nil⟩⟩⟩⟩) ?_
          exact q
        refine xS_call (q := 68) (n := 2) (kq := 0) (as := [xa 1, xi 42]) (st1 := []) rfl rfl rfl rfl rfl rfl rfl rfl rfl rfl (fun _ => xw_rcv1 (t := 1) (xw_obd (by decide +kernel)) rfl) rfl (List.forall_mem_cons.mpr ⟨rfl, List.forall_mem_cons.mpr ⟨rfl, fun _ h => absurd h List.not_mem_nil⟩⟩) (ygf68 hB _ _ rfl) (fun v3 m3 cv3 => ?_)
        refine xS_of (pc' := 136) (L' := [(0, xa 293), (1, xi (xR m 1 4)), (2, xi (xR m 1 3)), (3, xi 0)]) (st' := []) (m' := m3) (fun ex ns r q => ?_) ?_
        · refine xw_goto rfl ?_
          refine xw_lo (L2 := [(0, xa 293), (1, xi (xR m 1 4)), (2, xi (xR m 1 3)), (3, xi 0)]) (List.forall_mem_cons.mpr ⟨rfl, List.forall_mem_cons.mpr ⟨rfl, List.forall_mem_cons.mpr ⟨rfl, List.forall_mem_cons.mpr ⟨rfl, fun _ h => absurd h List.not_mem_nil⟩⟩⟩⟩) ?_
          exact q
        exact ygk59_136 hB _ _ _ _ (w32_xR _ _ _) (w32_xR _ _ _) rfl
      · refine xS_of (pc' := 110) (L' := [(0, xa 293), (1, xi (xR m 1 4)), (2, xi (xR m 1 3))]) (st' := [xa 1]) (m' := m2) (fun ex ns r q => ?_) ?_
        · refine xw_ic_neT rfl (w32_cg (w32_xR _ _ _)) (w32_cg rfl) h2 ?_
          refine xw_aload_n rfl rfl rfl ?_
          refine xw_gfR (n := 1) (e := 1) rfl (xw_obd (by decide +kernel)) (by decide +kernel) (by decide +kernel) rfl ?_
          refine xw_lo (L2 := [(0, xa 293), (1, xi (xR m 1 4)), (2, xi (xR m 1 3))]) (List.forall_mem_cons.mpr ⟨rfl, List.forall_mem_cons.mpr ⟨rfl, List.forall_mem_cons.mpr ⟨rfl, fun _ h => absurd h List.not_mem_nil⟩⟩⟩) ?_
          exact q
        refine xS_call (q := 47) (n := 1) (kq := 0) (as := [xa 1]) (st1 := []) rfl rfl rfl rfl rfl rfl rfl rfl rfl rfl (fun _ => xw_rcv1 (t := 1) (xw_obd (by decide +kernel)) rfl) rfl (List.forall_mem_cons.mpr ⟨rfl, fun _ h => absurd h List.not_mem_nil⟩) (ygf47 hB _) (fun v4 m4 cv4 => ?_)
        refine xS_of (pc' := 117) (L' := [(0, xa 293), (1, xi (xR m 1 4)), (2, xi (xR m 1 3))]) (st' := [xi 209, xi (xR m 1 3)]) (m' := m4) (fun ex ns r q => ?_) ?_
        · refine xw_iload_n rfl rfl ?_
          refine xw_sipush (e := 209) rfl (by decide +kernel) ?_
          exact q
        refine xS_if (fun h3 => ?_) (fun h3 => ?_)
        · refine xS_of (pc' := 122) (L' := [(0, xa 293), (1, xi (xR m 1 4)), (2, xi (xR m 1 3))]) (st' := [xa 293, xa 293]) (m' := m4) (fun ex ns r q => ?_) ?_
          · refine xw_ic_neF rfl (w32_cg (w32_xR _ _ _)) (w32_cg rfl) h3 ?_
            refine xw_aload_n rfl rfl rfl ?_
            refine xw_aload_n rfl rfl rfl ?_
            refine xw_lo (L2 := [(0, xa 293), (1, xi (xR m 1 4)), (2, xi (xR m 1 3))]) (List.forall_mem_cons.mpr ⟨rfl, List.forall_mem_cons.mpr ⟨rfl, List.forall_mem_cons.mpr ⟨rfl, fun _ h => absurd h List.not_mem_nil⟩⟩⟩) ?_
            exact q
          refine xS_call (q := 60) (n := 1) (kq := 1) (as := [xa 293]) (st1 := [xa 293]) rfl rfl rfl rfl rfl rfl rfl rfl rfl rfl (fun _ => xw_rcv1 (t := 5) (xw_obd (by decide +kernel)) rfl) rfl (List.forall_mem_cons.mpr ⟨rfl, fun _ h => absurd h List.not_mem_nil⟩) (ygf60 hB _) (fun v5 m5 cv5 => ?_)
          refine xS_of (pc' := 125) (L' := [(0, xa 293), (1, xi (xR m 1 4)), (2, xi (xR m 1 3))]) (st' := [xi v5, xa 293]) (m' := m5) (fun ex ns r q => ?_) ?_
          · refine xw_lo (L2 := [(0, xa 293), (1, xi (xR m 1 4)), (2, xi (xR m 1 3))]) (List.forall_mem_cons.mpr ⟨rfl, List.forall_mem_cons.mpr ⟨rfl, List.forall_mem_cons.mpr ⟨rfl, fun _ h => absurd h List.not_mem_nil⟩⟩⟩) ?_
            exact q
          refine xS_call (q := 65) (n := 2) (kq := 1) (as := [xa 293, xi v5]) (st1 := []) rfl rfl rfl rfl rfl rfl rfl rfl rfl rfl (fun _ => xw_rcv1 (t := 5) (xw_obd (by decide +kernel)) rfl) rfl (List.forall_mem_cons.mpr ⟨rfl, List.forall_mem_cons.mpr ⟨rfl, fun _ h => absurd h List.not_mem_nil⟩⟩) (ygf65 hB _ _ cv5) (fun v6 m6 cv6 => ?_)
          refine xS_of (pc' := 136) (L' := [(0, xa 293), (1, xi (xR m 1 4)), (2, xi (xR m 1 3)), (3, xi v6)]) (st' := []) (m' := m6) (fun ex ns r q => ?_) ?_
          · refine xw_goto rfl ?_
            refine xw_istore_n (L' := [(3, xi v6), (0, xa 293), (1, xi (xR m 1 4)), (2, xi (xR m 1 3))]) rfl (by decide) rfl ?_
            refine xw_lo (L2 := [(0, xa 293), (1, xi (xR m 1 4)), (2, xi (xR m 1 3)), (3, xi v6)]) (List.forall_mem_cons.mpr ⟨rfl, List.forall_mem_cons.mpr ⟨rfl, List.forall_mem_cons.mpr ⟨rfl, List.forall_mem_cons.mpr ⟨rfl, fun _ h => absurd h List.not_mem_nil⟩⟩⟩⟩) ?_
            exact q
          exact ygk59_136 hB _ _ _ _ (w32_xR _ _ _) (w32_xR _ _ _) cv6
        · refine xS_of (pc' := 132) (L' := [(0, xa 293), (1, xi (xR m 1 4)), (2, xi (xR m 1 3))]) (st' := [xa 293]) (m' := m4) (fun ex ns r q => ?_) ?_
          · refine xw_ic_neT rfl (w32_cg (w32_xR _ _ _)) (w32_cg rfl) h3 ?_
            refine xw_aload_n rfl rfl rfl ?_
            refine xw_lo (L2 := [(0, xa 293), (1, xi (xR m 1 4)), (2, xi (xR m 1 3))]) (List.forall_mem_cons.mpr ⟨rfl, List.forall_mem_cons.mpr ⟨rfl, List.forall_mem_cons.mpr ⟨rfl, fun _ h => absurd h List.not_mem_nil⟩⟩⟩) ?_
            exact q
          refine xS_call (q := 69) (n := 1) (kq := 1) (as := [xa 293]) (st1 := []) rfl rfl rfl rfl rfl rfl rfl rfl rfl rfl (fun _ => xw_rcv1 (t := 5) (xw_obd (by decide +kernel)) rfl) rfl (List.forall_mem_cons.mpr ⟨rfl, fun _ h => absurd h List.not_mem_nil⟩) (ygf69 hB _) (fun v7 m7 cv7 => ?_)
          refine xS_of (pc' := 136) (L' := [(0, xa 293), (1, xi (xR m 1 4)), (2, xi (xR m 1 3)), (3, xi v7)]) (st' := []) (m' := m7) (fun ex ns r q => ?_) ?_
          · refine xw_istore_n (L' := [(3, xi v7), (0, xa 293), (1, xi (xR m 1 4)), (2, xi (xR m 1 3))]) rfl (by decide) rfl ?_
            refine xw_lo (L2 := [(0, xa 293), (1, xi (xR m 1 4)), (2, xi (xR m 1 3)), (3, xi v7)]) (List.forall_mem_cons.mpr ⟨rfl, List.forall_mem_cons.mpr ⟨rfl, List.forall_mem_cons.mpr ⟨rfl, List.forall_mem_cons.mpr ⟨rfl, fun _ h => absurd h List.not_mem_nil⟩⟩⟩⟩) ?_
            exact q
          exact ygk59_136 hB _ _ _ _ (w32_xR _ _ _) (w32_xR _ _ _) cv7
theorem ygk72_37 {B : Nat} (hB : B ≤ 512) {xs : Nat → Int32} {SL d : Nat} : ∀ m, xS B xs SL (d + 0) 72 (1, none, [], 6) 0 37 [(0, xa 293)] [] m (yk72_37 B m) := by
  intro m
  unfold yk72_37
  refine xS_of (pc' := 44) (L' := [(0, xa 293)]) (st' := [xi 164, xi (xR m 293 4)]) (m' := m) (fun ex ns r q => ?_) ?_
  · refine xw_aload_n rfl rfl rfl ?_
    refine xw_gfIc (v := (m 293 4)) (v' := (xR m 293 4)) rfl (xw_obd (by decide +kernel)) xk5_4 (qi := 4) rfl rfl rfl ?_
    refine xw_sipush (e := 164) rfl (by decide +kernel) ?_
    exact q
  refine xS_if (fun h0 => ?_) (fun h0 => ?_)
  · refine xS_g (fun g1 => ?_)
    refine xS_of (pc' := 66) (L' := [(0, xa 293)]) (st' := []) (m' := (xw_u (xw_u m 293 4 ((xR m 293 4) + 1)) 294 (xR m 293 4) 216)) (fun ex ns r q => ?_) ?_
    · refine xw_ic_geF rfl (w32_cg (w32_xR _ _ _)) (w32_cg rfl) (Int.not_le.mpr h0) ?_
      refine xw_aload_n rfl rfl rfl ?_
      refine xw_gfR (n := 294) (e := 294) rfl (xw_obd (by decide +kernel)) (by decide +kernel) (by decide +kernel) rfl ?_
      refine xw_aload_n rfl rfl rfl ?_
      refine xw_dup rfl rfl ?_
      refine xw_gfIc (v := (m 293 4)) (v' := (xR m 293 4)) rfl (xw_obd (by decide +kernel)) xk5_4 (qi := 4) rfl rfl rfl ?_
      refine xw_dup_x1 rfl rfl ?_
      refine xw_iconst rfl ?_
      refine xw_iadd rfl ?_
      refine xw_pfI rfl (xw_obd (by decide +kernel)) xk5_4 (qi := 4) rfl (xw_okI rfl) ?_
      refine xw_sipush (e := 216) rfl (by decide +kernel) ?_
      refine xw_iast (n := 164) rfl hB (xw_obd (by decide +kernel)) rfl g1 ?_
      exact q
    exact xS_ret (v := 0) rfl rfl rfl rfl
  · refine xS_of (pc' := 66) (L' := [(0, xa 293)]) (st' := []) (m' := m) (fun ex ns r q => ?_) ?_
    · refine xw_ic_geT rfl (w32_cg (w32_xR _ _ _)) (w32_cg rfl) (Int.not_lt.mp h0) ?_
      exact q
    exact xS_ret (v := 0) rfl rfl rfl rfl
theorem ygf72 {B : Nat} (hB : B ≤ 512) {xs : Nat → Int32} {SL d : Nat} : ∀ m, xS B xs SL (d + 0) 72 (1, none, [], 6) 0 0 [(0, xa 293)] [] m (yf72 B m) := by
  intro m
  unfold yf72
  refine xS_of (pc' := 4) (L' := [(0, xa 293)]) (st' := [xi (xR m 293 4)]) (m' := m) (fun ex ns r q => ?_) ?_
  · refine xw_aload_n rfl rfl rfl ?_
    refine xw_gfIc (v := (m 293 4)) (v' := (xR m 293 4)) rfl (xw_obd (by decide +kernel)) xk5_4 (qi := 4) rfl rfl rfl ?_
    exact q
  refine xS_if (fun h0 => ?_) (fun h0 => ?_)
  · refine xS_g (fun g1 => ?_)
    refine xS_of (pc' := 21) (L' := [(0, xa 293)]) (st' := [xi 216, xi (xR m 294 ((xR m 293 4) - 1))]) (m' := m) (fun ex ns r q => ?_) ?_
    · refine xw_if_leF rfl (w32_cg (w32_xR _ _ _)) (Int.not_le.mpr h0) ?_
      refine xw_aload_n rfl rfl rfl ?_
      refine xw_gfR (n := 294) (e := 294) rfl (xw_obd (by decide +kernel)) (by decide +kernel) (by decide +kernel) rfl ?_
      refine xw_aload_n rfl rfl rfl ?_
      refine xw_gfIc (v := (m 293 4)) (v' := (xR m 293 4)) rfl (xw_obd (by decide +kernel)) xk5_4 (qi := 4) rfl rfl rfl ?_
      refine xw_iconst rfl ?_
      refine xw_isub rfl ?_
      refine xw_ialdc (n := 164) (v := (m 294 ((xR m 293 4) - 1))) (v' := (xR m 294 ((xR m 293 4) - 1))) rfl hB (xw_obd (by decide +kernel)) rfl g1 rfl rfl ?_
      refine xw_sipush (e := 216) rfl (by decide +kernel) ?_
      exact q
    refine xS_if (fun h2 => ?_) (fun h2 => ?_)
    · refine xS_of (pc' := 66) (L' := [(0, xa 293)]) (st' := []) (m' := (xw_u m 293 4 ((xR m 293 4) - 1))) (fun ex ns r q => ?_) ?_
      · refine xw_ic_neF rfl (w32_cg (w32_xR _ _ _)) (w32_cg rfl) h2 ?_
        refine xw_aload_n rfl rfl rfl ?_
        refine xw_dup rfl rfl ?_
        refine xw_gfIc (v := (m 293 4)) (v' := (xR m 293 4)) rfl (xw_obd (by decide +kernel)) xk5_4 (qi := 4) rfl rfl rfl ?_
        refine xw_iconst rfl ?_
        refine xw_isub rfl ?_
        refine xw_pfI rfl (xw_obd (by decide +kernel)) xk5_4 (qi := 4) rfl (xw_okI rfl) ?_
        refine xw_goto rfl ?_
        exact q
      exact xS_ret (v := 0) rfl rfl rfl rfl
    · refine xS_of (pc' := 37) (L' := [(0, xa 293)]) (st' := []) (m' := m) (fun ex ns r q => ?_) ?_
      · refine xw_ic_neT rfl (w32_cg (w32_xR _ _ _)) (w32_cg rfl) h2 ?_
        refine xw_lo (L2 := [(0, xa 293)]) (List.forall_mem_cons.mpr ⟨rfl, fun _ h => absurd h List.not_mem_nil⟩) ?_
        exact q
      exact ygk72_37 hB _
  · refine xS_of (pc' := 37) (L' := [(0, xa 293)]) (st' := []) (m' := m) (fun ex ns r q => ?_) ?_
    · refine xw_if_leT rfl (w32_cg (w32_xR _ _ _)) (Int.not_lt.mp h0) ?_
      refine xw_lo (L2 := [(0, xa 293)]) (List.forall_mem_cons.mpr ⟨rfl, fun _ h => absurd h List.not_mem_nil⟩) ?_
      exact q
    exact ygk72_37 hB _
theorem ygf75 {B : Nat} (hB : B ≤ 512) {xs : Nat → Int32} {SL d : Nat} : ∀ p0 m, w32 p0 = p0 → xS B xs SL (d + 0) 75 (3, none, [], 5) 0 0 [(0, xa 223), (1, xi p0)] [] m (yf75 B p0 m) := by
  intro p0 m cp0
  unfold yf75
  refine xS_g (fun g0 => ?_)
  refine xS_g (fun g1 => ?_)
  refine xS_of (pc' := 22) (L' := [(2, xi (p0 / 4)), (0, xa 223), (1, xi p0)]) (st' := []) (m' := (xw_u m 292 (p0 / 4) (min (xR m 292 (p0 / 4)) (p0 % 4)))) (fun ex ns r q => ?_) ?_
  · refine xw_iload_n rfl rfl ?_
    refine xw_iconst rfl ?_
    refine xw_idiv (z := (p0 / 4)) rfl (xw_idivn ⟨(by decide), (w32_cg rfl).2⟩) (xw_idive ⟨g0, (w32_cg cp0).2⟩ ⟨(by decide), (w32_cg rfl).2⟩) ?_
    refine xw_istore_n (L' := [(2, xi (p0 / 4)), (0, xa 223), (1, xi p0)]) rfl (by decide) rfl ?_
    refine xw_aload_n rfl rfl rfl ?_
    refine xw_gfR (n := 292) (e := 292) rfl (xw_obd (by decide +kernel)) (by decide +kernel) (by decide +kernel) rfl ?_
    refine xw_iload_n rfl rfl ?_
    refine xw_aload_n rfl rfl rfl ?_
    refine xw_gfR (n := 292) (e := 292) rfl (xw_obd (by decide +kernel)) (by decide +kernel) (by decide +kernel) rfl ?_
    refine xw_iload_n rfl rfl ?_
    refine xw_ialdc (n := 8) (v := (m 292 (p0 / 4))) (v' := (xR m 292 (p0 / 4))) rfl hB (xw_obd (by decide +kernel)) rfl g1 rfl rfl ?_
    refine xw_iload_n rfl rfl ?_
    refine xw_iconst rfl ?_
    refine xw_irem (z := (p0 % 4)) rfl (xw_iremn ⟨(by decide), (w32_cg rfl).2⟩) (xw_ireme ⟨g0, (w32_cg cp0).2⟩ ⟨(by decide), (w32_cg rfl).2⟩) ?_
    refine xw_minI rfl rfl (w32_cg (w32_xR _ _ _)) (w32_cg (w32_md rfl ⟨g0, (by decide)⟩)) rfl ?_
    refine xw_iast (n := 8) rfl hB (xw_obd (by decide +kernel)) rfl g1 ?_
    exact q
  exact xS_ret (v := 0) rfl rfl rfl rfl
theorem ysl76_5 {B : Nat} (hB : B ≤ 512) {xs : Nat → Int32} {SL d : Nat} {r5 : Int → Int → Int → Int → xw_M → xP} (hr5 : ∀ x0 x1 x2 x3 m, w32 x1 = x1 → w32 x2 = x2 → w32 x3 = x3 → xS B xs SL (d + 0) 76 (4, none, [], 0) 0 5 [(0, xa x0), (1, xi x1), (2, xi x2), (3, xi x3)] [] m (r5 x0 x1 x2 x3 m)) : ∀ x0 x1 x2 x3 m, w32 x1 = x1 → w32 x2 = x2 → w32 x3 = x3 → xS B xs SL (d + 0) 76 (4, none, [], 0) 0 5 [(0, xa x0), (1, xi x1), (2, xi x2), (3, xi x3)] [] m (yl76_5 B r5 x0 x1 x2 x3 m) := by
  intro x0 x1 x2 x3 m c1 c2 c3
  unfold yl76_5
  refine xS_of (pc' := 7) (L' := [(0, xa x0), (1, xi x1), (2, xi x2), (3, xi x3)]) (st' := [xi x3, xi x2]) (m' := m) (fun ex ns r q => ?_) ?_
  · refine xw_iload_n rfl rfl ?_
    refine xw_iload_n rfl rfl ?_
    exact q
  refine xS_if (fun h0 => ?_) (fun h0 => ?_)
  · refine xS_g (fun g1 => ?_)
    refine xS_g (fun g2 => ?_)
    refine xS_of (pc' := 5) (L' := [(0, xa x0), (1, xi x1), (2, xi (w32 (x2 + 1))), (3, xi x3)]) (st' := []) (m' := (xw_u m x0 x2 (w8 x1))) (fun ex ns r q => ?_) ?_
    · refine xw_ic_geF rfl (w32_cg c2) (w32_cg c3) (Int.not_le.mpr h0) ?_
      refine xw_aload_n rfl rfl rfl ?_
      refine xw_iload_n rfl rfl ?_
      refine xw_iload_n rfl rfl ?_
      refine xw_bastc (n := (xw_le B x0)) rfl hB (xw_obd g2) rfl g1 ?_
      refine xw_iincc (z := (w32 (x2 + 1))) (L' := [(2, xi (w32 (x2 + 1))), (0, xa x0), (1, xi x1), (3, xi x3)]) rfl rfl (by decide) rfl rfl ?_
      refine xw_goto rfl ?_
      refine xw_lo (L2 := [(0, xa x0), (1, xi x1), (2, xi (w32 (x2 + 1))), (3, xi x3)]) (List.forall_mem_cons.mpr ⟨rfl, List.forall_mem_cons.mpr ⟨rfl, List.forall_mem_cons.mpr ⟨rfl, List.forall_mem_cons.mpr ⟨rfl, fun _ h => absurd h List.not_mem_nil⟩⟩⟩⟩) ?_
      exact q
    exact hr5 _ _ _ _ _ c1 (w32_w _) c3
  · refine xS_of (pc' := 20) (L' := [(0, xa x0), (1, xi x1), (2, xi x2), (3, xi x3)]) (st' := []) (m' := m) (fun ex ns r q => ?_) ?_
    · refine xw_ic_geT rfl (w32_cg c2) (w32_cg c3) (Int.not_lt.mp h0) ?_
      exact q
    exact xS_ret (v := 0) rfl rfl rfl rfl
theorem ygl76_5 {B : Nat} (hB : B ≤ 512) {xs : Nat → Int32} {SL d : Nat} : ∀ n x0 x1 x2 x3 m, w32 x1 = x1 → w32 x2 = x2 → w32 x3 = x3 → xS B xs SL (d + 0) 76 (4, none, [], 0) 0 5 [(0, xa x0), (1, xi x1), (2, xi x2), (3, xi x3)] [] m (xl4 (yl76_5 B) n x0 x1 x2 x3 m) := by
  intro n
  induction n with
  | zero => intro x0 x1 x2 x3 m c1 c2 c3; exact xS_none
  | succ n ih => exact ysl76_5 hB ih
theorem ygf76 {B : Nat} (hB : B ≤ 512) {xs : Nat → Int32} {SL d : Nat} : ∀ p0 p1 m, w32 p1 = p1 → xS B xs SL (d + 0) 76 (4, none, [], 0) 0 0 [(0, xa p0), (1, xi p1)] [] m (yf76 B p0 p1 m) := by
  intro p0 p1 m cp1
  unfold yf76
  refine xS_g (fun g0 => ?_)
  refine xS_of (pc' := 5) (L' := [(0, xa p0), (1, xi p1), (2, xi 0), (3, xi (w32 (xw_le B p0)))]) (st' := []) (m' := m) (fun ex ns r q => ?_) ?_
  · refine xw_iconst rfl ?_
    refine xw_istore_n (L' := [(2, xi 0), (0, xa p0), (1, xi p1)]) rfl (by decide) rfl ?_
    refine xw_aload_n rfl rfl rfl ?_
    refine xw_lenr (t := 18) rfl (xw_obd g0) (by decide) rfl ?_
    refine xw_cst (st' := [xi (w32 (xw_le B p0))]) (xw_sc (xi_c rfl) rfl) ?_
    refine xw_istore_n (L' := [(3, xi (w32 (xw_le B p0))), (2, xi 0), (0, xa p0), (1, xi p1)]) rfl (by decide) rfl ?_
    refine xw_lo (L2 := [(0, xa p0), (1, xi p1), (2, xi 0), (3, xi (w32 (xw_le B p0)))]) (List.forall_mem_cons.mpr ⟨rfl, List.forall_mem_cons.mpr ⟨rfl, List.forall_mem_cons.mpr ⟨rfl, List.forall_mem_cons.mpr ⟨rfl, fun _ h => absurd h List.not_mem_nil⟩⟩⟩⟩) ?_
    exact q
  exact ygl76_5 hB 1000000 _ _ _ _ _ cp1 rfl (w32_w _)
theorem ygk77_44 {B : Nat} (hB : B ≤ 512) {xs : Nat → Int32} {SL d : Nat} : ∀ x1 m, w32 x1 = x1 → xS B xs SL (d + 0) 77 (2, none, [], 5) 0 44 [(0, xa 223), (1, xi x1)] [] m (yk77_44 B x1 m) := by
  intro x1 m c1
  unfold yk77_44
  refine xS_of (pc' := 51) (L' := [(0, xa 223), (1, xi x1)]) (st' := [xi 240, xi (xR m 223 13)]) (m' := m) (fun ex ns r q => ?_) ?_
  · refine xw_aload_n rfl rfl rfl ?_
    refine xw_gfIc (v := (m 223 13)) (v' := (xR m 223 13)) rfl (xw_obd (by decide +kernel)) xk4_13 (qi := 13) rfl rfl rfl ?_
    refine xw_sipush (e := 240) rfl (by decide +kernel) ?_
    exact q
  refine xS_if (fun h0 => ?_) (fun h0 => ?_)
  · refine xS_g (fun g1 => ?_)
    refine xS_of (pc' := 71) (L' := [(0, xa 223), (1, xi x1)]) (st' := []) (m' := (xw_u (xw_u m 223 13 ((xR m 223 13) + 1)) 291 (xR m 223 13) x1)) (fun ex ns r q => ?_) ?_
    · refine xw_ic_geF rfl (w32_cg (w32_xR _ _ _)) (w32_cg rfl) (Int.not_le.mpr h0) ?_
      refine xw_aload_n rfl rfl rfl ?_
      refine xw_gfR (n := 291) (e := 291) rfl (xw_obd (by decide +kernel)) (by decide +kernel) (by decide +kernel) rfl ?_
      refine xw_aload_n rfl rfl rfl ?_
      refine xw_dup rfl rfl ?_
      refine xw_gfIc (v := (m 223 13)) (v' := (xR m 223 13)) rfl (xw_obd (by decide +kernel)) xk4_13 (qi := 13) rfl rfl rfl ?_
      refine xw_dup_x1 rfl rfl ?_
      refine xw_iconst rfl ?_
      refine xw_iadd rfl ?_
      refine xw_pfI rfl (xw_obd (by decide +kernel)) xk4_13 (qi := 13) rfl (xw_okI rfl) ?_
      refine xw_iload_n rfl rfl ?_
      refine xw_iast (n := 240) rfl hB (xw_obd (by decide +kernel)) rfl g1 ?_
      exact q
    exact xS_ret (v := 0) rfl rfl rfl rfl
  · refine xS_of (pc' := 71) (L' := [(0, xa 223), (1, xi x1)]) (st' := []) (m' := m) (fun ex ns r q => ?_) ?_
    · refine xw_ic_geT rfl (w32_cg (w32_xR _ _ _)) (w32_cg rfl) (Int.not_lt.mp h0) ?_
      exact q
    exact xS_ret (v := 0) rfl rfl rfl rfl
theorem ygf77 {B : Nat} (hB : B ≤ 512) {xs : Nat → Int32} {SL d : Nat} : ∀ p0 m, w32 p0 = p0 → xS B xs SL (d + 0) 77 (2, none, [], 5) 0 0 [(0, xa 223), (1, xi p0)] [] m (yf77 B p0 m) := by
  intro p0 m cp0
  unfold yf77
  refine xS_of (pc' := 4) (L' := [(0, xa 223), (1, xi p0)]) (st' := [xi 216, xi p0]) (m' := m) (fun ex ns r q => ?_) ?_
  · refine xw_iload_n rfl rfl ?_
    refine xw_sipush (e := 216) rfl (by decide +kernel) ?_
    exact q
  refine xS_if (fun h0 => ?_) (fun h0 => ?_)
  · refine xS_of (pc' := 11) (L' := [(0, xa 223), (1, xi p0)]) (st' := [xi (xR m 223 13)]) (m' := m) (fun ex ns r q => ?_) ?_
    · refine xw_ic_neF rfl (w32_cg cp0) (w32_cg rfl) h0 ?_
      refine xw_aload_n rfl rfl rfl ?_
      refine xw_gfIc (v := (m 223 13)) (v' := (xR m 223 13)) rfl (xw_obd (by decide +kernel)) xk4_13 (qi := 13) rfl rfl rfl ?_
      exact q
    refine xS_if (fun h1 => ?_) (fun h1 => ?_)
    · refine xS_g (fun g2 => ?_)
      refine xS_of (pc' := 28) (L' := [(0, xa 223), (1, xi p0)]) (st' := [xi 216, xi (xR m 291 ((xR m 223 13) - 1))]) (m' := m) (fun ex ns r q => ?_) ?_
      · refine xw_if_leF rfl (w32_cg (w32_xR _ _ _)) (Int.not_le.mpr h1) ?_
        refine xw_aload_n rfl rfl rfl ?_
        refine xw_gfR (n := 291) (e := 291) rfl (xw_obd (by decide +kernel)) (by decide +kernel) (by decide +kernel) rfl ?_
        refine xw_aload_n rfl rfl rfl ?_
        refine xw_gfIc (v := (m 223 13)) (v' := (xR m 223 13)) rfl (xw_obd (by decide +kernel)) xk4_13 (qi := 13) rfl rfl rfl ?_
        refine xw_iconst rfl ?_
        refine xw_isub rfl ?_
        refine xw_ialdc (n := 240) (v := (m 291 ((xR m 223 13) - 1))) (v' := (xR m 291 ((xR m 223 13) - 1))) rfl hB (xw_obd (by decide +kernel)) rfl g2 rfl rfl ?_
        refine xw_sipush (e := 216) rfl (by decide +kernel) ?_
        exact q
      refine xS_if (fun h3 => ?_) (fun h3 => ?_)
      · refine xS_of (pc' := 71) (L' := [(0, xa 223), (1, xi p0)]) (st' := []) (m' := (xw_u m 223 13 ((xR m 223 13) - 1))) (fun ex ns r q => ?_) ?_
        · refine xw_ic_neF rfl (w32_cg (w32_xR _ _ _)) (w32_cg rfl) h3 ?_
          refine xw_aload_n rfl rfl rfl ?_
          refine xw_dup rfl rfl ?_
          refine xw_gfIc (v := (m 223 13)) (v' := (xR m 223 13)) rfl (xw_obd (by decide +kernel)) xk4_13 (qi := 13) rfl rfl rfl ?_
          refine xw_iconst rfl ?_
          refine xw_isub rfl ?_
          refine xw_pfI rfl (xw_obd (by decide +kernel)) xk4_13 (qi := 13) rfl (xw_okI rfl) ?_
          refine xw_goto rfl ?_
          exact q
        exact xS_ret (v := 0) rfl rfl rfl rfl
      · refine xS_of (pc' := 44) (L' := [(0, xa 223), (1, xi p0)]) (st' := []) (m' := m) (fun ex ns r q => ?_) ?_
        · refine xw_ic_neT rfl (w32_cg (w32_xR _ _ _)) (w32_cg rfl) h3 ?_
          refine xw_lo (L2 := [(0, xa 223), (1, xi p0)]) (List.forall_mem_cons.mpr ⟨rfl, List.forall_mem_cons.mpr ⟨rfl, fun _ h => absurd h List.not_mem_nil⟩⟩) ?_
          exact q
        exact ygk77_44 hB _ _ cp0
    · refine xS_of (pc' := 44) (L' := [(0, xa 223), (1, xi p0)]) (st' := []) (m' := m) (fun ex ns r q => ?_) ?_
      · refine xw_if_leT rfl (w32_cg (w32_xR _ _ _)) (Int.not_lt.mp h1) ?_
        refine xw_lo (L2 := [(0, xa 223), (1, xi p0)]) (List.forall_mem_cons.mpr ⟨rfl, List.forall_mem_cons.mpr ⟨rfl, fun _ h => absurd h List.not_mem_nil⟩⟩) ?_
        exact q
      exact ygk77_44 hB _ _ cp0
  · refine xS_of (pc' := 44) (L' := [(0, xa 223), (1, xi p0)]) (st' := []) (m' := m) (fun ex ns r q => ?_) ?_
    · refine xw_ic_neT rfl (w32_cg cp0) (w32_cg rfl) h0 ?_
      refine xw_lo (L2 := [(0, xa 223), (1, xi p0)]) (List.forall_mem_cons.mpr ⟨rfl, List.forall_mem_cons.mpr ⟨rfl, fun _ h => absurd h List.not_mem_nil⟩⟩) ?_
      exact q
    exact ygk77_44 hB _ _ cp0
theorem ygf74 {B : Nat} (hB : B ≤ 512) {xs : Nat → Int32} {SL d : Nat} : ∀ p0 m, w32 p0 = p0 → xS B xs SL (d + 1) 74 (2, none, [], 5) 0 0 [(0, xa 223), (1, xi p0)] [] m (yf74 B p0 m) := by
  intro p0 m cp0
  unfold yf74
  refine xS_of (pc' := 2) (L' := [(0, xa 223), (1, xi p0)]) (st' := [xi p0, xa 223]) (m' := m) (fun ex ns r q => ?_) ?_
  · refine xw_aload_n rfl rfl rfl ?_
    refine xw_iload_n rfl rfl ?_
    refine xw_lo (L2 := [(0, xa 223), (1, xi p0)]) (List.forall_mem_cons.mpr ⟨rfl, List.forall_mem_cons.mpr ⟨rfl, fun _ h => absurd h List.not_mem_nil⟩⟩) ?_
    exact q
  refine xS_call (q := 75) (n := 2) (kq := 0) (as := [xa 223, xi p0]) (st1 := []) rfl rfl rfl rfl rfl rfl rfl rfl rfl rfl (fun _ => xw_rcv1 (t := 4) (xw_obd (by decide +kernel)) rfl) rfl (List.forall_mem_cons.mpr ⟨rfl, List.forall_mem_cons.mpr ⟨rfl, fun _ h => absurd h List.not_mem_nil⟩⟩) (ygf75 hB _ _ cp0) (fun v1 m1 cv1 => ?_)
  refine xS_g (fun g0 => ?_)
  refine xS_of (pc' := 25) (L' := [(0, xa 223)]) (st' := [xi 0, xa (231 + (xR m1 223 10))]) (m' := (xw_u m1 229 (xR m1 223 10) p0)) (fun ex ns r q => ?_) ?_
  · refine xw_aload_n rfl rfl rfl ?_
    refine xw_gfR (n := 229) (e := 229) rfl (xw_obd (by decide +kernel)) (by decide +kernel) (by decide +kernel) rfl ?_
    refine xw_aload_n rfl rfl rfl ?_
    refine xw_gfIc (v := (m1 223 10)) (v' := (xR m1 223 10)) rfl (xw_obd (by decide +kernel)) xk4_10 (qi := 10) rfl rfl rfl ?_
    refine xw_iload_n rfl rfl ?_
    refine xw_iast (n := 60) rfl hB (xw_obd (by decide +kernel)) rfl g0 ?_
    refine xw_aload_n rfl rfl rfl ?_
    refine xw_gfR (n := 230) (e := 230) rfl (xw_obd (by decide +kernel)) (by decide +kernel) (by decide +kernel) rfl ?_
    refine xw_aload_n rfl rfl rfl ?_
    refine xw_gfIc (v := (m1 223 10)) (v' := (xR m1 223 10)) rfl (xw_obd (by decide +kernel)) xk4_10 (qi := 10) rfl (xw_un (fun e => absurd e.1 (by decide)) rfl) rfl ?_
    refine xw_aald (t := 22) (n := 60) (q := 231 + 1 * ((xR m1 223 10)).toNat) (e := (231 + (xR m1 223 10))) rfl hB (xw_obd (by decide +kernel)) (by decide) rfl g0 (show 236 + 1 * ((xR m1 223 10) : Int).toNat = 231 + 1 * ((xR m1 223 10) : Int).toNat + 5 from by omega) (by have := g0; omega) ?_
    refine xw_iconst rfl ?_
    refine xw_lo (L2 := [(0, xa 223)]) (List.forall_mem_cons.mpr ⟨rfl, fun _ h => absurd h List.not_mem_nil⟩) ?_
    exact q
  refine xS_call (q := 76) (n := 2) (kq := 0) (as := [xa (231 + (xR m1 223 10)), xi 0]) (st1 := []) rfl rfl rfl rfl rfl rfl rfl rfl rfl rfl (fun _ => xw_rcv0 rfl) rfl (List.forall_mem_cons.mpr ⟨rfl, List.forall_mem_cons.mpr ⟨rfl, fun _ h => absurd h List.not_mem_nil⟩⟩) (ygf76 hB _ _ _ rfl) (fun v2 m2 cv2 => ?_)
  refine xS_of (pc' := 33) (L' := [(0, xa 223)]) (st' := [xi (xR m2 223 10), xa 223]) (m' := m2) (fun ex ns r q => ?_) ?_
  · refine xw_aload_n rfl rfl rfl ?_
    refine xw_aload_n rfl rfl rfl ?_
    refine xw_gfIc (v := (m2 223 10)) (v' := (xR m2 223 10)) rfl (xw_obd (by decide +kernel)) xk4_10 (qi := 10) rfl rfl rfl ?_
    refine xw_lo (L2 := [(0, xa 223)]) (List.forall_mem_cons.mpr ⟨rfl, fun _ h => absurd h List.not_mem_nil⟩) ?_
    exact q
  refine xS_call (q := 77) (n := 2) (kq := 0) (as := [xa 223, xi (xR m2 223 10)]) (st1 := []) rfl rfl rfl rfl rfl rfl rfl rfl rfl rfl (fun _ => xw_rcv1 (t := 4) (xw_obd (by decide +kernel)) rfl) rfl (List.forall_mem_cons.mpr ⟨rfl, List.forall_mem_cons.mpr ⟨rfl, fun _ h => absurd h List.not_mem_nil⟩⟩) (ygf77 hB _ _ (w32_xR _ _ _)) (fun v3 m3 cv3 => ?_)
  refine xS_of (pc' := 46) (L' := [(0, xa 223)]) (st' := []) (m' := (xw_u m3 223 10 ((xR m3 223 10) + 1))) (fun ex ns r q => ?_) ?_
  · refine xw_aload_n rfl rfl rfl ?_
    refine xw_dup rfl rfl ?_
    refine xw_gfIc (v := (m3 223 10)) (v' := (xR m3 223 10)) rfl (xw_obd (by decide +kernel)) xk4_10 (qi := 10) rfl rfl rfl ?_
    refine xw_iconst rfl ?_
    refine xw_iadd rfl ?_
    refine xw_pfI rfl (xw_obd (by decide +kernel)) xk4_10 (qi := 10) rfl (xw_okI rfl) ?_
    exact q
  exact xS_ret (v := 0) rfl rfl rfl rfl
theorem ysl78_55 {B : Nat} (hB : B ≤ 512) {xs : Nat → Int32} {SL d : Nat} {r55 : Int → Int → Int → Int → Int → Int → xw_M → xP} (hr55 : ∀ x1 x3 x6 x7 x8 x9 m, w64 x1 = x1 → w64 x3 = x3 → w32 x9 = x9 → xS B xs SL (d + 0) 78 (10, none, [], 5) 0 55 [(1, xj x1), (3, xj x3), (6, xa x6), (7, xa x7), (8, xa x8), (9, xi x9)] [] m (r55 x1 x3 x6 x7 x8 x9 m)) : ∀ x1 x3 x6 x7 x8 x9 m, w64 x1 = x1 → w64 x3 = x3 → w32 x9 = x9 → xS B xs SL (d + 0) 78 (10, none, [], 5) 0 55 [(1, xj x1), (3, xj x3), (6, xa x6), (7, xa x7), (8, xa x8), (9, xi x9)] [] m (yl78_55 B r55 x1 x3 x6 x7 x8 x9 m) := by
  intro x1 x3 x6 x7 x8 x9 m c1 c3 c9
  unfold yl78_55
  refine xS_g (fun g0 => ?_)
  refine xS_of (pc' := 62) (L' := [(1, xj x1), (3, xj x3), (6, xa x6), (7, xa x7), (8, xa x8), (9, xi x9)]) (st' := [xi (xR m x6 11), xi x9]) (m' := m) (fun ex ns r q => ?_) ?_
  · refine xw_iload rfl rfl ?_
    refine xw_aload rfl rfl rfl ?_
    refine xw_gfIc (v := (m x6 11)) (v' := (xR m x6 11)) rfl (xw_obd g0) xk3_11 (qi := 11) rfl rfl rfl ?_
    exact q
  refine xS_if (fun h1 => ?_) (fun h1 => ?_)
  · refine xS_g (fun g2 => ?_)
    refine xS_g (fun g3 => ?_)
    refine xS_of (pc' := 72) (L' := [(1, xj x1), (3, xj x3), (6, xa x6), (7, xa x7), (8, xa x8), (9, xi x9)]) (st' := [xj x1, xj (xR m x7 x9)]) (m' := m) (fun ex ns r q => ?_) ?_
    · refine xw_ic_geF rfl (w32_cg c9) (w32_cg (w32_xR _ _ _)) (Int.not_le.mpr h1) ?_
      refine xw_aload rfl rfl rfl ?_
      refine xw_iload rfl rfl ?_
      refine xw_ialdc (n := (xw_le B x7)) (v := (m x7 x9)) (v' := (xR m x7 x9)) rfl hB (xw_obd g3) rfl g2 rfl rfl ?_
      refine xw_i2l rfl (w32_cg (w32_xR _ _ _)) ?_
      refine xw_lload_n rfl rfl ?_
      exact q
    refine xS_if (fun h4 => ?_) (fun h4 => ?_)
    · refine xS_of (pc' := 55) (L' := [(1, xj x1), (3, xj x3), (6, xa x6), (7, xa x7), (8, xa x8), (9, xi (w32 (x9 + 1)))]) (st' := []) (m' := m) (fun ex ns r q => ?_) ?_
      · refine xw_jc_ltT rfl rfl (w64_cg (w64_32 (w32_xR _ _ _))) (w64_cg c1) h4 ?_
        refine xw_iincc (z := (w32 (x9 + 1))) (L' := [(9, xi (w32 (x9 + 1))), (1, xj x1), (3, xj x3), (6, xa x6), (7, xa x7), (8, xa x8)]) rfl rfl (by decide) rfl rfl ?_
        refine xw_goto rfl ?_
        refine xw_lo (L2 := [(1, xj x1), (3, xj x3), (6, xa x6), (7, xa x7), (8, xa x8), (9, xi (w32 (x9 + 1)))]) (List.forall_mem_cons.mpr ⟨rfl, List.forall_mem_cons.mpr ⟨rfl, List.forall_mem_cons.mpr ⟨rfl, List.forall_mem_cons.mpr ⟨rfl, List.forall_mem_cons.mpr ⟨rfl, List.forall_mem_cons.mpr ⟨rfl, fun _ h => absurd h List.not_mem_nil⟩⟩⟩⟩⟩⟩) ?_
        exact q
      exact hr55 _ _ _ _ _ _ _ c1 c3 (w32_w _)
    · refine xS_of (pc' := 83) (L' := [(1, xj x1), (3, xj x3), (6, xa x6), (7, xa x7), (8, xa x8), (9, xi x9)]) (st' := [xj x3, xj (xR m x7 x9)]) (m' := m) (fun ex ns r q => ?_) ?_
      · refine xw_jc_ltF rfl rfl (w64_cg (w64_32 (w32_xR _ _ _))) (w64_cg c1) h4 ?_
        refine xw_aload rfl rfl rfl ?_
        refine xw_iload rfl rfl ?_
        refine xw_ialdc (n := (xw_le B x7)) (v := (m x7 x9)) (v' := (xR m x7 x9)) rfl hB (xw_obd g3) rfl g2 rfl rfl ?_
        refine xw_i2l rfl (w32_cg (w32_xR _ _ _)) ?_
        refine xw_lload_n rfl rfl ?_
        exact q
      refine xS_if (fun h5 => ?_) (fun h5 => ?_)
      · refine xS_of (pc' := 55) (L' := [(1, xj x1), (3, xj x3), (6, xa x6), (7, xa x7), (8, xa x8), (9, xi (w32 (x9 + 1)))]) (st' := []) (m' := m) (fun ex ns r q => ?_) ?_
        · refine xw_jc_gtT rfl rfl (w64_cg (w64_32 (w32_xR _ _ _))) (w64_cg c3) h5 ?_
          refine xw_iincc (z := (w32 (x9 + 1))) (L' := [(9, xi (w32 (x9 + 1))), (1, xj x1), (3, xj x3), (6, xa x6), (7, xa x7), (8, xa x8)]) rfl rfl (by decide) rfl rfl ?_
          refine xw_goto rfl ?_
          refine xw_lo (L2 := [(1, xj x1), (3, xj x3), (6, xa x6), (7, xa x7), (8, xa x8), (9, xi (w32 (x9 + 1)))]) (List.forall_mem_cons.mpr ⟨rfl, List.forall_mem_cons.mpr ⟨rfl, List.forall_mem_cons.mpr ⟨rfl, List.forall_mem_cons.mpr ⟨rfl, List.forall_mem_cons.mpr ⟨rfl, List.forall_mem_cons.mpr ⟨rfl, fun _ h => absurd h List.not_mem_nil⟩⟩⟩⟩⟩⟩) ?_
          exact q
        exact hr55 _ _ _ _ _ _ _ c1 c3 (w32_w _)
      · refine xS_g (fun g6 => ?_)
        refine xS_g (fun g7 => ?_)
        refine xS_of (pc' := 55) (L' := [(1, xj x1), (3, xj x3), (6, xa x6), (7, xa x7), (8, xa x8), (9, xi (w32 (x9 + 1)))]) (st' := []) (m' := (xw_u m x8 x9 (w8 1))) (fun ex ns r q => ?_) ?_
        · refine xw_jc_gtF rfl rfl (w64_cg (w64_32 (w32_xR _ _ _))) (w64_cg c3) h5 ?_
          refine xw_aload rfl rfl rfl ?_
          refine xw_iload rfl rfl ?_
          refine xw_iconst rfl ?_
          refine xw_bastc (n := (xw_le B x8)) rfl hB (xw_obd g7) rfl g6 ?_
          refine xw_iincc (z := (w32 (x9 + 1))) (L' := [(9, xi (w32 (x9 + 1))), (1, xj x1), (3, xj x3), (6, xa x6), (7, xa x7), (8, xa x8)]) rfl rfl (by decide) rfl rfl ?_
          refine xw_goto rfl ?_
          refine xw_lo (L2 := [(1, xj x1), (3, xj x3), (6, xa x6), (7, xa x7), (8, xa x8), (9, xi (w32 (x9 + 1)))]) (List.forall_mem_cons.mpr ⟨rfl, List.forall_mem_cons.mpr ⟨rfl, List.forall_mem_cons.mpr ⟨rfl, List.forall_mem_cons.mpr ⟨rfl, List.forall_mem_cons.mpr ⟨rfl, List.forall_mem_cons.mpr ⟨rfl, fun _ h => absurd h List.not_mem_nil⟩⟩⟩⟩⟩⟩) ?_
          exact q
        exact hr55 _ _ _ _ _ _ _ c1 c3 (w32_w _)
  · refine xS_of (pc' := 99) (L' := [(1, xj x1), (3, xj x3), (6, xa x6), (7, xa x7), (8, xa x8), (9, xi x9)]) (st' := []) (m' := m) (fun ex ns r q => ?_) ?_
    · refine xw_ic_geT rfl (w32_cg c9) (w32_cg (w32_xR _ _ _)) (Int.not_lt.mp h1) ?_
      exact q
    exact xS_ret (v := 0) rfl rfl rfl rfl
theorem ygl78_55 {B : Nat} (hB : B ≤ 512) {xs : Nat → Int32} {SL d : Nat} : ∀ n x1 x3 x6 x7 x8 x9 m, w64 x1 = x1 → w64 x3 = x3 → w32 x9 = x9 → xS B xs SL (d + 0) 78 (10, none, [], 5) 0 55 [(1, xj x1), (3, xj x3), (6, xa x6), (7, xa x7), (8, xa x8), (9, xi x9)] [] m (xl6 (yl78_55 B) n x1 x3 x6 x7 x8 x9 m) := by
  intro n
  induction n with
  | zero => intro x1 x3 x6 x7 x8 x9 m c1 c3 c9; exact xS_none
  | succ n ih => exact ysl78_55 hB ih
theorem ygf78 {B : Nat} (hB : B ≤ 512) {xs : Nat → Int32} {SL d : Nat} : ∀ p0 p1 m, w64 p0 = p0 → w64 p1 = p1 → xS B xs SL (d + 0) 78 (10, none, [], 5) 0 0 [(0, xa 223), (1, xj p0), (3, xj p1)] [] m (yf78 B p0 p1 m) := by
  intro p0 p1 m cp0 cp1
  unfold yf78
  refine xS_g (fun g0 => ?_)
  refine xS_g (fun g1 => ?_)
  refine xS_g (fun g2 => ?_)
  refine xS_g (fun g3 => ?_)
  refine xS_g (fun g4 => ?_)
  refine xS_g (fun g5 => ?_)
  refine xS_g (fun g6 => ?_)
  refine xS_of (pc' := 55) (L' := [(1, xj p0), (3, xj p1), (6, xa (15 + (26 * ((xR m 229 ((xR m 223 10) - 1)) / 4)))), (7, xa (xw_rf (xw_rf (15 + (26 * ((xR m 229 ((xR m 223 10) - 1)) / 4))) 3) ((xR m 229 ((xR m 223 10) - 1)) % 4))), (8, xa (231 + ((xR m 223 10) - 1))), (9, xi 0)]) (st' := []) (m' := m) (fun ex ns r q => ?_) ?_
  · refine xw_aload_n rfl rfl rfl ?_
    refine xw_gfR (n := 229) (e := 229) rfl (xw_obd (by decide +kernel)) (by decide +kernel) (by decide +kernel) rfl ?_
    refine xw_aload_n rfl rfl rfl ?_
    refine xw_gfIc (v := (m 223 10)) (v' := (xR m 223 10)) rfl (xw_obd (by decide +kernel)) xk4_10 (qi := 10) rfl rfl rfl ?_
    refine xw_iconst rfl ?_
    refine xw_isub rfl ?_
    refine xw_ialdc (n := 60) (v := (m 229 ((xR m 223 10) - 1))) (v' := (xR m 229 ((xR m 223 10) - 1))) rfl hB (xw_obd (by decide +kernel)) rfl g0 rfl rfl ?_
    refine xw_istore (L' := [(5, xi (xR m 229 ((xR m 223 10) - 1))), (0, xa 223), (1, xj p0), (3, xj p1)]) rfl (by decide) rfl ?_
    refine xw_aload_n rfl rfl rfl ?_
    refine xw_gfR (n := 3) (e := 3) rfl (xw_obd (by decide +kernel)) (by decide +kernel) (by decide +kernel) rfl ?_
    refine xw_gfR (n := 4) (e := 4) rfl (xw_obd (by decide +kernel)) (by decide +kernel) (by decide +kernel) rfl ?_
    refine xw_iload rfl rfl ?_
    refine xw_iconst rfl ?_
    refine xw_idiv (z := ((xR m 229 ((xR m 223 10) - 1)) / 4)) rfl (xw_idivn ⟨(by decide), (w32_cg rfl).2⟩) (xw_idive ⟨g1, (w32_cg (w32_xR _ _ _)).2⟩ ⟨(by decide), (w32_cg rfl).2⟩) ?_
    refine xw_aald (t := 23) (n := 8) (q := 15 + 26 * (((xR m 229 ((xR m 223 10) - 1)) / 4)).toNat) (e := (15 + (26 * ((xR m 229 ((xR m 223 10) - 1)) / 4)))) rfl hB (xw_obd (by decide +kernel)) (by decide) rfl g2 (show 20 + 26 * (((xR m 229 ((xR m 223 10) - 1)) / 4) : Int).toNat = 15 + 26 * (((xR m 229 ((xR m 223 10) - 1)) / 4) : Int).toNat + 5 from by omega) (by have := g2; omega) ?_
    refine xw_astore (L' := [(6, xa (15 + (26 * ((xR m 229 ((xR m 223 10) - 1)) / 4)))), (5, xi (xR m 229 ((xR m 223 10) - 1))), (0, xa 223), (1, xj p0), (3, xj p1)]) rfl rfl (by decide) rfl ?_
    refine xw_aload rfl rfl rfl ?_
    refine xw_gfV (qi := 3) rfl (xw_obd g3) xk3_3 rfl ?_
    refine xw_iload rfl rfl ?_
    refine xw_iconst rfl ?_
    refine xw_irem (z := ((xR m 229 ((xR m 223 10) - 1)) % 4)) rfl (xw_iremn ⟨(by decide), (w32_cg rfl).2⟩) (xw_ireme ⟨g1, (w32_cg (w32_xR _ _ _)).2⟩ ⟨(by decide), (w32_cg rfl).2⟩) ?_
    refine xw_aald (t := 20) (n := (xw_le B (xw_rf (15 + (26 * ((xR m 229 ((xR m 223 10) - 1)) / 4))) 3))) (q := xw_kd (xw_rf (15 + (26 * ((xR m 229 ((xR m 223 10) - 1)) / 4))) 3) ((xR m 229 ((xR m 223 10) - 1)) % 4) - 5) (e := (xw_rf (xw_rf (15 + (26 * ((xR m 229 ((xR m 223 10) - 1)) / 4))) 3) ((xR m 229 ((xR m 223 10) - 1)) % 4))) rfl hB (xw_obd g6) (by decide) rfl g4 (by have := g5; omega) (xw_rfn g5) ?_
    refine xw_astore (L' := [(7, xa (xw_rf (xw_rf (15 + (26 * ((xR m 229 ((xR m 223 10) - 1)) / 4))) 3) ((xR m 229 ((xR m 223 10) - 1)) % 4))), (6, xa (15 + (26 * ((xR m 229 ((xR m 223 10) - 1)) / 4)))), (5, xi (xR m 229 ((xR m 223 10) - 1))), (0, xa 223), (1, xj p0), (3, xj p1)]) rfl rfl (by decide) rfl ?_
    refine xw_aload_n rfl rfl rfl ?_
    refine xw_gfR (n := 230) (e := 230) rfl (xw_obd (by decide +kernel)) (by decide +kernel) (by decide +kernel) rfl ?_
    refine xw_aload_n rfl rfl rfl ?_
    refine xw_gfIc (v := (m 223 10)) (v' := (xR m 223 10)) rfl (xw_obd (by decide +kernel)) xk4_10 (qi := 10) rfl rfl rfl ?_
    refine xw_iconst rfl ?_
    refine xw_isub rfl ?_
    refine xw_aald (t := 22) (n := 60) (q := 231 + 1 * (((xR m 223 10) - 1)).toNat) (e := (231 + ((xR m 223 10) - 1))) rfl hB (xw_obd (by decide +kernel)) (by decide) rfl g0 (show 236 + 1 * (((xR m 223 10) - 1) : Int).toNat = 231 + 1 * (((xR m 223 10) - 1) : Int).toNat + 5 from by omega) (by have := g0; omega) ?_
    refine xw_astore (L' := [(8, xa (231 + ((xR m 223 10) - 1))), (7, xa (xw_rf (xw_rf (15 + (26 * ((xR m 229 ((xR m 223 10) - 1)) / 4))) 3) ((xR m 229 ((xR m 223 10) - 1)) % 4))), (6, xa (15 + (26 * ((xR m 229 ((xR m 223 10) - 1)) / 4)))), (5, xi (xR m 229 ((xR m 223 10) - 1))), (0, xa 223), (1, xj p0), (3, xj p1)]) rfl rfl (by decide) rfl ?_
    refine xw_iconst rfl ?_
    refine xw_istore (L' := [(9, xi 0), (8, xa (231 + ((xR m 223 10) - 1))), (7, xa (xw_rf (xw_rf (15 + (26 * ((xR m 229 ((xR m 223 10) - 1)) / 4))) 3) ((xR m 229 ((xR m 223 10) - 1)) % 4))), (6, xa (15 + (26 * ((xR m 229 ((xR m 223 10) - 1)) / 4)))), (5, xi (xR m 229 ((xR m 223 10) - 1))), (0, xa 223), (1, xj p0), (3, xj p1)]) rfl (by decide) rfl ?_
    refine xw_lo (L2 := [(1, xj p0), (3, xj p1), (6, xa (15 + (26 * ((xR m 229 ((xR m 223 10) - 1)) / 4)))), (7, xa (xw_rf (xw_rf (15 + (26 * ((xR m 229 ((xR m 223 10) - 1)) / 4))) 3) ((xR m 229 ((xR m 223 10) - 1)) % 4))), (8, xa (231 + ((xR m 223 10) - 1))), (9, xi 0)]) (List.forall_mem_cons.mpr ⟨rfl, List.forall_mem_cons.mpr ⟨rfl, List.forall_mem_cons.mpr ⟨rfl, List.forall_mem_cons.mpr ⟨rfl, List.forall_mem_cons.mpr ⟨rfl, List.forall_mem_cons.mpr ⟨rfl, fun _ h => absurd h List.not_mem_nil⟩⟩⟩⟩⟩⟩) ?_
    exact q
  exact ygl78_55 hB 1000000 _ _ _ _ _ _ _ cp0 cp1 rfl
theorem ygk79_83 {B : Nat} (hB : B ≤ 512) {xs : Nat → Int32} {SL d : Nat} : ∀ m, xS B xs SL (d + 3) 79 (2, none, [], 6) 0 83 [(0, xa 293)] [] m (yk79_83 B m) := by
  intro m
  unfold yk79_83
  refine xS_of (pc' := 92) (L' := [(0, xa 293)]) (st' := [xi 41, xi (xR m 1 3)]) (m' := m) (fun ex ns r q => ?_) ?_
  · refine xw_aload_n rfl rfl rfl ?_
    refine xw_gfR (n := 1) (e := 1) rfl (xw_obd (by decide +kernel)) (by decide +kernel) (by decide +kernel) rfl ?_
    refine xw_gfIc (v := (m 1 3)) (v' := (xR m 1 3)) rfl (xw_obd (by decide +kernel)) xk1_3 (qi := 3) rfl rfl rfl ?_
    refine xw_bipush (e := 41) rfl (by decide +kernel) ?_
    exact q
  refine xS_if (fun h0 => ?_) (fun h0 => ?_)
  · refine xS_of (pc' := 102) (L' := [(0, xa 293)]) (st' := []) (m' := m) (fun ex ns r q => ?_) ?_
    · refine xw_ic_eqT rfl (w32_cg (w32_xR _ _ _)) (w32_cg rfl) h0 ?_
      exact q
    exact xS_ret (v := 0) rfl rfl rfl rfl
  · refine xS_of (pc' := 99) (L' := []) (st' := [xa 1]) (m' := m) (fun ex ns r q => ?_) ?_
    · refine xw_ic_eqF rfl (w32_cg (w32_xR _ _ _)) (w32_cg rfl) h0 ?_
      refine xw_aload_n rfl rfl rfl ?_
      refine xw_gfR (n := 1) (e := 1) rfl (xw_obd (by decide +kernel)) (by decide +kernel) (by decide +kernel) rfl ?_
      refine xw_lo (L2 := []) (fun _ h => absurd h List.not_mem_nil) ?_
      exact q
    refine xS_call (q := 56) (n := 1) (kq := 0) (as := [xa 1]) (st1 := []) rfl rfl rfl rfl rfl rfl rfl rfl rfl rfl (fun _ => xw_rcv1 (t := 1) (xw_obd (by decide +kernel)) rfl) rfl (List.forall_mem_cons.mpr ⟨rfl, fun _ h => absurd h List.not_mem_nil⟩) (ygf56 hB _) (fun v1 m1 cv1 => ?_)
    exact xS_ret (v := 0) rfl rfl rfl rfl
theorem ysl79_11 {B : Nat} (hB : B ≤ 512) {xs : Nat → Int32} {SL d : Nat} {r11 : Int → xw_M → xP} (hr11 : ∀ x1 m, w32 x1 = x1 → xS B xs SL (d + 3) 79 (2, none, [], 6) 0 11 [(0, xa 293), (1, xi x1)] [] m (r11 x1 m)) : ∀ x1 m, w32 x1 = x1 → xS B xs SL (d + 3) 79 (2, none, [], 6) 0 11 [(0, xa 293), (1, xi x1)] [] m (yl79_11 B r11 x1 m) := by
  intro x1 m c1
  unfold yl79_11
  refine xS_of (pc' := 14) (L' := [(0, xa 293), (1, xi x1)]) (st' := [xi 40, xi x1]) (m' := m) (fun ex ns r q => ?_) ?_
  · refine xw_iload_n rfl rfl ?_
    refine xw_bipush (e := 40) rfl (by decide +kernel) ?_
    exact q
  refine xS_if (fun h0 => ?_) (fun h0 => ?_)
  · refine xS_of (pc' := 83) (L' := [(0, xa 293)]) (st' := []) (m' := m) (fun ex ns r q => ?_) ?_
    · refine xw_ic_gtT rfl (w32_cg c1) (w32_cg rfl) h0 ?_
      refine xw_lo (L2 := [(0, xa 293)]) (List.forall_mem_cons.mpr ⟨rfl, fun _ h => absurd h List.not_mem_nil⟩) ?_
      exact q
    exact ygk79_83 hB _
  · refine xS_of (pc' := 22) (L' := [(0, xa 293), (1, xi x1)]) (st' := [xi 3, xa 1]) (m' := m) (fun ex ns r q => ?_) ?_
    · refine xw_ic_gtF rfl (w32_cg c1) (w32_cg rfl) h0 ?_
      refine xw_aload_n rfl rfl rfl ?_
      refine xw_gfR (n := 1) (e := 1) rfl (xw_obd (by decide +kernel)) (by decide +kernel) (by decide +kernel) rfl ?_
      refine xw_iconst rfl ?_
      refine xw_lo (L2 := [(0, xa 293), (1, xi x1)]) (List.forall_mem_cons.mpr ⟨rfl, List.forall_mem_cons.mpr ⟨rfl, fun _ h => absurd h List.not_mem_nil⟩⟩) ?_
      exact q
    refine xS_call (q := 68) (n := 2) (kq := 0) (as := [xa 1, xi 3]) (st1 := []) rfl rfl rfl rfl rfl rfl rfl rfl rfl rfl (fun _ => xw_rcv1 (t := 1) (xw_obd (by decide +kernel)) rfl) rfl (List.forall_mem_cons.mpr ⟨rfl, List.forall_mem_cons.mpr ⟨rfl, fun _ h => absurd h List.not_mem_nil⟩⟩) (ygf68 hB _ _ rfl) (fun v1 m1 cv1 => ?_)
    refine xS_of (pc' := 29) (L' := [(0, xa 293), (1, xi x1)]) (st' := [xi 40, xi x1, xa 293]) (m' := m1) (fun ex ns r q => ?_) ?_
    · refine xw_aload_n rfl rfl rfl ?_
      refine xw_iload_n rfl rfl ?_
      refine xw_bipush (e := 40) rfl (by decide +kernel) ?_
      refine xw_lo (L2 := [(0, xa 293), (1, xi x1)]) (List.forall_mem_cons.mpr ⟨rfl, List.forall_mem_cons.mpr ⟨rfl, fun _ h => absurd h List.not_mem_nil⟩⟩) ?_
      exact q
    refine xS_call (q := 64) (n := 3) (kq := 0) (as := [xa 293, xi x1, xi 40]) (st1 := []) rfl rfl rfl rfl rfl rfl rfl rfl rfl rfl (fun _ => xw_rcv1 (t := 5) (xw_obd (by decide +kernel)) rfl) rfl (List.forall_mem_cons.mpr ⟨rfl, List.forall_mem_cons.mpr ⟨rfl, List.forall_mem_cons.mpr ⟨rfl, fun _ h => absurd h List.not_mem_nil⟩⟩⟩) (ygf64 hB _ _ _ c1 rfl) (fun v2 m2 cv2 => ?_)
    refine xS_of (pc' := 52) (L' := [(0, xa 293), (1, xi x1)]) (st' := [xj (xR m2 1 5), xj (xR m2 1 5), xa 223]) (m' := m2) (fun ex ns r q => ?_) ?_
    · refine xw_aload_n rfl rfl rfl ?_
      refine xw_gfR (n := 223) (e := 223) rfl (xw_obd (by decide +kernel)) (by decide +kernel) (by decide +kernel) rfl ?_
      refine xw_aload_n rfl rfl rfl ?_
      refine xw_gfR (n := 1) (e := 1) rfl (xw_obd (by decide +kernel)) (by decide +kernel) (by decide +kernel) rfl ?_
      refine xw_gfIc (v := (m2 1 5)) (v' := (xR m2 1 5)) rfl (xw_obd (by decide +kernel)) xk1_5 (qi := 5) rfl rfl rfl ?_
      refine xw_i2l rfl (w32_cg (w32_xR _ _ _)) ?_
      refine xw_aload_n rfl rfl rfl ?_
      refine xw_gfR (n := 1) (e := 1) rfl (xw_obd (by decide +kernel)) (by decide +kernel) (by decide +kernel) rfl ?_
      refine xw_gfIc (v := (m2 1 5)) (v' := (xR m2 1 5)) rfl (xw_obd (by decide +kernel)) xk1_5 (qi := 5) rfl rfl rfl ?_
      refine xw_i2l rfl (w32_cg (w32_xR _ _ _)) ?_
      refine xw_lo (L2 := [(0, xa 293), (1, xi x1)]) (List.forall_mem_cons.mpr ⟨rfl, List.forall_mem_cons.mpr ⟨rfl, fun _ h => absurd h List.not_mem_nil⟩⟩) ?_
      exact q
    refine xS_call (q := 78) (n := 3) (kq := 0) (as := [xa 223, xj (xR m2 1 5), xj (xR m2 1 5)]) (st1 := []) rfl rfl rfl rfl rfl rfl rfl rfl rfl rfl (fun _ => xw_rcv1 (t := 4) (xw_obd (by decide +kernel)) rfl) rfl (List.forall_mem_cons.mpr ⟨rfl, List.forall_mem_cons.mpr ⟨rfl, List.forall_mem_cons.mpr ⟨rfl, fun _ h => absurd h List.not_mem_nil⟩⟩⟩) (ygf78 hB _ _ _ (w64_32 (w32_xR _ _ _)) (w64_32 (w32_xR _ _ _))) (fun v3 m3 cv3 => ?_)
    refine xS_of (pc' := 59) (L' := [(0, xa 293), (1, xi x1)]) (st' := [xa 1]) (m' := m3) (fun ex ns r q => ?_) ?_
    · refine xw_aload_n rfl rfl rfl ?_
      refine xw_gfR (n := 1) (e := 1) rfl (xw_obd (by decide +kernel)) (by decide +kernel) (by decide +kernel) rfl ?_
      refine xw_lo (L2 := [(0, xa 293), (1, xi x1)]) (List.forall_mem_cons.mpr ⟨rfl, List.forall_mem_cons.mpr ⟨rfl, fun _ h => absurd h List.not_mem_nil⟩⟩) ?_
      exact q
    refine xS_call (q := 47) (n := 1) (kq := 0) (as := [xa 1]) (st1 := []) rfl rfl rfl rfl rfl rfl rfl rfl rfl rfl (fun _ => xw_rcv1 (t := 1) (xw_obd (by decide +kernel)) rfl) rfl (List.forall_mem_cons.mpr ⟨rfl, fun _ h => absurd h List.not_mem_nil⟩) (ygf47 hB _) (fun v4 m4 cv4 => ?_)
    refine xS_of (pc' := 71) (L' := [(0, xa 293), (1, xi x1)]) (st' := [xi 44, xi (xR m4 1 3)]) (m' := m4) (fun ex ns r q => ?_) ?_
    · refine xw_aload_n rfl rfl rfl ?_
      refine xw_gfR (n := 1) (e := 1) rfl (xw_obd (by decide +kernel)) (by decide +kernel) (by decide +kernel) rfl ?_
      refine xw_gfIc (v := (m4 1 3)) (v' := (xR m4 1 3)) rfl (xw_obd (by decide +kernel)) xk1_3 (qi := 3) rfl rfl rfl ?_
      refine xw_bipush (e := 44) rfl (by decide +kernel) ?_
      exact q
    refine xS_if (fun h1 => ?_) (fun h1 => ?_)
    · refine xS_of (pc' := 11) (L' := [(0, xa 293), (1, xi (w32 (x1 + 1)))]) (st' := []) (m' := m4) (fun ex ns r q => ?_) ?_
      · refine xw_ic_eqT rfl (w32_cg (w32_xR _ _ _)) (w32_cg rfl) h1 ?_
        refine xw_iincc (z := (w32 (x1 + 1))) (L' := [(1, xi (w32 (x1 + 1))), (0, xa 293)]) rfl rfl (by decide) rfl rfl ?_
        refine xw_goto rfl ?_
        refine xw_lo (L2 := [(0, xa 293), (1, xi (w32 (x1 + 1)))]) (List.forall_mem_cons.mpr ⟨rfl, List.forall_mem_cons.mpr ⟨rfl, fun _ h => absurd h List.not_mem_nil⟩⟩) ?_
        exact q
      exact hr11 _ _ (w32_w _)
    · refine xS_of (pc' := 83) (L' := [(0, xa 293)]) (st' := []) (m' := m4) (fun ex ns r q => ?_) ?_
      · refine xw_ic_eqF rfl (w32_cg (w32_xR _ _ _)) (w32_cg rfl) h1 ?_
        refine xw_goto rfl ?_
        refine xw_lo (L2 := [(0, xa 293)]) (List.forall_mem_cons.mpr ⟨rfl, fun _ h => absurd h List.not_mem_nil⟩) ?_
        exact q
      exact ygk79_83 hB _
theorem ygl79_11 {B : Nat} (hB : B ≤ 512) {xs : Nat → Int32} {SL d : Nat} : ∀ n x1 m, w32 x1 = x1 → xS B xs SL (d + 3) 79 (2, none, [], 6) 0 11 [(0, xa 293), (1, xi x1)] [] m (xl1 (yl79_11 B) n x1 m) := by
  intro n
  induction n with
  | zero => intro x1 m c1; exact xS_none
  | succ n ih => exact ysl79_11 hB ih
theorem ygf79 {B : Nat} (hB : B ≤ 512) {xs : Nat → Int32} {SL d : Nat} : ∀ m, xS B xs SL (d + 3) 79 (2, none, [], 6) 0 0 [(0, xa 293)] [] m (yf79 B m) := by
  intro m
  unfold yf79
  refine xS_of (pc' := 6) (L' := [(0, xa 293)]) (st' := [xi 40, xa 1]) (m' := m) (fun ex ns r q => ?_) ?_
  · refine xw_aload_n rfl rfl rfl ?_
    refine xw_gfR (n := 1) (e := 1) rfl (xw_obd (by decide +kernel)) (by decide +kernel) (by decide +kernel) rfl ?_
    refine xw_bipush (e := 40) rfl (by decide +kernel) ?_
    refine xw_lo (L2 := [(0, xa 293)]) (List.forall_mem_cons.mpr ⟨rfl, fun _ h => absurd h List.not_mem_nil⟩) ?_
    exact q
  refine xS_call (q := 68) (n := 2) (kq := 0) (as := [xa 1, xi 40]) (st1 := []) rfl rfl rfl rfl rfl rfl rfl rfl rfl rfl (fun _ => xw_rcv1 (t := 1) (xw_obd (by decide +kernel)) rfl) rfl (List.forall_mem_cons.mpr ⟨rfl, List.forall_mem_cons.mpr ⟨rfl, fun _ h => absurd h List.not_mem_nil⟩⟩) (ygf68 hB _ _ rfl) (fun v1 m1 cv1 => ?_)
  refine xS_of (pc' := 11) (L' := [(0, xa 293), (1, xi 0)]) (st' := []) (m' := m1) (fun ex ns r q => ?_) ?_
  · refine xw_iconst rfl ?_
    refine xw_istore_n (L' := [(1, xi 0), (0, xa 293)]) rfl (by decide) rfl ?_
    refine xw_lo (L2 := [(0, xa 293), (1, xi 0)]) (List.forall_mem_cons.mpr ⟨rfl, List.forall_mem_cons.mpr ⟨rfl, fun _ h => absurd h List.not_mem_nil⟩⟩) ?_
    exact q
  exact ygl79_11 hB 1000000 _ _ rfl
theorem ygk80_12 {B : Nat} (hB : B ≤ 512) {xs : Nat → Int32} {SL d : Nat} : ∀ x2 m, w64 x2 = x2 → xS B xs SL (d + 1) 80 (4, none, [], 6) 0 12 [(0, xa 293), (2, xj x2)] [] m (yk80_12 B x2 m) := by
  intro x2 m c2
  unfold yk80_12
  refine xS_of (pc' := 22) (L' := []) (st' := [xj (w64 (x2 - 1)), xj (-2147483648), xa 223]) (m' := m) (fun ex ns r q => ?_) ?_
  · refine xw_aload_n rfl rfl rfl ?_
    refine xw_gfR (n := 223) (e := 223) rfl (xw_obd (by decide +kernel)) (by decide +kernel) (by decide +kernel) rfl ?_
    refine xw_ldc2 (e := (-2147483648)) rfl (by decide +kernel) ?_
    refine xw_lload_n rfl rfl ?_
    refine xw_lconst (e := 1) rfl rfl ?_
    refine xw_lsub rfl ?_
    refine xw_cst (st' := [xj (w64 (x2 - 1)), xj (-2147483648), xa 223]) (xw_sc (xj_c rfl) (xw_sc rfl (xw_sc rfl rfl))) ?_
    refine xw_lo (L2 := []) (fun _ h => absurd h List.not_mem_nil) ?_
    exact q
  refine xS_call (q := 78) (n := 3) (kq := 0) (as := [xa 223, xj (-2147483648), xj (w64 (x2 - 1))]) (st1 := []) rfl rfl rfl rfl rfl rfl rfl rfl rfl rfl (fun _ => xw_rcv1 (t := 4) (xw_obd (by decide +kernel)) rfl) rfl (List.forall_mem_cons.mpr ⟨rfl, List.forall_mem_cons.mpr ⟨rfl, List.forall_mem_cons.mpr ⟨rfl, fun _ h => absurd h List.not_mem_nil⟩⟩⟩) (ygf78 hB _ _ _ rfl (w64_w _)) (fun v1 m1 cv1 => ?_)
  refine xS_of (pc' := 65) (L' := []) (st' := []) (m' := m1) (fun ex ns r q => ?_) ?_
  · refine xw_goto rfl ?_
    exact q
  exact xS_ret (v := 0) rfl rfl rfl rfl
theorem ygk80_40 {B : Nat} (hB : B ≤ 512) {xs : Nat → Int32} {SL d : Nat} : ∀ x2 m, w64 x2 = x2 → xS B xs SL (d + 1) 80 (4, none, [], 6) 0 40 [(0, xa 293), (2, xj x2)] [] m (yk80_40 B x2 m) := by
  intro x2 m c2
  unfold yk80_40
  refine xS_of (pc' := 50) (L' := []) (st' := [xj 2147483647, xj (w64 (x2 + 1)), xa 223]) (m' := m) (fun ex ns r q => ?_) ?_
  · refine xw_aload_n rfl rfl rfl ?_
    refine xw_gfR (n := 223) (e := 223) rfl (xw_obd (by decide +kernel)) (by decide +kernel) (by decide +kernel) rfl ?_
    refine xw_lload_n rfl rfl ?_
    refine xw_lconst (e := 1) rfl rfl ?_
    refine xw_ladd rfl ?_
    refine xw_ldc2 (e := 2147483647) rfl (by decide +kernel) ?_
    refine xw_cst (st' := [xj 2147483647, xj (w64 (x2 + 1)), xa 223]) (xw_sc rfl (xw_sc (xj_c rfl) (xw_sc rfl rfl))) ?_
    refine xw_lo (L2 := []) (fun _ h => absurd h List.not_mem_nil) ?_
    exact q
  refine xS_call (q := 78) (n := 3) (kq := 0) (as := [xa 223, xj (w64 (x2 + 1)), xj 2147483647]) (st1 := []) rfl rfl rfl rfl rfl rfl rfl rfl rfl rfl (fun _ => xw_rcv1 (t := 4) (xw_obd (by decide +kernel)) rfl) rfl (List.forall_mem_cons.mpr ⟨rfl, List.forall_mem_cons.mpr ⟨rfl, List.forall_mem_cons.mpr ⟨rfl, fun _ h => absurd h List.not_mem_nil⟩⟩⟩) (ygf78 hB _ _ _ (w64_w _) rfl) (fun v1 m1 cv1 => ?_)
  refine xS_of (pc' := 65) (L' := []) (st' := []) (m' := m1) (fun ex ns r q => ?_) ?_
  · refine xw_goto rfl ?_
    exact q
  exact xS_ret (v := 0) rfl rfl rfl rfl
theorem ygf80 {B : Nat} (hB : B ≤ 512) {xs : Nat → Int32} {SL d : Nat} : ∀ p0 p1 m, w32 p0 = p0 → w64 p1 = p1 → xS B xs SL (d + 1) 80 (4, none, [], 6) 0 0 [(0, xa 293), (1, xi p0), (2, xj p1)] [] m (yf80 B p0 p1 m) := by
  intro p0 p1 m cp0 cp1
  unfold yf80
  refine xS_of (pc' := 3) (L' := [(0, xa 293), (1, xi p0), (2, xj p1)]) (st' := [xi 60, xi p0]) (m' := m) (fun ex ns r q => ?_) ?_
  · refine xw_iload_n rfl rfl ?_
    refine xw_bipush (e := 60) rfl (by decide +kernel) ?_
    exact q
  refine xS_if (fun h0 => ?_) (fun h0 => ?_)
  · refine xS_of (pc' := 12) (L' := [(0, xa 293), (2, xj p1)]) (st' := []) (m' := m) (fun ex ns r q => ?_) ?_
    · refine xw_ic_eqT rfl (w32_cg cp0) (w32_cg rfl) h0 ?_
      refine xw_lo (L2 := [(0, xa 293), (2, xj p1)]) (List.forall_mem_cons.mpr ⟨rfl, List.forall_mem_cons.mpr ⟨rfl, fun _ h => absurd h List.not_mem_nil⟩⟩) ?_
      exact q
    exact ygk80_12 hB _ _ cp1
  · refine xS_of (pc' := 9) (L' := [(0, xa 293), (1, xi p0), (2, xj p1)]) (st' := [xi 101, xi p0]) (m' := m) (fun ex ns r q => ?_) ?_
    · refine xw_ic_eqF rfl (w32_cg cp0) (w32_cg rfl) h0 ?_
      refine xw_iload_n rfl rfl ?_
      refine xw_bipush (e := 101) rfl (by decide +kernel) ?_
      exact q
    refine xS_if (fun h1 => ?_) (fun h1 => ?_)
    · refine xS_of (pc' := 12) (L' := [(0, xa 293), (2, xj p1)]) (st' := []) (m' := m) (fun ex ns r q => ?_) ?_
      · refine xw_ic_neF rfl (w32_cg cp0) (w32_cg rfl) h1 ?_
        refine xw_lo (L2 := [(0, xa 293), (2, xj p1)]) (List.forall_mem_cons.mpr ⟨rfl, List.forall_mem_cons.mpr ⟨rfl, fun _ h => absurd h List.not_mem_nil⟩⟩) ?_
        exact q
      exact ygk80_12 hB _ _ cp1
    · refine xS_of (pc' := 31) (L' := [(0, xa 293), (1, xi p0), (2, xj p1)]) (st' := [xi 62, xi p0]) (m' := m) (fun ex ns r q => ?_) ?_
      · refine xw_ic_neT rfl (w32_cg cp0) (w32_cg rfl) h1 ?_
        refine xw_iload_n rfl rfl ?_
        refine xw_bipush (e := 62) rfl (by decide +kernel) ?_
        exact q
      refine xS_if (fun h2 => ?_) (fun h2 => ?_)
      · refine xS_of (pc' := 40) (L' := [(0, xa 293), (2, xj p1)]) (st' := []) (m' := m) (fun ex ns r q => ?_) ?_
        · refine xw_ic_eqT rfl (w32_cg cp0) (w32_cg rfl) h2 ?_
          refine xw_lo (L2 := [(0, xa 293), (2, xj p1)]) (List.forall_mem_cons.mpr ⟨rfl, List.forall_mem_cons.mpr ⟨rfl, fun _ h => absurd h List.not_mem_nil⟩⟩) ?_
          exact q
        exact ygk80_40 hB _ _ cp1
      · refine xS_of (pc' := 37) (L' := [(0, xa 293), (1, xi p0), (2, xj p1)]) (st' := [xi 100, xi p0]) (m' := m) (fun ex ns r q => ?_) ?_
        · refine xw_ic_eqF rfl (w32_cg cp0) (w32_cg rfl) h2 ?_
          refine xw_iload_n rfl rfl ?_
          refine xw_bipush (e := 100) rfl (by decide +kernel) ?_
          exact q
        refine xS_if (fun h3 => ?_) (fun h3 => ?_)
        · refine xS_of (pc' := 40) (L' := [(0, xa 293), (2, xj p1)]) (st' := []) (m' := m) (fun ex ns r q => ?_) ?_
          · refine xw_ic_neF rfl (w32_cg cp0) (w32_cg rfl) h3 ?_
            refine xw_lo (L2 := [(0, xa 293), (2, xj p1)]) (List.forall_mem_cons.mpr ⟨rfl, List.forall_mem_cons.mpr ⟨rfl, fun _ h => absurd h List.not_mem_nil⟩⟩) ?_
            exact q
          exact ygk80_40 hB _ _ cp1
        · refine xS_of (pc' := 62) (L' := []) (st' := [xj p1, xj p1, xa 223]) (m' := m) (fun ex ns r q => ?_) ?_
          · refine xw_ic_neT rfl (w32_cg cp0) (w32_cg rfl) h3 ?_
            refine xw_aload_n rfl rfl rfl ?_
            refine xw_gfR (n := 223) (e := 223) rfl (xw_obd (by decide +kernel)) (by decide +kernel) (by decide +kernel) rfl ?_
            refine xw_lload_n rfl rfl ?_
            refine xw_lload_n rfl rfl ?_
            refine xw_lo (L2 := []) (fun _ h => absurd h List.not_mem_nil) ?_
            exact q
          refine xS_call (q := 78) (n := 3) (kq := 0) (as := [xa 223, xj p1, xj p1]) (st1 := []) rfl rfl rfl rfl rfl rfl rfl rfl rfl rfl (fun _ => xw_rcv1 (t := 4) (xw_obd (by decide +kernel)) rfl) rfl (List.forall_mem_cons.mpr ⟨rfl, List.forall_mem_cons.mpr ⟨rfl, List.forall_mem_cons.mpr ⟨rfl, fun _ h => absurd h List.not_mem_nil⟩⟩⟩) (ygf78 hB _ _ _ cp1 cp1) (fun v1 m1 cv1 => ?_)
          exact xS_ret (v := 0) rfl rfl rfl rfl
theorem ysl81_14 {B : Nat} (hB : B ≤ 512) {xs : Nat → Int32} {SL d : Nat} {r14 : Int → Int → xw_M → xP} (hr14 : ∀ x1 x2 m, w32 x2 = x2 → xS B xs SL (d + 0) 81 (3, none, [], 5) 0 14 [(1, xa x1), (2, xi x2)] [] m (r14 x1 x2 m)) : ∀ x1 x2 m, w32 x2 = x2 → xS B xs SL (d + 0) 81 (3, none, [], 5) 0 14 [(1, xa x1), (2, xi x2)] [] m (yl81_14 B r14 x1 x2 m) := by
  intro x1 x2 m c2
  unfold yl81_14
  refine xS_of (pc' := 18) (L' := [(1, xa x1), (2, xi x2)]) (st' := [xi 1000, xi x2]) (m' := m) (fun ex ns r q => ?_) ?_
  · refine xw_iload_n rfl rfl ?_
    refine xw_sipush (e := 1000) rfl (by decide +kernel) ?_
    exact q
  refine xS_if (fun h0 => ?_) (fun h0 => ?_)
  · refine xS_g (fun g1 => ?_)
    refine xS_g (fun g2 => ?_)
    refine xS_of (pc' := 14) (L' := [(1, xa x1), (2, xi (w32 (x2 + 1)))]) (st' := []) (m' := (xw_u m x1 x2 (w8 (w8 (xw_ixorf (xR m x1 x2) 1))))) (fun ex ns r q => ?_) ?_
    · refine xw_ic_geF rfl (w32_cg c2) (w32_cg rfl) (Int.not_le.mpr h0) ?_
      refine xw_aload_n rfl rfl rfl ?_
      refine xw_iload_n rfl rfl ?_
      refine xw_dup2 rfl rfl rfl ?_
      refine xw_baldc (n := (xw_le B x1)) (v := (m x1 x2)) (v' := (xR m x1 x2)) rfl hB (xw_obd g2) rfl g1 rfl rfl ?_
      refine xw_iconst rfl ?_
      refine xw_ixor (z := (xw_ixorf (xR m x1 x2) 1)) rfl (xw_ixore _ _) ?_
      refine xw_i2bc rfl ?_
      refine xw_bastc (n := (xw_le B x1)) rfl hB (xw_obd g2) rfl g1 ?_
      refine xw_iincc (z := (w32 (x2 + 1))) (L' := [(2, xi (w32 (x2 + 1))), (1, xa x1)]) rfl rfl (by decide) rfl rfl ?_
      refine xw_goto rfl ?_
      refine xw_lo (L2 := [(1, xa x1), (2, xi (w32 (x2 + 1)))]) (List.forall_mem_cons.mpr ⟨rfl, List.forall_mem_cons.mpr ⟨rfl, fun _ h => absurd h List.not_mem_nil⟩⟩) ?_
      exact q
    exact hr14 _ _ _ (w32_w _)
  · refine xS_of (pc' := 35) (L' := [(1, xa x1), (2, xi x2)]) (st' := []) (m' := m) (fun ex ns r q => ?_) ?_
    · refine xw_ic_geT rfl (w32_cg c2) (w32_cg rfl) (Int.not_lt.mp h0) ?_
      exact q
    exact xS_ret (v := 0) rfl rfl rfl rfl
theorem ygl81_14 {B : Nat} (hB : B ≤ 512) {xs : Nat → Int32} {SL d : Nat} : ∀ n x1 x2 m, w32 x2 = x2 → xS B xs SL (d + 0) 81 (3, none, [], 5) 0 14 [(1, xa x1), (2, xi x2)] [] m (xl2 (yl81_14 B) n x1 x2 m) := by
  intro n
  induction n with
  | zero => intro x1 x2 m c2; exact xS_none
  | succ n ih => exact ysl81_14 hB ih
theorem ygf81 {B : Nat} (hB : B ≤ 512) {xs : Nat → Int32} {SL d : Nat} : ∀ m, xS B xs SL (d + 0) 81 (3, none, [], 5) 0 0 [(0, xa 223)] [] m (yf81 B m) := by
  intro m
  unfold yf81
  refine xS_g (fun g0 => ?_)
  refine xS_of (pc' := 14) (L' := [(1, xa (231 + ((xR m 223 10) - 1))), (2, xi 0)]) (st' := []) (m' := m) (fun ex ns r q => ?_) ?_
  · refine xw_aload_n rfl rfl rfl ?_
    refine xw_gfR (n := 230) (e := 230) rfl (xw_obd (by decide +kernel)) (by decide +kernel) (by decide +kernel) rfl ?_
    refine xw_aload_n rfl rfl rfl ?_
    refine xw_gfIc (v := (m 223 10)) (v' := (xR m 223 10)) rfl (xw_obd (by decide +kernel)) xk4_10 (qi := 10) rfl rfl rfl ?_
    refine xw_iconst rfl ?_
    refine xw_isub rfl ?_
    refine xw_aald (t := 22) (n := 60) (q := 231 + 1 * (((xR m 223 10) - 1)).toNat) (e := (231 + ((xR m 223 10) - 1))) rfl hB (xw_obd (by decide +kernel)) (by decide) rfl g0 (show 236 + 1 * (((xR m 223 10) - 1) : Int).toNat = 231 + 1 * (((xR m 223 10) - 1) : Int).toNat + 5 from by omega) (by have := g0; omega) ?_
    refine xw_astore_n (L' := [(1, xa (231 + ((xR m 223 10) - 1))), (0, xa 223)]) rfl rfl (by decide) rfl ?_
    refine xw_iconst rfl ?_
    refine xw_istore_n (L' := [(2, xi 0), (1, xa (231 + ((xR m 223 10) - 1))), (0, xa 223)]) rfl (by decide) rfl ?_
    refine xw_lo (L2 := [(1, xa (231 + ((xR m 223 10) - 1))), (2, xi 0)]) (List.forall_mem_cons.mpr ⟨rfl, List.forall_mem_cons.mpr ⟨rfl, fun _ h => absurd h List.not_mem_nil⟩⟩) ?_
    exact q
  exact ygl81_14 hB 1000000 _ _ _ rfl
theorem ygk73_224 {B : Nat} (hB : B ≤ 512) {xs : Nat → Int32} {SL d : Nat} : ∀ m, xS B xs SL (d + 4) 73 (4, none, [], 6) 0 224 [(0, xa 293)] [] m (yk73_224 B m) := by
  intro m
  unfold yk73_224
  refine xS_of (pc' := 228) (L' := []) (st' := [xa 223]) (m' := m) (fun ex ns r q => ?_) ?_
  · refine xw_aload_n rfl rfl rfl ?_
    refine xw_gfR (n := 223) (e := 223) rfl (xw_obd (by decide +kernel)) (by decide +kernel) (by decide +kernel) rfl ?_
    refine xw_lo (L2 := []) (fun _ h => absurd h List.not_mem_nil) ?_
    exact q
  refine xS_call (q := 81) (n := 1) (kq := 0) (as := [xa 223]) (st1 := []) rfl rfl rfl rfl rfl rfl rfl rfl rfl rfl (fun _ => xw_rcv1 (t := 4) (xw_obd (by decide +kernel)) rfl) rfl (List.forall_mem_cons.mpr ⟨rfl, fun _ h => absurd h List.not_mem_nil⟩) (ygf81 hB _) (fun v1 m1 cv1 => ?_)
  exact xS_ret (v := 0) rfl rfl rfl rfl
theorem ygk73_205 {B : Nat} (hB : B ≤ 512) {xs : Nat → Int32} {SL d : Nat} : ∀ x2 m, w32 x2 = x2 → xS B xs SL (d + 4) 73 (4, none, [], 6) 0 205 [(0, xa 293), (2, xi x2)] [] m (yk73_205 B x2 m) := by
  intro x2 m c2
  unfold yk73_205
  refine xS_of (pc' := 209) (L' := [(0, xa 293), (2, xi x2)]) (st' := [xi 216, xi x2]) (m' := m) (fun ex ns r q => ?_) ?_
  · refine xw_iload_n rfl rfl ?_
    refine xw_sipush (e := 216) rfl (by decide +kernel) ?_
    exact q
  refine xS_if (fun h0 => ?_) (fun h0 => ?_)
  · refine xS_of (pc' := 224) (L' := [(0, xa 293)]) (st' := []) (m' := m) (fun ex ns r q => ?_) ?_
    · refine xw_ic_eqT rfl (w32_cg c2) (w32_cg rfl) h0 ?_
      refine xw_lo (L2 := [(0, xa 293)]) (List.forall_mem_cons.mpr ⟨rfl, fun _ h => absurd h List.not_mem_nil⟩) ?_
      exact q
    exact ygk73_224 hB _
  · refine xS_of (pc' := 215) (L' := [(0, xa 293), (2, xi x2)]) (st' := [xi 100, xi x2]) (m' := m) (fun ex ns r q => ?_) ?_
    · refine xw_ic_eqF rfl (w32_cg c2) (w32_cg rfl) h0 ?_
      refine xw_iload_n rfl rfl ?_
      refine xw_bipush (e := 100) rfl (by decide +kernel) ?_
      exact q
    refine xS_if (fun h1 => ?_) (fun h1 => ?_)
    · refine xS_of (pc' := 231) (L' := [(0, xa 293), (2, xi x2)]) (st' := []) (m' := m) (fun ex ns r q => ?_) ?_
      · refine xw_ic_ltT rfl (w32_cg c2) (w32_cg rfl) h1 ?_
        exact q
      exact xS_ret (v := 0) rfl rfl rfl rfl
    · refine xS_of (pc' := 221) (L' := [(0, xa 293), (2, xi x2)]) (st' := [xi 102, xi x2]) (m' := m) (fun ex ns r q => ?_) ?_
      · refine xw_ic_ltF rfl (w32_cg c2) (w32_cg rfl) h1 ?_
        refine xw_iload_n rfl rfl ?_
        refine xw_bipush (e := 102) rfl (by decide +kernel) ?_
        exact q
      refine xS_if (fun h2 => ?_) (fun h2 => ?_)
      · refine xS_of (pc' := 231) (L' := [(0, xa 293), (2, xi x2)]) (st' := []) (m' := m) (fun ex ns r q => ?_) ?_
        · refine xw_ic_gtT rfl (w32_cg c2) (w32_cg rfl) h2 ?_
          exact q
        exact xS_ret (v := 0) rfl rfl rfl rfl
      · refine xS_of (pc' := 224) (L' := [(0, xa 293)]) (st' := []) (m' := m) (fun ex ns r q => ?_) ?_
        · refine xw_ic_gtF rfl (w32_cg c2) (w32_cg rfl) h2 ?_
          refine xw_lo (L2 := [(0, xa 293)]) (List.forall_mem_cons.mpr ⟨rfl, fun _ h => absurd h List.not_mem_nil⟩) ?_
          exact q
        exact ygk73_224 hB _
theorem ygk73_137 {B : Nat} (hB : B ≤ 512) {xs : Nat → Int32} {SL d : Nat} : ∀ x2 m, w32 x2 = x2 → xS B xs SL (d + 4) 73 (4, none, [], 6) 0 137 [(0, xa 293), (2, xi x2)] [] m (yk73_137 B x2 m) := by
  intro x2 m c2
  unfold yk73_137
  refine xS_of (pc' := 138) (L' := [(0, xa 293), (2, xi x2)]) (st' := [xa 293]) (m' := m) (fun ex ns r q => ?_) ?_
  · refine xw_aload_n rfl rfl rfl ?_
    refine xw_lo (L2 := [(0, xa 293), (2, xi x2)]) (List.forall_mem_cons.mpr ⟨rfl, List.forall_mem_cons.mpr ⟨rfl, fun _ h => absurd h List.not_mem_nil⟩⟩) ?_
    exact q
  refine xS_call (q := 79) (n := 1) (kq := 0) (as := [xa 293]) (st1 := []) rfl rfl rfl rfl rfl rfl rfl rfl rfl rfl (fun _ => xw_rcv1 (t := 5) (xw_obd (by decide +kernel)) rfl) rfl (List.forall_mem_cons.mpr ⟨rfl, fun _ h => absurd h List.not_mem_nil⟩) (ygf79 hB _) (fun v1 m1 cv1 => ?_)
  refine xS_of (pc' := 205) (L' := [(0, xa 293), (2, xi x2)]) (st' := []) (m' := m1) (fun ex ns r q => ?_) ?_
  · refine xw_goto rfl ?_
    refine xw_lo (L2 := [(0, xa 293), (2, xi x2)]) (List.forall_mem_cons.mpr ⟨rfl, List.forall_mem_cons.mpr ⟨rfl, fun _ h => absurd h List.not_mem_nil⟩⟩) ?_
    exact q
  exact ygk73_205 hB _ _ c2
theorem ygk73_120 {B : Nat} (hB : B ≤ 512) {xs : Nat → Int32} {SL d : Nat} : ∀ x2 m, w32 x2 = x2 → xS B xs SL (d + 4) 73 (4, none, [], 6) 0 120 [(0, xa 293), (2, xi x2)] [] m (yk73_120 B x2 m) := by
  intro x2 m c2
  unfold yk73_120
  refine xS_of (pc' := 124) (L' := [(0, xa 293), (2, xi x2)]) (st' := [xi 216, xi x2]) (m' := m) (fun ex ns r q => ?_) ?_
  · refine xw_iload_n rfl rfl ?_
    refine xw_sipush (e := 216) rfl (by decide +kernel) ?_
    exact q
  refine xS_if (fun h0 => ?_) (fun h0 => ?_)
  · refine xS_of (pc' := 134) (L' := [(0, xa 293), (2, xi x2)]) (st' := [xi 218, xa 1]) (m' := m) (fun ex ns r q => ?_) ?_
    · refine xw_ic_neF rfl (w32_cg c2) (w32_cg rfl) h0 ?_
      refine xw_aload_n rfl rfl rfl ?_
      refine xw_gfR (n := 1) (e := 1) rfl (xw_obd (by decide +kernel)) (by decide +kernel) (by decide +kernel) rfl ?_
      refine xw_sipush (e := 218) rfl (by decide +kernel) ?_
      refine xw_lo (L2 := [(0, xa 293), (2, xi x2)]) (List.forall_mem_cons.mpr ⟨rfl, List.forall_mem_cons.mpr ⟨rfl, fun _ h => absurd h List.not_mem_nil⟩⟩) ?_
      exact q
    refine xS_call (q := 68) (n := 2) (kq := 0) (as := [xa 1, xi 218]) (st1 := []) rfl rfl rfl rfl rfl rfl rfl rfl rfl rfl (fun _ => xw_rcv1 (t := 1) (xw_obd (by decide +kernel)) rfl) rfl (List.forall_mem_cons.mpr ⟨rfl, List.forall_mem_cons.mpr ⟨rfl, fun _ h => absurd h List.not_mem_nil⟩⟩) (ygf68 hB _ _ rfl) (fun v1 m1 cv1 => ?_)
    refine xS_of (pc' := 137) (L' := [(0, xa 293), (2, xi x2)]) (st' := []) (m' := m1) (fun ex ns r q => ?_) ?_
    · refine xw_lo (L2 := [(0, xa 293), (2, xi x2)]) (List.forall_mem_cons.mpr ⟨rfl, List.forall_mem_cons.mpr ⟨rfl, fun _ h => absurd h List.not_mem_nil⟩⟩) ?_
      exact q
    exact ygk73_137 hB _ _ c2
  · refine xS_of (pc' := 137) (L' := [(0, xa 293), (2, xi x2)]) (st' := []) (m' := m) (fun ex ns r q => ?_) ?_
    · refine xw_ic_neT rfl (w32_cg c2) (w32_cg rfl) h0 ?_
      refine xw_lo (L2 := [(0, xa 293), (2, xi x2)]) (List.forall_mem_cons.mpr ⟨rfl, List.forall_mem_cons.mpr ⟨rfl, fun _ h => absurd h List.not_mem_nil⟩⟩) ?_
      exact q
    exact ygk73_137 hB _ _ c2
theorem ygk73_174 {B : Nat} (hB : B ≤ 512) {xs : Nat → Int32} {SL d : Nat} : ∀ x2 m, w32 x2 = x2 → xS B xs SL (d + 4) 73 (4, none, [], 6) 0 174 [(0, xa 293), (2, xi x2)] [] m (yk73_174 B x2 m) := by
  intro x2 m c2
  unfold yk73_174
  refine xS_of (pc' := 179) (L' := [(0, xa 293), (2, xi x2)]) (st' := [xi 3, xa 1]) (m' := m) (fun ex ns r q => ?_) ?_
  · refine xw_aload_n rfl rfl rfl ?_
    refine xw_gfR (n := 1) (e := 1) rfl (xw_obd (by decide +kernel)) (by decide +kernel) (by decide +kernel) rfl ?_
    refine xw_iconst rfl ?_
    refine xw_lo (L2 := [(0, xa 293), (2, xi x2)]) (List.forall_mem_cons.mpr ⟨rfl, List.forall_mem_cons.mpr ⟨rfl, fun _ h => absurd h List.not_mem_nil⟩⟩) ?_
    exact q
  refine xS_call (q := 68) (n := 2) (kq := 0) (as := [xa 1, xi 3]) (st1 := []) rfl rfl rfl rfl rfl rfl rfl rfl rfl rfl (fun _ => xw_rcv1 (t := 1) (xw_obd (by decide +kernel)) rfl) rfl (List.forall_mem_cons.mpr ⟨rfl, List.forall_mem_cons.mpr ⟨rfl, fun _ h => absurd h List.not_mem_nil⟩⟩) (ygf68 hB _ _ rfl) (fun v1 m1 cv1 => ?_)
  refine xS_of (pc' := 192) (L' := [(0, xa 293), (2, xi x2)]) (st' := [xj (xR m1 1 5), xi x2, xa 293]) (m' := m1) (fun ex ns r q => ?_) ?_
  · refine xw_aload_n rfl rfl rfl ?_
    refine xw_iload_n rfl rfl ?_
    refine xw_aload_n rfl rfl rfl ?_
    refine xw_gfR (n := 1) (e := 1) rfl (xw_obd (by decide +kernel)) (by decide +kernel) (by decide +kernel) rfl ?_
    refine xw_gfIc (v := (m1 1 5)) (v' := (xR m1 1 5)) rfl (xw_obd (by decide +kernel)) xk1_5 (qi := 5) rfl rfl rfl ?_
    refine xw_i2l rfl (w32_cg (w32_xR _ _ _)) ?_
    refine xw_lo (L2 := [(0, xa 293), (2, xi x2)]) (List.forall_mem_cons.mpr ⟨rfl, List.forall_mem_cons.mpr ⟨rfl, fun _ h => absurd h List.not_mem_nil⟩⟩) ?_
    exact q
  refine xS_call (q := 80) (n := 3) (kq := 0) (as := [xa 293, xi x2, xj (xR m1 1 5)]) (st1 := []) rfl rfl rfl rfl rfl rfl rfl rfl rfl rfl (fun _ => xw_rcv1 (t := 5) (xw_obd (by decide +kernel)) rfl) rfl (List.forall_mem_cons.mpr ⟨rfl, List.forall_mem_cons.mpr ⟨rfl, List.forall_mem_cons.mpr ⟨rfl, fun _ h => absurd h List.not_mem_nil⟩⟩⟩) (ygf80 hB _ _ _ c2 (w64_32 (w32_xR _ _ _))) (fun v2 m2 cv2 => ?_)
  refine xS_of (pc' := 205) (L' := [(0, xa 293), (2, xi x2)]) (st' := []) (m' := m2) (fun ex ns r q => ?_) ?_
  · refine xw_goto rfl ?_
    refine xw_lo (L2 := [(0, xa 293), (2, xi x2)]) (List.forall_mem_cons.mpr ⟨rfl, List.forall_mem_cons.mpr ⟨rfl, fun _ h => absurd h List.not_mem_nil⟩⟩) ?_
    exact q
  exact ygk73_205 hB _ _ c2
theorem ygk73_198 {B : Nat} (hB : B ≤ 512) {xs : Nat → Int32} {SL d : Nat} : ∀ x2 m, w32 x2 = x2 → xS B xs SL (d + 4) 73 (4, none, [], 6) 0 198 [(0, xa 293), (2, xi x2)] [] m (yk73_198 B x2 m) := by
  intro x2 m c2
  unfold yk73_198
  refine xS_of (pc' := 202) (L' := [(0, xa 293), (2, xi x2)]) (st' := [xa 1]) (m' := m) (fun ex ns r q => ?_) ?_
  · refine xw_aload_n rfl rfl rfl ?_
    refine xw_gfR (n := 1) (e := 1) rfl (xw_obd (by decide +kernel)) (by decide +kernel) (by decide +kernel) rfl ?_
    refine xw_lo (L2 := [(0, xa 293), (2, xi x2)]) (List.forall_mem_cons.mpr ⟨rfl, List.forall_mem_cons.mpr ⟨rfl, fun _ h => absurd h List.not_mem_nil⟩⟩) ?_
    exact q
  refine xS_call (q := 56) (n := 1) (kq := 0) (as := [xa 1]) (st1 := []) rfl rfl rfl rfl rfl rfl rfl rfl rfl rfl (fun _ => xw_rcv1 (t := 1) (xw_obd (by decide +kernel)) rfl) rfl (List.forall_mem_cons.mpr ⟨rfl, fun _ h => absurd h List.not_mem_nil⟩) (ygf56 hB _) (fun v1 m1 cv1 => ?_)
  refine xS_of (pc' := 205) (L' := [(0, xa 293), (2, xi x2)]) (st' := []) (m' := m1) (fun ex ns r q => ?_) ?_
  · refine xw_lo (L2 := [(0, xa 293), (2, xi x2)]) (List.forall_mem_cons.mpr ⟨rfl, List.forall_mem_cons.mpr ⟨rfl, fun _ h => absurd h List.not_mem_nil⟩⟩) ?_
    exact q
  exact ygk73_205 hB _ _ c2
theorem ygf73 {B : Nat} (hB : B ≤ 512) {xs : Nat → Int32} {SL d : Nat} : ∀ m, xS B xs SL (d + 4) 73 (4, none, [], 6) 0 0 [(0, xa 293)] [] m (yf73 B m) := by
  intro m
  unfold yf73
  refine xS_of (pc' := 1) (L' := [(0, xa 293)]) (st' := [xa 293]) (m' := m) (fun ex ns r q => ?_) ?_
  · refine xw_aload_n rfl rfl rfl ?_
    refine xw_lo (L2 := [(0, xa 293)]) (List.forall_mem_cons.mpr ⟨rfl, fun _ h => absurd h List.not_mem_nil⟩) ?_
    exact q
  refine xS_call (q := 60) (n := 1) (kq := 1) (as := [xa 293]) (st1 := []) rfl rfl rfl rfl rfl rfl rfl rfl rfl rfl (fun _ => xw_rcv1 (t := 5) (xw_obd (by decide +kernel)) rfl) rfl (List.forall_mem_cons.mpr ⟨rfl, fun _ h => absurd h List.not_mem_nil⟩) (ygf60 hB _) (fun v1 m1 cv1 => ?_)
  refine xS_of (pc' := 15) (L' := [(0, xa 293), (1, xi v1)]) (st' := [xi 60, xi (xR m1 223 10), xa 293]) (m' := m1) (fun ex ns r q => ?_) ?_
  · refine xw_istore_n (L' := [(1, xi v1), (0, xa 293)]) rfl (by decide) rfl ?_
    refine xw_aload_n rfl rfl rfl ?_
    refine xw_aload_n rfl rfl rfl ?_
    refine xw_gfR (n := 223) (e := 223) rfl (xw_obd (by decide +kernel)) (by decide +kernel) (by decide +kernel) rfl ?_
    refine xw_gfIc (v := (m1 223 10)) (v' := (xR m1 223 10)) rfl (xw_obd (by decide +kernel)) xk4_10 (qi := 10) rfl rfl rfl ?_
    refine xw_bipush (e := 60) rfl (by decide +kernel) ?_
    refine xw_lo (L2 := [(0, xa 293), (1, xi v1)]) (List.forall_mem_cons.mpr ⟨rfl, List.forall_mem_cons.mpr ⟨rfl, fun _ h => absurd h List.not_mem_nil⟩⟩) ?_
    exact q
  refine xS_call (q := 64) (n := 3) (kq := 0) (as := [xa 293, xi (xR m1 223 10), xi 60]) (st1 := []) rfl rfl rfl rfl rfl rfl rfl rfl rfl rfl (fun _ => xw_rcv1 (t := 5) (xw_obd (by decide +kernel)) rfl) rfl (List.forall_mem_cons.mpr ⟨rfl, List.forall_mem_cons.mpr ⟨rfl, List.forall_mem_cons.mpr ⟨rfl, fun _ h => absurd h List.not_mem_nil⟩⟩⟩) (ygf64 hB _ _ _ (w32_xR _ _ _) rfl) (fun v2 m2 cv2 => ?_)
  refine xS_of (pc' := 24) (L' := [(0, xa 293)]) (st' := [xi v1, xa 293, xa 223]) (m' := m2) (fun ex ns r q => ?_) ?_
  · refine xw_aload_n rfl rfl rfl ?_
    refine xw_gfR (n := 223) (e := 223) rfl (xw_obd (by decide +kernel)) (by decide +kernel) (by decide +kernel) rfl ?_
    refine xw_aload_n rfl rfl rfl ?_
    refine xw_iload_n rfl rfl ?_
    refine xw_lo (L2 := [(0, xa 293)]) (List.forall_mem_cons.mpr ⟨rfl, fun _ h => absurd h List.not_mem_nil⟩) ?_
    exact q
  refine xS_call (q := 65) (n := 2) (kq := 1) (as := [xa 293, xi v1]) (st1 := [xa 223]) rfl rfl rfl rfl rfl rfl rfl rfl rfl rfl (fun _ => xw_rcv1 (t := 5) (xw_obd (by decide +kernel)) rfl) rfl (List.forall_mem_cons.mpr ⟨rfl, List.forall_mem_cons.mpr ⟨rfl, fun _ h => absurd h List.not_mem_nil⟩⟩) (ygf65 hB _ _ cv1) (fun v3 m3 cv3 => ?_)
  refine xS_of (pc' := 27) (L' := [(0, xa 293)]) (st' := [xi v3, xa 223]) (m' := m3) (fun ex ns r q => ?_) ?_
  · refine xw_lo (L2 := [(0, xa 293)]) (List.forall_mem_cons.mpr ⟨rfl, fun _ h => absurd h List.not_mem_nil⟩) ?_
    exact q
  refine xS_call (q := 74) (n := 2) (kq := 0) (as := [xa 223, xi v3]) (st1 := []) rfl rfl rfl rfl rfl rfl rfl rfl rfl rfl (fun _ => xw_rcv1 (t := 4) (xw_obd (by decide +kernel)) rfl) rfl (List.forall_mem_cons.mpr ⟨rfl, List.forall_mem_cons.mpr ⟨rfl, fun _ h => absurd h List.not_mem_nil⟩⟩) (ygf74 hB _ _ cv3) (fun v4 m4 cv4 => ?_)
  refine xS_of (pc' := 34) (L' := [(0, xa 293)]) (st' := [xa 1]) (m' := m4) (fun ex ns r q => ?_) ?_
  · refine xw_aload_n rfl rfl rfl ?_
    refine xw_gfR (n := 1) (e := 1) rfl (xw_obd (by decide +kernel)) (by decide +kernel) (by decide +kernel) rfl ?_
    refine xw_lo (L2 := [(0, xa 293)]) (List.forall_mem_cons.mpr ⟨rfl, fun _ h => absurd h List.not_mem_nil⟩) ?_
    exact q
  refine xS_call (q := 47) (n := 1) (kq := 0) (as := [xa 1]) (st1 := []) rfl rfl rfl rfl rfl rfl rfl rfl rfl rfl (fun _ => xw_rcv1 (t := 1) (xw_obd (by decide +kernel)) rfl) rfl (List.forall_mem_cons.mpr ⟨rfl, fun _ h => absurd h List.not_mem_nil⟩) (ygf47 hB _) (fun v5 m5 cv5 => ?_)
  refine xS_of (pc' := 49) (L' := [(2, xi (xR m5 1 3)), (0, xa 293)]) (st' := [xi 217, xi (xR m5 1 3)]) (m' := m5) (fun ex ns r q => ?_) ?_
  · refine xw_aload_n rfl rfl rfl ?_
    refine xw_gfR (n := 1) (e := 1) rfl (xw_obd (by decide +kernel)) (by decide +kernel) (by decide +kernel) rfl ?_
    refine xw_gfIc (v := (m5 1 3)) (v' := (xR m5 1 3)) rfl (xw_obd (by decide +kernel)) xk1_3 (qi := 3) rfl rfl rfl ?_
    refine xw_istore_n (L' := [(2, xi (xR m5 1 3)), (0, xa 293)]) rfl (by decide) rfl ?_
    refine xw_iload_n rfl rfl ?_
    refine xw_sipush (e := 217) rfl (by decide +kernel) ?_
    exact q
  refine xS_if (fun h0 => ?_) (fun h0 => ?_)
  · refine xS_of (pc' := 57) (L' := [(0, xa 293), (2, xi (xR m5 1 3))]) (st' := [xi 3, xa 1]) (m' := m5) (fun ex ns r q => ?_) ?_
    · refine xw_ic_neF rfl (w32_cg (w32_xR _ _ _)) (w32_cg rfl) h0 ?_
      refine xw_aload_n rfl rfl rfl ?_
      refine xw_gfR (n := 1) (e := 1) rfl (xw_obd (by decide +kernel)) (by decide +kernel) (by decide +kernel) rfl ?_
      refine xw_iconst rfl ?_
      refine xw_lo (L2 := [(0, xa 293), (2, xi (xR m5 1 3))]) (List.forall_mem_cons.mpr ⟨rfl, List.forall_mem_cons.mpr ⟨rfl, fun _ h => absurd h List.not_mem_nil⟩⟩) ?_
      exact q
    refine xS_call (q := 68) (n := 2) (kq := 0) (as := [xa 1, xi 3]) (st1 := []) rfl rfl rfl rfl rfl rfl rfl rfl rfl rfl (fun _ => xw_rcv1 (t := 1) (xw_obd (by decide +kernel)) rfl) rfl (List.forall_mem_cons.mpr ⟨rfl, List.forall_mem_cons.mpr ⟨rfl, fun _ h => absurd h List.not_mem_nil⟩⟩) (ygf68 hB _ _ rfl) (fun v6 m6 cv6 => ?_)
    refine xS_of (pc' := 75) (L' := [(0, xa 293), (2, xi (xR m5 1 3)), (3, xi (xR m6 1 5))]) (st' := [xi 214, xa 1]) (m' := m6) (fun ex ns r q => ?_) ?_
    · refine xw_aload_n rfl rfl rfl ?_
      refine xw_gfR (n := 1) (e := 1) rfl (xw_obd (by decide +kernel)) (by decide +kernel) (by decide +kernel) rfl ?_
      refine xw_gfIc (v := (m6 1 5)) (v' := (xR m6 1 5)) rfl (xw_obd (by decide +kernel)) xk1_5 (qi := 5) rfl rfl rfl ?_
      refine xw_istore_n (L' := [(3, xi (xR m6 1 5)), (0, xa 293), (2, xi (xR m5 1 3))]) rfl (by decide) rfl ?_
      refine xw_aload_n rfl rfl rfl ?_
      refine xw_gfR (n := 1) (e := 1) rfl (xw_obd (by decide +kernel)) (by decide +kernel) (by decide +kernel) rfl ?_
      refine xw_sipush (e := 214) rfl (by decide +kernel) ?_
      refine xw_lo (L2 := [(0, xa 293), (2, xi (xR m5 1 3)), (3, xi (xR m6 1 5))]) (List.forall_mem_cons.mpr ⟨rfl, List.forall_mem_cons.mpr ⟨rfl, List.forall_mem_cons.mpr ⟨rfl, fun _ h => absurd h List.not_mem_nil⟩⟩⟩) ?_
      exact q
    refine xS_call (q := 68) (n := 2) (kq := 0) (as := [xa 1, xi 214]) (st1 := []) rfl rfl rfl rfl rfl rfl rfl rfl rfl rfl (fun _ => xw_rcv1 (t := 1) (xw_obd (by decide +kernel)) rfl) rfl (List.forall_mem_cons.mpr ⟨rfl, List.forall_mem_cons.mpr ⟨rfl, fun _ h => absurd h List.not_mem_nil⟩⟩) (ygf68 hB _ _ rfl) (fun v7 m7 cv7 => ?_)
    refine xS_of (pc' := 83) (L' := [(0, xa 293), (2, xi (xR m5 1 3)), (3, xi (xR m6 1 5))]) (st' := [xi 3, xa 1]) (m' := m7) (fun ex ns r q => ?_) ?_
    · refine xw_aload_n rfl rfl rfl ?_
      refine xw_gfR (n := 1) (e := 1) rfl (xw_obd (by decide +kernel)) (by decide +kernel) (by decide +kernel) rfl ?_
      refine xw_iconst rfl ?_
      refine xw_lo (L2 := [(0, xa 293), (2, xi (xR m5 1 3)), (3, xi (xR m6 1 5))]) (List.forall_mem_cons.mpr ⟨rfl, List.forall_mem_cons.mpr ⟨rfl, List.forall_mem_cons.mpr ⟨rfl, fun _ h => absurd h List.not_mem_nil⟩⟩⟩) ?_
      exact q
    refine xS_call (q := 68) (n := 2) (kq := 0) (as := [xa 1, xi 3]) (st1 := []) rfl rfl rfl rfl rfl rfl rfl rfl rfl rfl (fun _ => xw_rcv1 (t := 1) (xw_obd (by decide +kernel)) rfl) rfl (List.forall_mem_cons.mpr ⟨rfl, List.forall_mem_cons.mpr ⟨rfl, fun _ h => absurd h List.not_mem_nil⟩⟩) (ygf68 hB _ _ rfl) (fun v8 m8 cv8 => ?_)
    refine xS_of (pc' := 100) (L' := [(0, xa 293), (2, xi (xR m5 1 3))]) (st' := [xj (xR m8 1 5), xj (xR m6 1 5), xa 223]) (m' := m8) (fun ex ns r q => ?_) ?_
    · refine xw_aload_n rfl rfl rfl ?_
      refine xw_gfR (n := 223) (e := 223) rfl (xw_obd (by decide +kernel)) (by decide +kernel) (by decide +kernel) rfl ?_
      refine xw_iload_n rfl rfl ?_
      refine xw_i2l rfl (w32_cg (w32_xR _ _ _)) ?_
      refine xw_aload_n rfl rfl rfl ?_
      refine xw_gfR (n := 1) (e := 1) rfl (xw_obd (by decide +kernel)) (by decide +kernel) (by decide +kernel) rfl ?_
      refine xw_gfIc (v := (m8 1 5)) (v' := (xR m8 1 5)) rfl (xw_obd (by decide +kernel)) xk1_5 (qi := 5) rfl rfl rfl ?_
      refine xw_i2l rfl (w32_cg (w32_xR _ _ _)) ?_
      refine xw_lo (L2 := [(0, xa 293), (2, xi (xR m5 1 3))]) (List.forall_mem_cons.mpr ⟨rfl, List.forall_mem_cons.mpr ⟨rfl, fun _ h => absurd h List.not_mem_nil⟩⟩) ?_
      exact q
    refine xS_call (q := 78) (n := 3) (kq := 0) (as := [xa 223, xj (xR m6 1 5), xj (xR m8 1 5)]) (st1 := []) rfl rfl rfl rfl rfl rfl rfl rfl rfl rfl (fun _ => xw_rcv1 (t := 4) (xw_obd (by decide +kernel)) rfl) rfl (List.forall_mem_cons.mpr ⟨rfl, List.forall_mem_cons.mpr ⟨rfl, List.forall_mem_cons.mpr ⟨rfl, fun _ h => absurd h List.not_mem_nil⟩⟩⟩) (ygf78 hB _ _ _ (w64_32 (w32_xR _ _ _)) (w64_32 (w32_xR _ _ _))) (fun v9 m9 cv9 => ?_)
    refine xS_of (pc' := 205) (L' := [(0, xa 293), (2, xi (xR m5 1 3))]) (st' := []) (m' := m9) (fun ex ns r q => ?_) ?_
    · refine xw_goto rfl ?_
      refine xw_lo (L2 := [(0, xa 293), (2, xi (xR m5 1 3))]) (List.forall_mem_cons.mpr ⟨rfl, List.forall_mem_cons.mpr ⟨rfl, fun _ h => absurd h List.not_mem_nil⟩⟩) ?_
      exact q
    exact ygk73_205 hB _ _ (w32_xR _ _ _)
  · refine xS_of (pc' := 110) (L' := [(2, xi (xR m5 1 3)), (0, xa 293)]) (st' := [xi 218, xi (xR m5 1 3)]) (m' := m5) (fun ex ns r q => ?_) ?_
    · refine xw_ic_neT rfl (w32_cg (w32_xR _ _ _)) (w32_cg rfl) h0 ?_
      refine xw_iload_n rfl rfl ?_
      refine xw_sipush (e := 218) rfl (by decide +kernel) ?_
      exact q
    refine xS_if (fun h1 => ?_) (fun h1 => ?_)
    · refine xS_of (pc' := 120) (L' := [(0, xa 293), (2, xi (xR m5 1 3))]) (st' := []) (m' := m5) (fun ex ns r q => ?_) ?_
      · refine xw_ic_eqT rfl (w32_cg (w32_xR _ _ _)) (w32_cg rfl) h1 ?_
        refine xw_lo (L2 := [(0, xa 293), (2, xi (xR m5 1 3))]) (List.forall_mem_cons.mpr ⟨rfl, List.forall_mem_cons.mpr ⟨rfl, fun _ h => absurd h List.not_mem_nil⟩⟩) ?_
        exact q
      exact ygk73_120 hB _ _ (w32_xR _ _ _)
    · refine xS_of (pc' := 117) (L' := [(2, xi (xR m5 1 3)), (0, xa 293)]) (st' := [xi 216, xi (xR m5 1 3)]) (m' := m5) (fun ex ns r q => ?_) ?_
      · refine xw_ic_eqF rfl (w32_cg (w32_xR _ _ _)) (w32_cg rfl) h1 ?_
        refine xw_iload_n rfl rfl ?_
        refine xw_sipush (e := 216) rfl (by decide +kernel) ?_
        exact q
      refine xS_if (fun h2 => ?_) (fun h2 => ?_)
      · refine xS_of (pc' := 120) (L' := [(0, xa 293), (2, xi (xR m5 1 3))]) (st' := []) (m' := m5) (fun ex ns r q => ?_) ?_
        · refine xw_ic_neF rfl (w32_cg (w32_xR _ _ _)) (w32_cg rfl) h2 ?_
          refine xw_lo (L2 := [(0, xa 293), (2, xi (xR m5 1 3))]) (List.forall_mem_cons.mpr ⟨rfl, List.forall_mem_cons.mpr ⟨rfl, fun _ h => absurd h List.not_mem_nil⟩⟩) ?_
          exact q
        exact ygk73_120 hB _ _ (w32_xR _ _ _)
      · refine xS_of (pc' := 147) (L' := [(2, xi (xR m5 1 3)), (0, xa 293)]) (st' := [xi 61, xi (xR m5 1 3)]) (m' := m5) (fun ex ns r q => ?_) ?_
        · refine xw_ic_neT rfl (w32_cg (w32_xR _ _ _)) (w32_cg rfl) h2 ?_
          refine xw_iload_n rfl rfl ?_
          refine xw_bipush (e := 61) rfl (by decide +kernel) ?_
          exact q
        refine xS_if (fun h3 => ?_) (fun h3 => ?_)
        · refine xS_of (pc' := 174) (L' := [(0, xa 293), (2, xi (xR m5 1 3))]) (st' := []) (m' := m5) (fun ex ns r q => ?_) ?_
          · refine xw_ic_eqT rfl (w32_cg (w32_xR _ _ _)) (w32_cg rfl) h3 ?_
            refine xw_lo (L2 := [(0, xa 293), (2, xi (xR m5 1 3))]) (List.forall_mem_cons.mpr ⟨rfl, List.forall_mem_cons.mpr ⟨rfl, fun _ h => absurd h List.not_mem_nil⟩⟩) ?_
            exact q
          exact ygk73_174 hB _ _ (w32_xR _ _ _)
        · refine xS_of (pc' := 153) (L' := [(2, xi (xR m5 1 3)), (0, xa 293)]) (st' := [xi 60, xi (xR m5 1 3)]) (m' := m5) (fun ex ns r q => ?_) ?_
          · refine xw_ic_eqF rfl (w32_cg (w32_xR _ _ _)) (w32_cg rfl) h3 ?_
            refine xw_iload_n rfl rfl ?_
            refine xw_bipush (e := 60) rfl (by decide +kernel) ?_
            exact q
          refine xS_if (fun h4 => ?_) (fun h4 => ?_)
          · refine xS_of (pc' := 174) (L' := [(0, xa 293), (2, xi (xR m5 1 3))]) (st' := []) (m' := m5) (fun ex ns r q => ?_) ?_
            · refine xw_ic_eqT rfl (w32_cg (w32_xR _ _ _)) (w32_cg rfl) h4 ?_
              refine xw_lo (L2 := [(0, xa 293), (2, xi (xR m5 1 3))]) (List.forall_mem_cons.mpr ⟨rfl, List.forall_mem_cons.mpr ⟨rfl, fun _ h => absurd h List.not_mem_nil⟩⟩) ?_
              exact q
            exact ygk73_174 hB _ _ (w32_xR _ _ _)
          · refine xS_of (pc' := 159) (L' := [(2, xi (xR m5 1 3)), (0, xa 293)]) (st' := [xi 62, xi (xR m5 1 3)]) (m' := m5) (fun ex ns r q => ?_) ?_
            · refine xw_ic_eqF rfl (w32_cg (w32_xR _ _ _)) (w32_cg rfl) h4 ?_
              refine xw_iload_n rfl rfl ?_
              refine xw_bipush (e := 62) rfl (by decide +kernel) ?_
              exact q
            refine xS_if (fun h5 => ?_) (fun h5 => ?_)
            · refine xS_of (pc' := 174) (L' := [(0, xa 293), (2, xi (xR m5 1 3))]) (st' := []) (m' := m5) (fun ex ns r q => ?_) ?_
              · refine xw_ic_eqT rfl (w32_cg (w32_xR _ _ _)) (w32_cg rfl) h5 ?_
                refine xw_lo (L2 := [(0, xa 293), (2, xi (xR m5 1 3))]) (List.forall_mem_cons.mpr ⟨rfl, List.forall_mem_cons.mpr ⟨rfl, fun _ h => absurd h List.not_mem_nil⟩⟩) ?_
                exact q
              exact ygk73_174 hB _ _ (w32_xR _ _ _)
            · refine xS_of (pc' := 165) (L' := [(2, xi (xR m5 1 3)), (0, xa 293)]) (st' := [xi 100, xi (xR m5 1 3)]) (m' := m5) (fun ex ns r q => ?_) ?_
              · refine xw_ic_eqF rfl (w32_cg (w32_xR _ _ _)) (w32_cg rfl) h5 ?_
                refine xw_iload_n rfl rfl ?_
                refine xw_bipush (e := 100) rfl (by decide +kernel) ?_
                exact q
              refine xS_if (fun h6 => ?_) (fun h6 => ?_)
              · refine xS_of (pc' := 198) (L' := [(0, xa 293), (2, xi (xR m5 1 3))]) (st' := []) (m' := m5) (fun ex ns r q => ?_) ?_
                · refine xw_ic_ltT rfl (w32_cg (w32_xR _ _ _)) (w32_cg rfl) h6 ?_
                  refine xw_lo (L2 := [(0, xa 293), (2, xi (xR m5 1 3))]) (List.forall_mem_cons.mpr ⟨rfl, List.forall_mem_cons.mpr ⟨rfl, fun _ h => absurd h List.not_mem_nil⟩⟩) ?_
                  exact q
                exact ygk73_198 hB _ _ (w32_xR _ _ _)
              · refine xS_of (pc' := 171) (L' := [(2, xi (xR m5 1 3)), (0, xa 293)]) (st' := [xi 102, xi (xR m5 1 3)]) (m' := m5) (fun ex ns r q => ?_) ?_
                · refine xw_ic_ltF rfl (w32_cg (w32_xR _ _ _)) (w32_cg rfl) h6 ?_
                  refine xw_iload_n rfl rfl ?_
                  refine xw_bipush (e := 102) rfl (by decide +kernel) ?_
                  exact q
                refine xS_if (fun h7 => ?_) (fun h7 => ?_)
                · refine xS_of (pc' := 198) (L' := [(0, xa 293), (2, xi (xR m5 1 3))]) (st' := []) (m' := m5) (fun ex ns r q => ?_) ?_
                  · refine xw_ic_gtT rfl (w32_cg (w32_xR _ _ _)) (w32_cg rfl) h7 ?_
                    refine xw_lo (L2 := [(0, xa 293), (2, xi (xR m5 1 3))]) (List.forall_mem_cons.mpr ⟨rfl, List.forall_mem_cons.mpr ⟨rfl, fun _ h => absurd h List.not_mem_nil⟩⟩) ?_
                    exact q
                  exact ygk73_198 hB _ _ (w32_xR _ _ _)
                · refine xS_of (pc' := 174) (L' := [(0, xa 293), (2, xi (xR m5 1 3))]) (st' := []) (m' := m5) (fun ex ns r q => ?_) ?_
                  · refine xw_ic_gtF rfl (w32_cg (w32_xR _ _ _)) (w32_cg rfl) h7 ?_
                    refine xw_lo (L2 := [(0, xa 293), (2, xi (xR m5 1 3))]) (List.forall_mem_cons.mpr ⟨rfl, List.forall_mem_cons.mpr ⟨rfl, fun _ h => absurd h List.not_mem_nil⟩⟩) ?_
                    exact q
                  exact ygk73_174 hB _ _ (w32_xR _ _ _)
theorem ygf82 {B : Nat} (hB : B ≤ 512) {xs : Nat → Int32} {SL d : Nat} : ∀ m, xS B xs SL (d + 1) 82 (1, none, [], 6) 0 0 [(0, xa 293)] [] m (yf82 B m) := by
  intro m
  unfold yf82
  refine xS_of (pc' := 4) (L' := [(0, xa 293)]) (st' := [xi (xR m 293 4)]) (m' := m) (fun ex ns r q => ?_) ?_
  · refine xw_aload_n rfl rfl rfl ?_
    refine xw_gfIc (v := (m 293 4)) (v' := (xR m 293 4)) rfl (xw_obd (by decide +kernel)) xk5_4 (qi := 4) rfl rfl rfl ?_
    exact q
  refine xS_if (fun h0 => ?_) (fun h0 => ?_)
  · refine xS_g (fun g1 => ?_)
    refine xS_of (pc' := 21) (L' := [(0, xa 293)]) (st' := [xi 216, xi (xR m 294 ((xR m 293 4) - 1))]) (m' := m) (fun ex ns r q => ?_) ?_
    · refine xw_if_leF rfl (w32_cg (w32_xR _ _ _)) (Int.not_le.mpr h0) ?_
      refine xw_aload_n rfl rfl rfl ?_
      refine xw_gfR (n := 294) (e := 294) rfl (xw_obd (by decide +kernel)) (by decide +kernel) (by decide +kernel) rfl ?_
      refine xw_aload_n rfl rfl rfl ?_
      refine xw_gfIc (v := (m 293 4)) (v' := (xR m 293 4)) rfl (xw_obd (by decide +kernel)) xk5_4 (qi := 4) rfl rfl rfl ?_
      refine xw_iconst rfl ?_
      refine xw_isub rfl ?_
      refine xw_ialdc (n := 164) (v := (m 294 ((xR m 293 4) - 1))) (v' := (xR m 294 ((xR m 293 4) - 1))) rfl hB (xw_obd (by decide +kernel)) rfl g1 rfl rfl ?_
      refine xw_sipush (e := 216) rfl (by decide +kernel) ?_
      exact q
    refine xS_if (fun h2 => ?_) (fun h2 => ?_)
    · refine xS_of (pc' := 41) (L' := []) (st' := [xi 216, xa 223]) (m' := (xw_u m 293 4 ((xR m 293 4) - 1))) (fun ex ns r q => ?_) ?_
      · refine xw_ic_neF rfl (w32_cg (w32_xR _ _ _)) (w32_cg rfl) h2 ?_
        refine xw_aload_n rfl rfl rfl ?_
        refine xw_dup rfl rfl ?_
        refine xw_gfIc (v := (m 293 4)) (v' := (xR m 293 4)) rfl (xw_obd (by decide +kernel)) xk5_4 (qi := 4) rfl rfl rfl ?_
        refine xw_iconst rfl ?_
        refine xw_isub rfl ?_
        refine xw_pfI rfl (xw_obd (by decide +kernel)) xk5_4 (qi := 4) rfl (xw_okI rfl) ?_
        refine xw_aload_n rfl rfl rfl ?_
        refine xw_gfR (n := 223) (e := 223) rfl (xw_obd (by decide +kernel)) (by decide +kernel) (by decide +kernel) rfl ?_
        refine xw_sipush (e := 216) rfl (by decide +kernel) ?_
        refine xw_lo (L2 := []) (fun _ h => absurd h List.not_mem_nil) ?_
        exact q
      refine xS_call (q := 77) (n := 2) (kq := 0) (as := [xa 223, xi 216]) (st1 := []) rfl rfl rfl rfl rfl rfl rfl rfl rfl rfl (fun _ => xw_rcv1 (t := 4) (xw_obd (by decide +kernel)) rfl) rfl (List.forall_mem_cons.mpr ⟨rfl, List.forall_mem_cons.mpr ⟨rfl, fun _ h => absurd h List.not_mem_nil⟩⟩) (ygf77 hB _ _ rfl) (fun v1 m1 cv1 => ?_)
      exact xS_ret (v := 0) rfl rfl rfl rfl
    · refine xS_of (pc' := 44) (L' := [(0, xa 293)]) (st' := []) (m' := m) (fun ex ns r q => ?_) ?_
      · refine xw_ic_neT rfl (w32_cg (w32_xR _ _ _)) (w32_cg rfl) h2 ?_
        exact q
      exact xS_ret (v := 0) rfl rfl rfl rfl
  · refine xS_of (pc' := 44) (L' := [(0, xa 293)]) (st' := []) (m' := m) (fun ex ns r q => ?_) ?_
    · refine xw_if_leT rfl (w32_cg (w32_xR _ _ _)) (Int.not_lt.mp h0) ?_
      exact q
    exact xS_ret (v := 0) rfl rfl rfl rfl
theorem ysl84_7 {B : Nat} (hB : B ≤ 512) {xs : Nat → Int32} {SL d : Nat} {r7 : Int → Int → xw_M → xP} (hr7 : ∀ x1 x2 m, w32 x1 = x1 → w32 x2 = x2 → xS B xs SL (d + 1) 84 (3, none, [], 6) 0 7 [(0, xa 293), (1, xi x1), (2, xi x2)] [] m (r7 x1 x2 m)) : ∀ x1 x2 m, w32 x1 = x1 → w32 x2 = x2 → xS B xs SL (d + 1) 84 (3, none, [], 6) 0 7 [(0, xa 293), (1, xi x1), (2, xi x2)] [] m (yl84_7 B r7 x1 x2 m) := by
  intro x1 x2 m c1 c2
  unfold yl84_7
  refine xS_of (pc' := 8) (L' := [(0, xa 293), (1, xi x1), (2, xi x2)]) (st' := [xi x2]) (m' := m) (fun ex ns r q => ?_) ?_
  · refine xw_iload_n rfl rfl ?_
    exact q
  refine xS_if (fun h0 => ?_) (fun h0 => ?_)
  · refine xS_of (pc' := 64) (L' := [(0, xa 293), (1, xi x1), (2, xi x2)]) (st' := []) (m' := m) (fun ex ns r q => ?_) ?_
    · refine xw_if_ltT rfl (w32_cg c2) h0 ?_
      exact q
    exact xS_ret (v := 0) rfl rfl rfl rfl
  · refine xS_g (fun g1 => ?_)
    refine xS_of (pc' := 19) (L' := [(0, xa 293), (1, xi x1), (2, xi x2)]) (st' := [xi 40, xi (xR m 294 x2)]) (m' := m) (fun ex ns r q => ?_) ?_
    · refine xw_if_ltF rfl (w32_cg c2) h0 ?_
      refine xw_aload_n rfl rfl rfl ?_
      refine xw_gfR (n := 294) (e := 294) rfl (xw_obd (by decide +kernel)) (by decide +kernel) (by decide +kernel) rfl ?_
      refine xw_iload_n rfl rfl ?_
      refine xw_ialdc (n := 164) (v := (m 294 x2)) (v' := (xR m 294 x2)) rfl hB (xw_obd (by decide +kernel)) rfl g1 rfl rfl ?_
      refine xw_bipush (e := 40) rfl (by decide +kernel) ?_
      exact q
    refine xS_if (fun h2 => ?_) (fun h2 => ?_)
    · refine xS_of (pc' := 64) (L' := [(0, xa 293), (1, xi x1), (2, xi x2)]) (st' := []) (m' := m) (fun ex ns r q => ?_) ?_
      · refine xw_ic_eqT rfl (w32_cg (w32_xR _ _ _)) (w32_cg rfl) h2 ?_
        exact q
      exact xS_ret (v := 0) rfl rfl rfl rfl
    · refine xS_of (pc' := 29) (L' := [(0, xa 293), (1, xi x1), (2, xi x2)]) (st' := [xi x1, xi (xR m 294 x2)]) (m' := m) (fun ex ns r q => ?_) ?_
      · refine xw_ic_eqF rfl (w32_cg (w32_xR _ _ _)) (w32_cg rfl) h2 ?_
        refine xw_aload_n rfl rfl rfl ?_
        refine xw_gfR (n := 294) (e := 294) rfl (xw_obd (by decide +kernel)) (by decide +kernel) (by decide +kernel) rfl ?_
        refine xw_iload_n rfl rfl ?_
        refine xw_ialdc (n := 164) (v := (m 294 x2)) (v' := (xR m 294 x2)) rfl hB (xw_obd (by decide +kernel)) rfl g1 rfl rfl ?_
        refine xw_iload_n rfl rfl ?_
        exact q
      refine xS_if (fun h3 => ?_) (fun h3 => ?_)
      · refine xS_of (pc' := 64) (L' := [(0, xa 293), (1, xi x1), (2, xi x2)]) (st' := []) (m' := m) (fun ex ns r q => ?_) ?_
        · refine xw_ic_leF rfl (w32_cg (w32_xR _ _ _)) (w32_cg c1) (Int.not_le.mpr h3) ?_
          refine xw_goto rfl ?_
          exact q
        exact xS_ret (v := 0) rfl rfl rfl rfl
      · refine xS_of (pc' := 45) (L' := [(0, xa 293), (1, xi x1), (2, xi x2)]) (st' := [xi (xR m 294 x2), xa 223]) (m' := m) (fun ex ns r q => ?_) ?_
        · refine xw_ic_leT rfl (w32_cg (w32_xR _ _ _)) (w32_cg c1) (Int.not_lt.mp h3) ?_
          refine xw_aload_n rfl rfl rfl ?_
          refine xw_gfR (n := 223) (e := 223) rfl (xw_obd (by decide +kernel)) (by decide +kernel) (by decide +kernel) rfl ?_
          refine xw_aload_n rfl rfl rfl ?_
          refine xw_gfR (n := 294) (e := 294) rfl (xw_obd (by decide +kernel)) (by decide +kernel) (by decide +kernel) rfl ?_
          refine xw_iload_n rfl rfl ?_
          refine xw_ialdc (n := 164) (v := (m 294 x2)) (v' := (xR m 294 x2)) rfl hB (xw_obd (by decide +kernel)) rfl g1 rfl rfl ?_
          refine xw_lo (L2 := [(0, xa 293), (1, xi x1), (2, xi x2)]) (List.forall_mem_cons.mpr ⟨rfl, List.forall_mem_cons.mpr ⟨rfl, List.forall_mem_cons.mpr ⟨rfl, fun _ h => absurd h List.not_mem_nil⟩⟩⟩) ?_
          exact q
        refine xS_call (q := 77) (n := 2) (kq := 0) (as := [xa 223, xi (xR m 294 x2)]) (st1 := []) rfl rfl rfl rfl rfl rfl rfl rfl rfl rfl (fun _ => xw_rcv1 (t := 4) (xw_obd (by decide +kernel)) rfl) rfl (List.forall_mem_cons.mpr ⟨rfl, List.forall_mem_cons.mpr ⟨rfl, fun _ h => absurd h List.not_mem_nil⟩⟩) (ygf77 hB _ _ (w32_xR _ _ _)) (fun v1 m1 cv1 => ?_)
        refine xS_of (pc' := 7) (L' := [(0, xa 293), (1, xi x1), (2, xi (w32 (x2 + (-1))))]) (st' := []) (m' := (xw_u m1 293 4 ((xR m1 293 4) - 1))) (fun ex ns r q => ?_) ?_
        · refine xw_aload_n rfl rfl rfl ?_
          refine xw_dup rfl rfl ?_
          refine xw_gfIc (v := (m1 293 4)) (v' := (xR m1 293 4)) rfl (xw_obd (by decide +kernel)) xk5_4 (qi := 4) rfl rfl rfl ?_
          refine xw_iconst rfl ?_
          refine xw_isub rfl ?_
          refine xw_pfI rfl (xw_obd (by decide +kernel)) xk5_4 (qi := 4) rfl (xw_okI rfl) ?_
          refine xw_iincc (z := (w32 (x2 + (-1)))) (L' := [(2, xi (w32 (x2 + (-1)))), (0, xa 293), (1, xi x1)]) rfl rfl (by decide) rfl rfl ?_
          refine xw_goto rfl ?_
          refine xw_lo (L2 := [(0, xa 293), (1, xi x1), (2, xi (w32 (x2 + (-1))))]) (List.forall_mem_cons.mpr ⟨rfl, List.forall_mem_cons.mpr ⟨rfl, List.forall_mem_cons.mpr ⟨rfl, fun _ h => absurd h List.not_mem_nil⟩⟩⟩) ?_
          exact q
        exact hr7 _ _ _ c1 (w32_w _)
theorem ygl84_7 {B : Nat} (hB : B ≤ 512) {xs : Nat → Int32} {SL d : Nat} : ∀ n x1 x2 m, w32 x1 = x1 → w32 x2 = x2 → xS B xs SL (d + 1) 84 (3, none, [], 6) 0 7 [(0, xa 293), (1, xi x1), (2, xi x2)] [] m (xl2 (yl84_7 B) n x1 x2 m) := by
  intro n
  induction n with
  | zero => intro x1 x2 m c1 c2; exact xS_none
  | succ n ih => exact ysl84_7 hB ih
theorem ygf84 {B : Nat} (hB : B ≤ 512) {xs : Nat → Int32} {SL d : Nat} : ∀ p0 m, w32 p0 = p0 → xS B xs SL (d + 1) 84 (3, none, [], 6) 0 0 [(0, xa 293), (1, xi p0)] [] m (yf84 B p0 m) := by
  intro p0 m cp0
  unfold yf84
  refine xS_of (pc' := 7) (L' := [(0, xa 293), (1, xi p0), (2, xi (w32 ((xR m 293 4) - 1)))]) (st' := []) (m' := m) (fun ex ns r q => ?_) ?_
  · refine xw_aload_n rfl rfl rfl ?_
    refine xw_gfIc (v := (m 293 4)) (v' := (xR m 293 4)) rfl (xw_obd (by decide +kernel)) xk5_4 (qi := 4) rfl rfl rfl ?_
    refine xw_iconst rfl ?_
    refine xw_isub rfl ?_
    refine xw_cst (st' := [xi (w32 ((xR m 293 4) - 1))]) (xw_sc (xi_c rfl) rfl) ?_
    refine xw_istore_n (L' := [(2, xi (w32 ((xR m 293 4) - 1))), (0, xa 293), (1, xi p0)]) rfl (by decide) rfl ?_
    refine xw_lo (L2 := [(0, xa 293), (1, xi p0), (2, xi (w32 ((xR m 293 4) - 1)))]) (List.forall_mem_cons.mpr ⟨rfl, List.forall_mem_cons.mpr ⟨rfl, List.forall_mem_cons.mpr ⟨rfl, fun _ h => absurd h List.not_mem_nil⟩⟩⟩) ?_
    exact q
  exact ygl84_7 hB 1000000 _ _ _ cp0 (w32_w _)
theorem ysl83_4 {B : Nat} (hB : B ≤ 512) {xs : Nat → Int32} {SL d : Nat} {r4 : Int → Int → xw_M → xP} (hr4 : ∀ x2 x3 m, w32 x2 = x2 → w32 x3 = x3 → xS B xs SL (d + 2) 83 (4, (some .int), [], 6) 1 4 [(0, xa 293), (2, xi x2), (3, xi x3)] [] m (r4 x2 x3 m)) : ∀ x2 x3 m, w32 x2 = x2 → w32 x3 = x3 → xS B xs SL (d + 2) 83 (4, (some .int), [], 6) 1 4 [(0, xa 293), (2, xi x2), (3, xi x3)] [] m (yl83_4 B r4 x2 x3 m) := by
  intro x2 x3 m c2 c3
  unfold yl83_4
  refine xS_of (pc' := 7) (L' := [(0, xa 293), (2, xi x2), (3, xi x3)]) (st' := [xi 40, xi x3]) (m' := m) (fun ex ns r q => ?_) ?_
  · refine xw_iload_n rfl rfl ?_
    refine xw_bipush (e := 40) rfl (by decide +kernel) ?_
    exact q
  refine xS_if (fun h0 => ?_) (fun h0 => ?_)
  · refine xS_of (pc' := 11) (L' := [(0, xa 293), (2, xi x2), (3, xi x3)]) (st' := [xi x2]) (m' := m) (fun ex ns r q => ?_) ?_
    · refine xw_ic_geF rfl (w32_cg c3) (w32_cg rfl) (Int.not_le.mpr h0) ?_
      refine xw_iload_n rfl rfl ?_
      exact q
    refine xS_if (fun h1 => ?_) (fun h1 => ?_)
    · refine xS_of (pc' := 23) (L' := [(0, xa 293), (2, xi x2), (3, xi x3)]) (st' := [xi 41, xi (xR m 1 3)]) (m' := m) (fun ex ns r q => ?_) ?_
      · refine xw_if_leF rfl (w32_cg c2) (Int.not_le.mpr h1) ?_
        refine xw_aload_n rfl rfl rfl ?_
        refine xw_gfR (n := 1) (e := 1) rfl (xw_obd (by decide +kernel)) (by decide +kernel) (by decide +kernel) rfl ?_
        refine xw_gfIc (v := (m 1 3)) (v' := (xR m 1 3)) rfl (xw_obd (by decide +kernel)) xk1_3 (qi := 3) rfl rfl rfl ?_
        refine xw_bipush (e := 41) rfl (by decide +kernel) ?_
        exact q
      refine xS_if (fun h2 => ?_) (fun h2 => ?_)
      · refine xS_of (pc' := 30) (L' := [(0, xa 293), (2, xi x2), (3, xi x3)]) (st' := [xi 215, xa 293]) (m' := m) (fun ex ns r q => ?_) ?_
        · refine xw_ic_neF rfl (w32_cg (w32_xR _ _ _)) (w32_cg rfl) h2 ?_
          refine xw_aload_n rfl rfl rfl ?_
          refine xw_sipush (e := 215) rfl (by decide +kernel) ?_
          refine xw_lo (L2 := [(0, xa 293), (2, xi x2), (3, xi x3)]) (List.forall_mem_cons.mpr ⟨rfl, List.forall_mem_cons.mpr ⟨rfl, List.forall_mem_cons.mpr ⟨rfl, fun _ h => absurd h List.not_mem_nil⟩⟩⟩) ?_
          exact q
        refine xS_call (q := 84) (n := 2) (kq := 0) (as := [xa 293, xi 215]) (st1 := []) rfl rfl rfl rfl rfl rfl rfl rfl rfl rfl (fun _ => xw_rcv1 (t := 5) (xw_obd (by decide +kernel)) rfl) rfl (List.forall_mem_cons.mpr ⟨rfl, List.forall_mem_cons.mpr ⟨rfl, fun _ h => absurd h List.not_mem_nil⟩⟩) (ygf84 hB _ _ rfl) (fun v1 m1 cv1 => ?_)
        refine xS_of (pc' := 47) (L' := [(0, xa 293), (2, xi (w32 (x2 + (-1)))), (3, xi x3)]) (st' := [xa 293]) (m' := (xw_u m1 293 4 ((xR m1 293 4) - 1))) (fun ex ns r q => ?_) ?_
        · refine xw_aload_n rfl rfl rfl ?_
          refine xw_dup rfl rfl ?_
          refine xw_gfIc (v := (m1 293 4)) (v' := (xR m1 293 4)) rfl (xw_obd (by decide +kernel)) xk5_4 (qi := 4) rfl rfl rfl ?_
          refine xw_iconst rfl ?_
          refine xw_isub rfl ?_
          refine xw_pfI rfl (xw_obd (by decide +kernel)) xk5_4 (qi := 4) rfl (xw_okI rfl) ?_
          refine xw_iincc (z := (w32 (x2 + (-1)))) (L' := [(2, xi (w32 (x2 + (-1)))), (0, xa 293), (3, xi x3)]) rfl rfl (by decide) rfl rfl ?_
          refine xw_aload_n rfl rfl rfl ?_
          refine xw_lo (L2 := [(0, xa 293), (2, xi (w32 (x2 + (-1)))), (3, xi x3)]) (List.forall_mem_cons.mpr ⟨rfl, List.forall_mem_cons.mpr ⟨rfl, List.forall_mem_cons.mpr ⟨rfl, fun _ h => absurd h List.not_mem_nil⟩⟩⟩) ?_
          exact q
        refine xS_call (q := 82) (n := 1) (kq := 0) (as := [xa 293]) (st1 := []) rfl rfl rfl rfl rfl rfl rfl rfl rfl rfl (fun _ => xw_rcv1 (t := 5) (xw_obd (by decide +kernel)) rfl) rfl (List.forall_mem_cons.mpr ⟨rfl, fun _ h => absurd h List.not_mem_nil⟩) (ygf82 hB _) (fun v2 m2 cv2 => ?_)
        refine xS_of (pc' := 54) (L' := [(0, xa 293), (2, xi (w32 (x2 + (-1)))), (3, xi x3)]) (st' := [xa 1]) (m' := m2) (fun ex ns r q => ?_) ?_
        · refine xw_aload_n rfl rfl rfl ?_
          refine xw_gfR (n := 1) (e := 1) rfl (xw_obd (by decide +kernel)) (by decide +kernel) (by decide +kernel) rfl ?_
          refine xw_lo (L2 := [(0, xa 293), (2, xi (w32 (x2 + (-1)))), (3, xi x3)]) (List.forall_mem_cons.mpr ⟨rfl, List.forall_mem_cons.mpr ⟨rfl, List.forall_mem_cons.mpr ⟨rfl, fun _ h => absurd h List.not_mem_nil⟩⟩⟩) ?_
          exact q
        refine xS_call (q := 47) (n := 1) (kq := 0) (as := [xa 1]) (st1 := []) rfl rfl rfl rfl rfl rfl rfl rfl rfl rfl (fun _ => xw_rcv1 (t := 1) (xw_obd (by decide +kernel)) rfl) rfl (List.forall_mem_cons.mpr ⟨rfl, fun _ h => absurd h List.not_mem_nil⟩) (ygf47 hB _) (fun v3 m3 cv3 => ?_)
        refine xS_of (pc' := 4) (L' := [(0, xa 293), (2, xi (w32 (x2 + (-1)))), (3, xi (w32 (x3 + 1)))]) (st' := []) (m' := m3) (fun ex ns r q => ?_) ?_
        · refine xw_iincc (z := (w32 (x3 + 1))) (L' := [(3, xi (w32 (x3 + 1))), (0, xa 293), (2, xi (w32 (x2 + (-1))))]) rfl rfl (by decide) rfl rfl ?_
          refine xw_goto rfl ?_
          refine xw_lo (L2 := [(0, xa 293), (2, xi (w32 (x2 + (-1)))), (3, xi (w32 (x3 + 1)))]) (List.forall_mem_cons.mpr ⟨rfl, List.forall_mem_cons.mpr ⟨rfl, List.forall_mem_cons.mpr ⟨rfl, fun _ h => absurd h List.not_mem_nil⟩⟩⟩) ?_
          exact q
        exact hr4 _ _ _ (w32_w _) (w32_w _)
      · refine xS_of (pc' := 64) (L' := [(0, xa 293), (2, xi x2), (3, xi x3)]) (st' := [xi x2]) (m' := m) (fun ex ns r q => ?_) ?_
        · refine xw_ic_neT rfl (w32_cg (w32_xR _ _ _)) (w32_cg rfl) h2 ?_
          refine xw_iload_n rfl rfl ?_
          exact q
        exact xS_ret (v := x2) rfl rfl xw_rtI c2
    · refine xS_of (pc' := 64) (L' := [(0, xa 293), (2, xi x2), (3, xi x3)]) (st' := [xi x2]) (m' := m) (fun ex ns r q => ?_) ?_
      · refine xw_if_leT rfl (w32_cg c2) (Int.not_lt.mp h1) ?_
        refine xw_iload_n rfl rfl ?_
        exact q
      exact xS_ret (v := x2) rfl rfl xw_rtI c2
  · refine xS_of (pc' := 64) (L' := [(0, xa 293), (2, xi x2), (3, xi x3)]) (st' := [xi x2]) (m' := m) (fun ex ns r q => ?_) ?_
    · refine xw_ic_geT rfl (w32_cg c3) (w32_cg rfl) (Int.not_lt.mp h0) ?_
      refine xw_iload_n rfl rfl ?_
      exact q
    exact xS_ret (v := x2) rfl rfl xw_rtI c2
theorem ygl83_4 {B : Nat} (hB : B ≤ 512) {xs : Nat → Int32} {SL d : Nat} : ∀ n x2 x3 m, w32 x2 = x2 → w32 x3 = x3 → xS B xs SL (d + 2) 83 (4, (some .int), [], 6) 1 4 [(0, xa 293), (2, xi x2), (3, xi x3)] [] m (xl2 (yl83_4 B) n x2 x3 m) := by
  intro n
  induction n with
  | zero => intro x2 x3 m c2 c3; exact xS_none
  | succ n ih => exact ysl83_4 hB ih
theorem ygf83 {B : Nat} (hB : B ≤ 512) {xs : Nat → Int32} {SL d : Nat} : ∀ p0 m, w32 p0 = p0 → xS B xs SL (d + 2) 83 (4, (some .int), [], 6) 1 0 [(0, xa 293), (1, xi p0)] [] m (yf83 B p0 m) := by
  intro p0 m cp0
  unfold yf83
  refine xS_of (pc' := 4) (L' := [(0, xa 293), (2, xi p0), (3, xi 0)]) (st' := []) (m' := m) (fun ex ns r q => ?_) ?_
  · refine xw_iload_n rfl rfl ?_
    refine xw_istore_n (L' := [(2, xi p0), (0, xa 293), (1, xi p0)]) rfl (by decide) rfl ?_
    refine xw_iconst rfl ?_
    refine xw_istore_n (L' := [(3, xi 0), (2, xi p0), (0, xa 293), (1, xi p0)]) rfl (by decide) rfl ?_
    refine xw_lo (L2 := [(0, xa 293), (2, xi p0), (3, xi 0)]) (List.forall_mem_cons.mpr ⟨rfl, List.forall_mem_cons.mpr ⟨rfl, List.forall_mem_cons.mpr ⟨rfl, fun _ h => absurd h List.not_mem_nil⟩⟩⟩) ?_
    exact q
  exact ygl83_4 hB 1000000 _ _ _ cp0 rfl
theorem ygf85 {B : Nat} (hB : B ≤ 512) {xs : Nat → Int32} {SL d : Nat} : ∀ p0 m, w32 p0 = p0 → xS B xs SL (d + 2) 85 (2, none, [], 6) 0 0 [(0, xa 293), (1, xi p0)] [] m (yf85 B p0 m) := by
  intro p0 m cp0
  unfold yf85
  refine xS_of (pc' := 2) (L' := [(0, xa 293), (1, xi p0)]) (st' := [xi p0, xa 293]) (m' := m) (fun ex ns r q => ?_) ?_
  · refine xw_aload_n rfl rfl rfl ?_
    refine xw_iload_n rfl rfl ?_
    refine xw_lo (L2 := [(0, xa 293), (1, xi p0)]) (List.forall_mem_cons.mpr ⟨rfl, List.forall_mem_cons.mpr ⟨rfl, fun _ h => absurd h List.not_mem_nil⟩⟩) ?_
    exact q
  refine xS_call (q := 84) (n := 2) (kq := 0) (as := [xa 293, xi p0]) (st1 := []) rfl rfl rfl rfl rfl rfl rfl rfl rfl rfl (fun _ => xw_rcv1 (t := 5) (xw_obd (by decide +kernel)) rfl) rfl (List.forall_mem_cons.mpr ⟨rfl, List.forall_mem_cons.mpr ⟨rfl, fun _ h => absurd h List.not_mem_nil⟩⟩) (ygf84 hB _ _ cp0) (fun v1 m1 cv1 => ?_)
  refine xS_of (pc' := 12) (L' := [(0, xa 293), (1, xi p0)]) (st' := [xi 164, xi (xR m1 293 4)]) (m' := m1) (fun ex ns r q => ?_) ?_
  · refine xw_aload_n rfl rfl rfl ?_
    refine xw_gfIc (v := (m1 293 4)) (v' := (xR m1 293 4)) rfl (xw_obd (by decide +kernel)) xk5_4 (qi := 4) rfl rfl rfl ?_
    refine xw_sipush (e := 164) rfl (by decide +kernel) ?_
    exact q
  refine xS_if (fun h0 => ?_) (fun h0 => ?_)
  · refine xS_g (fun g1 => ?_)
    refine xS_of (pc' := 32) (L' := [(0, xa 293), (1, xi p0)]) (st' := []) (m' := (xw_u (xw_u m1 293 4 ((xR m1 293 4) + 1)) 294 (xR m1 293 4) p0)) (fun ex ns r q => ?_) ?_
    · refine xw_ic_geF rfl (w32_cg (w32_xR _ _ _)) (w32_cg rfl) (Int.not_le.mpr h0) ?_
      refine xw_aload_n rfl rfl rfl ?_
      refine xw_gfR (n := 294) (e := 294) rfl (xw_obd (by decide +kernel)) (by decide +kernel) (by decide +kernel) rfl ?_
      refine xw_aload_n rfl rfl rfl ?_
      refine xw_dup rfl rfl ?_
      refine xw_gfIc (v := (m1 293 4)) (v' := (xR m1 293 4)) rfl (xw_obd (by decide +kernel)) xk5_4 (qi := 4) rfl rfl rfl ?_
      refine xw_dup_x1 rfl rfl ?_
      refine xw_iconst rfl ?_
      refine xw_iadd rfl ?_
      refine xw_pfI rfl (xw_obd (by decide +kernel)) xk5_4 (qi := 4) rfl (xw_okI rfl) ?_
      refine xw_iload_n rfl rfl ?_
      refine xw_iast (n := 164) rfl hB (xw_obd (by decide +kernel)) rfl g1 ?_
      exact q
    exact xS_ret (v := 0) rfl rfl rfl rfl
  · refine xS_of (pc' := 32) (L' := [(0, xa 293), (1, xi p0)]) (st' := []) (m' := m1) (fun ex ns r q => ?_) ?_
    · refine xw_ic_geT rfl (w32_cg (w32_xR _ _ _)) (w32_cg rfl) (Int.not_lt.mp h0) ?_
      exact q
    exact xS_ret (v := 0) rfl rfl rfl rfl
theorem ygk71_146 {B : Nat} (hB : B ≤ 512) {xs : Nat → Int32} {SL d : Nat} {r16 : Int → Int → xw_M → xP} (hr16 : ∀ x1 x2 m, w32 x1 = x1 → w32 x2 = x2 → xS B xs SL (d + 5) 71 (3, none, [], 6) 0 16 [(0, xa 293), (1, xi x1), (2, xi x2)] [] m (r16 x1 x2 m)) : ∀ x1 x2 m, w32 x1 = x1 → w32 x2 = x2 → xS B xs SL (d + 5) 71 (3, none, [], 6) 0 146 [(0, xa 293), (1, xi x1), (2, xi x2)] [] m (yk71_146 B r16 x1 x2 m) := by
  intro x1 x2 m c1 c2
  unfold yk71_146
  refine xS_of (pc' := 150) (L' := [(0, xa 293), (1, xi x1), (2, xi x2)]) (st' := [xa 1]) (m' := m) (fun ex ns r q => ?_) ?_
  · refine xw_aload_n rfl rfl rfl ?_
    refine xw_gfR (n := 1) (e := 1) rfl (xw_obd (by decide +kernel)) (by decide +kernel) (by decide +kernel) rfl ?_
    refine xw_lo (L2 := [(0, xa 293), (1, xi x1), (2, xi x2)]) (List.forall_mem_cons.mpr ⟨rfl, List.forall_mem_cons.mpr ⟨rfl, List.forall_mem_cons.mpr ⟨rfl, fun _ h => absurd h List.not_mem_nil⟩⟩⟩) ?_
    exact q
  refine xS_call (q := 47) (n := 1) (kq := 0) (as := [xa 1]) (st1 := []) rfl rfl rfl rfl rfl rfl rfl rfl rfl rfl (fun _ => xw_rcv1 (t := 1) (xw_obd (by decide +kernel)) rfl) rfl (List.forall_mem_cons.mpr ⟨rfl, fun _ h => absurd h List.not_mem_nil⟩) (ygf47 hB _) (fun v1 m1 cv1 => ?_)
  refine xS_of (pc' := 16) (L' := [(0, xa 293), (1, xi x1), (2, xi (w32 (x2 + 1)))]) (st' := []) (m' := m1) (fun ex ns r q => ?_) ?_
  · refine xw_iincc (z := (w32 (x2 + 1))) (L' := [(2, xi (w32 (x2 + 1))), (0, xa 293), (1, xi x1)]) rfl rfl (by decide) rfl rfl ?_
    refine xw_goto rfl ?_
    refine xw_lo (L2 := [(0, xa 293), (1, xi x1), (2, xi (w32 (x2 + 1)))]) (List.forall_mem_cons.mpr ⟨rfl, List.forall_mem_cons.mpr ⟨rfl, List.forall_mem_cons.mpr ⟨rfl, fun _ h => absurd h List.not_mem_nil⟩⟩⟩) ?_
    exact q
  exact hr16 _ _ _ c1 (w32_w _)
theorem ygk71_135 {B : Nat} (hB : B ≤ 512) {xs : Nat → Int32} {SL d : Nat} {r16 : Int → Int → xw_M → xP} (hr16 : ∀ x1 x2 m, w32 x1 = x1 → w32 x2 = x2 → xS B xs SL (d + 5) 71 (3, none, [], 6) 0 16 [(0, xa 293), (1, xi x1), (2, xi x2)] [] m (r16 x1 x2 m)) : ∀ x1 x2 m, w32 x1 = x1 → w32 x2 = x2 → xS B xs SL (d + 5) 71 (3, none, [], 6) 0 135 [(0, xa 293), (1, xi x1), (2, xi x2)] [] m (yk71_135 B r16 x1 x2 m) := by
  intro x1 x2 m c1 c2
  unfold yk71_135
  refine xS_of (pc' := 143) (L' := [(0, xa 293), (1, xi x1), (2, xi x2)]) (st' := [xi (xR m 1 3), xa 293]) (m' := m) (fun ex ns r q => ?_) ?_
  · refine xw_aload_n rfl rfl rfl ?_
    refine xw_aload_n rfl rfl rfl ?_
    refine xw_gfR (n := 1) (e := 1) rfl (xw_obd (by decide +kernel)) (by decide +kernel) (by decide +kernel) rfl ?_
    refine xw_gfIc (v := (m 1 3)) (v' := (xR m 1 3)) rfl (xw_obd (by decide +kernel)) xk1_3 (qi := 3) rfl rfl rfl ?_
    refine xw_lo (L2 := [(0, xa 293), (1, xi x1), (2, xi x2)]) (List.forall_mem_cons.mpr ⟨rfl, List.forall_mem_cons.mpr ⟨rfl, List.forall_mem_cons.mpr ⟨rfl, fun _ h => absurd h List.not_mem_nil⟩⟩⟩) ?_
    exact q
  refine xS_call (q := 85) (n := 2) (kq := 0) (as := [xa 293, xi (xR m 1 3)]) (st1 := []) rfl rfl rfl rfl rfl rfl rfl rfl rfl rfl (fun _ => xw_rcv1 (t := 5) (xw_obd (by decide +kernel)) rfl) rfl (List.forall_mem_cons.mpr ⟨rfl, List.forall_mem_cons.mpr ⟨rfl, fun _ h => absurd h List.not_mem_nil⟩⟩) (ygf85 hB _ _ (w32_xR _ _ _)) (fun v1 m1 cv1 => ?_)
  refine xS_of (pc' := 146) (L' := [(0, xa 293), (1, xi x1), (2, xi x2)]) (st' := []) (m' := m1) (fun ex ns r q => ?_) ?_
  · refine xw_lo (L2 := [(0, xa 293), (1, xi x1), (2, xi x2)]) (List.forall_mem_cons.mpr ⟨rfl, List.forall_mem_cons.mpr ⟨rfl, List.forall_mem_cons.mpr ⟨rfl, fun _ h => absurd h List.not_mem_nil⟩⟩⟩) ?_
    exact q
  exact ygk71_146 hB hr16 _ _ _ c1 c2
theorem ygk71_170 {B : Nat} (hB : B ≤ 512) {xs : Nat → Int32} {SL d : Nat} : ∀ m, xS B xs SL (d + 5) 71 (3, none, [], 6) 0 170 [(0, xa 293)] [] m (yk71_170 B m) := by
  intro m
  unfold yk71_170
  refine xS_of (pc' := 174) (L' := []) (st' := [xi 215, xa 293]) (m' := m) (fun ex ns r q => ?_) ?_
  · refine xw_aload_n rfl rfl rfl ?_
    refine xw_sipush (e := 215) rfl (by decide +kernel) ?_
    refine xw_lo (L2 := []) (fun _ h => absurd h List.not_mem_nil) ?_
    exact q
  refine xS_call (q := 84) (n := 2) (kq := 0) (as := [xa 293, xi 215]) (st1 := []) rfl rfl rfl rfl rfl rfl rfl rfl rfl rfl (fun _ => xw_rcv1 (t := 5) (xw_obd (by decide +kernel)) rfl) rfl (List.forall_mem_cons.mpr ⟨rfl, List.forall_mem_cons.mpr ⟨rfl, fun _ h => absurd h List.not_mem_nil⟩⟩) (ygf84 hB _ _ rfl) (fun v1 m1 cv1 => ?_)
  exact xS_ret (v := 0) rfl rfl rfl rfl
theorem ygk71_159 {B : Nat} (hB : B ≤ 512) {xs : Nat → Int32} {SL d : Nat} : ∀ x1 m, w32 x1 = x1 → xS B xs SL (d + 5) 71 (3, none, [], 6) 0 159 [(0, xa 293), (1, xi x1)] [] m (yk71_159 B x1 m) := by
  intro x1 m c1
  unfold yk71_159
  refine xS_of (pc' := 160) (L' := [(0, xa 293), (1, xi x1)]) (st' := [xi x1]) (m' := m) (fun ex ns r q => ?_) ?_
  · refine xw_iload_n rfl rfl ?_
    exact q
  refine xS_if (fun h0 => ?_) (fun h0 => ?_)
  · refine xS_of (pc' := 167) (L' := [(0, xa 293)]) (st' := [xa 1]) (m' := m) (fun ex ns r q => ?_) ?_
    · refine xw_if_leF rfl (w32_cg c1) (Int.not_le.mpr h0) ?_
      refine xw_aload_n rfl rfl rfl ?_
      refine xw_gfR (n := 1) (e := 1) rfl (xw_obd (by decide +kernel)) (by decide +kernel) (by decide +kernel) rfl ?_
      refine xw_lo (L2 := [(0, xa 293)]) (List.forall_mem_cons.mpr ⟨rfl, fun _ h => absurd h List.not_mem_nil⟩) ?_
      exact q
    refine xS_call (q := 56) (n := 1) (kq := 0) (as := [xa 1]) (st1 := []) rfl rfl rfl rfl rfl rfl rfl rfl rfl rfl (fun _ => xw_rcv1 (t := 1) (xw_obd (by decide +kernel)) rfl) rfl (List.forall_mem_cons.mpr ⟨rfl, fun _ h => absurd h List.not_mem_nil⟩) (ygf56 hB _) (fun v1 m1 cv1 => ?_)
    refine xS_of (pc' := 170) (L' := [(0, xa 293)]) (st' := []) (m' := m1) (fun ex ns r q => ?_) ?_
    · refine xw_lo (L2 := [(0, xa 293)]) (List.forall_mem_cons.mpr ⟨rfl, fun _ h => absurd h List.not_mem_nil⟩) ?_
      exact q
    exact ygk71_170 hB _
  · refine xS_of (pc' := 170) (L' := [(0, xa 293)]) (st' := []) (m' := m) (fun ex ns r q => ?_) ?_
    · refine xw_if_leT rfl (w32_cg c1) (Int.not_lt.mp h0) ?_
      refine xw_lo (L2 := [(0, xa 293)]) (List.forall_mem_cons.mpr ⟨rfl, fun _ h => absurd h List.not_mem_nil⟩) ?_
      exact q
    exact ygk71_170 hB _
theorem ysl71_16 {B : Nat} (hB : B ≤ 512) {xs : Nat → Int32} {SL d : Nat} {r16 : Int → Int → xw_M → xP} (hr16 : ∀ x1 x2 m, w32 x1 = x1 → w32 x2 = x2 → xS B xs SL (d + 5) 71 (3, none, [], 6) 0 16 [(0, xa 293), (1, xi x1), (2, xi x2)] [] m (r16 x1 x2 m)) : ∀ x1 x2 m, w32 x1 = x1 → w32 x2 = x2 → xS B xs SL (d + 5) 71 (3, none, [], 6) 0 16 [(0, xa 293), (1, xi x1), (2, xi x2)] [] m (yl71_16 B r16 x1 x2 m) := by
  intro x1 x2 m c1 c2
  unfold yl71_16
  refine xS_of (pc' := 19) (L' := [(0, xa 293), (1, xi x1), (2, xi x2)]) (st' := [xi 65536, xi x2]) (m' := m) (fun ex ns r q => ?_) ?_
  · refine xw_iload_n rfl rfl ?_
    refine xw_ldc (e := 65536) rfl (by decide +kernel) ?_
    exact q
  refine xS_if (fun h0 => ?_) (fun h0 => ?_)
  · refine xS_of (pc' := 32) (L' := [(0, xa 293), (1, xi x1), (2, xi x2)]) (st' := [xi 216, xi (xR m 1 3)]) (m' := m) (fun ex ns r q => ?_) ?_
    · refine xw_ic_geF rfl (w32_cg c2) (w32_cg rfl) (Int.not_le.mpr h0) ?_
      refine xw_aload_n rfl rfl rfl ?_
      refine xw_gfR (n := 1) (e := 1) rfl (xw_obd (by decide +kernel)) (by decide +kernel) (by decide +kernel) rfl ?_
      refine xw_gfIc (v := (m 1 3)) (v' := (xR m 1 3)) rfl (xw_obd (by decide +kernel)) xk1_3 (qi := 3) rfl rfl rfl ?_
      refine xw_sipush (e := 216) rfl (by decide +kernel) ?_
      exact q
    refine xS_if (fun h1 => ?_) (fun h1 => ?_)
    · refine xS_of (pc' := 36) (L' := [(0, xa 293), (1, xi x1), (2, xi x2)]) (st' := [xa 293]) (m' := m) (fun ex ns r q => ?_) ?_
      · refine xw_ic_neF rfl (w32_cg (w32_xR _ _ _)) (w32_cg rfl) h1 ?_
        refine xw_aload_n rfl rfl rfl ?_
        refine xw_lo (L2 := [(0, xa 293), (1, xi x1), (2, xi x2)]) (List.forall_mem_cons.mpr ⟨rfl, List.forall_mem_cons.mpr ⟨rfl, List.forall_mem_cons.mpr ⟨rfl, fun _ h => absurd h List.not_mem_nil⟩⟩⟩) ?_
        exact q
      refine xS_call (q := 72) (n := 1) (kq := 0) (as := [xa 293]) (st1 := []) rfl rfl rfl rfl rfl rfl rfl rfl rfl rfl (fun _ => xw_rcv1 (t := 5) (xw_obd (by decide +kernel)) rfl) rfl (List.forall_mem_cons.mpr ⟨rfl, fun _ h => absurd h List.not_mem_nil⟩) (ygf72 hB _) (fun v1 m1 cv1 => ?_)
      refine xS_of (pc' := 146) (L' := [(0, xa 293), (1, xi x1), (2, xi x2)]) (st' := []) (m' := m1) (fun ex ns r q => ?_) ?_
      · refine xw_goto rfl ?_
        refine xw_lo (L2 := [(0, xa 293), (1, xi x1), (2, xi x2)]) (List.forall_mem_cons.mpr ⟨rfl, List.forall_mem_cons.mpr ⟨rfl, List.forall_mem_cons.mpr ⟨rfl, fun _ h => absurd h List.not_mem_nil⟩⟩⟩) ?_
        exact q
      exact ygk71_146 hB hr16 _ _ _ c1 c2
    · refine xS_of (pc' := 51) (L' := [(0, xa 293), (1, xi x1), (2, xi x2)]) (st' := [xi 40, xi (xR m 1 3)]) (m' := m) (fun ex ns r q => ?_) ?_
      · refine xw_ic_neT rfl (w32_cg (w32_xR _ _ _)) (w32_cg rfl) h1 ?_
        refine xw_aload_n rfl rfl rfl ?_
        refine xw_gfR (n := 1) (e := 1) rfl (xw_obd (by decide +kernel)) (by decide +kernel) (by decide +kernel) rfl ?_
        refine xw_gfIc (v := (m 1 3)) (v' := (xR m 1 3)) rfl (xw_obd (by decide +kernel)) xk1_3 (qi := 3) rfl rfl rfl ?_
        refine xw_bipush (e := 40) rfl (by decide +kernel) ?_
        exact q
      refine xS_if (fun h2 => ?_) (fun h2 => ?_)
      · refine xS_of (pc' := 58) (L' := [(0, xa 293), (1, xi x1), (2, xi x2)]) (st' := [xi 40, xi x1, xa 293]) (m' := m) (fun ex ns r q => ?_) ?_
        · refine xw_ic_neF rfl (w32_cg (w32_xR _ _ _)) (w32_cg rfl) h2 ?_
          refine xw_aload_n rfl rfl rfl ?_
          refine xw_iload_n rfl rfl ?_
          refine xw_bipush (e := 40) rfl (by decide +kernel) ?_
          refine xw_lo (L2 := [(0, xa 293), (1, xi x1), (2, xi x2)]) (List.forall_mem_cons.mpr ⟨rfl, List.forall_mem_cons.mpr ⟨rfl, List.forall_mem_cons.mpr ⟨rfl, fun _ h => absurd h List.not_mem_nil⟩⟩⟩) ?_
          exact q
        refine xS_call (q := 64) (n := 3) (kq := 0) (as := [xa 293, xi x1, xi 40]) (st1 := []) rfl rfl rfl rfl rfl rfl rfl rfl rfl rfl (fun _ => xw_rcv1 (t := 5) (xw_obd (by decide +kernel)) rfl) rfl (List.forall_mem_cons.mpr ⟨rfl, List.forall_mem_cons.mpr ⟨rfl, List.forall_mem_cons.mpr ⟨rfl, fun _ h => absurd h List.not_mem_nil⟩⟩⟩) (ygf64 hB _ _ _ c1 rfl) (fun v2 m2 cv2 => ?_)
        refine xS_g (fun g3 => ?_)
        refine xS_of (pc' := 146) (L' := [(0, xa 293), (1, xi (w32 (x1 + 1))), (2, xi x2)]) (st' := []) (m' := (xw_u (xw_u m2 293 4 ((xR m2 293 4) + 1)) 294 (xR m2 293 4) 40)) (fun ex ns r q => ?_) ?_
        · refine xw_iincc (z := (w32 (x1 + 1))) (L' := [(1, xi (w32 (x1 + 1))), (0, xa 293), (2, xi x2)]) rfl rfl (by decide) rfl rfl ?_
          refine xw_aload_n rfl rfl rfl ?_
          refine xw_gfR (n := 294) (e := 294) rfl (xw_obd (by decide +kernel)) (by decide +kernel) (by decide +kernel) rfl ?_
          refine xw_aload_n rfl rfl rfl ?_
          refine xw_dup rfl rfl ?_
          refine xw_gfIc (v := (m2 293 4)) (v' := (xR m2 293 4)) rfl (xw_obd (by decide +kernel)) xk5_4 (qi := 4) rfl rfl rfl ?_
          refine xw_dup_x1 rfl rfl ?_
          refine xw_iconst rfl ?_
          refine xw_iadd rfl ?_
          refine xw_pfI rfl (xw_obd (by decide +kernel)) xk5_4 (qi := 4) rfl (xw_okI rfl) ?_
          refine xw_bipush (e := 40) rfl (by decide +kernel) ?_
          refine xw_iast (n := 164) rfl hB (xw_obd (by decide +kernel)) rfl g3 ?_
          refine xw_goto rfl ?_
          refine xw_lo (L2 := [(0, xa 293), (1, xi (w32 (x1 + 1))), (2, xi x2)]) (List.forall_mem_cons.mpr ⟨rfl, List.forall_mem_cons.mpr ⟨rfl, List.forall_mem_cons.mpr ⟨rfl, fun _ h => absurd h List.not_mem_nil⟩⟩⟩) ?_
          exact q
        exact ygk71_146 hB hr16 _ _ _ (w32_w _) c2
      · refine xS_of (pc' := 86) (L' := [(0, xa 293), (1, xi x1), (2, xi x2)]) (st' := [xa 293]) (m' := m) (fun ex ns r q => ?_) ?_
        · refine xw_ic_neT rfl (w32_cg (w32_xR _ _ _)) (w32_cg rfl) h2 ?_
          refine xw_aload_n rfl rfl rfl ?_
          refine xw_lo (L2 := [(0, xa 293), (1, xi x1), (2, xi x2)]) (List.forall_mem_cons.mpr ⟨rfl, List.forall_mem_cons.mpr ⟨rfl, List.forall_mem_cons.mpr ⟨rfl, fun _ h => absurd h List.not_mem_nil⟩⟩⟩) ?_
          exact q
        refine xS_call (q := 73) (n := 1) (kq := 0) (as := [xa 293]) (st1 := []) rfl rfl rfl rfl rfl rfl rfl rfl rfl rfl (fun _ => xw_rcv1 (t := 5) (xw_obd (by decide +kernel)) rfl) rfl (List.forall_mem_cons.mpr ⟨rfl, fun _ h => absurd h List.not_mem_nil⟩) (ygf73 hB _) (fun v3 m3 cv3 => ?_)
        refine xS_of (pc' := 90) (L' := [(0, xa 293), (1, xi x1), (2, xi x2)]) (st' := [xa 293]) (m' := m3) (fun ex ns r q => ?_) ?_
        · refine xw_aload_n rfl rfl rfl ?_
          refine xw_lo (L2 := [(0, xa 293), (1, xi x1), (2, xi x2)]) (List.forall_mem_cons.mpr ⟨rfl, List.forall_mem_cons.mpr ⟨rfl, List.forall_mem_cons.mpr ⟨rfl, fun _ h => absurd h List.not_mem_nil⟩⟩⟩) ?_
          exact q
        refine xS_call (q := 82) (n := 1) (kq := 0) (as := [xa 293]) (st1 := []) rfl rfl rfl rfl rfl rfl rfl rfl rfl rfl (fun _ => xw_rcv1 (t := 5) (xw_obd (by decide +kernel)) rfl) rfl (List.forall_mem_cons.mpr ⟨rfl, fun _ h => absurd h List.not_mem_nil⟩) (ygf82 hB _) (fun v4 m4 cv4 => ?_)
        refine xS_of (pc' := 97) (L' := [(0, xa 293), (1, xi x1), (2, xi x2)]) (st' := [xa 1]) (m' := m4) (fun ex ns r q => ?_) ?_
        · refine xw_aload_n rfl rfl rfl ?_
          refine xw_gfR (n := 1) (e := 1) rfl (xw_obd (by decide +kernel)) (by decide +kernel) (by decide +kernel) rfl ?_
          refine xw_lo (L2 := [(0, xa 293), (1, xi x1), (2, xi x2)]) (List.forall_mem_cons.mpr ⟨rfl, List.forall_mem_cons.mpr ⟨rfl, List.forall_mem_cons.mpr ⟨rfl, fun _ h => absurd h List.not_mem_nil⟩⟩⟩) ?_
          exact q
        refine xS_call (q := 47) (n := 1) (kq := 0) (as := [xa 1]) (st1 := []) rfl rfl rfl rfl rfl rfl rfl rfl rfl rfl (fun _ => xw_rcv1 (t := 1) (xw_obd (by decide +kernel)) rfl) rfl (List.forall_mem_cons.mpr ⟨rfl, fun _ h => absurd h List.not_mem_nil⟩) (ygf47 hB _) (fun v5 m5 cv5 => ?_)
        refine xS_of (pc' := 102) (L' := [(0, xa 293), (2, xi x2)]) (st' := [xi x1, xa 293]) (m' := m5) (fun ex ns r q => ?_) ?_
        · refine xw_aload_n rfl rfl rfl ?_
          refine xw_iload_n rfl rfl ?_
          refine xw_lo (L2 := [(0, xa 293), (2, xi x2)]) (List.forall_mem_cons.mpr ⟨rfl, List.forall_mem_cons.mpr ⟨rfl, fun _ h => absurd h List.not_mem_nil⟩⟩) ?_
          exact q
        refine xS_call (q := 83) (n := 2) (kq := 1) (as := [xa 293, xi x1]) (st1 := []) rfl rfl rfl rfl rfl rfl rfl rfl rfl rfl (fun _ => xw_rcv1 (t := 5) (xw_obd (by decide +kernel)) rfl) rfl (List.forall_mem_cons.mpr ⟨rfl, List.forall_mem_cons.mpr ⟨rfl, fun _ h => absurd h List.not_mem_nil⟩⟩) (ygf83 hB _ _ c1) (fun v6 m6 cv6 => ?_)
        refine xS_of (pc' := 116) (L' := [(1, xi v6), (0, xa 293), (2, xi x2)]) (st' := [xi 214, xi (xR m6 1 3)]) (m' := m6) (fun ex ns r q => ?_) ?_
        · refine xw_istore_n (L' := [(1, xi v6), (0, xa 293), (2, xi x2)]) rfl (by decide) rfl ?_
          refine xw_aload_n rfl rfl rfl ?_
          refine xw_gfR (n := 1) (e := 1) rfl (xw_obd (by decide +kernel)) (by decide +kernel) (by decide +kernel) rfl ?_
          refine xw_gfIc (v := (m6 1 3)) (v' := (xR m6 1 3)) rfl (xw_obd (by decide +kernel)) xk1_3 (qi := 3) rfl rfl rfl ?_
          refine xw_sipush (e := 214) rfl (by decide +kernel) ?_
          exact q
        refine xS_if (fun h3 => ?_) (fun h3 => ?_)
        · refine xS_of (pc' := 135) (L' := [(0, xa 293), (1, xi v6), (2, xi x2)]) (st' := []) (m' := m6) (fun ex ns r q => ?_) ?_
          · refine xw_ic_eqT rfl (w32_cg (w32_xR _ _ _)) (w32_cg rfl) h3 ?_
            refine xw_lo (L2 := [(0, xa 293), (1, xi v6), (2, xi x2)]) (List.forall_mem_cons.mpr ⟨rfl, List.forall_mem_cons.mpr ⟨rfl, List.forall_mem_cons.mpr ⟨rfl, fun _ h => absurd h List.not_mem_nil⟩⟩⟩) ?_
            exact q
          exact ygk71_135 hB hr16 _ _ _ cv6 c2
        · refine xS_of (pc' := 129) (L' := [(1, xi v6), (0, xa 293), (2, xi x2)]) (st' := [xi 215, xi (xR m6 1 3)]) (m' := m6) (fun ex ns r q => ?_) ?_
          · refine xw_ic_eqF rfl (w32_cg (w32_xR _ _ _)) (w32_cg rfl) h3 ?_
            refine xw_aload_n rfl rfl rfl ?_
            refine xw_gfR (n := 1) (e := 1) rfl (xw_obd (by decide +kernel)) (by decide +kernel) (by decide +kernel) rfl ?_
            refine xw_gfIc (v := (m6 1 3)) (v' := (xR m6 1 3)) rfl (xw_obd (by decide +kernel)) xk1_3 (qi := 3) rfl rfl rfl ?_
            refine xw_sipush (e := 215) rfl (by decide +kernel) ?_
            exact q
          refine xS_if (fun h4 => ?_) (fun h4 => ?_)
          · refine xS_of (pc' := 135) (L' := [(0, xa 293), (1, xi v6), (2, xi x2)]) (st' := []) (m' := m6) (fun ex ns r q => ?_) ?_
            · refine xw_ic_eqT rfl (w32_cg (w32_xR _ _ _)) (w32_cg rfl) h4 ?_
              refine xw_lo (L2 := [(0, xa 293), (1, xi v6), (2, xi x2)]) (List.forall_mem_cons.mpr ⟨rfl, List.forall_mem_cons.mpr ⟨rfl, List.forall_mem_cons.mpr ⟨rfl, fun _ h => absurd h List.not_mem_nil⟩⟩⟩) ?_
              exact q
            exact ygk71_135 hB hr16 _ _ _ cv6 c2
          · refine xS_of (pc' := 159) (L' := [(0, xa 293), (1, xi v6)]) (st' := []) (m' := m6) (fun ex ns r q => ?_) ?_
            · refine xw_ic_eqF rfl (w32_cg (w32_xR _ _ _)) (w32_cg rfl) h4 ?_
              refine xw_goto rfl ?_
              refine xw_lo (L2 := [(0, xa 293), (1, xi v6)]) (List.forall_mem_cons.mpr ⟨rfl, List.forall_mem_cons.mpr ⟨rfl, fun _ h => absurd h List.not_mem_nil⟩⟩) ?_
              exact q
            exact ygk71_159 hB _ _ cv6
  · refine xS_of (pc' := 159) (L' := [(0, xa 293), (1, xi x1)]) (st' := []) (m' := m) (fun ex ns r q => ?_) ?_
    · refine xw_ic_geT rfl (w32_cg c2) (w32_cg rfl) (Int.not_lt.mp h0) ?_
      refine xw_lo (L2 := [(0, xa 293), (1, xi x1)]) (List.forall_mem_cons.mpr ⟨rfl, List.forall_mem_cons.mpr ⟨rfl, fun _ h => absurd h List.not_mem_nil⟩⟩) ?_
      exact q
    exact ygk71_159 hB _ _ c1
theorem ygl71_16 {B : Nat} (hB : B ≤ 512) {xs : Nat → Int32} {SL d : Nat} : ∀ n x1 x2 m, w32 x1 = x1 → w32 x2 = x2 → xS B xs SL (d + 5) 71 (3, none, [], 6) 0 16 [(0, xa 293), (1, xi x1), (2, xi x2)] [] m (xl2 (yl71_16 B) n x1 x2 m) := by
  intro n
  induction n with
  | zero => intro x1 x2 m c1 c2; exact xS_none
  | succ n ih => exact ysl71_16 hB ih
theorem ygf71 {B : Nat} (hB : B ≤ 512) {xs : Nat → Int32} {SL d : Nat} : ∀ m, xS B xs SL (d + 5) 71 (3, none, [], 6) 0 0 [(0, xa 293)] [] m (yf71 B m) := by
  intro m
  unfold yf71
  refine xS_of (pc' := 11) (L' := [(0, xa 293), (1, xi 0)]) (st' := [xa 1]) (m' := (xw_u m 293 4 0)) (fun ex ns r q => ?_) ?_
  · refine xw_aload_n rfl rfl rfl ?_
    refine xw_iconst rfl ?_
    refine xw_pfI rfl (xw_obd (by decide +kernel)) xk5_4 (qi := 4) rfl (xw_okI rfl) ?_
    refine xw_iconst rfl ?_
    refine xw_istore_n (L' := [(1, xi 0), (0, xa 293)]) rfl (by decide) rfl ?_
    refine xw_aload_n rfl rfl rfl ?_
    refine xw_gfR (n := 1) (e := 1) rfl (xw_obd (by decide +kernel)) (by decide +kernel) (by decide +kernel) rfl ?_
    refine xw_lo (L2 := [(0, xa 293), (1, xi 0)]) (List.forall_mem_cons.mpr ⟨rfl, List.forall_mem_cons.mpr ⟨rfl, fun _ h => absurd h List.not_mem_nil⟩⟩) ?_
    exact q
  refine xS_call (q := 47) (n := 1) (kq := 0) (as := [xa 1]) (st1 := []) rfl rfl rfl rfl rfl rfl rfl rfl rfl rfl (fun _ => xw_rcv1 (t := 1) (xw_obd (by decide +kernel)) rfl) rfl (List.forall_mem_cons.mpr ⟨rfl, fun _ h => absurd h List.not_mem_nil⟩) (ygf47 hB _) (fun v1 m1 cv1 => ?_)
  refine xS_of (pc' := 16) (L' := [(0, xa 293), (1, xi 0), (2, xi 0)]) (st' := []) (m' := m1) (fun ex ns r q => ?_) ?_
  · refine xw_iconst rfl ?_
    refine xw_istore_n (L' := [(2, xi 0), (0, xa 293), (1, xi 0)]) rfl (by decide) rfl ?_
    refine xw_lo (L2 := [(0, xa 293), (1, xi 0), (2, xi 0)]) (List.forall_mem_cons.mpr ⟨rfl, List.forall_mem_cons.mpr ⟨rfl, List.forall_mem_cons.mpr ⟨rfl, fun _ h => absurd h List.not_mem_nil⟩⟩⟩) ?_
    exact q
  exact ygl71_16 hB 1000000 _ _ _ rfl rfl
theorem ysl89_2 {B : Nat} (hB : B ≤ 512) {xs : Nat → Int32} {SL d : Nat} {r2 : Int → Int → xw_M → xP} (hr2 : ∀ x1 x2 m, w32 x1 = x1 → w32 x2 = x2 → xS B xs SL (d + 0) 89 (3, (some .int), [], 5) 1 2 [(0, xa 223), (1, xi x1), (2, xi x2)] [] m (r2 x1 x2 m)) : ∀ x1 x2 m, w32 x1 = x1 → w32 x2 = x2 → xS B xs SL (d + 0) 89 (3, (some .int), [], 5) 1 2 [(0, xa 223), (1, xi x1), (2, xi x2)] [] m (yl89_2 B r2 x1 x2 m) := by
  intro x1 x2 m c1 c2
  unfold yl89_2
  refine xS_of (pc' := 7) (L' := [(0, xa 223), (1, xi x1), (2, xi x2)]) (st' := [xi (xR m 223 6), xi x2]) (m' := m) (fun ex ns r q => ?_) ?_
  · refine xw_iload_n rfl rfl ?_
    refine xw_aload_n rfl rfl rfl ?_
    refine xw_gfIc (v := (m 223 6)) (v' := (xR m 223 6)) rfl (xw_obd (by decide +kernel)) xk4_6 (qi := 6) rfl rfl rfl ?_
    exact q
  refine xS_if (fun h0 => ?_) (fun h0 => ?_)
  · refine xS_g (fun g1 => ?_)
    refine xS_of (pc' := 17) (L' := [(0, xa 223), (1, xi x1), (2, xi x2)]) (st' := [xi x1, xi (xR m 227 x2)]) (m' := m) (fun ex ns r q => ?_) ?_
    · refine xw_ic_geF rfl (w32_cg c2) (w32_cg (w32_xR _ _ _)) (Int.not_le.mpr h0) ?_
      refine xw_aload_n rfl rfl rfl ?_
      refine xw_gfR (n := 227) (e := 227) rfl (xw_obd (by decide +kernel)) (by decide +kernel) (by decide +kernel) rfl ?_
      refine xw_iload_n rfl rfl ?_
      refine xw_ialdc (n := 8) (v := (m 227 x2)) (v' := (xR m 227 x2)) rfl hB (xw_obd (by decide +kernel)) rfl g1 rfl rfl ?_
      refine xw_iload_n rfl rfl ?_
      exact q
    refine xS_if (fun h2 => ?_) (fun h2 => ?_)
    · refine xS_of (pc' := 21) (L' := [(0, xa 223), (1, xi x1), (2, xi x2)]) (st' := [xi x2]) (m' := m) (fun ex ns r q => ?_) ?_
      · refine xw_ic_neF rfl (w32_cg (w32_xR _ _ _)) (w32_cg c1) h2 ?_
        refine xw_iload_n rfl rfl ?_
        exact q
      exact xS_ret (v := x2) rfl rfl xw_rtI c2
    · refine xS_of (pc' := 2) (L' := [(0, xa 223), (1, xi x1), (2, xi (w32 (x2 + 1)))]) (st' := []) (m' := m) (fun ex ns r q => ?_) ?_
      · refine xw_ic_neT rfl (w32_cg (w32_xR _ _ _)) (w32_cg c1) h2 ?_
        refine xw_iincc (z := (w32 (x2 + 1))) (L' := [(2, xi (w32 (x2 + 1))), (0, xa 223), (1, xi x1)]) rfl rfl (by decide) rfl rfl ?_
        refine xw_goto rfl ?_
        refine xw_lo (L2 := [(0, xa 223), (1, xi x1), (2, xi (w32 (x2 + 1)))]) (List.forall_mem_cons.mpr ⟨rfl, List.forall_mem_cons.mpr ⟨rfl, List.forall_mem_cons.mpr ⟨rfl, fun _ h => absurd h List.not_mem_nil⟩⟩⟩) ?_
        exact q
      exact hr2 _ _ _ c1 (w32_w _)
  · refine xS_of (pc' := 29) (L' := [(0, xa 223), (1, xi x1), (2, xi x2)]) (st' := [xi (-1)]) (m' := m) (fun ex ns r q => ?_) ?_
    · refine xw_ic_geT rfl (w32_cg c2) (w32_cg (w32_xR _ _ _)) (Int.not_lt.mp h0) ?_
      refine xw_iconst rfl ?_
      exact q
    exact xS_ret (v := (-1)) rfl rfl xw_rtI rfl
theorem ygl89_2 {B : Nat} (hB : B ≤ 512) {xs : Nat → Int32} {SL d : Nat} : ∀ n x1 x2 m, w32 x1 = x1 → w32 x2 = x2 → xS B xs SL (d + 0) 89 (3, (some .int), [], 5) 1 2 [(0, xa 223), (1, xi x1), (2, xi x2)] [] m (xl2 (yl89_2 B) n x1 x2 m) := by
  intro n
  induction n with
  | zero => intro x1 x2 m c1 c2; exact xS_none
  | succ n ih => exact ysl89_2 hB ih
theorem ygf89 {B : Nat} (hB : B ≤ 512) {xs : Nat → Int32} {SL d : Nat} : ∀ p0 m, w32 p0 = p0 → xS B xs SL (d + 0) 89 (3, (some .int), [], 5) 1 0 [(0, xa 223), (1, xi p0)] [] m (yf89 B p0 m) := by
  intro p0 m cp0
  unfold yf89
  refine xS_of (pc' := 2) (L' := [(0, xa 223), (1, xi p0), (2, xi 0)]) (st' := []) (m' := m) (fun ex ns r q => ?_) ?_
  · refine xw_iconst rfl ?_
    refine xw_istore_n (L' := [(2, xi 0), (0, xa 223), (1, xi p0)]) rfl (by decide) rfl ?_
    refine xw_lo (L2 := [(0, xa 223), (1, xi p0), (2, xi 0)]) (List.forall_mem_cons.mpr ⟨rfl, List.forall_mem_cons.mpr ⟨rfl, List.forall_mem_cons.mpr ⟨rfl, fun _ h => absurd h List.not_mem_nil⟩⟩⟩) ?_
    exact q
  exact ygl89_2 hB 1000000 _ _ _ cp0 rfl
theorem ygf90 {B : Nat} (hB : B ≤ 512) {xs : Nat → Int32} {SL d : Nat} : ∀ p0 m, w32 p0 = p0 → xS B xs SL (d + 1) 90 (2, none, [], 5) 0 0 [(0, xa 223), (1, xi p0)] [] m (yf90 B p0 m) := by
  intro p0 m cp0
  unfold yf90
  refine xS_of (pc' := 2) (L' := [(0, xa 223), (1, xi p0)]) (st' := [xi p0, xa 223]) (m' := m) (fun ex ns r q => ?_) ?_
  · refine xw_aload_n rfl rfl rfl ?_
    refine xw_iload_n rfl rfl ?_
    refine xw_lo (L2 := [(0, xa 223), (1, xi p0)]) (List.forall_mem_cons.mpr ⟨rfl, List.forall_mem_cons.mpr ⟨rfl, fun _ h => absurd h List.not_mem_nil⟩⟩) ?_
    exact q
  refine xS_call (q := 75) (n := 2) (kq := 0) (as := [xa 223, xi p0]) (st1 := []) rfl rfl rfl rfl rfl rfl rfl rfl rfl rfl (fun _ => xw_rcv1 (t := 4) (xw_obd (by decide +kernel)) rfl) rfl (List.forall_mem_cons.mpr ⟨rfl, List.forall_mem_cons.mpr ⟨rfl, fun _ h => absurd h List.not_mem_nil⟩⟩) (ygf75 hB _ _ cp0) (fun v1 m1 cv1 => ?_)
  refine xS_g (fun g0 => ?_)
  refine xS_of (pc' := 22) (L' := [(0, xa 223), (1, xi p0)]) (st' := []) (m' := (xw_u (xw_u m1 223 6 ((xR m1 223 6) + 1)) 227 (xR m1 223 6) p0)) (fun ex ns r q => ?_) ?_
  · refine xw_aload_n rfl rfl rfl ?_
    refine xw_gfR (n := 227) (e := 227) rfl (xw_obd (by decide +kernel)) (by decide +kernel) (by decide +kernel) rfl ?_
    refine xw_aload_n rfl rfl rfl ?_
    refine xw_dup rfl rfl ?_
    refine xw_gfIc (v := (m1 223 6)) (v' := (xR m1 223 6)) rfl (xw_obd (by decide +kernel)) xk4_6 (qi := 6) rfl rfl rfl ?_
    refine xw_dup_x1 rfl rfl ?_
    refine xw_iconst rfl ?_
    refine xw_iadd rfl ?_
    refine xw_pfI rfl (xw_obd (by decide +kernel)) xk4_6 (qi := 6) rfl (xw_okI rfl) ?_
    refine xw_iload_n rfl rfl ?_
    refine xw_iast (n := 8) rfl hB (xw_obd (by decide +kernel)) rfl g0 ?_
    exact q
  exact xS_ret (v := 0) rfl rfl rfl rfl
theorem ygk88_54 {B : Nat} (hB : B ≤ 512) {xs : Nat → Int32} {SL d : Nat} : ∀ x3 m, w32 x3 = x3 → xS B xs SL (d + 3) 88 (4, none, [], 6) 0 54 [(0, xa 293), (3, xi x3)] [] m (yk88_54 B x3 m) := by
  intro x3 m c3
  unfold yk88_54
  refine xS_of (pc' := 59) (L' := []) (st' := [xi x3, xa 223]) (m' := m) (fun ex ns r q => ?_) ?_
  · refine xw_aload_n rfl rfl rfl ?_
    refine xw_gfR (n := 223) (e := 223) rfl (xw_obd (by decide +kernel)) (by decide +kernel) (by decide +kernel) rfl ?_
    refine xw_iload_n rfl rfl ?_
    refine xw_lo (L2 := []) (fun _ h => absurd h List.not_mem_nil) ?_
    exact q
  refine xS_call (q := 90) (n := 2) (kq := 0) (as := [xa 223, xi x3]) (st1 := []) rfl rfl rfl rfl rfl rfl rfl rfl rfl rfl (fun _ => xw_rcv1 (t := 4) (xw_obd (by decide +kernel)) rfl) rfl (List.forall_mem_cons.mpr ⟨rfl, List.forall_mem_cons.mpr ⟨rfl, fun _ h => absurd h List.not_mem_nil⟩⟩) (ygf90 hB _ _ c3) (fun v1 m1 cv1 => ?_)
  exact xS_ret (v := 0) rfl rfl rfl rfl
theorem ygf88 {B : Nat} (hB : B ≤ 512) {xs : Nat → Int32} {SL d : Nat} : ∀ m, xS B xs SL (d + 3) 88 (4, none, [], 6) 0 0 [(0, xa 293)] [] m (yf88 B m) := by
  intro m
  unfold yf88
  refine xS_of (pc' := 9) (L' := [(0, xa 293), (1, xi (xR m 1 4))]) (st' := [xa 293]) (m' := m) (fun ex ns r q => ?_) ?_
  · refine xw_aload_n rfl rfl rfl ?_
    refine xw_gfR (n := 1) (e := 1) rfl (xw_obd (by decide +kernel)) (by decide +kernel) (by decide +kernel) rfl ?_
    refine xw_gfIc (v := (m 1 4)) (v' := (xR m 1 4)) rfl (xw_obd (by decide +kernel)) xk1_4 (qi := 4) rfl rfl rfl ?_
    refine xw_istore_n (L' := [(1, xi (xR m 1 4)), (0, xa 293)]) rfl (by decide) rfl ?_
    refine xw_aload_n rfl rfl rfl ?_
    refine xw_lo (L2 := [(0, xa 293), (1, xi (xR m 1 4))]) (List.forall_mem_cons.mpr ⟨rfl, List.forall_mem_cons.mpr ⟨rfl, fun _ h => absurd h List.not_mem_nil⟩⟩) ?_
    exact q
  refine xS_call (q := 60) (n := 1) (kq := 1) (as := [xa 293]) (st1 := []) rfl rfl rfl rfl rfl rfl rfl rfl rfl rfl (fun _ => xw_rcv1 (t := 5) (xw_obd (by decide +kernel)) rfl) rfl (List.forall_mem_cons.mpr ⟨rfl, fun _ h => absurd h List.not_mem_nil⟩) (ygf60 hB _) (fun v1 m1 cv1 => ?_)
  refine xS_of (pc' := 23) (L' := [(0, xa 293), (1, xi (xR m 1 4)), (2, xi v1)]) (st' := [xi 8, xi (xR m1 223 6), xa 293]) (m' := m1) (fun ex ns r q => ?_) ?_
  · refine xw_istore_n (L' := [(2, xi v1), (0, xa 293), (1, xi (xR m 1 4))]) rfl (by decide) rfl ?_
    refine xw_aload_n rfl rfl rfl ?_
    refine xw_aload_n rfl rfl rfl ?_
    refine xw_gfR (n := 223) (e := 223) rfl (xw_obd (by decide +kernel)) (by decide +kernel) (by decide +kernel) rfl ?_
    refine xw_gfIc (v := (m1 223 6)) (v' := (xR m1 223 6)) rfl (xw_obd (by decide +kernel)) xk4_6 (qi := 6) rfl rfl rfl ?_
    refine xw_bipush (e := 8) rfl (by decide +kernel) ?_
    refine xw_lo (L2 := [(0, xa 293), (1, xi (xR m 1 4)), (2, xi v1)]) (List.forall_mem_cons.mpr ⟨rfl, List.forall_mem_cons.mpr ⟨rfl, List.forall_mem_cons.mpr ⟨rfl, fun _ h => absurd h List.not_mem_nil⟩⟩⟩) ?_
    exact q
  refine xS_call (q := 64) (n := 3) (kq := 0) (as := [xa 293, xi (xR m1 223 6), xi 8]) (st1 := []) rfl rfl rfl rfl rfl rfl rfl rfl rfl rfl (fun _ => xw_rcv1 (t := 5) (xw_obd (by decide +kernel)) rfl) rfl (List.forall_mem_cons.mpr ⟨rfl, List.forall_mem_cons.mpr ⟨rfl, List.forall_mem_cons.mpr ⟨rfl, fun _ h => absurd h List.not_mem_nil⟩⟩⟩) (ygf64 hB _ _ _ (w32_xR _ _ _) rfl) (fun v2 m2 cv2 => ?_)
  refine xS_of (pc' := 28) (L' := [(0, xa 293), (1, xi (xR m 1 4))]) (st' := [xi v1, xa 293]) (m' := m2) (fun ex ns r q => ?_) ?_
  · refine xw_aload_n rfl rfl rfl ?_
    refine xw_iload_n rfl rfl ?_
    refine xw_lo (L2 := [(0, xa 293), (1, xi (xR m 1 4))]) (List.forall_mem_cons.mpr ⟨rfl, List.forall_mem_cons.mpr ⟨rfl, fun _ h => absurd h List.not_mem_nil⟩⟩) ?_
    exact q
  refine xS_call (q := 65) (n := 2) (kq := 1) (as := [xa 293, xi v1]) (st1 := []) rfl rfl rfl rfl rfl rfl rfl rfl rfl rfl (fun _ => xw_rcv1 (t := 5) (xw_obd (by decide +kernel)) rfl) rfl (List.forall_mem_cons.mpr ⟨rfl, List.forall_mem_cons.mpr ⟨rfl, fun _ h => absurd h List.not_mem_nil⟩⟩) (ygf65 hB _ _ cv1) (fun v3 m3 cv3 => ?_)
  refine xS_of (pc' := 37) (L' := [(0, xa 293), (1, xi (xR m 1 4)), (3, xi v3)]) (st' := [xi v3, xa 223]) (m' := m3) (fun ex ns r q => ?_) ?_
  · refine xw_istore_n (L' := [(3, xi v3), (0, xa 293), (1, xi (xR m 1 4))]) rfl (by decide) rfl ?_
    refine xw_aload_n rfl rfl rfl ?_
    refine xw_gfR (n := 223) (e := 223) rfl (xw_obd (by decide +kernel)) (by decide +kernel) (by decide +kernel) rfl ?_
    refine xw_iload_n rfl rfl ?_
    refine xw_lo (L2 := [(0, xa 293), (1, xi (xR m 1 4)), (3, xi v3)]) (List.forall_mem_cons.mpr ⟨rfl, List.forall_mem_cons.mpr ⟨rfl, List.forall_mem_cons.mpr ⟨rfl, fun _ h => absurd h List.not_mem_nil⟩⟩⟩) ?_
    exact q
  refine xS_call (q := 89) (n := 2) (kq := 1) (as := [xa 223, xi v3]) (st1 := []) rfl rfl rfl rfl rfl rfl rfl rfl rfl rfl (fun _ => xw_rcv1 (t := 4) (xw_obd (by decide +kernel)) rfl) rfl (List.forall_mem_cons.mpr ⟨rfl, List.forall_mem_cons.mpr ⟨rfl, fun _ h => absurd h List.not_mem_nil⟩⟩) (ygf89 hB _ _ cv3) (fun v4 m4 cv4 => ?_)
  refine xS_of (pc' := 41) (L' := [(0, xa 293), (1, xi (xR m 1 4)), (3, xi v3)]) (st' := [xi (-1), xi v4]) (m' := m4) (fun ex ns r q => ?_) ?_
  · refine xw_iconst rfl ?_
    exact q
  refine xS_if (fun h0 => ?_) (fun h0 => ?_)
  · refine xS_of (pc' := 54) (L' := [(0, xa 293), (3, xi v3)]) (st' := []) (m' := m4) (fun ex ns r q => ?_) ?_
    · refine xw_ic_eqT rfl (w32_cg cv4) (w32_cg rfl) h0 ?_
      refine xw_lo (L2 := [(0, xa 293), (3, xi v3)]) (List.forall_mem_cons.mpr ⟨rfl, List.forall_mem_cons.mpr ⟨rfl, fun _ h => absurd h List.not_mem_nil⟩⟩) ?_
      exact q
    exact ygk88_54 hB _ _ cv3
  · refine xS_of (pc' := 51) (L' := [(0, xa 293), (3, xi v3)]) (st' := [xi (xR m 1 4), xi 10, xa 1]) (m' := m4) (fun ex ns r q => ?_) ?_
    · refine xw_ic_eqF rfl (w32_cg cv4) (w32_cg rfl) h0 ?_
      refine xw_aload_n rfl rfl rfl ?_
      refine xw_gfR (n := 1) (e := 1) rfl (xw_obd (by decide +kernel)) (by decide +kernel) (by decide +kernel) rfl ?_
      refine xw_bipush (e := 10) rfl (by decide +kernel) ?_
      refine xw_iload_n rfl rfl ?_
      refine xw_lo (L2 := [(0, xa 293), (3, xi v3)]) (List.forall_mem_cons.mpr ⟨rfl, List.forall_mem_cons.mpr ⟨rfl, fun _ h => absurd h List.not_mem_nil⟩⟩) ?_
      exact q
    refine xS_call (q := 54) (n := 3) (kq := 0) (as := [xa 1, xi 10, xi (xR m 1 4)]) (st1 := []) rfl rfl rfl rfl rfl rfl rfl rfl rfl rfl (fun _ => xw_rcv1 (t := 1) (xw_obd (by decide +kernel)) rfl) rfl (List.forall_mem_cons.mpr ⟨rfl, List.forall_mem_cons.mpr ⟨rfl, List.forall_mem_cons.mpr ⟨rfl, fun _ h => absurd h List.not_mem_nil⟩⟩⟩) (ygf54 hB _ _ _ rfl (w32_xR _ _ _)) (fun v5 m5 cv5 => ?_)
    refine xS_of (pc' := 54) (L' := [(0, xa 293), (3, xi v3)]) (st' := []) (m' := m5) (fun ex ns r q => ?_) ?_
    · refine xw_lo (L2 := [(0, xa 293), (3, xi v3)]) (List.forall_mem_cons.mpr ⟨rfl, List.forall_mem_cons.mpr ⟨rfl, fun _ h => absurd h List.not_mem_nil⟩⟩) ?_
      exact q
    exact ygk88_54 hB _ _ cv3
theorem ysl91_128 {B : Nat} (hB : B ≤ 512) {xs : Nat → Int32} {SL d : Nat} {r98 : Int → Int → Int → Int → xw_M → xP} (hr98 : ∀ x1 x2 x4 x5 m, w32 x1 = x1 → w32 x2 = x2 → w32 x4 = x4 → w32 x5 = x5 → xS B xs SL (d + 0) 91 (8, (some .boolean), [], 5) 4 98 [(0, xa 223), (1, xi x1), (2, xi x2), (4, xi x4), (5, xi x5)] [] m (r98 x1 x2 x4 x5 m)) {r128 : Int → Int → Int → Int → Int → Int → xw_M → xP} (hr128 : ∀ x1 x2 x4 x5 x6 x7 m, w32 x1 = x1 → w32 x2 = x2 → w32 x4 = x4 → w32 x5 = x5 → w32 x6 = x6 → w32 x7 = x7 → xS B xs SL (d + 0) 91 (8, (some .boolean), [], 5) 4 128 [(0, xa 223), (1, xi x1), (2, xi x2), (4, xi x4), (5, xi x5), (6, xi x6), (7, xi x7)] [] m (r128 x1 x2 x4 x5 x6 x7 m)) : ∀ x1 x2 x4 x5 x6 x7 m, w32 x1 = x1 → w32 x2 = x2 → w32 x4 = x4 → w32 x5 = x5 → w32 x6 = x6 → w32 x7 = x7 → xS B xs SL (d + 0) 91 (8, (some .boolean), [], 5) 4 128 [(0, xa 223), (1, xi x1), (2, xi x2), (4, xi x4), (5, xi x5), (6, xi x6), (7, xi x7)] [] m (yl91_128 B r98 r128 x1 x2 x4 x5 x6 x7 m) := by
  intro x1 x2 x4 x5 x6 x7 m c1 c2 c4 c5 c6 c7
  unfold yl91_128
  refine xS_of (pc' := 134) (L' := [(0, xa 223), (1, xi x1), (2, xi x2), (4, xi x4), (5, xi x5), (6, xi x6), (7, xi x7)]) (st' := [xi (xR m 223 8), xi x7]) (m' := m) (fun ex ns r q => ?_) ?_
  · refine xw_iload rfl rfl ?_
    refine xw_aload_n rfl rfl rfl ?_
    refine xw_gfIc (v := (m 223 8)) (v' := (xR m 223 8)) rfl (xw_obd (by decide +kernel)) xk4_8 (qi := 8) rfl rfl rfl ?_
    exact q
  refine xS_if (fun h0 => ?_) (fun h0 => ?_)
  · refine xS_g (fun g1 => ?_)
    refine xS_g (fun g2 => ?_)
    refine xS_of (pc' := 128) (L' := [(0, xa 223), (1, xi x1), (2, xi x2), (4, xi x4), (5, xi x5), (6, xi x6), (7, xi (w32 (x7 + 1)))]) (st' := []) (m' := (xw_u m 228 ((x5 * (xR m 223 8)) + x7) (xw_iorf (xR m 228 x7) (xw_ishlf x6 x2)))) (fun ex ns r q => ?_) ?_
    · refine xw_ic_geF rfl (w32_cg c7) (w32_cg (w32_xR _ _ _)) (Int.not_le.mpr h0) ?_
      refine xw_aload_n rfl rfl rfl ?_
      refine xw_gfR (n := 228) (e := 228) rfl (xw_obd (by decide +kernel)) (by decide +kernel) (by decide +kernel) rfl ?_
      refine xw_iload rfl rfl ?_
      refine xw_aload_n rfl rfl rfl ?_
      refine xw_gfIc (v := (m 223 8)) (v' := (xR m 223 8)) rfl (xw_obd (by decide +kernel)) xk4_8 (qi := 8) rfl rfl rfl ?_
      refine xw_imul rfl ?_
      refine xw_iload rfl rfl ?_
      refine xw_iadd rfl ?_
      refine xw_aload_n rfl rfl rfl ?_
      refine xw_gfR (n := 228) (e := 228) rfl (xw_obd (by decide +kernel)) (by decide +kernel) (by decide +kernel) rfl ?_
      refine xw_iload rfl rfl ?_
      refine xw_ialdc (n := 32) (v := (m 228 x7)) (v' := (xR m 228 x7)) rfl hB (xw_obd (by decide +kernel)) rfl g1 rfl rfl ?_
      refine xw_iload rfl rfl ?_
      refine xw_iload_n rfl rfl ?_
      refine xw_ishl (z := (xw_ishlf x6 x2)) rfl (xw_ishle _ _) ?_
      refine xw_ior (z := (xw_iorf (xR m 228 x7) (xw_ishlf x6 x2))) rfl (xw_iore _ _) ?_
      refine xw_iast (n := 32) rfl hB (xw_obd (by decide +kernel)) rfl g2 ?_
      refine xw_iincc (z := (w32 (x7 + 1))) (L' := [(7, xi (w32 (x7 + 1))), (0, xa 223), (1, xi x1), (2, xi x2), (4, xi x4), (5, xi x5), (6, xi x6)]) rfl rfl (by decide) rfl rfl ?_
      refine xw_goto rfl ?_
      refine xw_lo (L2 := [(0, xa 223), (1, xi x1), (2, xi x2), (4, xi x4), (5, xi x5), (6, xi x6), (7, xi (w32 (x7 + 1)))]) (List.forall_mem_cons.mpr ⟨rfl, List.forall_mem_cons.mpr ⟨rfl, List.forall_mem_cons.mpr ⟨rfl, List.forall_mem_cons.mpr ⟨rfl, List.forall_mem_cons.mpr ⟨rfl, List.forall_mem_cons.mpr ⟨rfl, List.forall_mem_cons.mpr ⟨rfl, fun _ h => absurd h List.not_mem_nil⟩⟩⟩⟩⟩⟩⟩) ?_
      exact q
    exact hr128 _ _ _ _ _ _ _ c1 c2 c4 c5 c6 (w32_w _)
  · refine xS_of (pc' := 98) (L' := [(0, xa 223), (1, xi x1), (2, xi x2), (4, xi x4), (5, xi (w32 (x5 + 1)))]) (st' := []) (m' := m) (fun ex ns r q => ?_) ?_
    · refine xw_ic_geT rfl (w32_cg c7) (w32_cg (w32_xR _ _ _)) (Int.not_lt.mp h0) ?_
      refine xw_iincc (z := (w32 (x5 + 1))) (L' := [(5, xi (w32 (x5 + 1))), (0, xa 223), (1, xi x1), (2, xi x2), (4, xi x4), (6, xi x6), (7, xi x7)]) rfl rfl (by decide) rfl rfl ?_
      refine xw_goto rfl ?_
      refine xw_lo (L2 := [(0, xa 223), (1, xi x1), (2, xi x2), (4, xi x4), (5, xi (w32 (x5 + 1)))]) (List.forall_mem_cons.mpr ⟨rfl, List.forall_mem_cons.mpr ⟨rfl, List.forall_mem_cons.mpr ⟨rfl, List.forall_mem_cons.mpr ⟨rfl, List.forall_mem_cons.mpr ⟨rfl, fun _ h => absurd h List.not_mem_nil⟩⟩⟩⟩⟩) ?_
      exact q
    exact hr98 _ _ _ _ _ c1 c2 c4 (w32_w _)
theorem ygl91_128 {B : Nat} (hB : B ≤ 512) {xs : Nat → Int32} {SL d : Nat} {r98 : Int → Int → Int → Int → xw_M → xP} (hr98 : ∀ x1 x2 x4 x5 m, w32 x1 = x1 → w32 x2 = x2 → w32 x4 = x4 → w32 x5 = x5 → xS B xs SL (d + 0) 91 (8, (some .boolean), [], 5) 4 98 [(0, xa 223), (1, xi x1), (2, xi x2), (4, xi x4), (5, xi x5)] [] m (r98 x1 x2 x4 x5 m)) : ∀ n x1 x2 x4 x5 x6 x7 m, w32 x1 = x1 → w32 x2 = x2 → w32 x4 = x4 → w32 x5 = x5 → w32 x6 = x6 → w32 x7 = x7 → xS B xs SL (d + 0) 91 (8, (some .boolean), [], 5) 4 128 [(0, xa 223), (1, xi x1), (2, xi x2), (4, xi x4), (5, xi x5), (6, xi x6), (7, xi x7)] [] m (xl6 (yl91_128 B r98) n x1 x2 x4 x5 x6 x7 m) := by
  intro n
  induction n with
  | zero => intro x1 x2 x4 x5 x6 x7 m c1 c2 c4 c5 c6 c7; exact xS_none
  | succ n ih => exact ysl91_128 hB hr98 ih
theorem ysl91_98 {B : Nat} (hB : B ≤ 512) {xs : Nat → Int32} {SL d : Nat} {r98 : Int → Int → Int → Int → xw_M → xP} (hr98 : ∀ x1 x2 x4 x5 m, w32 x1 = x1 → w32 x2 = x2 → w32 x4 = x4 → w32 x5 = x5 → xS B xs SL (d + 0) 91 (8, (some .boolean), [], 5) 4 98 [(0, xa 223), (1, xi x1), (2, xi x2), (4, xi x4), (5, xi x5)] [] m (r98 x1 x2 x4 x5 m)) : ∀ x1 x2 x4 x5 m, w32 x1 = x1 → w32 x2 = x2 → w32 x4 = x4 → w32 x5 = x5 → xS B xs SL (d + 0) 91 (8, (some .boolean), [], 5) 4 98 [(0, xa 223), (1, xi x1), (2, xi x2), (4, xi x4), (5, xi x5)] [] m (yl91_98 B r98 x1 x2 x4 x5 m) := by
  intro x1 x2 x4 x5 m c1 c2 c4 c5
  unfold yl91_98
  refine xS_of (pc' := 102) (L' := [(0, xa 223), (1, xi x1), (2, xi x2), (4, xi x4), (5, xi x5)]) (st' := [xi x4, xi x5]) (m' := m) (fun ex ns r q => ?_) ?_
  · refine xw_iload rfl rfl ?_
    refine xw_iload rfl rfl ?_
    exact q
  refine xS_if (fun h0 => ?_) (fun h0 => ?_)
  · refine xS_of (pc' := 109) (L' := [(0, xa 223), (1, xi x1), (2, xi x2), (4, xi x4), (5, xi x5)]) (st' := [xi 208, xi x1]) (m' := m) (fun ex ns r q => ?_) ?_
    · refine xw_ic_geF rfl (w32_cg c5) (w32_cg c4) (Int.not_le.mpr h0) ?_
      refine xw_iload_n rfl rfl ?_
      refine xw_sipush (e := 208) rfl (by decide +kernel) ?_
      exact q
    refine xS_if (fun h1 => ?_) (fun h1 => ?_)
    · refine xS_of (pc' := 128) (L' := [(0, xa 223), (1, xi x1), (2, xi x2), (4, xi x4), (5, xi x5), (6, xi x5), (7, xi 0)]) (st' := []) (m' := m) (fun ex ns r q => ?_) ?_
      · refine xw_ic_neF rfl (w32_cg c1) (w32_cg rfl) h1 ?_
        refine xw_iload rfl rfl ?_
        refine xw_goto rfl ?_
        refine xw_istore (L' := [(6, xi x5), (0, xa 223), (1, xi x1), (2, xi x2), (4, xi x4), (5, xi x5)]) rfl (by decide) rfl ?_
        refine xw_iconst rfl ?_
        refine xw_istore (L' := [(7, xi 0), (6, xi x5), (0, xa 223), (1, xi x1), (2, xi x2), (4, xi x4), (5, xi x5)]) rfl (by decide) rfl ?_
        refine xw_lo (L2 := [(0, xa 223), (1, xi x1), (2, xi x2), (4, xi x4), (5, xi x5), (6, xi x5), (7, xi 0)]) (List.forall_mem_cons.mpr ⟨rfl, List.forall_mem_cons.mpr ⟨rfl, List.forall_mem_cons.mpr ⟨rfl, List.forall_mem_cons.mpr ⟨rfl, List.forall_mem_cons.mpr ⟨rfl, List.forall_mem_cons.mpr ⟨rfl, List.forall_mem_cons.mpr ⟨rfl, fun _ h => absurd h List.not_mem_nil⟩⟩⟩⟩⟩⟩⟩) ?_
        exact q
      exact ygl91_128 hB hr98 1000000 _ _ _ _ _ _ _ c1 c2 c4 c5 c5 rfl
    · refine xS_of (pc' := 128) (L' := [(0, xa 223), (1, xi x1), (2, xi x2), (4, xi x4), (5, xi x5), (6, xi (w32 ((xw_ishlf 1 x5) - 1))), (7, xi 0)]) (st' := []) (m' := m) (fun ex ns r q => ?_) ?_
      · refine xw_ic_neT rfl (w32_cg c1) (w32_cg rfl) h1 ?_
        refine xw_iconst rfl ?_
        refine xw_iload rfl rfl ?_
        refine xw_ishl (z := (xw_ishlf 1 x5)) rfl (xw_ishle _ _) ?_
        refine xw_iconst rfl ?_
        refine xw_isub rfl ?_
        refine xw_cst (st' := [xi (w32 ((xw_ishlf 1 x5) - 1))]) (xw_sc (xi_c rfl) rfl) ?_
        refine xw_istore (L' := [(6, xi (w32 ((xw_ishlf 1 x5) - 1))), (0, xa 223), (1, xi x1), (2, xi x2), (4, xi x4), (5, xi x5)]) rfl (by decide) rfl ?_
        refine xw_iconst rfl ?_
        refine xw_istore (L' := [(7, xi 0), (6, xi (w32 ((xw_ishlf 1 x5) - 1))), (0, xa 223), (1, xi x1), (2, xi x2), (4, xi x4), (5, xi x5)]) rfl (by decide) rfl ?_
        refine xw_lo (L2 := [(0, xa 223), (1, xi x1), (2, xi x2), (4, xi x4), (5, xi x5), (6, xi (w32 ((xw_ishlf 1 x5) - 1))), (7, xi 0)]) (List.forall_mem_cons.mpr ⟨rfl, List.forall_mem_cons.mpr ⟨rfl, List.forall_mem_cons.mpr ⟨rfl, List.forall_mem_cons.mpr ⟨rfl, List.forall_mem_cons.mpr ⟨rfl, List.forall_mem_cons.mpr ⟨rfl, List.forall_mem_cons.mpr ⟨rfl, fun _ h => absurd h List.not_mem_nil⟩⟩⟩⟩⟩⟩⟩) ?_
        exact q
      exact ygl91_128 hB hr98 1000000 _ _ _ _ _ _ _ c1 c2 c4 c5 (w32_w _) rfl
  · refine xS_of (pc' := 188) (L' := [(0, xa 223), (1, xi x1), (2, xi x2), (4, xi x4), (5, xi x5)]) (st' := [xi 1]) (m' := (xw_u m 223 8 ((xR m 223 8) * x4))) (fun ex ns r q => ?_) ?_
    · refine xw_ic_geT rfl (w32_cg c5) (w32_cg c4) (Int.not_lt.mp h0) ?_
      refine xw_aload_n rfl rfl rfl ?_
      refine xw_dup rfl rfl ?_
      refine xw_gfIc (v := (m 223 8)) (v' := (xR m 223 8)) rfl (xw_obd (by decide +kernel)) xk4_8 (qi := 8) rfl rfl rfl ?_
      refine xw_iload rfl rfl ?_
      refine xw_imul rfl ?_
      refine xw_pfI rfl (xw_obd (by decide +kernel)) xk4_8 (qi := 8) rfl (xw_okI rfl) ?_
      refine xw_iconst rfl ?_
      exact q
    exact xS_ret (v := 1) rfl rfl (xw_rtZ (Or.inr rfl)) (Or.inr rfl)
theorem ygl91_98 {B : Nat} (hB : B ≤ 512) {xs : Nat → Int32} {SL d : Nat} : ∀ n x1 x2 x4 x5 m, w32 x1 = x1 → w32 x2 = x2 → w32 x4 = x4 → w32 x5 = x5 → xS B xs SL (d + 0) 91 (8, (some .boolean), [], 5) 4 98 [(0, xa 223), (1, xi x1), (2, xi x2), (4, xi x4), (5, xi x5)] [] m (xl4 (yl91_98 B) n x1 x2 x4 x5 m) := by
  intro n
  induction n with
  | zero => intro x1 x2 x4 x5 m c1 c2 c4 c5; exact xS_none
  | succ n ih => exact ysl91_98 hB ih
theorem ysl91_67 {B : Nat} (hB : B ≤ 512) {xs : Nat → Int32} {SL d : Nat} {r67 : Int → Int → Int → Int → xw_M → xP} (hr67 : ∀ x1 x2 x4 x5 m, w32 x1 = x1 → w32 x2 = x2 → w32 x4 = x4 → w32 x5 = x5 → xS B xs SL (d + 0) 91 (8, (some .boolean), [], 5) 4 67 [(0, xa 223), (1, xi x1), (2, xi x2), (4, xi x4), (5, xi x5)] [] m (r67 x1 x2 x4 x5 m)) : ∀ x1 x2 x4 x5 m, w32 x1 = x1 → w32 x2 = x2 → w32 x4 = x4 → w32 x5 = x5 → xS B xs SL (d + 0) 91 (8, (some .boolean), [], 5) 4 67 [(0, xa 223), (1, xi x1), (2, xi x2), (4, xi x4), (5, xi x5)] [] m (yl91_67 B r67 x1 x2 x4 x5 m) := by
  intro x1 x2 x4 x5 m c1 c2 c4 c5
  unfold yl91_67
  refine xS_of (pc' := 73) (L' := [(0, xa 223), (1, xi x1), (2, xi x2), (4, xi x4), (5, xi x5)]) (st' := [xi (xR m 223 8), xi x5]) (m' := m) (fun ex ns r q => ?_) ?_
  · refine xw_iload rfl rfl ?_
    refine xw_aload_n rfl rfl rfl ?_
    refine xw_gfIc (v := (m 223 8)) (v' := (xR m 223 8)) rfl (xw_obd (by decide +kernel)) xk4_8 (qi := 8) rfl rfl rfl ?_
    exact q
  refine xS_if (fun h0 => ?_) (fun h0 => ?_)
  · refine xS_g (fun g1 => ?_)
    refine xS_of (pc' := 67) (L' := [(0, xa 223), (1, xi x1), (2, xi x2), (4, xi x4), (5, xi (w32 (x5 + 1)))]) (st' := []) (m' := (xw_u m 228 x5 (xw_iorf (xR m 228 x5) (xw_ishlf 1 x2)))) (fun ex ns r q => ?_) ?_
    · refine xw_ic_geF rfl (w32_cg c5) (w32_cg (w32_xR _ _ _)) (Int.not_le.mpr h0) ?_
      refine xw_aload_n rfl rfl rfl ?_
      refine xw_gfR (n := 228) (e := 228) rfl (xw_obd (by decide +kernel)) (by decide +kernel) (by decide +kernel) rfl ?_
      refine xw_iload rfl rfl ?_
      refine xw_dup2 rfl rfl rfl ?_
      refine xw_ialdc (n := 32) (v := (m 228 x5)) (v' := (xR m 228 x5)) rfl hB (xw_obd (by decide +kernel)) rfl g1 rfl rfl ?_
      refine xw_iconst rfl ?_
      refine xw_iload_n rfl rfl ?_
      refine xw_ishl (z := (xw_ishlf 1 x2)) rfl (xw_ishle _ _) ?_
      refine xw_ior (z := (xw_iorf (xR m 228 x5) (xw_ishlf 1 x2))) rfl (xw_iore _ _) ?_
      refine xw_iast (n := 32) rfl hB (xw_obd (by decide +kernel)) rfl g1 ?_
      refine xw_iincc (z := (w32 (x5 + 1))) (L' := [(5, xi (w32 (x5 + 1))), (0, xa 223), (1, xi x1), (2, xi x2), (4, xi x4)]) rfl rfl (by decide) rfl rfl ?_
      refine xw_goto rfl ?_
      refine xw_lo (L2 := [(0, xa 223), (1, xi x1), (2, xi x2), (4, xi x4), (5, xi (w32 (x5 + 1)))]) (List.forall_mem_cons.mpr ⟨rfl, List.forall_mem_cons.mpr ⟨rfl, List.forall_mem_cons.mpr ⟨rfl, List.forall_mem_cons.mpr ⟨rfl, List.forall_mem_cons.mpr ⟨rfl, fun _ h => absurd h List.not_mem_nil⟩⟩⟩⟩⟩) ?_
      exact q
    exact hr67 _ _ _ _ _ c1 c2 c4 (w32_w _)
  · refine xS_of (pc' := 98) (L' := [(0, xa 223), (1, xi x1), (2, xi x2), (4, xi x4), (5, xi 1)]) (st' := []) (m' := m) (fun ex ns r q => ?_) ?_
    · refine xw_ic_geT rfl (w32_cg c5) (w32_cg (w32_xR _ _ _)) (Int.not_lt.mp h0) ?_
      refine xw_iconst rfl ?_
      refine xw_istore (L' := [(5, xi 1), (0, xa 223), (1, xi x1), (2, xi x2), (4, xi x4)]) rfl (by decide) rfl ?_
      refine xw_lo (L2 := [(0, xa 223), (1, xi x1), (2, xi x2), (4, xi x4), (5, xi 1)]) (List.forall_mem_cons.mpr ⟨rfl, List.forall_mem_cons.mpr ⟨rfl, List.forall_mem_cons.mpr ⟨rfl, List.forall_mem_cons.mpr ⟨rfl, List.forall_mem_cons.mpr ⟨rfl, fun _ h => absurd h List.not_mem_nil⟩⟩⟩⟩⟩) ?_
      exact q
    exact ygl91_98 hB 1000000 _ _ _ _ _ c1 c2 c4 rfl
theorem ygl91_67 {B : Nat} (hB : B ≤ 512) {xs : Nat → Int32} {SL d : Nat} : ∀ n x1 x2 x4 x5 m, w32 x1 = x1 → w32 x2 = x2 → w32 x4 = x4 → w32 x5 = x5 → xS B xs SL (d + 0) 91 (8, (some .boolean), [], 5) 4 67 [(0, xa 223), (1, xi x1), (2, xi x2), (4, xi x4), (5, xi x5)] [] m (xl4 (yl91_67 B) n x1 x2 x4 x5 m) := by
  intro n
  induction n with
  | zero => intro x1 x2 x4 x5 m c1 c2 c4 c5; exact xS_none
  | succ n ih => exact ysl91_67 hB ih
theorem ygf91 {B : Nat} (hB : B ≤ 512) {xs : Nat → Int32} {SL d : Nat} : ∀ p0 p1 m, w32 p0 = p0 → w32 p1 = p1 → xS B xs SL (d + 0) 91 (8, (some .boolean), [], 5) 4 0 [(0, xa 223), (1, xi p0), (2, xi p1)] [] m (yf91 B p0 p1 m) := by
  intro p0 p1 m cp0 cp1
  unfold yf91
  refine xS_of (pc' := 11) (L' := [(3, xi (w32 ((xR m 223 6) - p1))), (0, xa 223), (1, xi p0), (2, xi p1)]) (st' := [xi 207, xi p0]) (m' := m) (fun ex ns r q => ?_) ?_
  · refine xw_aload_n rfl rfl rfl ?_
    refine xw_gfIc (v := (m 223 6)) (v' := (xR m 223 6)) rfl (xw_obd (by decide +kernel)) xk4_6 (qi := 6) rfl rfl rfl ?_
    refine xw_iload_n rfl rfl ?_
    refine xw_isub rfl ?_
    refine xw_cst (st' := [xi (w32 ((xR m 223 6) - p1))]) (xw_sc (xi_c rfl) rfl) ?_
    refine xw_istore_n (L' := [(3, xi (w32 ((xR m 223 6) - p1))), (0, xa 223), (1, xi p0), (2, xi p1)]) rfl (by decide) rfl ?_
    refine xw_iload_n rfl rfl ?_
    refine xw_sipush (e := 207) rfl (by decide +kernel) ?_
    exact q
  refine xS_if (fun h0 => ?_) (fun h0 => ?_)
  · refine xS_of (pc' := 45) (L' := [(4, xi (w32 ((w32 ((xR m 223 6) - p1)) + 1))), (3, xi (w32 ((xR m 223 6) - p1))), (0, xa 223), (1, xi p0), (2, xi p1)]) (st' := [xi 32, xi (w32 ((xR m 223 8) * (w32 ((w32 ((xR m 223 6) - p1)) + 1))))]) (m' := m) (fun ex ns r q => ?_) ?_
    · refine xw_ic_neF rfl (w32_cg cp0) (w32_cg rfl) h0 ?_
      refine xw_iload_n rfl rfl ?_
      refine xw_iconst rfl ?_
      refine xw_iadd rfl ?_
      refine xw_goto rfl ?_
      refine xw_cst (st' := [xi (w32 ((w32 ((xR m 223 6) - p1)) + 1))]) (xw_sc (xi_c rfl) rfl) ?_
      refine xw_istore (L' := [(4, xi (w32 ((w32 ((xR m 223 6) - p1)) + 1))), (3, xi (w32 ((xR m 223 6) - p1))), (0, xa 223), (1, xi p0), (2, xi p1)]) rfl (by decide) rfl ?_
      refine xw_aload_n rfl rfl rfl ?_
      refine xw_gfIc (v := (m 223 8)) (v' := (xR m 223 8)) rfl (xw_obd (by decide +kernel)) xk4_8 (qi := 8) rfl rfl rfl ?_
      refine xw_iload rfl rfl ?_
      refine xw_imul rfl ?_
      refine xw_bipush (e := 32) rfl (by decide +kernel) ?_
      refine xw_cst (st' := [xi 32, xi (w32 ((xR m 223 8) * (w32 ((w32 ((xR m 223 6) - p1)) + 1))))]) (xw_sc rfl (xw_sc (xi_c rfl) rfl)) ?_
      exact q
    refine xS_if (fun h1 => ?_) (fun h1 => ?_)
    · refine xS_of (pc' := 49) (L' := [(4, xi (w32 ((w32 ((xR m 223 6) - p1)) + 1))), (3, xi (w32 ((xR m 223 6) - p1))), (0, xa 223), (1, xi p0), (2, xi p1)]) (st' := [xi 0]) (m' := m) (fun ex ns r q => ?_) ?_
      · refine xw_ic_leF rfl (w32_cg (w32_w _)) (w32_cg rfl) (Int.not_le.mpr h1) ?_
        refine xw_iconst rfl ?_
        exact q
      exact xS_ret (v := 0) rfl rfl (xw_rtZ (Or.inl rfl)) (Or.inl rfl)
    · refine xS_of (pc' := 98) (L' := [(0, xa 223), (1, xi p0), (2, xi p1), (4, xi (w32 ((w32 ((xR m 223 6) - p1)) + 1))), (5, xi 1)]) (st' := []) (m' := m) (fun ex ns r q => ?_) ?_
      · refine xw_ic_leT rfl (w32_cg (w32_w _)) (w32_cg rfl) (Int.not_lt.mp h1) ?_
        refine xw_iload_n rfl rfl ?_
        refine xw_sipush (e := 207) rfl (by decide +kernel) ?_
        refine xw_ic_eqT rfl (w32_cg cp0) (w32_cg rfl) h0 ?_
        refine xw_iconst rfl ?_
        refine xw_istore (L' := [(5, xi 1), (4, xi (w32 ((w32 ((xR m 223 6) - p1)) + 1))), (3, xi (w32 ((xR m 223 6) - p1))), (0, xa 223), (1, xi p0), (2, xi p1)]) rfl (by decide) rfl ?_
        refine xw_lo (L2 := [(0, xa 223), (1, xi p0), (2, xi p1), (4, xi (w32 ((w32 ((xR m 223 6) - p1)) + 1))), (5, xi 1)]) (List.forall_mem_cons.mpr ⟨rfl, List.forall_mem_cons.mpr ⟨rfl, List.forall_mem_cons.mpr ⟨rfl, List.forall_mem_cons.mpr ⟨rfl, List.forall_mem_cons.mpr ⟨rfl, fun _ h => absurd h List.not_mem_nil⟩⟩⟩⟩⟩) ?_
        exact q
      exact ygl91_98 hB 1000000 _ _ _ _ _ cp0 cp1 (w32_w _) rfl
  · refine xS_of (pc' := 24) (L' := [(3, xi (w32 ((xR m 223 6) - p1))), (0, xa 223), (1, xi p0), (2, xi p1)]) (st' := [xi 208, xi p0]) (m' := m) (fun ex ns r q => ?_) ?_
    · refine xw_ic_neT rfl (w32_cg cp0) (w32_cg rfl) h0 ?_
      refine xw_iload_n rfl rfl ?_
      refine xw_sipush (e := 208) rfl (by decide +kernel) ?_
      exact q
    refine xS_if (fun h1 => ?_) (fun h1 => ?_)
    · refine xS_of (pc' := 45) (L' := [(4, xi (xw_ishlf 1 (w32 ((xR m 223 6) - p1)))), (3, xi (w32 ((xR m 223 6) - p1))), (0, xa 223), (1, xi p0), (2, xi p1)]) (st' := [xi 32, xi (w32 ((xR m 223 8) * (xw_ishlf 1 (w32 ((xR m 223 6) - p1)))))]) (m' := m) (fun ex ns r q => ?_) ?_
      · refine xw_ic_neF rfl (w32_cg cp0) (w32_cg rfl) h1 ?_
        refine xw_iconst rfl ?_
        refine xw_iload_n rfl rfl ?_
        refine xw_ishl (z := (xw_ishlf 1 (w32 ((xR m 223 6) - p1)))) rfl (xw_ishle _ _) ?_
        refine xw_goto rfl ?_
        refine xw_istore (L' := [(4, xi (xw_ishlf 1 (w32 ((xR m 223 6) - p1)))), (3, xi (w32 ((xR m 223 6) - p1))), (0, xa 223), (1, xi p0), (2, xi p1)]) rfl (by decide) rfl ?_
        refine xw_aload_n rfl rfl rfl ?_
        refine xw_gfIc (v := (m 223 8)) (v' := (xR m 223 8)) rfl (xw_obd (by decide +kernel)) xk4_8 (qi := 8) rfl rfl rfl ?_
        refine xw_iload rfl rfl ?_
        refine xw_imul rfl ?_
        refine xw_bipush (e := 32) rfl (by decide +kernel) ?_
        refine xw_cst (st' := [xi 32, xi (w32 ((xR m 223 8) * (xw_ishlf 1 (w32 ((xR m 223 6) - p1)))))]) (xw_sc rfl (xw_sc (xi_c rfl) rfl)) ?_
        exact q
      refine xS_if (fun h2 => ?_) (fun h2 => ?_)
      · refine xS_of (pc' := 49) (L' := [(4, xi (xw_ishlf 1 (w32 ((xR m 223 6) - p1)))), (3, xi (w32 ((xR m 223 6) - p1))), (0, xa 223), (1, xi p0), (2, xi p1)]) (st' := [xi 0]) (m' := m) (fun ex ns r q => ?_) ?_
        · refine xw_ic_leF rfl (w32_cg (w32_w _)) (w32_cg rfl) (Int.not_le.mpr h2) ?_
          refine xw_iconst rfl ?_
          exact q
        exact xS_ret (v := 0) rfl rfl (xw_rtZ (Or.inl rfl)) (Or.inl rfl)
      · refine xS_of (pc' := 98) (L' := [(0, xa 223), (1, xi p0), (2, xi p1), (4, xi (xw_ishlf 1 (w32 ((xR m 223 6) - p1)))), (5, xi 1)]) (st' := []) (m' := m) (fun ex ns r q => ?_) ?_
        · refine xw_ic_leT rfl (w32_cg (w32_w _)) (w32_cg rfl) (Int.not_lt.mp h2) ?_
          refine xw_iload_n rfl rfl ?_
          refine xw_sipush (e := 207) rfl (by decide +kernel) ?_
          refine xw_ic_eqF rfl (w32_cg cp0) (w32_cg rfl) h0 ?_
          refine xw_iload_n rfl rfl ?_
          refine xw_sipush (e := 208) rfl (by decide +kernel) ?_
          refine xw_ic_eqT rfl (w32_cg cp0) (w32_cg rfl) h1 ?_
          refine xw_iconst rfl ?_
          refine xw_istore (L' := [(5, xi 1), (4, xi (xw_ishlf 1 (w32 ((xR m 223 6) - p1)))), (3, xi (w32 ((xR m 223 6) - p1))), (0, xa 223), (1, xi p0), (2, xi p1)]) rfl (by decide) rfl ?_
          refine xw_lo (L2 := [(0, xa 223), (1, xi p0), (2, xi p1), (4, xi (xw_ishlf 1 (w32 ((xR m 223 6) - p1)))), (5, xi 1)]) (List.forall_mem_cons.mpr ⟨rfl, List.forall_mem_cons.mpr ⟨rfl, List.forall_mem_cons.mpr ⟨rfl, List.forall_mem_cons.mpr ⟨rfl, List.forall_mem_cons.mpr ⟨rfl, fun _ h => absurd h List.not_mem_nil⟩⟩⟩⟩⟩) ?_
          exact q
        exact ygl91_98 hB 1000000 _ _ _ _ _ cp0 cp1 (w32_ti _) rfl
    · refine xS_of (pc' := 45) (L' := [(4, xi 1), (3, xi (w32 ((xR m 223 6) - p1))), (0, xa 223), (1, xi p0), (2, xi p1)]) (st' := [xi 32, xi (w32 ((xR m 223 8) * 1))]) (m' := m) (fun ex ns r q => ?_) ?_
      · refine xw_ic_neT rfl (w32_cg cp0) (w32_cg rfl) h1 ?_
        refine xw_iconst rfl ?_
        refine xw_istore (L' := [(4, xi 1), (3, xi (w32 ((xR m 223 6) - p1))), (0, xa 223), (1, xi p0), (2, xi p1)]) rfl (by decide) rfl ?_
        refine xw_aload_n rfl rfl rfl ?_
        refine xw_gfIc (v := (m 223 8)) (v' := (xR m 223 8)) rfl (xw_obd (by decide +kernel)) xk4_8 (qi := 8) rfl rfl rfl ?_
        refine xw_iload rfl rfl ?_
        refine xw_imul rfl ?_
        refine xw_bipush (e := 32) rfl (by decide +kernel) ?_
        refine xw_cst (st' := [xi 32, xi (w32 ((xR m 223 8) * 1))]) (xw_sc rfl (xw_sc (xi_c rfl) rfl)) ?_
        exact q
      refine xS_if (fun h2 => ?_) (fun h2 => ?_)
      · refine xS_of (pc' := 49) (L' := [(4, xi 1), (3, xi (w32 ((xR m 223 6) - p1))), (0, xa 223), (1, xi p0), (2, xi p1)]) (st' := [xi 0]) (m' := m) (fun ex ns r q => ?_) ?_
        · refine xw_ic_leF rfl (w32_cg (w32_w _)) (w32_cg rfl) (Int.not_le.mpr h2) ?_
          refine xw_iconst rfl ?_
          exact q
        exact xS_ret (v := 0) rfl rfl (xw_rtZ (Or.inl rfl)) (Or.inl rfl)
      · refine xS_of (pc' := 67) (L' := [(0, xa 223), (1, xi p0), (2, xi p1), (4, xi 1), (5, xi 0)]) (st' := []) (m' := m) (fun ex ns r q => ?_) ?_
        · refine xw_ic_leT rfl (w32_cg (w32_w _)) (w32_cg rfl) (Int.not_lt.mp h2) ?_
          refine xw_iload_n rfl rfl ?_
          refine xw_sipush (e := 207) rfl (by decide +kernel) ?_
          refine xw_ic_eqF rfl (w32_cg cp0) (w32_cg rfl) h0 ?_
          refine xw_iload_n rfl rfl ?_
          refine xw_sipush (e := 208) rfl (by decide +kernel) ?_
          refine xw_ic_eqF rfl (w32_cg cp0) (w32_cg rfl) h1 ?_
          refine xw_iconst rfl ?_
          refine xw_istore (L' := [(5, xi 0), (4, xi 1), (3, xi (w32 ((xR m 223 6) - p1))), (0, xa 223), (1, xi p0), (2, xi p1)]) rfl (by decide) rfl ?_
          refine xw_lo (L2 := [(0, xa 223), (1, xi p0), (2, xi p1), (4, xi 1), (5, xi 0)]) (List.forall_mem_cons.mpr ⟨rfl, List.forall_mem_cons.mpr ⟨rfl, List.forall_mem_cons.mpr ⟨rfl, List.forall_mem_cons.mpr ⟨rfl, List.forall_mem_cons.mpr ⟨rfl, fun _ h => absurd h List.not_mem_nil⟩⟩⟩⟩⟩) ?_
          exact q
        exact ygl91_67 hB 1000000 _ _ _ _ _ cp0 cp1 rfl rfl
