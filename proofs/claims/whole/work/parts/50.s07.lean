/-! the machine does what the functions say, 7 -/
theorem ygk223_34 {B : Nat} (hB : B ≤ 512) {xs : Nat → Int32} {SL d : Nat} : ∀ x1 x2 m, w32 x1 = x1 → w32 x2 = x2 → xS B xs SL (d + 1) 223 (3, (some .int), [], 1) 1 34 [(0, xa 0), (1, xi x1), (2, xi x2)] [] m (yk223_34 B x1 x2 m) := by
  intro x1 x2 m c1 c2
  unfold yk223_34
  refine xS_of (pc' := 35) (L' := [(0, xa 0), (1, xi x1), (2, xi x2)]) (st' := [xi 0]) (m' := m) (fun ex ns r q => ?_) ?_
  · refine xw_iconst rfl ?_
    refine xw_lo (L2 := [(0, xa 0), (1, xi x1), (2, xi x2)]) (List.forall_mem_cons.mpr ⟨rfl, List.forall_mem_cons.mpr ⟨rfl, List.forall_mem_cons.mpr ⟨rfl, fun _ h => absurd h List.not_mem_nil⟩⟩⟩) ?_
    exact q
  refine xS_call (q := 43) (n := 1) (kq := 0) (as := [xi 0]) (st1 := []) rfl rfl rfl rfl rfl rfl rfl rfl rfl rfl (fun _ => xw_rcv0 rfl) rfl (List.forall_mem_cons.mpr ⟨rfl, fun _ h => absurd h List.not_mem_nil⟩) (ygf43 hB _ _ rfl) (fun v1 m1 cv1 => ?_)
  refine xS_g (fun g0 => ?_)
  refine xS_of (pc' := 52) (L' := []) (st' := [xi x2, xi (xR m1 511 x1), xa 3]) (m' := m1) (fun ex ns r q => ?_) ?_
  · refine xw_aload_n rfl rfl rfl ?_
    refine xw_gfR (n := 3) (e := 3) rfl (xw_obd (by decide +kernel)) (by decide +kernel) (by decide +kernel) rfl ?_
    refine xw_aload_n rfl rfl rfl ?_
    refine xw_gfR (n := 508) (e := 508) rfl (xw_obd (by decide +kernel)) (by decide +kernel) (by decide +kernel) rfl ?_
    refine xw_gfR (n := 511) (e := 511) rfl (xw_obd (by decide +kernel)) (by decide +kernel) (by decide +kernel) rfl ?_
    refine xw_iload_n rfl rfl ?_
    refine xw_ialdc (n := 16) (v := (m1 511 x1)) (v' := (xR m1 511 x1)) rfl hB (xw_obd (by decide +kernel)) rfl g0 rfl rfl ?_
    refine xw_iload_n rfl rfl ?_
    refine xw_lo (L2 := []) (fun _ h => absurd h List.not_mem_nil) ?_
    exact q
  refine xS_call (q := 97) (n := 3) (kq := 1) (as := [xa 3, xi (xR m1 511 x1), xi x2]) (st1 := []) rfl rfl rfl rfl rfl rfl rfl rfl rfl rfl (fun _ => xw_rcv1 (t := 2) (xw_obd (by decide +kernel)) rfl) rfl (List.forall_mem_cons.mpr ⟨rfl, List.forall_mem_cons.mpr ⟨rfl, List.forall_mem_cons.mpr ⟨rfl, fun _ h => absurd h List.not_mem_nil⟩⟩⟩) (ygf97 hB _ _ _ (w32_xR _ _ _) c2) (fun v2 m2 cv2 => ?_)
  exact xS_ret (v := v2) rfl rfl xw_rtI cv2
theorem ygf223 {B : Nat} (hB : B ≤ 512) {xs : Nat → Int32} {SL d : Nat} : ∀ p0 p1 m, w32 p0 = p0 → w32 p1 = p1 → xS B xs SL (d + 1) 223 (3, (some .int), [], 1) 1 0 [(0, xa 0), (1, xi p0), (2, xi p1)] [] m (yf223 B p0 p1 m) := by
  intro p0 p1 m cp0 cp1
  unfold yf223
  refine xS_of (pc' := 1) (L' := [(0, xa 0), (1, xi p0), (2, xi p1)]) (st' := [xi p0]) (m' := m) (fun ex ns r q => ?_) ?_
  · refine xw_iload_n rfl rfl ?_
    exact q
  refine xS_if (fun h0 => ?_) (fun h0 => ?_)
  · refine xS_of (pc' := 34) (L' := [(0, xa 0), (1, xi p0), (2, xi p1)]) (st' := []) (m' := m) (fun ex ns r q => ?_) ?_
    · refine xw_if_ltT rfl (w32_cg cp0) h0 ?_
      refine xw_lo (L2 := [(0, xa 0), (1, xi p0), (2, xi p1)]) (List.forall_mem_cons.mpr ⟨rfl, List.forall_mem_cons.mpr ⟨rfl, List.forall_mem_cons.mpr ⟨rfl, fun _ h => absurd h List.not_mem_nil⟩⟩⟩) ?_
      exact q
    exact ygk223_34 hB _ _ _ cp0 cp1
  · refine xS_of (pc' := 12) (L' := [(0, xa 0), (1, xi p0), (2, xi p1)]) (st' := [xi (xR m 508 11), xi p0]) (m' := m) (fun ex ns r q => ?_) ?_
    · refine xw_if_ltF rfl (w32_cg cp0) h0 ?_
      refine xw_iload_n rfl rfl ?_
      refine xw_aload_n rfl rfl rfl ?_
      refine xw_gfR (n := 508) (e := 508) rfl (xw_obd (by decide +kernel)) (by decide +kernel) (by decide +kernel) rfl ?_
      refine xw_gfIc (v := (m 508 11)) (v' := (xR m 508 11)) rfl (xw_obd (by decide +kernel)) xk10_11 (qi := 11) rfl rfl rfl ?_
      exact q
    refine xS_if (fun h1 => ?_) (fun h1 => ?_)
    · refine xS_of (pc' := 16) (L' := [(0, xa 0), (1, xi p0), (2, xi p1)]) (st' := [xi p1]) (m' := m) (fun ex ns r q => ?_) ?_
      · refine xw_ic_geF rfl (w32_cg cp0) (w32_cg (w32_xR _ _ _)) (Int.not_le.mpr h1) ?_
        refine xw_iload_n rfl rfl ?_
        exact q
      refine xS_if (fun h2 => ?_) (fun h2 => ?_)
      · refine xS_of (pc' := 34) (L' := [(0, xa 0), (1, xi p0), (2, xi p1)]) (st' := []) (m' := m) (fun ex ns r q => ?_) ?_
        · refine xw_if_ltT rfl (w32_cg cp1) h2 ?_
          refine xw_lo (L2 := [(0, xa 0), (1, xi p0), (2, xi p1)]) (List.forall_mem_cons.mpr ⟨rfl, List.forall_mem_cons.mpr ⟨rfl, List.forall_mem_cons.mpr ⟨rfl, fun _ h => absurd h List.not_mem_nil⟩⟩⟩) ?_
          exact q
        exact ygk223_34 hB _ _ _ cp0 cp1
      · refine xS_of (pc' := 27) (L' := [(0, xa 0), (1, xi p0), (2, xi p1)]) (st' := [xi (xR m 3 1), xi p1]) (m' := m) (fun ex ns r q => ?_) ?_
        · refine xw_if_ltF rfl (w32_cg cp1) h2 ?_
          refine xw_iload_n rfl rfl ?_
          refine xw_aload_n rfl rfl rfl ?_
          refine xw_gfR (n := 3) (e := 3) rfl (xw_obd (by decide +kernel)) (by decide +kernel) (by decide +kernel) rfl ?_
          refine xw_gfIc (v := (m 3 1)) (v' := (xR m 3 1)) rfl (xw_obd (by decide +kernel)) xk2_1 (qi := 1) rfl rfl rfl ?_
          exact q
        refine xS_if (fun h3 => ?_) (fun h3 => ?_)
        · refine xS_of (pc' := 35) (L' := [(0, xa 0), (1, xi p0), (2, xi p1)]) (st' := [xi 1]) (m' := m) (fun ex ns r q => ?_) ?_
          · refine xw_ic_geF rfl (w32_cg cp1) (w32_cg (w32_xR _ _ _)) (Int.not_le.mpr h3) ?_
            refine xw_iconst rfl ?_
            refine xw_goto rfl ?_
            refine xw_lo (L2 := [(0, xa 0), (1, xi p0), (2, xi p1)]) (List.forall_mem_cons.mpr ⟨rfl, List.forall_mem_cons.mpr ⟨rfl, List.forall_mem_cons.mpr ⟨rfl, fun _ h => absurd h List.not_mem_nil⟩⟩⟩) ?_
            exact q
          refine xS_call (q := 43) (n := 1) (kq := 0) (as := [xi 1]) (st1 := []) rfl rfl rfl rfl rfl rfl rfl rfl rfl rfl (fun _ => xw_rcv0 rfl) rfl (List.forall_mem_cons.mpr ⟨rfl, fun _ h => absurd h List.not_mem_nil⟩) (ygf43 hB _ _ rfl) (fun v1 m1 cv1 => ?_)
          refine xS_g (fun g4 => ?_)
          refine xS_of (pc' := 52) (L' := []) (st' := [xi p1, xi (xR m1 511 p0), xa 3]) (m' := m1) (fun ex ns r q => ?_) ?_
          · refine xw_aload_n rfl rfl rfl ?_
            refine xw_gfR (n := 3) (e := 3) rfl (xw_obd (by decide +kernel)) (by decide +kernel) (by decide +kernel) rfl ?_
            refine xw_aload_n rfl rfl rfl ?_
            refine xw_gfR (n := 508) (e := 508) rfl (xw_obd (by decide +kernel)) (by decide +kernel) (by decide +kernel) rfl ?_
            refine xw_gfR (n := 511) (e := 511) rfl (xw_obd (by decide +kernel)) (by decide +kernel) (by decide +kernel) rfl ?_
            refine xw_iload_n rfl rfl ?_
            refine xw_ialdc (n := 16) (v := (m1 511 p0)) (v' := (xR m1 511 p0)) rfl hB (xw_obd (by decide +kernel)) rfl g4 rfl rfl ?_
            refine xw_iload_n rfl rfl ?_
            refine xw_lo (L2 := []) (fun _ h => absurd h List.not_mem_nil) ?_
            exact q
          refine xS_call (q := 97) (n := 3) (kq := 1) (as := [xa 3, xi (xR m1 511 p0), xi p1]) (st1 := []) rfl rfl rfl rfl rfl rfl rfl rfl rfl rfl (fun _ => xw_rcv1 (t := 2) (xw_obd (by decide +kernel)) rfl) rfl (List.forall_mem_cons.mpr ⟨rfl, List.forall_mem_cons.mpr ⟨rfl, List.forall_mem_cons.mpr ⟨rfl, fun _ h => absurd h List.not_mem_nil⟩⟩⟩) (ygf97 hB _ _ _ (w32_xR _ _ _) cp1) (fun v2 m2 cv2 => ?_)
          exact xS_ret (v := v2) rfl rfl xw_rtI cv2
        · refine xS_of (pc' := 34) (L' := [(0, xa 0), (1, xi p0), (2, xi p1)]) (st' := []) (m' := m) (fun ex ns r q => ?_) ?_
          · refine xw_ic_geT rfl (w32_cg cp1) (w32_cg (w32_xR _ _ _)) (Int.not_lt.mp h3) ?_
            refine xw_lo (L2 := [(0, xa 0), (1, xi p0), (2, xi p1)]) (List.forall_mem_cons.mpr ⟨rfl, List.forall_mem_cons.mpr ⟨rfl, List.forall_mem_cons.mpr ⟨rfl, fun _ h => absurd h List.not_mem_nil⟩⟩⟩) ?_
            exact q
          exact ygk223_34 hB _ _ _ cp0 cp1
    · refine xS_of (pc' := 34) (L' := [(0, xa 0), (1, xi p0), (2, xi p1)]) (st' := []) (m' := m) (fun ex ns r q => ?_) ?_
      · refine xw_ic_geT rfl (w32_cg cp0) (w32_cg (w32_xR _ _ _)) (Int.not_lt.mp h1) ?_
        refine xw_lo (L2 := [(0, xa 0), (1, xi p0), (2, xi p1)]) (List.forall_mem_cons.mpr ⟨rfl, List.forall_mem_cons.mpr ⟨rfl, List.forall_mem_cons.mpr ⟨rfl, fun _ h => absurd h List.not_mem_nil⟩⟩⟩) ?_
        exact q
      exact ygk223_34 hB _ _ _ cp0 cp1

theorem ygf225 {B : Nat} (hB : B ≤ 512) {xs : Nat → Int32} {SL d : Nat} : ∀ m, xS B xs SL (d + 2) 225 (1, (some .int), [], 1) 1 0 [(0, xa 0)] [] m (yf225 B m) := by
  intro m
  unfold yf225
  refine xS_of (pc' := 1) (L' := [(0, xa 0)]) (st' := [xa 0]) (m' := m) (fun ex ns r q => ?_) ?_
  · refine xw_aload_n rfl rfl rfl ?_
    refine xw_lo (L2 := [(0, xa 0)]) (List.forall_mem_cons.mpr ⟨rfl, fun _ h => absurd h List.not_mem_nil⟩) ?_
    exact q
  refine xS_call (q := 38) (n := 1) (kq := 0) (as := [xa 0]) (st1 := []) rfl rfl rfl rfl rfl rfl rfl rfl rfl rfl (fun _ => xw_rcv1 (t := 0) (xw_obd (by decide +kernel)) rfl) rfl (List.forall_mem_cons.mpr ⟨rfl, fun _ h => absurd h List.not_mem_nil⟩) (ygf38 hB _) (fun v1 m1 cv1 => ?_)
  refine xS_g (fun g0 => ?_)
  refine xS_of (pc' := 11) (L' := [(0, xa 0)]) (st' := [xi (xR m1 (m1 0 12) 7)]) (m' := m1) (fun ex ns r q => ?_) ?_
  · refine xw_aload_n rfl rfl rfl ?_
    refine xw_gfM (v := (m1 0 12)) rfl (xw_obd (by decide +kernel)) xk0_12 (qi := 12) rfl rfl ?_
    refine xw_gfIc (v := (m1 (m1 0 12) 7)) (v' := (xR m1 (m1 0 12) 7)) rfl (xw_obd g0) xk9_7 (qi := 7) rfl rfl rfl ?_
    exact q
  refine xS_if (fun h1 => ?_) (fun h1 => ?_)
  · refine xS_of (pc' := 28) (L' := [(0, xa 0)]) (st' := [xi (-1)]) (m' := m1) (fun ex ns r q => ?_) ?_
    · refine xw_if_eqT rfl (w32_cg (w32_xR _ _ _)) h1 ?_
      refine xw_iconst rfl ?_
      exact q
    exact xS_ret (v := (-1)) rfl rfl xw_rtI rfl
  · refine xS_g (fun g2 => ?_)
    refine xS_of (pc' := 28) (L' := [(0, xa 0)]) (st' := [xi (xR m1 (xw_rf (m1 0 12) 0) 5)]) (m' := m1) (fun ex ns r q => ?_) ?_
    · refine xw_if_eqF rfl (w32_cg (w32_xR _ _ _)) h1 ?_
      refine xw_aload_n rfl rfl rfl ?_
      refine xw_gfM (v := (m1 0 12)) rfl (xw_obd (by decide +kernel)) xk0_12 (qi := 12) rfl rfl ?_
      refine xw_gfV (qi := 0) rfl (xw_obd g0) xk9_0 rfl ?_
      refine xw_gfIc (v := (m1 (xw_rf (m1 0 12) 0) 5)) (v' := (xR m1 (xw_rf (m1 0 12) 0) 5)) rfl (xw_obd g2) xk8_5 (qi := 5) rfl rfl rfl ?_
      refine xw_goto rfl ?_
      exact q
    exact xS_ret (v := (xR m1 (xw_rf (m1 0 12) 0) 5)) rfl rfl xw_rtI (w32_xR _ _ _)

theorem ygf228 {B : Nat} (hB : B ≤ 512) {xs : Nat → Int32} {SL d : Nat} : ∀ t p0 p1 m, w32 p0 = p0 → w32 p1 = p1 → xS B xs SL (d + 0) 228 (3, (some .boolean), [], 10) 4 0 [(0, xa t), (1, xi p0), (2, xi p1)] [] m (yf228 B t p0 p1 m) := by
  intro t p0 p1 m cp0 cp1
  unfold yf228
  refine xS_g (fun g0 => ?_)
  refine xS_of (pc' := 4) (L' := [(0, xa t), (1, xi p0), (2, xi p1)]) (st' := [xi (xR m t 7)]) (m' := m) (fun ex ns r q => ?_) ?_
  · refine xw_aload_n rfl rfl rfl ?_
    refine xw_gfIc (v := (m t 7)) (v' := (xR m t 7)) rfl (xw_obd g0) xk9_7 (qi := 7) rfl rfl rfl ?_
    exact q
  refine xS_if (fun h1 => ?_) (fun h1 => ?_)
  · refine xS_of (pc' := 39) (L' := [(0, xa t), (1, xi p0), (2, xi p1)]) (st' := [xi 0]) (m' := m) (fun ex ns r q => ?_) ?_
    · refine xw_if_eqT rfl (w32_cg (w32_xR _ _ _)) h1 ?_
      refine xw_iconst rfl ?_
      exact q
    exact xS_ret (v := 0) rfl rfl (xw_rtZ (Or.inl rfl)) (Or.inl rfl)
  · refine xS_of (pc' := 8) (L' := [(0, xa t), (1, xi p0), (2, xi p1)]) (st' := [xi p0]) (m' := m) (fun ex ns r q => ?_) ?_
    · refine xw_if_eqF rfl (w32_cg (w32_xR _ _ _)) h1 ?_
      refine xw_iload_n rfl rfl ?_
      exact q
    refine xS_if (fun h2 => ?_) (fun h2 => ?_)
    · refine xS_of (pc' := 39) (L' := [(0, xa t), (1, xi p0), (2, xi p1)]) (st' := [xi 0]) (m' := m) (fun ex ns r q => ?_) ?_
      · refine xw_if_ltT rfl (w32_cg cp0) h2 ?_
        refine xw_iconst rfl ?_
        exact q
      exact xS_ret (v := 0) rfl rfl (xw_rtZ (Or.inl rfl)) (Or.inl rfl)
    · refine xS_g (fun g3 => ?_)
      refine xS_of (pc' := 19) (L' := [(0, xa t), (1, xi p0), (2, xi p1)]) (st' := [xi (xR m (xw_rf t 0) 5), xi p0]) (m' := m) (fun ex ns r q => ?_) ?_
      · refine xw_if_ltF rfl (w32_cg cp0) h2 ?_
        refine xw_iload_n rfl rfl ?_
        refine xw_aload_n rfl rfl rfl ?_
        refine xw_gfV (qi := 0) rfl (xw_obd g0) xk9_0 rfl ?_
        refine xw_gfIc (v := (m (xw_rf t 0) 5)) (v' := (xR m (xw_rf t 0) 5)) rfl (xw_obd g3) xk8_5 (qi := 5) rfl rfl rfl ?_
        exact q
      refine xS_if (fun h4 => ?_) (fun h4 => ?_)
      · refine xS_of (pc' := 23) (L' := [(0, xa t), (1, xi p0), (2, xi p1)]) (st' := [xi p1]) (m' := m) (fun ex ns r q => ?_) ?_
        · refine xw_ic_geF rfl (w32_cg cp0) (w32_cg (w32_xR _ _ _)) (Int.not_le.mpr h4) ?_
          refine xw_iload_n rfl rfl ?_
          exact q
        refine xS_if (fun h5 => ?_) (fun h5 => ?_)
        · refine xS_of (pc' := 39) (L' := [(0, xa t), (1, xi p0), (2, xi p1)]) (st' := [xi 0]) (m' := m) (fun ex ns r q => ?_) ?_
          · refine xw_if_ltT rfl (w32_cg cp1) h5 ?_
            refine xw_iconst rfl ?_
            exact q
          exact xS_ret (v := 0) rfl rfl (xw_rtZ (Or.inl rfl)) (Or.inl rfl)
        · refine xS_of (pc' := 31) (L' := [(0, xa t), (1, xi p0), (2, xi p1)]) (st' := [xi (xR m t 6), xi p1]) (m' := m) (fun ex ns r q => ?_) ?_
          · refine xw_if_ltF rfl (w32_cg cp1) h5 ?_
            refine xw_iload_n rfl rfl ?_
            refine xw_aload_n rfl rfl rfl ?_
            refine xw_gfIc (v := (m t 6)) (v' := (xR m t 6)) rfl (xw_obd g0) xk9_6 (qi := 6) rfl rfl rfl ?_
            exact q
          refine xS_if (fun h6 => ?_) (fun h6 => ?_)
          · refine xS_of (pc' := 39) (L' := [(0, xa t), (1, xi p0), (2, xi p1)]) (st' := [xi 1]) (m' := m) (fun ex ns r q => ?_) ?_
            · refine xw_ic_geF rfl (w32_cg cp1) (w32_cg (w32_xR _ _ _)) (Int.not_le.mpr h6) ?_
              refine xw_iconst rfl ?_
              refine xw_goto rfl ?_
              exact q
            exact xS_ret (v := 1) rfl rfl (xw_rtZ (Or.inr rfl)) (Or.inr rfl)
          · refine xS_of (pc' := 39) (L' := [(0, xa t), (1, xi p0), (2, xi p1)]) (st' := [xi 0]) (m' := m) (fun ex ns r q => ?_) ?_
            · refine xw_ic_geT rfl (w32_cg cp1) (w32_cg (w32_xR _ _ _)) (Int.not_lt.mp h6) ?_
              refine xw_iconst rfl ?_
              exact q
            exact xS_ret (v := 0) rfl rfl (xw_rtZ (Or.inl rfl)) (Or.inl rfl)
      · refine xS_of (pc' := 39) (L' := [(0, xa t), (1, xi p0), (2, xi p1)]) (st' := [xi 0]) (m' := m) (fun ex ns r q => ?_) ?_
        · refine xw_ic_geT rfl (w32_cg cp0) (w32_cg (w32_xR _ _ _)) (Int.not_lt.mp h4) ?_
          refine xw_iconst rfl ?_
          exact q
        exact xS_ret (v := 0) rfl rfl (xw_rtZ (Or.inl rfl)) (Or.inl rfl)
theorem ygf229 {B : Nat} (hB : B ≤ 512) {xs : Nat → Int32} {SL d : Nat} : ∀ t p0 p1 m, w32 p0 = p0 → w32 p1 = p1 → xS B xs SL (d + 0) 229 (3, (some .long), [], 10) 2 0 [(0, xa t), (1, xi p0), (2, xi p1)] [] m (yf229 B t p0 p1 m) := by
  intro t p0 p1 m cp0 cp1
  unfold yf229
  refine xS_g (fun g0 => ?_)
  refine xS_g (fun g1 => ?_)
  refine xS_g (fun g2 => ?_)
  refine xS_g (fun g3 => ?_)
  refine xS_g (fun g4 => ?_)
  refine xS_g (fun g5 => ?_)
  refine xS_g (fun g6 => ?_)
  refine xS_g (fun g7 => ?_)
  refine xS_g (fun g8 => ?_)
  refine xS_of (pc' := 19) (L' := [(0, xa t), (1, xi p0), (2, xi p1)]) (st' := [xj (xJ m (xw_rf (xw_rf (xw_rf t 0) 1) p1) (xR m (xw_rf (xw_rf t 0) 2) p0))]) (m' := m) (fun ex ns r q => ?_) ?_
  · refine xw_aload_n rfl rfl rfl ?_
    refine xw_gfV (qi := 0) rfl (xw_obd g0) xk9_0 rfl ?_
    refine xw_gfV (qi := 1) rfl (xw_obd g1) xk8_1 rfl ?_
    refine xw_iload_n rfl rfl ?_
    refine xw_aald (t := 21) (n := (xw_le B (xw_rf (xw_rf t 0) 1))) (q := xw_kd (xw_rf (xw_rf t 0) 1) p1 - 5) (e := (xw_rf (xw_rf (xw_rf t 0) 1) p1)) rfl hB (xw_obd g4) (by decide) rfl g2 (by have := g3; omega) (xw_rfn g3) ?_
    refine xw_aload_n rfl rfl rfl ?_
    refine xw_gfV (qi := 0) rfl (xw_obd g0) xk9_0 rfl ?_
    refine xw_gfV (qi := 2) rfl (xw_obd g1) xk8_2 rfl ?_
    refine xw_iload_n rfl rfl ?_
    refine xw_ialdc (n := (xw_le B (xw_rf (xw_rf t 0) 2))) (v := (m (xw_rf (xw_rf t 0) 2) p0)) (v' := (xR m (xw_rf (xw_rf t 0) 2) p0)) rfl hB (xw_obd g6) rfl g5 rfl rfl ?_
    refine xw_laldc (n := (xw_le B (xw_rf (xw_rf (xw_rf t 0) 1) p1))) (v := (m (xw_rf (xw_rf (xw_rf t 0) 1) p1) (xR m (xw_rf (xw_rf t 0) 2) p0))) (v' := (xJ m (xw_rf (xw_rf (xw_rf t 0) 1) p1) (xR m (xw_rf (xw_rf t 0) 2) p0))) rfl hB (xw_obd g8) rfl g7 rfl rfl ?_
    exact q
  exact xS_ret (v := (xJ m (xw_rf (xw_rf (xw_rf t 0) 1) p1) (xR m (xw_rf (xw_rf t 0) 2) p0))) rfl rfl rfl (w64_xJ _ _ _)
theorem ygf227 {B : Nat} (hB : B ≤ 512) {xs : Nat → Int32} {SL d : Nat} : ∀ p0 p1 m, w32 p0 = p0 → w32 p1 = p1 → xS B xs SL (d + 1) 227 (3, (some .long), [], 1) 2 0 [(0, xa 0), (1, xi p0), (2, xi p1)] [] m (yf227 B p0 p1 m) := by
  intro p0 p1 m cp0 cp1
  unfold yf227
  refine xS_g (fun g0 => ?_)
  refine xS_of (pc' := 6) (L' := [(0, xa 0), (1, xi p0), (2, xi p1)]) (st' := [xi p1, xi p0, xa (m 0 12)]) (m' := m) (fun ex ns r q => ?_) ?_
  · refine xw_aload_n rfl rfl rfl ?_
    refine xw_gfM (v := (m 0 12)) rfl (xw_obd (by decide +kernel)) xk0_12 (qi := 12) rfl rfl ?_
    refine xw_iload_n rfl rfl ?_
    refine xw_iload_n rfl rfl ?_
    refine xw_lo (L2 := [(0, xa 0), (1, xi p0), (2, xi p1)]) (List.forall_mem_cons.mpr ⟨rfl, List.forall_mem_cons.mpr ⟨rfl, List.forall_mem_cons.mpr ⟨rfl, fun _ h => absurd h List.not_mem_nil⟩⟩⟩) ?_
    exact q
  refine xS_call (q := 228) (n := 3) (kq := 4) (as := [xa (m 0 12), xi p0, xi p1]) (st1 := []) rfl rfl rfl rfl rfl rfl rfl rfl rfl rfl (fun _ => xw_rcv1 (t := 9) (xw_obd g0) rfl) rfl (List.forall_mem_cons.mpr ⟨rfl, List.forall_mem_cons.mpr ⟨rfl, List.forall_mem_cons.mpr ⟨rfl, fun _ h => absurd h List.not_mem_nil⟩⟩⟩) (ygf228 hB _ _ _ _ cp0 cp1) (fun v1 m1 cv1 => ?_)
  refine xS_of (pc' := 9) (L' := [(0, xa 0), (1, xi p0), (2, xi p1)]) (st' := [xi v1]) (m' := m1) (fun ex ns r q => ?_) ?_
  · refine xw_lo (L2 := [(0, xa 0), (1, xi p0), (2, xi p1)]) (List.forall_mem_cons.mpr ⟨rfl, List.forall_mem_cons.mpr ⟨rfl, List.forall_mem_cons.mpr ⟨rfl, fun _ h => absurd h List.not_mem_nil⟩⟩⟩) ?_
    exact q
  refine xS_call (q := 43) (n := 1) (kq := 0) (as := [xi v1]) (st1 := []) rfl rfl rfl rfl rfl rfl rfl rfl rfl rfl (fun _ => xw_rcv0 rfl) rfl (List.forall_mem_cons.mpr ⟨rfl, fun _ h => absurd h List.not_mem_nil⟩) (ygf43 hB _ _ (w32_of (xw_zr cv1))) (fun v2 m2 cv2 => ?_)
  refine xS_g (fun g1 => ?_)
  refine xS_of (pc' := 18) (L' := []) (st' := [xi p1, xi p0, xa (m2 0 12)]) (m' := m2) (fun ex ns r q => ?_) ?_
  · refine xw_aload_n rfl rfl rfl ?_
    refine xw_gfM (v := (m2 0 12)) rfl (xw_obd (by decide +kernel)) xk0_12 (qi := 12) rfl rfl ?_
    refine xw_iload_n rfl rfl ?_
    refine xw_iload_n rfl rfl ?_
    refine xw_lo (L2 := []) (fun _ h => absurd h List.not_mem_nil) ?_
    exact q
  refine xS_call (q := 229) (n := 3) (kq := 2) (as := [xa (m2 0 12), xi p0, xi p1]) (st1 := []) rfl rfl rfl rfl rfl rfl rfl rfl rfl rfl (fun _ => xw_rcv1 (t := 9) (xw_obd g1) rfl) rfl (List.forall_mem_cons.mpr ⟨rfl, List.forall_mem_cons.mpr ⟨rfl, List.forall_mem_cons.mpr ⟨rfl, fun _ h => absurd h List.not_mem_nil⟩⟩⟩) (ygf229 hB _ _ _ _ cp0 cp1) (fun v3 m3 cv3 => ?_)
  exact xS_ret (v := v3) rfl rfl rfl cv3

theorem ygf232 {B : Nat} (hB : B ≤ 512) {xs : Nat → Int32} {SL d : Nat} : ∀ t p0 p1 m, w32 p0 = p0 → w32 p1 = p1 → xS B xs SL (d + 0) 232 (3, (some .boolean), [], 10) 4 0 [(0, xa t), (1, xi p0), (2, xi p1)] [] m (yf232 B t p0 p1 m) := by
  intro t p0 p1 m cp0 cp1
  unfold yf232
  refine xS_g (fun g0 => ?_)
  refine xS_g (fun g1 => ?_)
  refine xS_g (fun g2 => ?_)
  refine xS_g (fun g3 => ?_)
  refine xS_g (fun g4 => ?_)
  refine xS_g (fun g5 => ?_)
  refine xS_of (pc' := 18) (L' := [(0, xa t), (1, xi p0), (2, xi p1)]) (st' := [xi (xw_iandf (xw_ishrf (xR m (xw_rf t 2) (xR m (xw_rf (xw_rf t 0) 2) p0)) p1) 1)]) (m' := m) (fun ex ns r q => ?_) ?_
  · refine xw_aload_n rfl rfl rfl ?_
    refine xw_gfV (qi := 2) rfl (xw_obd g0) xk9_2 rfl ?_
    refine xw_aload_n rfl rfl rfl ?_
    refine xw_gfV (qi := 0) rfl (xw_obd g0) xk9_0 rfl ?_
    refine xw_gfV (qi := 2) rfl (xw_obd g1) xk8_2 rfl ?_
    refine xw_iload_n rfl rfl ?_
    refine xw_ialdc (n := (xw_le B (xw_rf (xw_rf t 0) 2))) (v := (m (xw_rf (xw_rf t 0) 2) p0)) (v' := (xR m (xw_rf (xw_rf t 0) 2) p0)) rfl hB (xw_obd g3) rfl g2 rfl rfl ?_
    refine xw_ialdc (n := (xw_le B (xw_rf t 2))) (v := (m (xw_rf t 2) (xR m (xw_rf (xw_rf t 0) 2) p0))) (v' := (xR m (xw_rf t 2) (xR m (xw_rf (xw_rf t 0) 2) p0))) rfl hB (xw_obd g5) rfl g4 rfl rfl ?_
    refine xw_iload_n rfl rfl ?_
    refine xw_ishr (z := (xw_ishrf (xR m (xw_rf t 2) (xR m (xw_rf (xw_rf t 0) 2) p0)) p1)) rfl (xw_ishre _ _) ?_
    refine xw_iconst rfl ?_
    refine xw_iand (z := (xw_iandf (xw_ishrf (xR m (xw_rf t 2) (xR m (xw_rf (xw_rf t 0) 2) p0)) p1) 1)) rfl (xw_iande _ _) ?_
    exact q
  refine xS_if (fun h6 => ?_) (fun h6 => ?_)
  · refine xS_of (pc' := 26) (L' := [(0, xa t), (1, xi p0), (2, xi p1)]) (st' := [xi 0]) (m' := m) (fun ex ns r q => ?_) ?_
    · refine xw_if_eqT rfl (w32_cg (w32_ti _)) h6 ?_
      refine xw_iconst rfl ?_
      exact q
    exact xS_ret (v := 0) rfl rfl (xw_rtZ (Or.inl rfl)) (Or.inl rfl)
  · refine xS_of (pc' := 26) (L' := [(0, xa t), (1, xi p0), (2, xi p1)]) (st' := [xi 1]) (m' := m) (fun ex ns r q => ?_) ?_
    · refine xw_if_eqF rfl (w32_cg (w32_ti _)) h6 ?_
      refine xw_iconst rfl ?_
      refine xw_goto rfl ?_
      exact q
    exact xS_ret (v := 1) rfl rfl (xw_rtZ (Or.inr rfl)) (Or.inr rfl)
theorem ygf231 {B : Nat} (hB : B ≤ 512) {xs : Nat → Int32} {SL d : Nat} : ∀ p0 p1 m, w32 p0 = p0 → w32 p1 = p1 → xS B xs SL (d + 1) 231 (3, (some .boolean), [], 1) 4 0 [(0, xa 0), (1, xi p0), (2, xi p1)] [] m (yf231 B p0 p1 m) := by
  intro p0 p1 m cp0 cp1
  unfold yf231
  refine xS_g (fun g0 => ?_)
  refine xS_of (pc' := 6) (L' := [(0, xa 0), (1, xi p0), (2, xi p1)]) (st' := [xi p1, xi p0, xa (m 0 12)]) (m' := m) (fun ex ns r q => ?_) ?_
  · refine xw_aload_n rfl rfl rfl ?_
    refine xw_gfM (v := (m 0 12)) rfl (xw_obd (by decide +kernel)) xk0_12 (qi := 12) rfl rfl ?_
    refine xw_iload_n rfl rfl ?_
    refine xw_iload_n rfl rfl ?_
    refine xw_lo (L2 := [(0, xa 0), (1, xi p0), (2, xi p1)]) (List.forall_mem_cons.mpr ⟨rfl, List.forall_mem_cons.mpr ⟨rfl, List.forall_mem_cons.mpr ⟨rfl, fun _ h => absurd h List.not_mem_nil⟩⟩⟩) ?_
    exact q
  refine xS_call (q := 228) (n := 3) (kq := 4) (as := [xa (m 0 12), xi p0, xi p1]) (st1 := []) rfl rfl rfl rfl rfl rfl rfl rfl rfl rfl (fun _ => xw_rcv1 (t := 9) (xw_obd g0) rfl) rfl (List.forall_mem_cons.mpr ⟨rfl, List.forall_mem_cons.mpr ⟨rfl, List.forall_mem_cons.mpr ⟨rfl, fun _ h => absurd h List.not_mem_nil⟩⟩⟩) (ygf228 hB _ _ _ _ cp0 cp1) (fun v1 m1 cv1 => ?_)
  refine xS_of (pc' := 9) (L' := [(0, xa 0), (1, xi p0), (2, xi p1)]) (st' := [xi v1]) (m' := m1) (fun ex ns r q => ?_) ?_
  · refine xw_lo (L2 := [(0, xa 0), (1, xi p0), (2, xi p1)]) (List.forall_mem_cons.mpr ⟨rfl, List.forall_mem_cons.mpr ⟨rfl, List.forall_mem_cons.mpr ⟨rfl, fun _ h => absurd h List.not_mem_nil⟩⟩⟩) ?_
    exact q
  refine xS_call (q := 43) (n := 1) (kq := 0) (as := [xi v1]) (st1 := []) rfl rfl rfl rfl rfl rfl rfl rfl rfl rfl (fun _ => xw_rcv0 rfl) rfl (List.forall_mem_cons.mpr ⟨rfl, fun _ h => absurd h List.not_mem_nil⟩) (ygf43 hB _ _ (w32_of (xw_zr cv1))) (fun v2 m2 cv2 => ?_)
  refine xS_g (fun g1 => ?_)
  refine xS_of (pc' := 18) (L' := []) (st' := [xi p1, xi p0, xa (m2 0 12)]) (m' := m2) (fun ex ns r q => ?_) ?_
  · refine xw_aload_n rfl rfl rfl ?_
    refine xw_gfM (v := (m2 0 12)) rfl (xw_obd (by decide +kernel)) xk0_12 (qi := 12) rfl rfl ?_
    refine xw_iload_n rfl rfl ?_
    refine xw_iload_n rfl rfl ?_
    refine xw_lo (L2 := []) (fun _ h => absurd h List.not_mem_nil) ?_
    exact q
  refine xS_call (q := 232) (n := 3) (kq := 4) (as := [xa (m2 0 12), xi p0, xi p1]) (st1 := []) rfl rfl rfl rfl rfl rfl rfl rfl rfl rfl (fun _ => xw_rcv1 (t := 9) (xw_obd g1) rfl) rfl (List.forall_mem_cons.mpr ⟨rfl, List.forall_mem_cons.mpr ⟨rfl, List.forall_mem_cons.mpr ⟨rfl, fun _ h => absurd h List.not_mem_nil⟩⟩⟩) (ygf232 hB _ _ _ _ cp0 cp1) (fun v3 m3 cv3 => ?_)
  exact xS_ret (v := v3) rfl rfl (xw_rtZ cv3) cv3

theorem ygf234 {B : Nat} (hB : B ≤ 512) {xs : Nat → Int32} {SL d : Nat} : ∀ m, xS B xs SL (d + 1) 234 (1, (some .int), [], 1) 1 0 [(0, xa 0)] [] m (yf234 B m) := by
  intro m
  unfold yf234
  refine xS_g (fun g0 => ?_)
  refine xS_of (pc' := 7) (L' := [(0, xa 0)]) (st' := [xi (xR m (m 0 12) 7)]) (m' := m) (fun ex ns r q => ?_) ?_
  · refine xw_aload_n rfl rfl rfl ?_
    refine xw_gfM (v := (m 0 12)) rfl (xw_obd (by decide +kernel)) xk0_12 (qi := 12) rfl rfl ?_
    refine xw_gfIc (v := (m (m 0 12) 7)) (v' := (xR m (m 0 12) 7)) rfl (xw_obd g0) xk9_7 (qi := 7) rfl rfl rfl ?_
    exact q
  refine xS_if (fun h1 => ?_) (fun h1 => ?_)
  · refine xS_of (pc' := 15) (L' := [(0, xa 0)]) (st' := [xi 1]) (m' := m) (fun ex ns r q => ?_) ?_
    · refine xw_if_neF rfl (w32_cg (w32_xR _ _ _)) h1 ?_
      refine xw_iconst rfl ?_
      refine xw_goto rfl ?_
      refine xw_lo (L2 := [(0, xa 0)]) (List.forall_mem_cons.mpr ⟨rfl, fun _ h => absurd h List.not_mem_nil⟩) ?_
      exact q
    refine xS_call (q := 39) (n := 1) (kq := 0) (as := [xi 1]) (st1 := []) rfl rfl rfl rfl rfl rfl rfl rfl rfl rfl (fun _ => xw_rcv0 rfl) rfl (List.forall_mem_cons.mpr ⟨rfl, fun _ h => absurd h List.not_mem_nil⟩) (ygf39 hB _ _ rfl) (fun v1 m1 cv1 => ?_)
    refine xS_g (fun g2 => ?_)
    refine xS_of (pc' := 25) (L' := [(0, xa 0)]) (st' := [xi (xR m1 (m1 0 12) 9)]) (m' := m1) (fun ex ns r q => ?_) ?_
    · refine xw_aload_n rfl rfl rfl ?_
      refine xw_gfM (v := (m1 0 12)) rfl (xw_obd (by decide +kernel)) xk0_12 (qi := 12) rfl rfl ?_
      refine xw_gfIc (v := (m1 (m1 0 12) 9)) (v' := (xR m1 (m1 0 12) 9)) rfl (xw_obd g2) xk9_9 (qi := 9) rfl rfl rfl ?_
      exact q
    exact xS_ret (v := (xR m1 (m1 0 12) 9)) rfl rfl xw_rtI (w32_xR _ _ _)
  · refine xS_of (pc' := 15) (L' := [(0, xa 0)]) (st' := [xi 0]) (m' := m) (fun ex ns r q => ?_) ?_
    · refine xw_if_neT rfl (w32_cg (w32_xR _ _ _)) h1 ?_
      refine xw_iconst rfl ?_
      refine xw_lo (L2 := [(0, xa 0)]) (List.forall_mem_cons.mpr ⟨rfl, fun _ h => absurd h List.not_mem_nil⟩) ?_
      exact q
    refine xS_call (q := 39) (n := 1) (kq := 0) (as := [xi 0]) (st1 := []) rfl rfl rfl rfl rfl rfl rfl rfl rfl rfl (fun _ => xw_rcv0 rfl) rfl (List.forall_mem_cons.mpr ⟨rfl, fun _ h => absurd h List.not_mem_nil⟩) (ygf39 hB _ _ rfl) (fun v2 m2 cv2 => ?_)
    refine xS_g (fun g2 => ?_)
    refine xS_of (pc' := 25) (L' := [(0, xa 0)]) (st' := [xi (xR m2 (m2 0 12) 9)]) (m' := m2) (fun ex ns r q => ?_) ?_
    · refine xw_aload_n rfl rfl rfl ?_
      refine xw_gfM (v := (m2 0 12)) rfl (xw_obd (by decide +kernel)) xk0_12 (qi := 12) rfl rfl ?_
      refine xw_gfIc (v := (m2 (m2 0 12) 9)) (v' := (xR m2 (m2 0 12) 9)) rfl (xw_obd g2) xk9_9 (qi := 9) rfl rfl rfl ?_
      exact q
    exact xS_ret (v := (xR m2 (m2 0 12) 9)) rfl rfl xw_rtI (w32_xR _ _ _)

theorem ysl237_8 {B : Nat} (hB : B ≤ 512) {xs : Nat → Int32} {SL d : Nat} {r8 : Int → Int → xw_M → xP} (hr8 : ∀ x1 x2 m, w32 x1 = x1 → w32 x2 = x2 → xS B xs SL (d + 2) 237 (3, (some .int), [], 11) 1 8 [(0, xa 508), (1, xi x1), (2, xi x2)] [] m (r8 x1 x2 m)) : ∀ x1 x2 m, w32 x1 = x1 → w32 x2 = x2 → xS B xs SL (d + 2) 237 (3, (some .int), [], 11) 1 8 [(0, xa 508), (1, xi x1), (2, xi x2)] [] m (yl237_8 B r8 x1 x2 m) := by
  intro x1 x2 m c1 c2
  unfold yl237_8
  refine xS_of (pc' := 13) (L' := [(0, xa 508), (1, xi x1), (2, xi x2)]) (st' := [xi (xR m 508 0), xi x2]) (m' := m) (fun ex ns r q => ?_) ?_
  · refine xw_iload_n rfl rfl ?_
    refine xw_aload_n rfl rfl rfl ?_
    refine xw_gfIc (v := (m 508 0)) (v' := (xR m 508 0)) rfl (xw_obd (by decide +kernel)) xk10_0 (qi := 0) rfl rfl rfl ?_
    exact q
  refine xS_if (fun h0 => ?_) (fun h0 => ?_)
  · refine xS_g (fun g1 => ?_)
    refine xS_of (pc' := 23) (L' := [(0, xa 508), (1, xi x1), (2, xi x2)]) (st' := [xi 1, xi (xR m 510 x2)]) (m' := m) (fun ex ns r q => ?_) ?_
    · refine xw_ic_geF rfl (w32_cg c2) (w32_cg (w32_xR _ _ _)) (Int.not_le.mpr h0) ?_
      refine xw_aload_n rfl rfl rfl ?_
      refine xw_gfR (n := 510) (e := 510) rfl (xw_obd (by decide +kernel)) (by decide +kernel) (by decide +kernel) rfl ?_
      refine xw_iload_n rfl rfl ?_
      refine xw_ialdc (n := 512) (v := (m 510 x2)) (v' := (xR m 510 x2)) rfl hB (xw_obd (by decide +kernel)) rfl g1 rfl rfl ?_
      refine xw_iconst rfl ?_
      exact q
    refine xS_if (fun h2 => ?_) (fun h2 => ?_)
    · refine xS_of (pc' := 8) (L' := [(0, xa 508), (1, xi (w32 (x1 + 1))), (2, xi (w32 (x2 + 1)))]) (st' := []) (m' := m) (fun ex ns r q => ?_) ?_
      · refine xw_ic_leF rfl (w32_cg (w32_xR _ _ _)) (w32_cg rfl) (Int.not_le.mpr h2) ?_
        refine xw_iincc (z := (w32 (x1 + 1))) (L' := [(1, xi (w32 (x1 + 1))), (0, xa 508), (2, xi x2)]) rfl rfl (by decide) rfl rfl ?_
        refine xw_iincc (z := (w32 (x2 + 1))) (L' := [(2, xi (w32 (x2 + 1))), (1, xi (w32 (x1 + 1))), (0, xa 508)]) rfl rfl (by decide) rfl rfl ?_
        refine xw_goto rfl ?_
        refine xw_lo (L2 := [(0, xa 508), (1, xi (w32 (x1 + 1))), (2, xi (w32 (x2 + 1)))]) (List.forall_mem_cons.mpr ⟨rfl, List.forall_mem_cons.mpr ⟨rfl, List.forall_mem_cons.mpr ⟨rfl, fun _ h => absurd h List.not_mem_nil⟩⟩⟩) ?_
        exact q
      exact hr8 _ _ _ (w32_w _) (w32_w _)
    · refine xS_of (pc' := 8) (L' := [(0, xa 508), (1, xi x1), (2, xi (w32 (x2 + 1)))]) (st' := []) (m' := m) (fun ex ns r q => ?_) ?_
      · refine xw_ic_leT rfl (w32_cg (w32_xR _ _ _)) (w32_cg rfl) (Int.not_lt.mp h2) ?_
        refine xw_iincc (z := (w32 (x2 + 1))) (L' := [(2, xi (w32 (x2 + 1))), (0, xa 508), (1, xi x1)]) rfl rfl (by decide) rfl rfl ?_
        refine xw_goto rfl ?_
        refine xw_lo (L2 := [(0, xa 508), (1, xi x1), (2, xi (w32 (x2 + 1)))]) (List.forall_mem_cons.mpr ⟨rfl, List.forall_mem_cons.mpr ⟨rfl, List.forall_mem_cons.mpr ⟨rfl, fun _ h => absurd h List.not_mem_nil⟩⟩⟩) ?_
        exact q
      exact hr8 _ _ _ c1 (w32_w _)
  · refine xS_of (pc' := 36) (L' := [(0, xa 508), (1, xi x1), (2, xi x2)]) (st' := [xi x1]) (m' := m) (fun ex ns r q => ?_) ?_
    · refine xw_ic_geT rfl (w32_cg c2) (w32_cg (w32_xR _ _ _)) (Int.not_lt.mp h0) ?_
      refine xw_iload_n rfl rfl ?_
      exact q
    exact xS_ret (v := x1) rfl rfl xw_rtI c1
theorem ygl237_8 {B : Nat} (hB : B ≤ 512) {xs : Nat → Int32} {SL d : Nat} : ∀ n x1 x2 m, w32 x1 = x1 → w32 x2 = x2 → xS B xs SL (d + 2) 237 (3, (some .int), [], 11) 1 8 [(0, xa 508), (1, xi x1), (2, xi x2)] [] m (xl2 (yl237_8 B) n x1 x2 m) := by
  intro n
  induction n with
  | zero => intro x1 x2 m c1 c2; exact xS_none
  | succ n ih => exact ysl237_8 hB ih
theorem ygf237 {B : Nat} (hB : B ≤ 512) {xs : Nat → Int32} {SL d : Nat} : ∀ m, xS B xs SL (d + 2) 237 (3, (some .int), [], 11) 1 0 [(0, xa 508)] [] m (yf237 B m) := by
  intro m
  unfold yf237
  refine xS_of (pc' := 1) (L' := [(0, xa 508)]) (st' := [xa 508]) (m' := m) (fun ex ns r q => ?_) ?_
  · refine xw_aload_n rfl rfl rfl ?_
    refine xw_lo (L2 := [(0, xa 508)]) (List.forall_mem_cons.mpr ⟨rfl, fun _ h => absurd h List.not_mem_nil⟩) ?_
    exact q
  refine xS_call (q := 158) (n := 1) (kq := 0) (as := [xa 508]) (st1 := []) rfl rfl rfl rfl rfl rfl rfl rfl rfl rfl (fun _ => xw_rcv1 (t := 10) (xw_obd (by decide +kernel)) rfl) rfl (List.forall_mem_cons.mpr ⟨rfl, fun _ h => absurd h List.not_mem_nil⟩) (ygf158 hB _) (fun v1 m1 cv1 => ?_)
  refine xS_of (pc' := 8) (L' := [(0, xa 508), (1, xi 0), (2, xi 0)]) (st' := []) (m' := m1) (fun ex ns r q => ?_) ?_
  · refine xw_iconst rfl ?_
    refine xw_istore_n (L' := [(1, xi 0), (0, xa 508)]) rfl (by decide) rfl ?_
    refine xw_iconst rfl ?_
    refine xw_istore_n (L' := [(2, xi 0), (1, xi 0), (0, xa 508)]) rfl (by decide) rfl ?_
    refine xw_lo (L2 := [(0, xa 508), (1, xi 0), (2, xi 0)]) (List.forall_mem_cons.mpr ⟨rfl, List.forall_mem_cons.mpr ⟨rfl, List.forall_mem_cons.mpr ⟨rfl, fun _ h => absurd h List.not_mem_nil⟩⟩⟩) ?_
    exact q
  exact ygl237_8 hB 1000000 _ _ _ rfl rfl
theorem ygk240_76 {B : Nat} (hB : B ≤ 512) {xs : Nat → Int32} {SL d : Nat} {r4 : Int → Int → Int → xw_M → xP} (hr4 : ∀ x1 x2 x3 m, w32 x1 = x1 → w32 x2 = x2 → w32 x3 = x3 → xS B xs SL (d + 0) 240 (6, (some .int), [], 8) 1 4 [(0, xa 302), (1, xi x1), (2, xi x2), (3, xi x3)] [] m (r4 x1 x2 x3 m)) : ∀ x1 x2 x3 x4 m, w32 x1 = x1 → w32 x2 = x2 → w32 x3 = x3 → w32 x4 = x4 → xS B xs SL (d + 0) 240 (6, (some .int), [], 8) 1 76 [(0, xa 302), (1, xi x1), (2, xi x2), (3, xi x3), (4, xi x4)] [] m (yk240_76 B r4 x1 x2 x3 x4 m) := by
  intro x1 x2 x3 x4 m c1 c2 c3 c4
  unfold yk240_76
  refine xS_of (pc' := 79) (L' := [(0, xa 302), (1, xi x1), (2, xi x2), (3, xi x3), (4, xi x4)]) (st' := [xi x4, xi x2]) (m' := m) (fun ex ns r q => ?_) ?_
  · refine xw_iload_n rfl rfl ?_
    refine xw_iload rfl rfl ?_
    exact q
  refine xS_if (fun h0 => ?_) (fun h0 => ?_)
  · refine xS_of (pc' := 4) (L' := [(0, xa 302), (1, xi x1), (2, xi (w32 (x2 + 1))), (3, xi (w32 (x3 + 1)))]) (st' := []) (m' := m) (fun ex ns r q => ?_) ?_
    · refine xw_if_eqT rfl (w32_cg c4) h0 ?_
      refine xw_iconst rfl ?_
      refine xw_iadd rfl ?_
      refine xw_cst (st' := [xi (w32 (x2 + 1))]) (xw_sc (xi_c rfl) rfl) ?_
      refine xw_istore_n (L' := [(2, xi (w32 (x2 + 1))), (0, xa 302), (1, xi x1), (3, xi x3), (4, xi x4)]) rfl (by decide) rfl ?_
      refine xw_iincc (z := (w32 (x3 + 1))) (L' := [(3, xi (w32 (x3 + 1))), (2, xi (w32 (x2 + 1))), (0, xa 302), (1, xi x1), (4, xi x4)]) rfl rfl (by decide) rfl rfl ?_
      refine xw_goto rfl ?_
      refine xw_lo (L2 := [(0, xa 302), (1, xi x1), (2, xi (w32 (x2 + 1))), (3, xi (w32 (x3 + 1)))]) (List.forall_mem_cons.mpr ⟨rfl, List.forall_mem_cons.mpr ⟨rfl, List.forall_mem_cons.mpr ⟨rfl, List.forall_mem_cons.mpr ⟨rfl, fun _ h => absurd h List.not_mem_nil⟩⟩⟩⟩) ?_
      exact q
    exact hr4 _ _ _ _ c1 (w32_w _) (w32_w _)
  · refine xS_of (pc' := 4) (L' := [(0, xa 302), (1, xi x1), (2, xi (w32 (x2 + 0))), (3, xi (w32 (x3 + 1)))]) (st' := []) (m' := m) (fun ex ns r q => ?_) ?_
    · refine xw_if_eqF rfl (w32_cg c4) h0 ?_
      refine xw_iconst rfl ?_
      refine xw_goto rfl ?_
      refine xw_iadd rfl ?_
      refine xw_cst (st' := [xi (w32 (x2 + 0))]) (xw_sc (xi_c rfl) rfl) ?_
      refine xw_istore_n (L' := [(2, xi (w32 (x2 + 0))), (0, xa 302), (1, xi x1), (3, xi x3), (4, xi x4)]) rfl (by decide) rfl ?_
      refine xw_iincc (z := (w32 (x3 + 1))) (L' := [(3, xi (w32 (x3 + 1))), (2, xi (w32 (x2 + 0))), (0, xa 302), (1, xi x1), (4, xi x4)]) rfl rfl (by decide) rfl rfl ?_
      refine xw_goto rfl ?_
      refine xw_lo (L2 := [(0, xa 302), (1, xi x1), (2, xi (w32 (x2 + 0))), (3, xi (w32 (x3 + 1)))]) (List.forall_mem_cons.mpr ⟨rfl, List.forall_mem_cons.mpr ⟨rfl, List.forall_mem_cons.mpr ⟨rfl, List.forall_mem_cons.mpr ⟨rfl, fun _ h => absurd h List.not_mem_nil⟩⟩⟩⟩) ?_
      exact q
    exact hr4 _ _ _ _ c1 (w32_w _) (w32_w _)
theorem ysl240_27 {B : Nat} (hB : B ≤ 512) {xs : Nat → Int32} {SL d : Nat} {r4 : Int → Int → Int → xw_M → xP} (hr4 : ∀ x1 x2 x3 m, w32 x1 = x1 → w32 x2 = x2 → w32 x3 = x3 → xS B xs SL (d + 0) 240 (6, (some .int), [], 8) 1 4 [(0, xa 302), (1, xi x1), (2, xi x2), (3, xi x3)] [] m (r4 x1 x2 x3 m)) {r27 : Int → Int → Int → Int → Int → xw_M → xP} (hr27 : ∀ x1 x2 x3 x4 x5 m, w32 x1 = x1 → w32 x2 = x2 → w32 x3 = x3 → w32 x4 = x4 → w32 x5 = x5 → xS B xs SL (d + 0) 240 (6, (some .int), [], 8) 1 27 [(0, xa 302), (1, xi x1), (2, xi x2), (3, xi x3), (4, xi x4), (5, xi x5)] [] m (r27 x1 x2 x3 x4 x5 m)) : ∀ x1 x2 x3 x4 x5 m, w32 x1 = x1 → w32 x2 = x2 → w32 x3 = x3 → w32 x4 = x4 → w32 x5 = x5 → xS B xs SL (d + 0) 240 (6, (some .int), [], 8) 1 27 [(0, xa 302), (1, xi x1), (2, xi x2), (3, xi x3), (4, xi x4), (5, xi x5)] [] m (yl240_27 B r4 r27 x1 x2 x3 x4 x5 m) := by
  intro x1 x2 x3 x4 x5 m c1 c2 c3 c4 c5
  unfold yl240_27
  refine xS_of (pc' := 33) (L' := [(0, xa 302), (1, xi x1), (2, xi x2), (3, xi x3), (4, xi x4), (5, xi x5)]) (st' := [xi (xR m 302 6), xi x5]) (m' := m) (fun ex ns r q => ?_) ?_
  · refine xw_iload rfl rfl ?_
    refine xw_aload_n rfl rfl rfl ?_
    refine xw_gfIc (v := (m 302 6)) (v' := (xR m 302 6)) rfl (xw_obd (by decide +kernel)) xk7_6 (qi := 6) rfl rfl rfl ?_
    exact q
  refine xS_if (fun h0 => ?_) (fun h0 => ?_)
  · refine xS_of (pc' := 38) (L' := [(0, xa 302), (1, xi x1), (2, xi x2), (3, xi x3), (4, xi x4), (5, xi x5)]) (st' := [xi x4]) (m' := m) (fun ex ns r q => ?_) ?_
    · refine xw_ic_geF rfl (w32_cg c5) (w32_cg (w32_xR _ _ _)) (Int.not_le.mpr h0) ?_
      refine xw_iload rfl rfl ?_
      exact q
    refine xS_if (fun h1 => ?_) (fun h1 => ?_)
    · refine xS_of (pc' := 76) (L' := [(0, xa 302), (1, xi x1), (2, xi x2), (3, xi x3), (4, xi x4)]) (st' := []) (m' := m) (fun ex ns r q => ?_) ?_
      · refine xw_if_eqT rfl (w32_cg c4) h1 ?_
        refine xw_lo (L2 := [(0, xa 302), (1, xi x1), (2, xi x2), (3, xi x3), (4, xi x4)]) (List.forall_mem_cons.mpr ⟨rfl, List.forall_mem_cons.mpr ⟨rfl, List.forall_mem_cons.mpr ⟨rfl, List.forall_mem_cons.mpr ⟨rfl, List.forall_mem_cons.mpr ⟨rfl, fun _ h => absurd h List.not_mem_nil⟩⟩⟩⟩⟩) ?_
        exact q
      exact ygk240_76 hB hr4 _ _ _ _ _ c1 c2 c3 c4
    · refine xS_g (fun g2 => ?_)
      refine xS_g (fun g3 => ?_)
      refine xS_g (fun g4 => ?_)
      refine xS_g (fun g5 => ?_)
      refine xS_g (fun g6 => ?_)
      refine xS_of (pc' := 59) (L' := [(0, xa 302), (1, xi x1), (2, xi x2), (3, xi x3), (4, xi x4), (5, xi x5)]) (st' := [xj (xJ m (338 + x5) x3), xj (xJ m (304 + x5) x3)]) (m' := m) (fun ex ns r q => ?_) ?_
      · refine xw_if_eqF rfl (w32_cg c4) h1 ?_
        refine xw_aload_n rfl rfl rfl ?_
        refine xw_gfR (n := 303) (e := 303) rfl (xw_obd (by decide +kernel)) (by decide +kernel) (by decide +kernel) rfl ?_
        refine xw_iload rfl rfl ?_
        refine xw_aald (t := 21) (n := 33) (q := 304 + 1 * (x5).toNat) (e := (304 + x5)) rfl hB (xw_obd (by decide +kernel)) (by decide) rfl g2 (show 309 + 1 * (x5 : Int).toNat = 304 + 1 * (x5 : Int).toNat + 5 from by omega) (by have := g2; omega) ?_
        refine xw_iload_n rfl rfl ?_
        refine xw_laldc (n := (xw_le B (304 + x5))) (v := (m (304 + x5) x3)) (v' := (xJ m (304 + x5) x3)) rfl hB (xw_obd g4) rfl g3 rfl rfl ?_
        refine xw_aload_n rfl rfl rfl ?_
        refine xw_gfR (n := 337) (e := 337) rfl (xw_obd (by decide +kernel)) (by decide +kernel) (by decide +kernel) rfl ?_
        refine xw_iload rfl rfl ?_
        refine xw_aald (t := 21) (n := 33) (q := 338 + 1 * (x5).toNat) (e := (338 + x5)) rfl hB (xw_obd (by decide +kernel)) (by decide) rfl g2 (show 343 + 1 * (x5 : Int).toNat = 338 + 1 * (x5 : Int).toNat + 5 from by omega) (by have := g2; omega) ?_
        refine xw_iload_n rfl rfl ?_
        refine xw_laldc (n := (xw_le B (338 + x5))) (v := (m (338 + x5) x3)) (v' := (xJ m (338 + x5) x3)) rfl hB (xw_obd g6) rfl g5 rfl rfl ?_
        exact q
      refine xS_if (fun h7 => ?_) (fun h7 => ?_)
      · refine xS_of (pc' := 27) (L' := [(0, xa 302), (1, xi x1), (2, xi x2), (3, xi x3), (4, xi 1), (5, xi (w32 (x5 + 1)))]) (st' := []) (m' := m) (fun ex ns r q => ?_) ?_
        · refine xw_jc_neF rfl rfl (w64_cg (w64_xJ _ _ _)) (w64_cg (w64_xJ _ _ _)) h7 ?_
          refine xw_iconst rfl ?_
          refine xw_goto rfl ?_
          refine xw_istore (L' := [(4, xi 1), (0, xa 302), (1, xi x1), (2, xi x2), (3, xi x3), (5, xi x5)]) rfl (by decide) rfl ?_
          refine xw_iincc (z := (w32 (x5 + 1))) (L' := [(5, xi (w32 (x5 + 1))), (4, xi 1), (0, xa 302), (1, xi x1), (2, xi x2), (3, xi x3)]) rfl rfl (by decide) rfl rfl ?_
          refine xw_goto rfl ?_
          refine xw_lo (L2 := [(0, xa 302), (1, xi x1), (2, xi x2), (3, xi x3), (4, xi 1), (5, xi (w32 (x5 + 1)))]) (List.forall_mem_cons.mpr ⟨rfl, List.forall_mem_cons.mpr ⟨rfl, List.forall_mem_cons.mpr ⟨rfl, List.forall_mem_cons.mpr ⟨rfl, List.forall_mem_cons.mpr ⟨rfl, List.forall_mem_cons.mpr ⟨rfl, fun _ h => absurd h List.not_mem_nil⟩⟩⟩⟩⟩⟩) ?_
          exact q
        exact hr27 _ _ _ _ _ _ c1 c2 c3 rfl (w32_w _)
      · refine xS_of (pc' := 27) (L' := [(0, xa 302), (1, xi x1), (2, xi x2), (3, xi x3), (4, xi 0), (5, xi (w32 (x5 + 1)))]) (st' := []) (m' := m) (fun ex ns r q => ?_) ?_
        · refine xw_jc_neT rfl rfl (w64_cg (w64_xJ _ _ _)) (w64_cg (w64_xJ _ _ _)) h7 ?_
          refine xw_iconst rfl ?_
          refine xw_istore (L' := [(4, xi 0), (0, xa 302), (1, xi x1), (2, xi x2), (3, xi x3), (5, xi x5)]) rfl (by decide) rfl ?_
          refine xw_iincc (z := (w32 (x5 + 1))) (L' := [(5, xi (w32 (x5 + 1))), (4, xi 0), (0, xa 302), (1, xi x1), (2, xi x2), (3, xi x3)]) rfl rfl (by decide) rfl rfl ?_
          refine xw_goto rfl ?_
          refine xw_lo (L2 := [(0, xa 302), (1, xi x1), (2, xi x2), (3, xi x3), (4, xi 0), (5, xi (w32 (x5 + 1)))]) (List.forall_mem_cons.mpr ⟨rfl, List.forall_mem_cons.mpr ⟨rfl, List.forall_mem_cons.mpr ⟨rfl, List.forall_mem_cons.mpr ⟨rfl, List.forall_mem_cons.mpr ⟨rfl, List.forall_mem_cons.mpr ⟨rfl, fun _ h => absurd h List.not_mem_nil⟩⟩⟩⟩⟩⟩) ?_
          exact q
        exact hr27 _ _ _ _ _ _ c1 c2 c3 rfl (w32_w _)
  · refine xS_of (pc' := 76) (L' := [(0, xa 302), (1, xi x1), (2, xi x2), (3, xi x3), (4, xi x4)]) (st' := []) (m' := m) (fun ex ns r q => ?_) ?_
    · refine xw_ic_geT rfl (w32_cg c5) (w32_cg (w32_xR _ _ _)) (Int.not_lt.mp h0) ?_
      refine xw_lo (L2 := [(0, xa 302), (1, xi x1), (2, xi x2), (3, xi x3), (4, xi x4)]) (List.forall_mem_cons.mpr ⟨rfl, List.forall_mem_cons.mpr ⟨rfl, List.forall_mem_cons.mpr ⟨rfl, List.forall_mem_cons.mpr ⟨rfl, List.forall_mem_cons.mpr ⟨rfl, fun _ h => absurd h List.not_mem_nil⟩⟩⟩⟩⟩) ?_
      exact q
    exact ygk240_76 hB hr4 _ _ _ _ _ c1 c2 c3 c4
theorem ygl240_27 {B : Nat} (hB : B ≤ 512) {xs : Nat → Int32} {SL d : Nat} {r4 : Int → Int → Int → xw_M → xP} (hr4 : ∀ x1 x2 x3 m, w32 x1 = x1 → w32 x2 = x2 → w32 x3 = x3 → xS B xs SL (d + 0) 240 (6, (some .int), [], 8) 1 4 [(0, xa 302), (1, xi x1), (2, xi x2), (3, xi x3)] [] m (r4 x1 x2 x3 m)) : ∀ n x1 x2 x3 x4 x5 m, w32 x1 = x1 → w32 x2 = x2 → w32 x3 = x3 → w32 x4 = x4 → w32 x5 = x5 → xS B xs SL (d + 0) 240 (6, (some .int), [], 8) 1 27 [(0, xa 302), (1, xi x1), (2, xi x2), (3, xi x3), (4, xi x4), (5, xi x5)] [] m (xl5 (yl240_27 B r4) n x1 x2 x3 x4 x5 m) := by
  intro n
  induction n with
  | zero => intro x1 x2 x3 x4 x5 m c1 c2 c3 c4 c5; exact xS_none
  | succ n ih => exact ysl240_27 hB hr4 ih
theorem ysl240_4 {B : Nat} (hB : B ≤ 512) {xs : Nat → Int32} {SL d : Nat} {r4 : Int → Int → Int → xw_M → xP} (hr4 : ∀ x1 x2 x3 m, w32 x1 = x1 → w32 x2 = x2 → w32 x3 = x3 → xS B xs SL (d + 0) 240 (6, (some .int), [], 8) 1 4 [(0, xa 302), (1, xi x1), (2, xi x2), (3, xi x3)] [] m (r4 x1 x2 x3 m)) : ∀ x1 x2 x3 m, w32 x1 = x1 → w32 x2 = x2 → w32 x3 = x3 → xS B xs SL (d + 0) 240 (6, (some .int), [], 8) 1 4 [(0, xa 302), (1, xi x1), (2, xi x2), (3, xi x3)] [] m (yl240_4 B r4 x1 x2 x3 m) := by
  intro x1 x2 x3 m c1 c2 c3
  unfold yl240_4
  refine xS_of (pc' := 9) (L' := [(0, xa 302), (1, xi x1), (2, xi x2), (3, xi x3)]) (st' := [xi (xR m 302 8), xi x3]) (m' := m) (fun ex ns r q => ?_) ?_
  · refine xw_iload_n rfl rfl ?_
    refine xw_aload_n rfl rfl rfl ?_
    refine xw_gfIc (v := (m 302 8)) (v' := (xR m 302 8)) rfl (xw_obd (by decide +kernel)) xk7_8 (qi := 8) rfl rfl rfl ?_
    exact q
  refine xS_if (fun h0 => ?_) (fun h0 => ?_)
  · refine xS_of (pc' := 14) (L' := [(0, xa 302), (1, xi x1), (2, xi x2), (3, xi x3)]) (st' := [xi x1, xi x3]) (m' := m) (fun ex ns r q => ?_) ?_
    · refine xw_ic_geF rfl (w32_cg c3) (w32_cg (w32_xR _ _ _)) (Int.not_le.mpr h0) ?_
      refine xw_iload_n rfl rfl ?_
      refine xw_iload_n rfl rfl ?_
      exact q
    refine xS_if (fun h1 => ?_) (fun h1 => ?_)
    · refine xS_of (pc' := 27) (L' := [(0, xa 302), (1, xi x1), (2, xi x2), (3, xi x3), (4, xi 1), (5, xi 0)]) (st' := []) (m' := m) (fun ex ns r q => ?_) ?_
      · refine xw_ic_geF rfl (w32_cg c3) (w32_cg c1) (Int.not_le.mpr h1) ?_
        refine xw_iconst rfl ?_
        refine xw_goto rfl ?_
        refine xw_istore (L' := [(4, xi 1), (0, xa 302), (1, xi x1), (2, xi x2), (3, xi x3)]) rfl (by decide) rfl ?_
        refine xw_iconst rfl ?_
        refine xw_istore (L' := [(5, xi 0), (4, xi 1), (0, xa 302), (1, xi x1), (2, xi x2), (3, xi x3)]) rfl (by decide) rfl ?_
        refine xw_lo (L2 := [(0, xa 302), (1, xi x1), (2, xi x2), (3, xi x3), (4, xi 1), (5, xi 0)]) (List.forall_mem_cons.mpr ⟨rfl, List.forall_mem_cons.mpr ⟨rfl, List.forall_mem_cons.mpr ⟨rfl, List.forall_mem_cons.mpr ⟨rfl, List.forall_mem_cons.mpr ⟨rfl, List.forall_mem_cons.mpr ⟨rfl, fun _ h => absurd h List.not_mem_nil⟩⟩⟩⟩⟩⟩) ?_
        exact q
      exact ygl240_27 hB hr4 1000000 _ _ _ _ _ _ c1 c2 c3 rfl rfl
    · refine xS_of (pc' := 27) (L' := [(0, xa 302), (1, xi x1), (2, xi x2), (3, xi x3), (4, xi 0), (5, xi 0)]) (st' := []) (m' := m) (fun ex ns r q => ?_) ?_
      · refine xw_ic_geT rfl (w32_cg c3) (w32_cg c1) (Int.not_lt.mp h1) ?_
        refine xw_iconst rfl ?_
        refine xw_istore (L' := [(4, xi 0), (0, xa 302), (1, xi x1), (2, xi x2), (3, xi x3)]) rfl (by decide) rfl ?_
        refine xw_iconst rfl ?_
        refine xw_istore (L' := [(5, xi 0), (4, xi 0), (0, xa 302), (1, xi x1), (2, xi x2), (3, xi x3)]) rfl (by decide) rfl ?_
        refine xw_lo (L2 := [(0, xa 302), (1, xi x1), (2, xi x2), (3, xi x3), (4, xi 0), (5, xi 0)]) (List.forall_mem_cons.mpr ⟨rfl, List.forall_mem_cons.mpr ⟨rfl, List.forall_mem_cons.mpr ⟨rfl, List.forall_mem_cons.mpr ⟨rfl, List.forall_mem_cons.mpr ⟨rfl, List.forall_mem_cons.mpr ⟨rfl, fun _ h => absurd h List.not_mem_nil⟩⟩⟩⟩⟩⟩) ?_
        exact q
      exact ygl240_27 hB hr4 1000000 _ _ _ _ _ _ c1 c2 c3 rfl rfl
  · refine xS_of (pc' := 96) (L' := [(0, xa 302), (1, xi x1), (2, xi x2), (3, xi x3)]) (st' := [xi x2]) (m' := m) (fun ex ns r q => ?_) ?_
    · refine xw_ic_geT rfl (w32_cg c3) (w32_cg (w32_xR _ _ _)) (Int.not_lt.mp h0) ?_
      refine xw_iload_n rfl rfl ?_
      exact q
    exact xS_ret (v := x2) rfl rfl xw_rtI c2
theorem ygl240_4 {B : Nat} (hB : B ≤ 512) {xs : Nat → Int32} {SL d : Nat} : ∀ n x1 x2 x3 m, w32 x1 = x1 → w32 x2 = x2 → w32 x3 = x3 → xS B xs SL (d + 0) 240 (6, (some .int), [], 8) 1 4 [(0, xa 302), (1, xi x1), (2, xi x2), (3, xi x3)] [] m (xl3 (yl240_4 B) n x1 x2 x3 m) := by
  intro n
  induction n with
  | zero => intro x1 x2 x3 m c1 c2 c3; exact xS_none
  | succ n ih => exact ysl240_4 hB ih
theorem ygf240 {B : Nat} (hB : B ≤ 512) {xs : Nat → Int32} {SL d : Nat} : ∀ p0 m, w32 p0 = p0 → xS B xs SL (d + 0) 240 (6, (some .int), [], 8) 1 0 [(0, xa 302), (1, xi p0)] [] m (yf240 B p0 m) := by
  intro p0 m cp0
  unfold yf240
  refine xS_of (pc' := 4) (L' := [(0, xa 302), (1, xi p0), (2, xi 0), (3, xi 0)]) (st' := []) (m' := m) (fun ex ns r q => ?_) ?_
  · refine xw_iconst rfl ?_
    refine xw_istore_n (L' := [(2, xi 0), (0, xa 302), (1, xi p0)]) rfl (by decide) rfl ?_
    refine xw_iconst rfl ?_
    refine xw_istore_n (L' := [(3, xi 0), (2, xi 0), (0, xa 302), (1, xi p0)]) rfl (by decide) rfl ?_
    refine xw_lo (L2 := [(0, xa 302), (1, xi p0), (2, xi 0), (3, xi 0)]) (List.forall_mem_cons.mpr ⟨rfl, List.forall_mem_cons.mpr ⟨rfl, List.forall_mem_cons.mpr ⟨rfl, List.forall_mem_cons.mpr ⟨rfl, fun _ h => absurd h List.not_mem_nil⟩⟩⟩⟩) ?_
    exact q
  exact ygl240_4 hB 1000000 _ _ _ _ cp0 rfl rfl
theorem ygk239_90 {B : Nat} (hB : B ≤ 512) {xs : Nat → Int32} {SL d : Nat} : ∀ x3 x4 x5 m, w32 x3 = x3 → w32 x4 = x4 → w32 x5 = x5 → xS B xs SL (d + 6) 239 (8, (some .int), [], 8) 1 90 [(3, xi x3), (4, xi x4), (5, xi x5)] [] m (yk239_90 B x3 x4 x5 m) := by
  intro x3 x4 x5 m c3 c4 c5
  unfold yk239_90
  refine xS_of (pc' := 101) (L' := [(3, xi x3), (4, xi x4), (5, xi x5)]) (st' := [xi (w32 (x5 + (max 0 (w32 (x3 - x4)))))]) (m' := m) (fun ex ns r q => ?_) ?_
  · refine xw_iload rfl rfl ?_
    refine xw_iconst rfl ?_
    refine xw_iload_n rfl rfl ?_
    refine xw_iload rfl rfl ?_
    refine xw_isub rfl ?_
    refine xw_cst (st' := [xi (w32 (x3 - x4)), xi 0, xi x5]) (xw_sc (xi_c rfl) (xw_sc rfl rfl)) ?_
    refine xw_maxI rfl rfl (w32_cg rfl) (w32_cg (w32_w _)) rfl ?_
    refine xw_iadd rfl ?_
    refine xw_cst (st' := [xi (w32 (x5 + (max 0 (w32 (x3 - x4)))))]) (xw_sc (xi_c rfl) rfl) ?_
    exact q
  exact xS_ret (v := (w32 (x5 + (max 0 (w32 (x3 - x4)))))) rfl rfl xw_rtI (w32_w _)
theorem ysl239_18 {B : Nat} (hB : B ≤ 512) {xs : Nat → Int32} {SL d : Nat} {r18 : Int → Int → Int → Int → Int → Int → Int → xw_M → xP} (hr18 : ∀ x1 x2 x3 x4 x5 x6 x7 m, w32 x3 = x3 → w32 x4 = x4 → w32 x5 = x5 → w32 x6 = x6 → w32 x7 = x7 → xS B xs SL (d + 6) 239 (8, (some .int), [], 8) 1 18 [(0, xa 302), (1, xa x1), (2, xa x2), (3, xi x3), (4, xi x4), (5, xi x5), (6, xi x6), (7, xi x7)] [] m (r18 x1 x2 x3 x4 x5 x6 x7 m)) : ∀ x1 x2 x3 x4 x5 x6 x7 m, w32 x3 = x3 → w32 x4 = x4 → w32 x5 = x5 → w32 x6 = x6 → w32 x7 = x7 → xS B xs SL (d + 6) 239 (8, (some .int), [], 8) 1 18 [(0, xa 302), (1, xa x1), (2, xa x2), (3, xi x3), (4, xi x4), (5, xi x5), (6, xi x6), (7, xi x7)] [] m (yl239_18 B r18 x1 x2 x3 x4 x5 x6 x7 m) := by
  intro x1 x2 x3 x4 x5 x6 x7 m c3 c4 c5 c6 c7
  unfold yl239_18
  refine xS_of (pc' := 23) (L' := [(0, xa 302), (1, xa x1), (2, xa x2), (3, xi x3), (4, xi x4), (5, xi x5), (6, xi x6), (7, xi x7)]) (st' := [xi 20000, xi x7]) (m' := m) (fun ex ns r q => ?_) ?_
  · refine xw_iload rfl rfl ?_
    refine xw_sipush (e := 20000) rfl (by decide +kernel) ?_
    exact q
  refine xS_if (fun h0 => ?_) (fun h0 => ?_)
  · refine xS_g (fun g1 => ?_)
    refine xS_of (pc' := 32) (L' := [(0, xa 302), (1, xa x1), (2, xa x2), (3, xi x3), (4, xi x4), (5, xi x5), (6, xi x6), (7, xi x7)]) (st' := [xi (xR m x1 5), xi x6]) (m' := m) (fun ex ns r q => ?_) ?_
    · refine xw_ic_geF rfl (w32_cg c7) (w32_cg rfl) (Int.not_le.mpr h0) ?_
      refine xw_iload rfl rfl ?_
      refine xw_aload_n rfl rfl rfl ?_
      refine xw_gfIc (v := (m x1 5)) (v' := (xR m x1 5)) rfl (xw_obd g1) xk8_5 (qi := 5) rfl rfl rfl ?_
      exact q
    refine xS_if (fun h2 => ?_) (fun h2 => ?_)
    · refine xS_of (pc' := 39) (L' := [(0, xa 302), (1, xa x1), (2, xa x2), (3, xi x3), (4, xi x4), (5, xi x5), (7, xi x7)]) (st' := [xi x6, xa x1, xa 302]) (m' := m) (fun ex ns r q => ?_) ?_
      · refine xw_ic_geF rfl (w32_cg c6) (w32_cg (w32_xR _ _ _)) (Int.not_le.mpr h2) ?_
        refine xw_aload_n rfl rfl rfl ?_
        refine xw_aload_n rfl rfl rfl ?_
        refine xw_iload rfl rfl ?_
        refine xw_lo (L2 := [(0, xa 302), (1, xa x1), (2, xa x2), (3, xi x3), (4, xi x4), (5, xi x5), (7, xi x7)]) (List.forall_mem_cons.mpr ⟨rfl, List.forall_mem_cons.mpr ⟨rfl, List.forall_mem_cons.mpr ⟨rfl, List.forall_mem_cons.mpr ⟨rfl, List.forall_mem_cons.mpr ⟨rfl, List.forall_mem_cons.mpr ⟨rfl, List.forall_mem_cons.mpr ⟨rfl, fun _ h => absurd h List.not_mem_nil⟩⟩⟩⟩⟩⟩⟩) ?_
        exact q
      refine xS_call (q := 194) (n := 3) (kq := 1) (as := [xa 302, xa x1, xi x6]) (st1 := []) rfl rfl rfl rfl rfl rfl rfl rfl rfl rfl (fun _ => xw_rcv1 (t := 7) (xw_obd (by decide +kernel)) rfl) rfl (List.forall_mem_cons.mpr ⟨rfl, List.forall_mem_cons.mpr ⟨rfl, List.forall_mem_cons.mpr ⟨rfl, fun _ h => absurd h List.not_mem_nil⟩⟩⟩) (ygf194 hB _ _ _ c6) (fun v1 m1 cv1 => ?_)
      refine xS_of (pc' := 50) (L' := [(6, xi v1), (0, xa 302), (1, xa x1), (2, xa x2), (3, xi x3), (4, xi x4), (5, xi x5), (7, xi x7)]) (st' := [xi x3, xi x4, xa 302, xi x5]) (m' := m1) (fun ex ns r q => ?_) ?_
      · refine xw_istore (L' := [(6, xi v1), (0, xa 302), (1, xa x1), (2, xa x2), (3, xi x3), (4, xi x4), (5, xi x5), (7, xi x7)]) rfl (by decide) rfl ?_
        refine xw_iload rfl rfl ?_
        refine xw_aload_n rfl rfl rfl ?_
        refine xw_iload rfl rfl ?_
        refine xw_iload_n rfl rfl ?_
        exact q
      refine xS_if (fun h3 => ?_) (fun h3 => ?_)
      · refine xS_of (pc' := 62) (L' := [(0, xa 302), (1, xa x1), (2, xa x2), (3, xi x3), (4, xi x4), (6, xi v1), (7, xi x7)]) (st' := [xa 337, xj (-1), xa x2, xa 302, xa 302, xi x5]) (m' := m1) (fun ex ns r q => ?_) ?_
        · refine xw_ic_geF rfl (w32_cg c4) (w32_cg c3) (Int.not_le.mpr h3) ?_
          refine xw_aload_n rfl rfl rfl ?_
          refine xw_aload_n rfl rfl rfl ?_
          refine xw_ldc2 (e := (-1)) rfl (by decide +kernel) ?_
          refine xw_aload_n rfl rfl rfl ?_
          refine xw_gfR (n := 337) (e := 337) rfl (xw_obd (by decide +kernel)) (by decide +kernel) (by decide +kernel) rfl ?_
          refine xw_lo (L2 := [(0, xa 302), (1, xa x1), (2, xa x2), (3, xi x3), (4, xi x4), (6, xi v1), (7, xi x7)]) (List.forall_mem_cons.mpr ⟨rfl, List.forall_mem_cons.mpr ⟨rfl, List.forall_mem_cons.mpr ⟨rfl, List.forall_mem_cons.mpr ⟨rfl, List.forall_mem_cons.mpr ⟨rfl, List.forall_mem_cons.mpr ⟨rfl, List.forall_mem_cons.mpr ⟨rfl, fun _ h => absurd h List.not_mem_nil⟩⟩⟩⟩⟩⟩⟩) ?_
          exact q
        refine xS_call (q := 113) (n := 4) (kq := 1) (as := [xa 302, xa x2, xj (-1), xa 337]) (st1 := [xa 302, xi x5]) rfl rfl rfl rfl rfl rfl rfl rfl rfl rfl (fun _ => xw_rcv1 (t := 7) (xw_obd (by decide +kernel)) rfl) rfl (List.forall_mem_cons.mpr ⟨rfl, List.forall_mem_cons.mpr ⟨rfl, List.forall_mem_cons.mpr ⟨rfl, List.forall_mem_cons.mpr ⟨rfl, fun _ h => absurd h List.not_mem_nil⟩⟩⟩⟩) (ygf113 hB _ _ _ _ rfl) (fun v2 m2 cv2 => ?_)
        refine xS_of (pc' := 69) (L' := [(0, xa 302), (1, xa x1), (2, xa x2), (3, xi x3), (4, xi x4), (6, xi v1), (7, xi x7)]) (st' := [xi v2, xa 302, xi x5]) (m' := m2) (fun ex ns r q => ?_) ?_
        · refine xw_goto rfl ?_
          refine xw_lo (L2 := [(0, xa 302), (1, xa x1), (2, xa x2), (3, xi x3), (4, xi x4), (6, xi v1), (7, xi x7)]) (List.forall_mem_cons.mpr ⟨rfl, List.forall_mem_cons.mpr ⟨rfl, List.forall_mem_cons.mpr ⟨rfl, List.forall_mem_cons.mpr ⟨rfl, List.forall_mem_cons.mpr ⟨rfl, List.forall_mem_cons.mpr ⟨rfl, List.forall_mem_cons.mpr ⟨rfl, fun _ h => absurd h List.not_mem_nil⟩⟩⟩⟩⟩⟩⟩) ?_
          exact q
        refine xS_call (q := 240) (n := 2) (kq := 1) (as := [xa 302, xi v2]) (st1 := [xi x5]) rfl rfl rfl rfl rfl rfl rfl rfl rfl rfl (fun _ => xw_rcv1 (t := 7) (xw_obd (by decide +kernel)) rfl) rfl (List.forall_mem_cons.mpr ⟨rfl, List.forall_mem_cons.mpr ⟨rfl, fun _ h => absurd h List.not_mem_nil⟩⟩) (ygf240 hB _ _ cv2) (fun v3 m3 cv3 => ?_)
        refine xS_of (pc' := 18) (L' := [(0, xa 302), (1, xa x1), (2, xa x2), (3, xi x3), (4, xi (w32 (x4 + (xR m3 302 8)))), (5, xi (w32 (x5 + v3))), (6, xi v1), (7, xi (w32 (x7 + 1)))]) (st' := []) (m' := m3) (fun ex ns r q => ?_) ?_
        · refine xw_iadd rfl ?_
          refine xw_cst (st' := [xi (w32 (x5 + v3))]) (xw_sc (xi_c rfl) rfl) ?_
          refine xw_istore (L' := [(5, xi (w32 (x5 + v3))), (0, xa 302), (1, xa x1), (2, xa x2), (3, xi x3), (4, xi x4), (6, xi v1), (7, xi x7)]) rfl (by decide) rfl ?_
          refine xw_iload rfl rfl ?_
          refine xw_aload_n rfl rfl rfl ?_
          refine xw_gfIc (v := (m3 302 8)) (v' := (xR m3 302 8)) rfl (xw_obd (by decide +kernel)) xk7_8 (qi := 8) rfl rfl rfl ?_
          refine xw_iadd rfl ?_
          refine xw_cst (st' := [xi (w32 (x4 + (xR m3 302 8)))]) (xw_sc (xi_c rfl) rfl) ?_
          refine xw_istore (L' := [(4, xi (w32 (x4 + (xR m3 302 8)))), (5, xi (w32 (x5 + v3))), (0, xa 302), (1, xa x1), (2, xa x2), (3, xi x3), (6, xi v1), (7, xi x7)]) rfl (by decide) rfl ?_
          refine xw_iincc (z := (w32 (x7 + 1))) (L' := [(7, xi (w32 (x7 + 1))), (4, xi (w32 (x4 + (xR m3 302 8)))), (5, xi (w32 (x5 + v3))), (0, xa 302), (1, xa x1), (2, xa x2), (3, xi x3), (6, xi v1)]) rfl rfl (by decide) rfl rfl ?_
          refine xw_goto rfl ?_
          refine xw_lo (L2 := [(0, xa 302), (1, xa x1), (2, xa x2), (3, xi x3), (4, xi (w32 (x4 + (xR m3 302 8)))), (5, xi (w32 (x5 + v3))), (6, xi v1), (7, xi (w32 (x7 + 1)))]) (List.forall_mem_cons.mpr ⟨rfl, List.forall_mem_cons.mpr ⟨rfl, List.forall_mem_cons.mpr ⟨rfl, List.forall_mem_cons.mpr ⟨rfl, List.forall_mem_cons.mpr ⟨rfl, List.forall_mem_cons.mpr ⟨rfl, List.forall_mem_cons.mpr ⟨rfl, List.forall_mem_cons.mpr ⟨rfl, fun _ h => absurd h List.not_mem_nil⟩⟩⟩⟩⟩⟩⟩⟩) ?_
          exact q
        exact hr18 _ _ _ _ _ _ _ _ c3 (w32_w _) (w32_w _) cv1 (w32_w _)
      · refine xS_of (pc' := 69) (L' := [(0, xa 302), (1, xa x1), (2, xa x2), (3, xi x3), (4, xi x4), (6, xi v1), (7, xi x7)]) (st' := [xi 0, xa 302, xi x5]) (m' := m1) (fun ex ns r q => ?_) ?_
        · refine xw_ic_geT rfl (w32_cg c4) (w32_cg c3) (Int.not_lt.mp h3) ?_
          refine xw_iconst rfl ?_
          refine xw_lo (L2 := [(0, xa 302), (1, xa x1), (2, xa x2), (3, xi x3), (4, xi x4), (6, xi v1), (7, xi x7)]) (List.forall_mem_cons.mpr ⟨rfl, List.forall_mem_cons.mpr ⟨rfl, List.forall_mem_cons.mpr ⟨rfl, List.forall_mem_cons.mpr ⟨rfl, List.forall_mem_cons.mpr ⟨rfl, List.forall_mem_cons.mpr ⟨rfl, List.forall_mem_cons.mpr ⟨rfl, fun _ h => absurd h List.not_mem_nil⟩⟩⟩⟩⟩⟩⟩) ?_
          exact q
        refine xS_call (q := 240) (n := 2) (kq := 1) (as := [xa 302, xi 0]) (st1 := [xi x5]) rfl rfl rfl rfl rfl rfl rfl rfl rfl rfl (fun _ => xw_rcv1 (t := 7) (xw_obd (by decide +kernel)) rfl) rfl (List.forall_mem_cons.mpr ⟨rfl, List.forall_mem_cons.mpr ⟨rfl, fun _ h => absurd h List.not_mem_nil⟩⟩) (ygf240 hB _ _ rfl) (fun v4 m4 cv4 => ?_)
        refine xS_of (pc' := 18) (L' := [(0, xa 302), (1, xa x1), (2, xa x2), (3, xi x3), (4, xi (w32 (x4 + (xR m4 302 8)))), (5, xi (w32 (x5 + v4))), (6, xi v1), (7, xi (w32 (x7 + 1)))]) (st' := []) (m' := m4) (fun ex ns r q => ?_) ?_
        · refine xw_iadd rfl ?_
          refine xw_cst (st' := [xi (w32 (x5 + v4))]) (xw_sc (xi_c rfl) rfl) ?_
          refine xw_istore (L' := [(5, xi (w32 (x5 + v4))), (0, xa 302), (1, xa x1), (2, xa x2), (3, xi x3), (4, xi x4), (6, xi v1), (7, xi x7)]) rfl (by decide) rfl ?_
          refine xw_iload rfl rfl ?_
          refine xw_aload_n rfl rfl rfl ?_
          refine xw_gfIc (v := (m4 302 8)) (v' := (xR m4 302 8)) rfl (xw_obd (by decide +kernel)) xk7_8 (qi := 8) rfl rfl rfl ?_
          refine xw_iadd rfl ?_
          refine xw_cst (st' := [xi (w32 (x4 + (xR m4 302 8)))]) (xw_sc (xi_c rfl) rfl) ?_
          refine xw_istore (L' := [(4, xi (w32 (x4 + (xR m4 302 8)))), (5, xi (w32 (x5 + v4))), (0, xa 302), (1, xa x1), (2, xa x2), (3, xi x3), (6, xi v1), (7, xi x7)]) rfl (by decide) rfl ?_
          refine xw_iincc (z := (w32 (x7 + 1))) (L' := [(7, xi (w32 (x7 + 1))), (4, xi (w32 (x4 + (xR m4 302 8)))), (5, xi (w32 (x5 + v4))), (0, xa 302), (1, xa x1), (2, xa x2), (3, xi x3), (6, xi v1)]) rfl rfl (by decide) rfl rfl ?_
          refine xw_goto rfl ?_
          refine xw_lo (L2 := [(0, xa 302), (1, xa x1), (2, xa x2), (3, xi x3), (4, xi (w32 (x4 + (xR m4 302 8)))), (5, xi (w32 (x5 + v4))), (6, xi v1), (7, xi (w32 (x7 + 1)))]) (List.forall_mem_cons.mpr ⟨rfl, List.forall_mem_cons.mpr ⟨rfl, List.forall_mem_cons.mpr ⟨rfl, List.forall_mem_cons.mpr ⟨rfl, List.forall_mem_cons.mpr ⟨rfl, List.forall_mem_cons.mpr ⟨rfl, List.forall_mem_cons.mpr ⟨rfl, List.forall_mem_cons.mpr ⟨rfl, fun _ h => absurd h List.not_mem_nil⟩⟩⟩⟩⟩⟩⟩⟩) ?_
          exact q
        exact hr18 _ _ _ _ _ _ _ _ c3 (w32_w _) (w32_w _) cv1 (w32_w _)
    · refine xS_of (pc' := 90) (L' := [(3, xi x3), (4, xi x4), (5, xi x5)]) (st' := []) (m' := m) (fun ex ns r q => ?_) ?_
      · refine xw_ic_geT rfl (w32_cg c6) (w32_cg (w32_xR _ _ _)) (Int.not_lt.mp h2) ?_
        refine xw_lo (L2 := [(3, xi x3), (4, xi x4), (5, xi x5)]) (List.forall_mem_cons.mpr ⟨rfl, List.forall_mem_cons.mpr ⟨rfl, List.forall_mem_cons.mpr ⟨rfl, fun _ h => absurd h List.not_mem_nil⟩⟩⟩) ?_
        exact q
      exact ygk239_90 hB _ _ _ _ c3 c4 c5
  · refine xS_of (pc' := 90) (L' := [(3, xi x3), (4, xi x4), (5, xi x5)]) (st' := []) (m' := m) (fun ex ns r q => ?_) ?_
    · refine xw_ic_geT rfl (w32_cg c7) (w32_cg rfl) (Int.not_lt.mp h0) ?_
      refine xw_lo (L2 := [(3, xi x3), (4, xi x4), (5, xi x5)]) (List.forall_mem_cons.mpr ⟨rfl, List.forall_mem_cons.mpr ⟨rfl, List.forall_mem_cons.mpr ⟨rfl, fun _ h => absurd h List.not_mem_nil⟩⟩⟩) ?_
      exact q
    exact ygk239_90 hB _ _ _ _ c3 c4 c5
theorem ygl239_18 {B : Nat} (hB : B ≤ 512) {xs : Nat → Int32} {SL d : Nat} : ∀ n x1 x2 x3 x4 x5 x6 x7 m, w32 x3 = x3 → w32 x4 = x4 → w32 x5 = x5 → w32 x6 = x6 → w32 x7 = x7 → xS B xs SL (d + 6) 239 (8, (some .int), [], 8) 1 18 [(0, xa 302), (1, xa x1), (2, xa x2), (3, xi x3), (4, xi x4), (5, xi x5), (6, xi x6), (7, xi x7)] [] m (xl7 (yl239_18 B) n x1 x2 x3 x4 x5 x6 x7 m) := by
  intro n
  induction n with
  | zero => intro x1 x2 x3 x4 x5 x6 x7 m c3 c4 c5 c6 c7; exact xS_none
  | succ n ih => exact ysl239_18 hB ih
theorem ygf239 {B : Nat} (hB : B ≤ 512) {xs : Nat → Int32} {SL d : Nat} : ∀ p0 p1 m, xS B xs SL (d + 6) 239 (8, (some .int), [], 8) 1 0 [(0, xa 302), (1, xa p0), (2, xa p1)] [] m (yf239 B p0 p1 m) := by
  intro p0 p1 m
  unfold yf239
  refine xS_of (pc' := 2) (L' := [(0, xa 302), (1, xa p0), (2, xa p1)]) (st' := [xa p1, xa 302]) (m' := m) (fun ex ns r q => ?_) ?_
  · refine xw_aload_n rfl rfl rfl ?_
    refine xw_aload_n rfl rfl rfl ?_
    refine xw_lo (L2 := [(0, xa 302), (1, xa p0), (2, xa p1)]) (List.forall_mem_cons.mpr ⟨rfl, List.forall_mem_cons.mpr ⟨rfl, List.forall_mem_cons.mpr ⟨rfl, fun _ h => absurd h List.not_mem_nil⟩⟩⟩) ?_
    exact q
  refine xS_call (q := 107) (n := 2) (kq := 1) (as := [xa 302, xa p1]) (st1 := []) rfl rfl rfl rfl rfl rfl rfl rfl rfl rfl (fun _ => xw_rcv1 (t := 7) (xw_obd (by decide +kernel)) rfl) rfl (List.forall_mem_cons.mpr ⟨rfl, List.forall_mem_cons.mpr ⟨rfl, fun _ h => absurd h List.not_mem_nil⟩⟩) (ygf107 hB _ _) (fun v1 m1 cv1 => ?_)
  refine xS_of (pc' := 18) (L' := [(0, xa 302), (1, xa p0), (2, xa p1), (3, xi v1), (4, xi 0), (5, xi 0), (6, xi 0), (7, xi 0)]) (st' := []) (m' := m1) (fun ex ns r q => ?_) ?_
  · refine xw_istore_n (L' := [(3, xi v1), (0, xa 302), (1, xa p0), (2, xa p1)]) rfl (by decide) rfl ?_
    refine xw_iconst rfl ?_
    refine xw_istore (L' := [(4, xi 0), (3, xi v1), (0, xa 302), (1, xa p0), (2, xa p1)]) rfl (by decide) rfl ?_
    refine xw_iconst rfl ?_
    refine xw_istore (L' := [(5, xi 0), (4, xi 0), (3, xi v1), (0, xa 302), (1, xa p0), (2, xa p1)]) rfl (by decide) rfl ?_
    refine xw_iconst rfl ?_
    refine xw_istore (L' := [(6, xi 0), (5, xi 0), (4, xi 0), (3, xi v1), (0, xa 302), (1, xa p0), (2, xa p1)]) rfl (by decide) rfl ?_
    refine xw_iconst rfl ?_
    refine xw_istore (L' := [(7, xi 0), (6, xi 0), (5, xi 0), (4, xi 0), (3, xi v1), (0, xa 302), (1, xa p0), (2, xa p1)]) rfl (by decide) rfl ?_
    refine xw_lo (L2 := [(0, xa 302), (1, xa p0), (2, xa p1), (3, xi v1), (4, xi 0), (5, xi 0), (6, xi 0), (7, xi 0)]) (List.forall_mem_cons.mpr ⟨rfl, List.forall_mem_cons.mpr ⟨rfl, List.forall_mem_cons.mpr ⟨rfl, List.forall_mem_cons.mpr ⟨rfl, List.forall_mem_cons.mpr ⟨rfl, List.forall_mem_cons.mpr ⟨rfl, List.forall_mem_cons.mpr ⟨rfl, List.forall_mem_cons.mpr ⟨rfl, fun _ h => absurd h List.not_mem_nil⟩⟩⟩⟩⟩⟩⟩⟩) ?_
    exact q
  exact ygl239_18 hB 1000000 _ _ _ _ _ _ _ _ cv1 rfl rfl rfl rfl
theorem ysl238_69 {B : Nat} (hB : B ≤ 512) {xs : Nat → Int32} {SL d : Nat} {r69 : Int → Int → Int → xw_M → xP} (hr69 : ∀ x2 x3 x4 m, w32 x3 = x3 → w32 x4 = x4 → xS B xs SL (d + 8) 238 (5, (some .int), [], 1) 1 69 [(0, xa 0), (2, xa x2), (3, xi x3), (4, xi x4)] [] m (r69 x2 x3 x4 m)) : ∀ x2 x3 x4 m, w32 x3 = x3 → w32 x4 = x4 → xS B xs SL (d + 8) 238 (5, (some .int), [], 1) 1 69 [(0, xa 0), (2, xa x2), (3, xi x3), (4, xi x4)] [] m (yl238_69 B r69 x2 x3 x4 m) := by
  intro x2 x3 x4 m c3 c4
  unfold yl238_69
  refine xS_of (pc' := 78) (L' := [(0, xa 0), (2, xa x2), (3, xi x3), (4, xi x4)]) (st' := [xi (xR m 508 11), xi x4]) (m' := m) (fun ex ns r q => ?_) ?_
  · refine xw_iload rfl rfl ?_
    refine xw_aload_n rfl rfl rfl ?_
    refine xw_gfR (n := 508) (e := 508) rfl (xw_obd (by decide +kernel)) (by decide +kernel) (by decide +kernel) rfl ?_
    refine xw_gfIc (v := (m 508 11)) (v' := (xR m 508 11)) rfl (xw_obd (by decide +kernel)) xk10_11 (qi := 11) rfl rfl rfl ?_
    exact q
  refine xS_if (fun h0 => ?_) (fun h0 => ?_)
  · refine xS_g (fun g1 => ?_)
    refine xS_of (pc' := 95) (L' := [(0, xa 0), (2, xa x2), (3, xi x3), (4, xi x4)]) (st' := [xi (xR m 511 x4), xa 302]) (m' := m) (fun ex ns r q => ?_) ?_
    · refine xw_ic_geF rfl (w32_cg c4) (w32_cg (w32_xR _ _ _)) (Int.not_le.mpr h0) ?_
      refine xw_aload_n rfl rfl rfl ?_
      refine xw_gfR (n := 302) (e := 302) rfl (xw_obd (by decide +kernel)) (by decide +kernel) (by decide +kernel) rfl ?_
      refine xw_aload_n rfl rfl rfl ?_
      refine xw_gfR (n := 508) (e := 508) rfl (xw_obd (by decide +kernel)) (by decide +kernel) (by decide +kernel) rfl ?_
      refine xw_gfR (n := 511) (e := 511) rfl (xw_obd (by decide +kernel)) (by decide +kernel) (by decide +kernel) rfl ?_
      refine xw_iload rfl rfl ?_
      refine xw_ialdc (n := 16) (v := (m 511 x4)) (v' := (xR m 511 x4)) rfl hB (xw_obd (by decide +kernel)) rfl g1 rfl rfl ?_
      refine xw_lo (L2 := [(0, xa 0), (2, xa x2), (3, xi x3), (4, xi x4)]) (List.forall_mem_cons.mpr ⟨rfl, List.forall_mem_cons.mpr ⟨rfl, List.forall_mem_cons.mpr ⟨rfl, List.forall_mem_cons.mpr ⟨rfl, fun _ h => absurd h List.not_mem_nil⟩⟩⟩⟩) ?_
      exact q
    refine xS_call (q := 109) (n := 2) (kq := 0) (as := [xa 302, xi (xR m 511 x4)]) (st1 := []) rfl rfl rfl rfl rfl rfl rfl rfl rfl rfl (fun _ => xw_rcv1 (t := 7) (xw_obd (by decide +kernel)) rfl) rfl (List.forall_mem_cons.mpr ⟨rfl, List.forall_mem_cons.mpr ⟨rfl, fun _ h => absurd h List.not_mem_nil⟩⟩) (ygf109 hB _ _ (w32_xR _ _ _)) (fun v1 m1 cv1 => ?_)
    refine xS_of (pc' := 106) (L' := [(0, xa 0), (2, xa x2), (3, xi x3), (4, xi x4)]) (st' := [xa 395, xa 302]) (m' := m1) (fun ex ns r q => ?_) ?_
    · refine xw_aload_n rfl rfl rfl ?_
      refine xw_gfR (n := 302) (e := 302) rfl (xw_obd (by decide +kernel)) (by decide +kernel) (by decide +kernel) rfl ?_
      refine xw_aload_n rfl rfl rfl ?_
      refine xw_gfR (n := 395) (e := 395) rfl (xw_obd (by decide +kernel)) (by decide +kernel) (by decide +kernel) rfl ?_
      refine xw_lo (L2 := [(0, xa 0), (2, xa x2), (3, xi x3), (4, xi x4)]) (List.forall_mem_cons.mpr ⟨rfl, List.forall_mem_cons.mpr ⟨rfl, List.forall_mem_cons.mpr ⟨rfl, List.forall_mem_cons.mpr ⟨rfl, fun _ h => absurd h List.not_mem_nil⟩⟩⟩⟩) ?_
      exact q
    refine xS_call (q := 180) (n := 2) (kq := 0) (as := [xa 302, xa 395]) (st1 := []) rfl rfl rfl rfl rfl rfl rfl rfl rfl rfl (fun _ => xw_rcv1 (t := 7) (xw_obd (by decide +kernel)) rfl) rfl (List.forall_mem_cons.mpr ⟨rfl, List.forall_mem_cons.mpr ⟨rfl, fun _ h => absurd h List.not_mem_nil⟩⟩) (ygf180 hB _ _) (fun v2 m2 cv2 => ?_)
    refine xS_of (pc' := 119) (L' := [(0, xa 0), (2, xa x2), (4, xi x4)]) (st' := [xa x2, xa 395, xa 302, xi x3]) (m' := m2) (fun ex ns r q => ?_) ?_
    · refine xw_iload_n rfl rfl ?_
      refine xw_aload_n rfl rfl rfl ?_
      refine xw_gfR (n := 302) (e := 302) rfl (xw_obd (by decide +kernel)) (by decide +kernel) (by decide +kernel) rfl ?_
      refine xw_aload_n rfl rfl rfl ?_
      refine xw_gfR (n := 395) (e := 395) rfl (xw_obd (by decide +kernel)) (by decide +kernel) (by decide +kernel) rfl ?_
      refine xw_aload_n rfl rfl rfl ?_
      refine xw_lo (L2 := [(0, xa 0), (2, xa x2), (4, xi x4)]) (List.forall_mem_cons.mpr ⟨rfl, List.forall_mem_cons.mpr ⟨rfl, List.forall_mem_cons.mpr ⟨rfl, fun _ h => absurd h List.not_mem_nil⟩⟩⟩) ?_
      exact q
    refine xS_call (q := 239) (n := 3) (kq := 1) (as := [xa 302, xa 395, xa x2]) (st1 := [xi x3]) rfl rfl rfl rfl rfl rfl rfl rfl rfl rfl (fun _ => xw_rcv1 (t := 7) (xw_obd (by decide +kernel)) rfl) rfl (List.forall_mem_cons.mpr ⟨rfl, List.forall_mem_cons.mpr ⟨rfl, List.forall_mem_cons.mpr ⟨rfl, fun _ h => absurd h List.not_mem_nil⟩⟩⟩) (ygf239 hB _ _ _) (fun v3 m3 cv3 => ?_)
    refine xS_of (pc' := 69) (L' := [(0, xa 0), (2, xa x2), (3, xi (w32 (x3 + v3))), (4, xi (w32 (x4 + 1)))]) (st' := []) (m' := m3) (fun ex ns r q => ?_) ?_
    · refine xw_iadd rfl ?_
      refine xw_cst (st' := [xi (w32 (x3 + v3))]) (xw_sc (xi_c rfl) rfl) ?_
      refine xw_istore_n (L' := [(3, xi (w32 (x3 + v3))), (0, xa 0), (2, xa x2), (4, xi x4)]) rfl (by decide) rfl ?_
      refine xw_iincc (z := (w32 (x4 + 1))) (L' := [(4, xi (w32 (x4 + 1))), (3, xi (w32 (x3 + v3))), (0, xa 0), (2, xa x2)]) rfl rfl (by decide) rfl rfl ?_
      refine xw_goto rfl ?_
      refine xw_lo (L2 := [(0, xa 0), (2, xa x2), (3, xi (w32 (x3 + v3))), (4, xi (w32 (x4 + 1)))]) (List.forall_mem_cons.mpr ⟨rfl, List.forall_mem_cons.mpr ⟨rfl, List.forall_mem_cons.mpr ⟨rfl, List.forall_mem_cons.mpr ⟨rfl, fun _ h => absurd h List.not_mem_nil⟩⟩⟩⟩) ?_
      exact q
    exact hr69 _ _ _ _ (w32_w _) (w32_w _)
  · refine xS_of (pc' := 131) (L' := [(0, xa 0), (2, xa x2), (3, xi x3), (4, xi x4)]) (st' := [xi x3]) (m' := m) (fun ex ns r q => ?_) ?_
    · refine xw_ic_geT rfl (w32_cg c4) (w32_cg (w32_xR _ _ _)) (Int.not_lt.mp h0) ?_
      refine xw_iload_n rfl rfl ?_
      exact q
    exact xS_ret (v := x3) rfl rfl xw_rtI c3
theorem ygl238_69 {B : Nat} (hB : B ≤ 512) {xs : Nat → Int32} {SL d : Nat} : ∀ n x2 x3 x4 m, w32 x3 = x3 → w32 x4 = x4 → xS B xs SL (d + 8) 238 (5, (some .int), [], 1) 1 69 [(0, xa 0), (2, xa x2), (3, xi x3), (4, xi x4)] [] m (xl3 (yl238_69 B) n x2 x3 x4 m) := by
  intro n
  induction n with
  | zero => intro x2 x3 x4 m c3 c4; exact xS_none
  | succ n ih => exact ysl238_69 hB ih
theorem ygf238 {B : Nat} (hB : B ≤ 512) {xs : Nat → Int32} {SL d : Nat} : ∀ p0 m, w32 p0 = p0 → xS B xs SL (d + 8) 238 (5, (some .int), [], 1) 1 0 [(0, xa 0), (1, xi p0)] [] m (yf238 B p0 m) := by
  intro p0 m cp0
  unfold yf238
  refine xS_of (pc' := 5) (L' := [(0, xa 0), (1, xi p0)]) (st' := [xi p0, xa 508]) (m' := m) (fun ex ns r q => ?_) ?_
  · refine xw_aload_n rfl rfl rfl ?_
    refine xw_gfR (n := 508) (e := 508) rfl (xw_obd (by decide +kernel)) (by decide +kernel) (by decide +kernel) rfl ?_
    refine xw_iload_n rfl rfl ?_
    refine xw_lo (L2 := [(0, xa 0), (1, xi p0)]) (List.forall_mem_cons.mpr ⟨rfl, List.forall_mem_cons.mpr ⟨rfl, fun _ h => absurd h List.not_mem_nil⟩⟩) ?_
    exact q
  refine xS_call (q := 103) (n := 2) (kq := 4) (as := [xa 508, xi p0]) (st1 := []) rfl rfl rfl rfl rfl rfl rfl rfl rfl rfl (fun _ => xw_rcv1 (t := 10) (xw_obd (by decide +kernel)) rfl) rfl (List.forall_mem_cons.mpr ⟨rfl, List.forall_mem_cons.mpr ⟨rfl, fun _ h => absurd h List.not_mem_nil⟩⟩) (ygf103 hB _ _ cp0) (fun v1 m1 cv1 => ?_)
  refine xS_if (fun h0 => ?_) (fun h0 => ?_)
  · refine xS_of (pc' := 52) (L' := [(0, xa 0), (1, xi p0)]) (st' := [xi p0, xa 0]) (m' := m1) (fun ex ns r q => ?_) ?_
    · refine xw_if_eqT rfl (w32_cg (w32_of (xw_zr cv1))) h0 ?_
      refine xw_aload_n rfl rfl rfl ?_
      refine xw_iload_n rfl rfl ?_
      refine xw_lo (L2 := [(0, xa 0), (1, xi p0)]) (List.forall_mem_cons.mpr ⟨rfl, List.forall_mem_cons.mpr ⟨rfl, fun _ h => absurd h List.not_mem_nil⟩⟩) ?_
      exact q
    refine xS_call (q := 210) (n := 2) (kq := 0) (as := [xa 0, xi p0]) (st1 := []) rfl rfl rfl rfl rfl rfl rfl rfl rfl rfl (fun _ => xw_rcv1 (t := 0) (xw_obd (by decide +kernel)) rfl) rfl (List.forall_mem_cons.mpr ⟨rfl, List.forall_mem_cons.mpr ⟨rfl, fun _ h => absurd h List.not_mem_nil⟩⟩) (ygf210 hB _ _ cp0) (fun v2 m2 cv2 => ?_)
    refine xS_of (pc' := 60) (L' := [(0, xa 0)]) (st' := [xi p0, xa 508]) (m' := m2) (fun ex ns r q => ?_) ?_
    · refine xw_aload_n rfl rfl rfl ?_
      refine xw_gfR (n := 508) (e := 508) rfl (xw_obd (by decide +kernel)) (by decide +kernel) (by decide +kernel) rfl ?_
      refine xw_iload_n rfl rfl ?_
      refine xw_lo (L2 := [(0, xa 0)]) (List.forall_mem_cons.mpr ⟨rfl, fun _ h => absurd h List.not_mem_nil⟩) ?_
      exact q
    refine xS_call (q := 22) (n := 2) (kq := 3) (as := [xa 508, xi p0]) (st1 := []) rfl rfl rfl rfl rfl rfl rfl rfl rfl rfl (fun _ => xw_rcv1 (t := 10) (xw_obd (by decide +kernel)) rfl) rfl (List.forall_mem_cons.mpr ⟨rfl, List.forall_mem_cons.mpr ⟨rfl, fun _ h => absurd h List.not_mem_nil⟩⟩) (ygf22 hB _ _ cp0) (fun v3 m3 cv3 => ?_)
    refine xS_of (pc' := 69) (L' := [(0, xa 0), (2, xa v3), (3, xi 0), (4, xi 0)]) (st' := []) (m' := m3) (fun ex ns r q => ?_) ?_
    · refine xw_astore_n (L' := [(2, xa v3), (0, xa 0)]) rfl rfl (by decide) rfl ?_
      refine xw_iconst rfl ?_
      refine xw_istore_n (L' := [(3, xi 0), (2, xa v3), (0, xa 0)]) rfl (by decide) rfl ?_
      refine xw_iconst rfl ?_
      refine xw_istore (L' := [(4, xi 0), (3, xi 0), (2, xa v3), (0, xa 0)]) rfl (by decide) rfl ?_
      refine xw_lo (L2 := [(0, xa 0), (2, xa v3), (3, xi 0), (4, xi 0)]) (List.forall_mem_cons.mpr ⟨rfl, List.forall_mem_cons.mpr ⟨rfl, List.forall_mem_cons.mpr ⟨rfl, List.forall_mem_cons.mpr ⟨rfl, fun _ h => absurd h List.not_mem_nil⟩⟩⟩⟩) ?_
      exact q
    exact ygl238_69 hB 1000000 _ _ _ _ rfl rfl
  · refine xS_of (pc' := 23) (L' := [(0, xa 0), (1, xi p0)]) (st' := [xa 302]) (m' := (xw_u m1 395 5 0)) (fun ex ns r q => ?_) ?_
    · refine xw_if_eqF rfl (w32_cg (w32_of (xw_zr cv1))) h0 ?_
      refine xw_aload_n rfl rfl rfl ?_
      refine xw_gfR (n := 395) (e := 395) rfl (xw_obd (by decide +kernel)) (by decide +kernel) (by decide +kernel) rfl ?_
      refine xw_iconst rfl ?_
      refine xw_pfI rfl (xw_obd (by decide +kernel)) xk8_5 (qi := 5) rfl (xw_okI rfl) ?_
      refine xw_aload_n rfl rfl rfl ?_
      refine xw_gfR (n := 302) (e := 302) rfl (xw_obd (by decide +kernel)) (by decide +kernel) (by decide +kernel) rfl ?_
      refine xw_lo (L2 := [(0, xa 0), (1, xi p0)]) (List.forall_mem_cons.mpr ⟨rfl, List.forall_mem_cons.mpr ⟨rfl, fun _ h => absurd h List.not_mem_nil⟩⟩) ?_
      exact q
    refine xS_call (q := 105) (n := 1) (kq := 0) (as := [xa 302]) (st1 := []) rfl rfl rfl rfl rfl rfl rfl rfl rfl rfl (fun _ => xw_rcv1 (t := 7) (xw_obd (by decide +kernel)) rfl) rfl (List.forall_mem_cons.mpr ⟨rfl, fun _ h => absurd h List.not_mem_nil⟩) (ygf105 hB _) (fun v4 m4 cv4 => ?_)
    refine xS_of (pc' := 31) (L' := [(0, xa 0)]) (st' := [xi p0, xa 508]) (m' := m4) (fun ex ns r q => ?_) ?_
    · refine xw_aload_n rfl rfl rfl ?_
      refine xw_gfR (n := 508) (e := 508) rfl (xw_obd (by decide +kernel)) (by decide +kernel) (by decide +kernel) rfl ?_
      refine xw_iload_n rfl rfl ?_
      refine xw_lo (L2 := [(0, xa 0)]) (List.forall_mem_cons.mpr ⟨rfl, fun _ h => absurd h List.not_mem_nil⟩) ?_
      exact q
    refine xS_call (q := 22) (n := 2) (kq := 3) (as := [xa 508, xi p0]) (st1 := []) rfl rfl rfl rfl rfl rfl rfl rfl rfl rfl (fun _ => xw_rcv1 (t := 10) (xw_obd (by decide +kernel)) rfl) rfl (List.forall_mem_cons.mpr ⟨rfl, List.forall_mem_cons.mpr ⟨rfl, fun _ h => absurd h List.not_mem_nil⟩⟩) (ygf22 hB _ _ cp0) (fun v5 m5 cv5 => ?_)
    refine xS_of (pc' := 44) (L' := [(0, xa 0), (2, xa v5)]) (st' := [xa 395, xa v5, xa 302]) (m' := m5) (fun ex ns r q => ?_) ?_
    · refine xw_astore_n (L' := [(2, xa v5), (0, xa 0)]) rfl rfl (by decide) rfl ?_
      refine xw_aload_n rfl rfl rfl ?_
      refine xw_gfR (n := 302) (e := 302) rfl (xw_obd (by decide +kernel)) (by decide +kernel) (by decide +kernel) rfl ?_
      refine xw_aload_n rfl rfl rfl ?_
      refine xw_aload_n rfl rfl rfl ?_
      refine xw_gfR (n := 395) (e := 395) rfl (xw_obd (by decide +kernel)) (by decide +kernel) (by decide +kernel) rfl ?_
      refine xw_lo (L2 := [(0, xa 0), (2, xa v5)]) (List.forall_mem_cons.mpr ⟨rfl, List.forall_mem_cons.mpr ⟨rfl, fun _ h => absurd h List.not_mem_nil⟩⟩) ?_
      exact q
    refine xS_call (q := 211) (n := 3) (kq := 0) (as := [xa 302, xa v5, xa 395]) (st1 := []) rfl rfl rfl rfl rfl rfl rfl rfl rfl rfl (fun _ => xw_rcv1 (t := 7) (xw_obd (by decide +kernel)) rfl) rfl (List.forall_mem_cons.mpr ⟨rfl, List.forall_mem_cons.mpr ⟨rfl, List.forall_mem_cons.mpr ⟨rfl, fun _ h => absurd h List.not_mem_nil⟩⟩⟩) (ygf211 hB _ _ _) (fun v6 m6 cv6 => ?_)
    refine xS_of (pc' := 69) (L' := [(0, xa 0), (2, xa v5), (3, xi 0), (4, xi 0)]) (st' := []) (m' := m6) (fun ex ns r q => ?_) ?_
    · refine xw_goto rfl ?_
      refine xw_iconst rfl ?_
      refine xw_istore_n (L' := [(3, xi 0), (0, xa 0), (2, xa v5)]) rfl (by decide) rfl ?_
      refine xw_iconst rfl ?_
      refine xw_istore (L' := [(4, xi 0), (3, xi 0), (0, xa 0), (2, xa v5)]) rfl (by decide) rfl ?_
      refine xw_lo (L2 := [(0, xa 0), (2, xa v5), (3, xi 0), (4, xi 0)]) (List.forall_mem_cons.mpr ⟨rfl, List.forall_mem_cons.mpr ⟨rfl, List.forall_mem_cons.mpr ⟨rfl, List.forall_mem_cons.mpr ⟨rfl, fun _ h => absurd h List.not_mem_nil⟩⟩⟩⟩) ?_
      exact q
    exact ygl238_69 hB 1000000 _ _ _ _ rfl rfl
theorem ysl236_20 {B : Nat} (hB : B ≤ 512) {xs : Nat → Int32} {SL d : Nat} {r20 : Int → Int → xw_M → xP} (hr20 : ∀ x1 x2 m, w32 x1 = x1 → w32 x2 = x2 → xS B xs SL (d + 9) 236 (3, (some .int), [], 1) 1 20 [(0, xa 0), (1, xi x1), (2, xi x2)] [] m (r20 x1 x2 m)) : ∀ x1 x2 m, w32 x1 = x1 → w32 x2 = x2 → xS B xs SL (d + 9) 236 (3, (some .int), [], 1) 1 20 [(0, xa 0), (1, xi x1), (2, xi x2)] [] m (yl236_20 B r20 x1 x2 m) := by
  intro x1 x2 m c1 c2
  unfold yl236_20
  refine xS_of (pc' := 28) (L' := [(0, xa 0), (1, xi x1), (2, xi x2)]) (st' := [xi (xR m 508 14), xi x2]) (m' := m) (fun ex ns r q => ?_) ?_
  · refine xw_iload_n rfl rfl ?_
    refine xw_aload_n rfl rfl rfl ?_
    refine xw_gfR (n := 508) (e := 508) rfl (xw_obd (by decide +kernel)) (by decide +kernel) (by decide +kernel) rfl ?_
    refine xw_gfIc (v := (m 508 14)) (v' := (xR m 508 14)) rfl (xw_obd (by decide +kernel)) xk10_14 (qi := 14) rfl rfl rfl ?_
    exact q
  refine xS_if (fun h0 => ?_) (fun h0 => ?_)
  · refine xS_of (pc' := 34) (L' := [(0, xa 0), (2, xi x2)]) (st' := [xi x2, xa 0, xi x1]) (m' := m) (fun ex ns r q => ?_) ?_
    · refine xw_ic_geF rfl (w32_cg c2) (w32_cg (w32_xR _ _ _)) (Int.not_le.mpr h0) ?_
      refine xw_iload_n rfl rfl ?_
      refine xw_aload_n rfl rfl rfl ?_
      refine xw_iload_n rfl rfl ?_
      refine xw_lo (L2 := [(0, xa 0), (2, xi x2)]) (List.forall_mem_cons.mpr ⟨rfl, List.forall_mem_cons.mpr ⟨rfl, fun _ h => absurd h List.not_mem_nil⟩⟩) ?_
      exact q
    refine xS_call (q := 238) (n := 2) (kq := 1) (as := [xa 0, xi x2]) (st1 := [xi x1]) rfl rfl rfl rfl rfl rfl rfl rfl rfl rfl (fun _ => xw_rcv1 (t := 0) (xw_obd (by decide +kernel)) rfl) rfl (List.forall_mem_cons.mpr ⟨rfl, List.forall_mem_cons.mpr ⟨rfl, fun _ h => absurd h List.not_mem_nil⟩⟩) (ygf238 hB _ _ c2) (fun v1 m1 cv1 => ?_)
    refine xS_of (pc' := 20) (L' := [(0, xa 0), (1, xi (w32 (x1 + v1))), (2, xi (w32 (x2 + 1)))]) (st' := []) (m' := m1) (fun ex ns r q => ?_) ?_
    · refine xw_iadd rfl ?_
      refine xw_cst (st' := [xi (w32 (x1 + v1))]) (xw_sc (xi_c rfl) rfl) ?_
      refine xw_istore_n (L' := [(1, xi (w32 (x1 + v1))), (0, xa 0), (2, xi x2)]) rfl (by decide) rfl ?_
      refine xw_iincc (z := (w32 (x2 + 1))) (L' := [(2, xi (w32 (x2 + 1))), (1, xi (w32 (x1 + v1))), (0, xa 0)]) rfl rfl (by decide) rfl rfl ?_
      refine xw_goto rfl ?_
      refine xw_lo (L2 := [(0, xa 0), (1, xi (w32 (x1 + v1))), (2, xi (w32 (x2 + 1)))]) (List.forall_mem_cons.mpr ⟨rfl, List.forall_mem_cons.mpr ⟨rfl, List.forall_mem_cons.mpr ⟨rfl, fun _ h => absurd h List.not_mem_nil⟩⟩⟩) ?_
      exact q
    exact hr20 _ _ _ (w32_w _) (w32_w _)
  · refine xS_of (pc' := 46) (L' := [(0, xa 0), (1, xi x1), (2, xi x2)]) (st' := [xi x1]) (m' := m) (fun ex ns r q => ?_) ?_
    · refine xw_ic_geT rfl (w32_cg c2) (w32_cg (w32_xR _ _ _)) (Int.not_lt.mp h0) ?_
      refine xw_iload_n rfl rfl ?_
      exact q
    exact xS_ret (v := x1) rfl rfl xw_rtI c1
theorem ygl236_20 {B : Nat} (hB : B ≤ 512) {xs : Nat → Int32} {SL d : Nat} : ∀ n x1 x2 m, w32 x1 = x1 → w32 x2 = x2 → xS B xs SL (d + 9) 236 (3, (some .int), [], 1) 1 20 [(0, xa 0), (1, xi x1), (2, xi x2)] [] m (xl2 (yl236_20 B) n x1 x2 m) := by
  intro n
  induction n with
  | zero => intro x1 x2 m c1 c2; exact xS_none
  | succ n ih => exact ysl236_20 hB ih
theorem ygf236 {B : Nat} (hB : B ≤ 512) {xs : Nat → Int32} {SL d : Nat} : ∀ m, xS B xs SL (d + 9) 236 (3, (some .int), [], 1) 1 0 [(0, xa 0)] [] m (yf236 B m) := by
  intro m
  unfold yf236
  refine xS_of (pc' := 1) (L' := [(0, xa 0)]) (st' := [xa 0]) (m' := m) (fun ex ns r q => ?_) ?_
  · refine xw_aload_n rfl rfl rfl ?_
    refine xw_lo (L2 := [(0, xa 0)]) (List.forall_mem_cons.mpr ⟨rfl, fun _ h => absurd h List.not_mem_nil⟩) ?_
    exact q
  refine xS_call (q := 166) (n := 1) (kq := 0) (as := [xa 0]) (st1 := []) rfl rfl rfl rfl rfl rfl rfl rfl rfl rfl (fun _ => xw_rcv1 (t := 0) (xw_obd (by decide +kernel)) rfl) rfl (List.forall_mem_cons.mpr ⟨rfl, fun _ h => absurd h List.not_mem_nil⟩) (ygf166 hB _) (fun v1 m1 cv1 => ?_)
  refine xS_of (pc' := 8) (L' := [(0, xa 0)]) (st' := [xa 508]) (m' := m1) (fun ex ns r q => ?_) ?_
  · refine xw_aload_n rfl rfl rfl ?_
    refine xw_gfR (n := 508) (e := 508) rfl (xw_obd (by decide +kernel)) (by decide +kernel) (by decide +kernel) rfl ?_
    refine xw_lo (L2 := [(0, xa 0)]) (List.forall_mem_cons.mpr ⟨rfl, fun _ h => absurd h List.not_mem_nil⟩) ?_
    exact q
  refine xS_call (q := 237) (n := 1) (kq := 1) (as := [xa 508]) (st1 := []) rfl rfl rfl rfl rfl rfl rfl rfl rfl rfl (fun _ => xw_rcv1 (t := 10) (xw_obd (by decide +kernel)) rfl) rfl (List.forall_mem_cons.mpr ⟨rfl, fun _ h => absurd h List.not_mem_nil⟩) (ygf237 hB _) (fun v2 m2 cv2 => ?_)
  refine xS_of (pc' := 16) (L' := [(0, xa 0), (1, xi v2)]) (st' := [xa 508]) (m' := m2) (fun ex ns r q => ?_) ?_
  · refine xw_istore_n (L' := [(1, xi v2), (0, xa 0)]) rfl (by decide) rfl ?_
    refine xw_aload_n rfl rfl rfl ?_
    refine xw_gfR (n := 508) (e := 508) rfl (xw_obd (by decide +kernel)) (by decide +kernel) (by decide +kernel) rfl ?_
    refine xw_lo (L2 := [(0, xa 0), (1, xi v2)]) (List.forall_mem_cons.mpr ⟨rfl, List.forall_mem_cons.mpr ⟨rfl, fun _ h => absurd h List.not_mem_nil⟩⟩) ?_
    exact q
  refine xS_call (q := 102) (n := 1) (kq := 1) (as := [xa 508]) (st1 := []) rfl rfl rfl rfl rfl rfl rfl rfl rfl rfl (fun _ => xw_rcv1 (t := 10) (xw_obd (by decide +kernel)) rfl) rfl (List.forall_mem_cons.mpr ⟨rfl, fun _ h => absurd h List.not_mem_nil⟩) (ygf102 hB _) (fun v3 m3 cv3 => ?_)
  refine xS_of (pc' := 20) (L' := [(0, xa 0), (1, xi v2), (2, xi v3)]) (st' := []) (m' := m3) (fun ex ns r q => ?_) ?_
  · refine xw_istore_n (L' := [(2, xi v3), (0, xa 0), (1, xi v2)]) rfl (by decide) rfl ?_
    refine xw_lo (L2 := [(0, xa 0), (1, xi v2), (2, xi v3)]) (List.forall_mem_cons.mpr ⟨rfl, List.forall_mem_cons.mpr ⟨rfl, List.forall_mem_cons.mpr ⟨rfl, fun _ h => absurd h List.not_mem_nil⟩⟩⟩) ?_
    exact q
  exact ygl236_20 hB 1000000 _ _ _ cv2 cv3

theorem ygf243 {B : Nat} (hB : B ≤ 512) {xs : Nat → Int32} {SL d : Nat} : ∀ m, xS B xs SL (d + 0) 243 (1, (some .int), [], 13) 1 0 [(0, xa 536)] [] m (yf243 B m) := by
  intro m
  unfold yf243
  refine xS_of (pc' := 4) (L' := [(0, xa 536)]) (st' := [xi (xR m 536 1)]) (m' := m) (fun ex ns r q => ?_) ?_
  · refine xw_aload_n rfl rfl rfl ?_
    refine xw_gfIc (v := (m 536 1)) (v' := (xR m 536 1)) rfl (xw_obd (by decide +kernel)) xk12_1 (qi := 1) rfl rfl rfl ?_
    exact q
  exact xS_ret (v := (xR m 536 1)) rfl rfl xw_rtI (w32_xR _ _ _)
theorem ygf245 {B : Nat} (hB : B ≤ 512) {xs : Nat → Int32} {SL d : Nat} : ∀ p0 m, w32 p0 = p0 → xS B xs SL (d + 0) 245 (2, none, [], 13) 0 0 [(0, xa 536), (1, xi p0)] [] m (yf245 B p0 m) := by
  intro p0 m cp0
  unfold yf245
  refine xS_g (fun g0 => ?_)
  refine xS_g (fun g1 => ?_)
  refine xS_g (fun g2 => ?_)
  refine xS_g (fun g3 => ?_)
  refine xS_of (pc' := 69) (L' := [(0, xa 536), (1, xi p0)]) (st' := []) (m' := (xw_u (xw_u (xw_u (xw_u (xw_u m 537 (xR m 536 5) (w8 (w8 (xw_ishrf p0 24)))) 537 ((xR m 536 5) + 1) (w8 (w8 (xw_ishrf p0 16)))) 537 ((xR m 536 5) + 2) (w8 (w8 (xw_ishrf p0 8)))) 537 ((xR m 536 5) + 3) (w8 (w8 p0))) 536 5 ((xR m 536 5) + 4))) (fun ex ns r q => ?_) ?_
  · refine xw_aload_n rfl rfl rfl ?_
    refine xw_gfR (n := 537) (e := 537) rfl (xw_obd (by decide +kernel)) (by decide +kernel) (by decide +kernel) rfl ?_
    refine xw_aload_n rfl rfl rfl ?_
    refine xw_gfIc (v := (m 536 5)) (v' := (xR m 536 5)) rfl (xw_obd (by decide +kernel)) xk12_5 (qi := 5) rfl rfl rfl ?_
    refine xw_iload_n rfl rfl ?_
    refine xw_bipush (e := 24) rfl (by decide +kernel) ?_
    refine xw_ishr (z := (xw_ishrf p0 24)) rfl (xw_ishre _ _) ?_
    refine xw_i2bc rfl ?_
    refine xw_bastc (n := 65536) rfl hB (xw_obd (by decide +kernel)) rfl g0 ?_
    refine xw_aload_n rfl rfl rfl ?_
    refine xw_gfR (n := 537) (e := 537) rfl (xw_obd (by decide +kernel)) (by decide +kernel) (by decide +kernel) rfl ?_
    refine xw_aload_n rfl rfl rfl ?_
    refine xw_gfIc (v := (m 536 5)) (v' := (xR m 536 5)) rfl (xw_obd (by decide +kernel)) xk12_5 (qi := 5) rfl (xw_un (fun e => absurd e.1 (by decide)) rfl) rfl ?_
    refine xw_iconst rfl ?_
    refine xw_iadd rfl ?_
    refine xw_iload_n rfl rfl ?_
    refine xw_bipush (e := 16) rfl (by decide +kernel) ?_
    refine xw_ishr (z := (xw_ishrf p0 16)) rfl (xw_ishre _ _) ?_
    refine xw_i2bc rfl ?_
    refine xw_bastc (n := 65536) rfl hB (xw_obd (by decide +kernel)) rfl g1 ?_
    refine xw_aload_n rfl rfl rfl ?_
    refine xw_gfR (n := 537) (e := 537) rfl (xw_obd (by decide +kernel)) (by decide +kernel) (by decide +kernel) rfl ?_
    refine xw_aload_n rfl rfl rfl ?_
    refine xw_gfIc (v := (m 536 5)) (v' := (xR m 536 5)) rfl (xw_obd (by decide +kernel)) xk12_5 (qi := 5) rfl (xw_un (fun e => absurd e.1 (by decide)) (xw_un (fun e => absurd e.1 (by decide)) rfl)) rfl ?_
    refine xw_iconst rfl ?_
    refine xw_iadd rfl ?_
    refine xw_iload_n rfl rfl ?_
    refine xw_bipush (e := 8) rfl (by decide +kernel) ?_
    refine xw_ishr (z := (xw_ishrf p0 8)) rfl (xw_ishre _ _) ?_
    refine xw_i2bc rfl ?_
    refine xw_bastc (n := 65536) rfl hB (xw_obd (by decide +kernel)) rfl g2 ?_
    refine xw_aload_n rfl rfl rfl ?_
    refine xw_gfR (n := 537) (e := 537) rfl (xw_obd (by decide +kernel)) (by decide +kernel) (by decide +kernel) rfl ?_
    refine xw_aload_n rfl rfl rfl ?_
    refine xw_gfIc (v := (m 536 5)) (v' := (xR m 536 5)) rfl (xw_obd (by decide +kernel)) xk12_5 (qi := 5) rfl (xw_un (fun e => absurd e.1 (by decide)) (xw_un (fun e => absurd e.1 (by decide)) (xw_un (fun e => absurd e.1 (by decide)) rfl))) rfl ?_
    refine xw_iconst rfl ?_
    refine xw_iadd rfl ?_
    refine xw_iload_n rfl rfl ?_
    refine xw_i2bc rfl ?_
    refine xw_bastc (n := 65536) rfl hB (xw_obd (by decide +kernel)) rfl g3 ?_
    refine xw_aload_n rfl rfl rfl ?_
    refine xw_dup rfl rfl ?_
    refine xw_gfIc (v := (m 536 5)) (v' := (xR m 536 5)) rfl (xw_obd (by decide +kernel)) xk12_5 (qi := 5) rfl (xw_un (fun e => absurd e.1 (by decide)) (xw_un (fun e => absurd e.1 (by decide)) (xw_un (fun e => absurd e.1 (by decide)) (xw_un (fun e => absurd e.1 (by decide)) rfl)))) rfl ?_
    refine xw_iconst rfl ?_
    refine xw_iadd rfl ?_
    refine xw_pfI rfl (xw_obd (by decide +kernel)) xk12_5 (qi := 5) rfl (xw_okI rfl) ?_
    exact q
  exact xS_ret (v := 0) rfl rfl rfl rfl
theorem ygf244 {B : Nat} (hB : B ≤ 512) {xs : Nat → Int32} {SL d : Nat} : ∀ p0 p1 p2 p3 p4 m, w32 p0 = p0 → w32 p1 = p1 → w32 p2 = p2 → w32 p3 = p3 → w32 p4 = p4 → xS B xs SL (d + 1) 244 (6, (some .int), [], 13) 1 0 [(0, xa 536), (1, xi p0), (2, xi p1), (3, xi p2), (4, xi p3), (5, xi p4)] [] m (yf244 B p0 p1 p2 p3 p4 m) := by
  intro p0 p1 p2 p3 p4 m cp0 cp1 cp2 cp3 cp4
  unfold yf244
  refine xS_of (pc' := 5) (L' := [(0, xa 536), (1, xi p0), (2, xi p1), (3, xi p2), (4, xi p3), (5, xi p4)]) (st' := [xi (xR m 536 3), xa 536]) (m' := m) (fun ex ns r q => ?_) ?_
  · refine xw_aload_n rfl rfl rfl ?_
    refine xw_aload_n rfl rfl rfl ?_
    refine xw_gfIc (v := (m 536 3)) (v' := (xR m 536 3)) rfl (xw_obd (by decide +kernel)) xk12_3 (qi := 3) rfl rfl rfl ?_
    exact q
  refine xS_if (fun h0 => ?_) (fun h0 => ?_)
  · refine xS_of (pc' := 17) (L' := [(0, xa 536), (1, xi p0), (2, xi p1), (3, xi p2), (4, xi p3), (5, xi p4)]) (st' := [xi 65536, xi (w32 ((xR m 536 5) + 20)), xa 536]) (m' := m) (fun ex ns r q => ?_) ?_
    · refine xw_if_neF rfl (w32_cg (w32_xR _ _ _)) h0 ?_
      refine xw_aload_n rfl rfl rfl ?_
      refine xw_gfIc (v := (m 536 5)) (v' := (xR m 536 5)) rfl (xw_obd (by decide +kernel)) xk12_5 (qi := 5) rfl rfl rfl ?_
      refine xw_bipush (e := 20) rfl (by decide +kernel) ?_
      refine xw_iadd rfl ?_
      refine xw_ldc (e := 65536) rfl (by decide +kernel) ?_
      refine xw_cst (st' := [xi 65536, xi (w32 ((xR m 536 5) + 20)), xa 536]) (xw_sc rfl (xw_sc (xi_c rfl) rfl)) ?_
      exact q
    refine xS_if (fun h1 => ?_) (fun h1 => ?_)
    · refine xS_of (pc' := 36) (L' := [(0, xa 536), (1, xi p0), (2, xi p1), (3, xi p2), (4, xi p3), (5, xi p4)]) (st' := [xi 0]) (m' := (xw_u m 536 1 1)) (fun ex ns r q => ?_) ?_
      · refine xw_ic_leF rfl (w32_cg (w32_w _)) (w32_cg rfl) (Int.not_le.mpr h1) ?_
        refine xw_iconst rfl ?_
        refine xw_goto rfl ?_
        refine xw_pfI rfl (xw_obd (by decide +kernel)) xk12_1 (qi := 1) rfl (xw_okI rfl) ?_
        refine xw_aload_n rfl rfl rfl ?_
        refine xw_gfIc (v := 1) (v' := 1) rfl (xw_obd (by decide +kernel)) xk12_1 (qi := 1) rfl xw_us rfl ?_
        refine xw_if_leF rfl (w32_cg rfl) (Int.not_le.mpr (by decide)) ?_
        refine xw_iconst rfl ?_
        exact q
      exact xS_ret (v := 0) rfl rfl xw_rtI rfl
    · refine xS_of (pc' := 39) (L' := [(0, xa 536), (2, xi p1), (3, xi p2), (4, xi p3), (5, xi p4)]) (st' := [xi p0, xa 536]) (m' := (xw_u m 536 1 0)) (fun ex ns r q => ?_) ?_
      · refine xw_ic_leT rfl (w32_cg (w32_w _)) (w32_cg rfl) (Int.not_lt.mp h1) ?_
        refine xw_iconst rfl ?_
        refine xw_pfI rfl (xw_obd (by decide +kernel)) xk12_1 (qi := 1) rfl (xw_okI rfl) ?_
        refine xw_aload_n rfl rfl rfl ?_
        refine xw_gfIc (v := 0) (v' := 0) rfl (xw_obd (by decide +kernel)) xk12_1 (qi := 1) rfl xw_us rfl ?_
        refine xw_if_leT rfl (w32_cg rfl) (Int.not_lt.mp (by decide)) ?_
        refine xw_aload_n rfl rfl rfl ?_
        refine xw_iload_n rfl rfl ?_
        refine xw_lo (L2 := [(0, xa 536), (2, xi p1), (3, xi p2), (4, xi p3), (5, xi p4)]) (List.forall_mem_cons.mpr ⟨rfl, List.forall_mem_cons.mpr ⟨rfl, List.forall_mem_cons.mpr ⟨rfl, List.forall_mem_cons.mpr ⟨rfl, List.forall_mem_cons.mpr ⟨rfl, fun _ h => absurd h List.not_mem_nil⟩⟩⟩⟩⟩) ?_
        exact q
      refine xS_call (q := 245) (n := 2) (kq := 0) (as := [xa 536, xi p0]) (st1 := []) rfl rfl rfl rfl rfl rfl rfl rfl rfl rfl (fun _ => xw_rcv1 (t := 12) (xw_obd (by decide +kernel)) rfl) rfl (List.forall_mem_cons.mpr ⟨rfl, List.forall_mem_cons.mpr ⟨rfl, fun _ h => absurd h List.not_mem_nil⟩⟩) (ygf245 hB _ _ cp0) (fun v1 m1 cv1 => ?_)
      refine xS_of (pc' := 44) (L' := [(0, xa 536), (3, xi p2), (4, xi p3), (5, xi p4)]) (st' := [xi p1, xa 536]) (m' := m1) (fun ex ns r q => ?_) ?_
      · refine xw_aload_n rfl rfl rfl ?_
        refine xw_iload_n rfl rfl ?_
        refine xw_lo (L2 := [(0, xa 536), (3, xi p2), (4, xi p3), (5, xi p4)]) (List.forall_mem_cons.mpr ⟨rfl, List.forall_mem_cons.mpr ⟨rfl, List.forall_mem_cons.mpr ⟨rfl, List.forall_mem_cons.mpr ⟨rfl, fun _ h => absurd h List.not_mem_nil⟩⟩⟩⟩) ?_
        exact q
      refine xS_call (q := 245) (n := 2) (kq := 0) (as := [xa 536, xi p1]) (st1 := []) rfl rfl rfl rfl rfl rfl rfl rfl rfl rfl (fun _ => xw_rcv1 (t := 12) (xw_obd (by decide +kernel)) rfl) rfl (List.forall_mem_cons.mpr ⟨rfl, List.forall_mem_cons.mpr ⟨rfl, fun _ h => absurd h List.not_mem_nil⟩⟩) (ygf245 hB _ _ cp1) (fun v2 m2 cv2 => ?_)
      refine xS_of (pc' := 49) (L' := [(0, xa 536), (4, xi p3), (5, xi p4)]) (st' := [xi p2, xa 536]) (m' := m2) (fun ex ns r q => ?_) ?_
      · refine xw_aload_n rfl rfl rfl ?_
        refine xw_iload_n rfl rfl ?_
        refine xw_lo (L2 := [(0, xa 536), (4, xi p3), (5, xi p4)]) (List.forall_mem_cons.mpr ⟨rfl, List.forall_mem_cons.mpr ⟨rfl, List.forall_mem_cons.mpr ⟨rfl, fun _ h => absurd h List.not_mem_nil⟩⟩⟩) ?_
        exact q
      refine xS_call (q := 245) (n := 2) (kq := 0) (as := [xa 536, xi p2]) (st1 := []) rfl rfl rfl rfl rfl rfl rfl rfl rfl rfl (fun _ => xw_rcv1 (t := 12) (xw_obd (by decide +kernel)) rfl) rfl (List.forall_mem_cons.mpr ⟨rfl, List.forall_mem_cons.mpr ⟨rfl, fun _ h => absurd h List.not_mem_nil⟩⟩) (ygf245 hB _ _ cp2) (fun v3 m3 cv3 => ?_)
      refine xS_of (pc' := 55) (L' := [(0, xa 536), (5, xi p4)]) (st' := [xi p3, xa 536]) (m' := m3) (fun ex ns r q => ?_) ?_
      · refine xw_aload_n rfl rfl rfl ?_
        refine xw_iload rfl rfl ?_
        refine xw_lo (L2 := [(0, xa 536), (5, xi p4)]) (List.forall_mem_cons.mpr ⟨rfl, List.forall_mem_cons.mpr ⟨rfl, fun _ h => absurd h List.not_mem_nil⟩⟩) ?_
        exact q
      refine xS_call (q := 245) (n := 2) (kq := 0) (as := [xa 536, xi p3]) (st1 := []) rfl rfl rfl rfl rfl rfl rfl rfl rfl rfl (fun _ => xw_rcv1 (t := 12) (xw_obd (by decide +kernel)) rfl) rfl (List.forall_mem_cons.mpr ⟨rfl, List.forall_mem_cons.mpr ⟨rfl, fun _ h => absurd h List.not_mem_nil⟩⟩) (ygf245 hB _ _ cp3) (fun v4 m4 cv4 => ?_)
      refine xS_of (pc' := 61) (L' := [(0, xa 536)]) (st' := [xi p4, xa 536]) (m' := m4) (fun ex ns r q => ?_) ?_
      · refine xw_aload_n rfl rfl rfl ?_
        refine xw_iload rfl rfl ?_
        refine xw_lo (L2 := [(0, xa 536)]) (List.forall_mem_cons.mpr ⟨rfl, fun _ h => absurd h List.not_mem_nil⟩) ?_
        exact q
      refine xS_call (q := 245) (n := 2) (kq := 0) (as := [xa 536, xi p4]) (st1 := []) rfl rfl rfl rfl rfl rfl rfl rfl rfl rfl (fun _ => xw_rcv1 (t := 12) (xw_obd (by decide +kernel)) rfl) rfl (List.forall_mem_cons.mpr ⟨rfl, List.forall_mem_cons.mpr ⟨rfl, fun _ h => absurd h List.not_mem_nil⟩⟩) (ygf245 hB _ _ cp4) (fun v5 m5 cv5 => ?_)
      refine xS_of (pc' := 68) (L' := [(0, xa 536)]) (st' := [xi (xR m5 536 5)]) (m' := m5) (fun ex ns r q => ?_) ?_
      · refine xw_aload_n rfl rfl rfl ?_
        refine xw_gfIc (v := (m5 536 5)) (v' := (xR m5 536 5)) rfl (xw_obd (by decide +kernel)) xk12_5 (qi := 5) rfl rfl rfl ?_
        exact q
      exact xS_ret (v := (xR m5 536 5)) rfl rfl xw_rtI (w32_xR _ _ _)
  · refine xS_of (pc' := 36) (L' := [(0, xa 536), (1, xi p0), (2, xi p1), (3, xi p2), (4, xi p3), (5, xi p4)]) (st' := [xi 0]) (m' := (xw_u m 536 1 1)) (fun ex ns r q => ?_) ?_
    · refine xw_if_neT rfl (w32_cg (w32_xR _ _ _)) h0 ?_
      refine xw_iconst rfl ?_
      refine xw_goto rfl ?_
      refine xw_pfI rfl (xw_obd (by decide +kernel)) xk12_1 (qi := 1) rfl (xw_okI rfl) ?_
      refine xw_aload_n rfl rfl rfl ?_
      refine xw_gfIc (v := 1) (v' := 1) rfl (xw_obd (by decide +kernel)) xk12_1 (qi := 1) rfl xw_us rfl ?_
      refine xw_if_leF rfl (w32_cg rfl) (Int.not_le.mpr (by decide)) ?_
      refine xw_iconst rfl ?_
      exact q
    exact xS_ret (v := 0) rfl rfl xw_rtI rfl
theorem ygf246 {B : Nat} (hB : B ≤ 512) {xs : Nat → Int32} {SL d : Nat} : ∀ p0 m, w32 p0 = p0 → xS B xs SL (d + 0) 246 (2, (some .int), [], 13) 1 0 [(0, xa 536), (1, xi p0)] [] m (yf246 B p0 m) := by
  intro p0 m cp0
  unfold yf246
  refine xS_of (pc' := 2) (L' := [(0, xa 536), (1, xi p0)]) (st' := [xi p0, xa 536]) (m' := m) (fun ex ns r q => ?_) ?_
  · refine xw_aload_n rfl rfl rfl ?_
    refine xw_iload_n rfl rfl ?_
    exact q
  refine xS_if (fun h0 => ?_) (fun h0 => ?_)
  · refine xS_of (pc' := 46) (L' := [(0, xa 536), (1, xi p0)]) (st' := [xi 0]) (m' := (xw_u m 536 1 1)) (fun ex ns r q => ?_) ?_
    · refine xw_if_ltT rfl (w32_cg cp0) h0 ?_
      refine xw_iconst rfl ?_
      refine xw_goto rfl ?_
      refine xw_pfI rfl (xw_obd (by decide +kernel)) xk12_1 (qi := 1) rfl (xw_okI rfl) ?_
      refine xw_aload_n rfl rfl rfl ?_
      refine xw_gfIc (v := 1) (v' := 1) rfl (xw_obd (by decide +kernel)) xk12_1 (qi := 1) rfl xw_us rfl ?_
      refine xw_if_leF rfl (w32_cg rfl) (Int.not_le.mpr (by decide)) ?_
      refine xw_iconst rfl ?_
      exact q
    exact xS_ret (v := 0) rfl rfl xw_rtI rfl
  · refine xS_of (pc' := 8) (L' := [(0, xa 536), (1, xi p0)]) (st' := [xi 20, xi p0, xa 536]) (m' := m) (fun ex ns r q => ?_) ?_
    · refine xw_if_ltF rfl (w32_cg cp0) h0 ?_
      refine xw_iload_n rfl rfl ?_
      refine xw_bipush (e := 20) rfl (by decide +kernel) ?_
      exact q
    refine xS_if (fun h1 => ?_) (fun h1 => ?_)
    · refine xS_of (pc' := 46) (L' := [(0, xa 536), (1, xi p0)]) (st' := [xi 0]) (m' := (xw_u m 536 1 1)) (fun ex ns r q => ?_) ?_
      · refine xw_ic_gtT rfl (w32_cg cp0) (w32_cg rfl) h1 ?_
        refine xw_iconst rfl ?_
        refine xw_goto rfl ?_
        refine xw_pfI rfl (xw_obd (by decide +kernel)) xk12_1 (qi := 1) rfl (xw_okI rfl) ?_
        refine xw_aload_n rfl rfl rfl ?_
        refine xw_gfIc (v := 1) (v' := 1) rfl (xw_obd (by decide +kernel)) xk12_1 (qi := 1) rfl xw_us rfl ?_
        refine xw_if_leF rfl (w32_cg rfl) (Int.not_le.mpr (by decide)) ?_
        refine xw_iconst rfl ?_
        exact q
      exact xS_ret (v := 0) rfl rfl xw_rtI rfl
    · refine xS_of (pc' := 16) (L' := [(0, xa 536), (1, xi p0)]) (st' := [xi (xR m 536 5), xi p0, xa 536]) (m' := m) (fun ex ns r q => ?_) ?_
      · refine xw_ic_gtF rfl (w32_cg cp0) (w32_cg rfl) h1 ?_
        refine xw_iload_n rfl rfl ?_
        refine xw_aload_n rfl rfl rfl ?_
        refine xw_gfIc (v := (m 536 5)) (v' := (xR m 536 5)) rfl (xw_obd (by decide +kernel)) xk12_5 (qi := 5) rfl rfl rfl ?_
        exact q
      refine xS_if (fun h2 => ?_) (fun h2 => ?_)
      · refine xS_of (pc' := 46) (L' := [(0, xa 536), (1, xi p0)]) (st' := [xi 0]) (m' := (xw_u m 536 1 1)) (fun ex ns r q => ?_) ?_
        · refine xw_ic_leF rfl (w32_cg cp0) (w32_cg (w32_xR _ _ _)) (Int.not_le.mpr h2) ?_
          refine xw_iconst rfl ?_
          refine xw_goto rfl ?_
          refine xw_pfI rfl (xw_obd (by decide +kernel)) xk12_1 (qi := 1) rfl (xw_okI rfl) ?_
          refine xw_aload_n rfl rfl rfl ?_
          refine xw_gfIc (v := 1) (v' := 1) rfl (xw_obd (by decide +kernel)) xk12_1 (qi := 1) rfl xw_us rfl ?_
          refine xw_if_leF rfl (w32_cg rfl) (Int.not_le.mpr (by decide)) ?_
          refine xw_iconst rfl ?_
          exact q
        exact xS_ret (v := 0) rfl rfl xw_rtI rfl
      · refine xS_of (pc' := 27) (L' := [(0, xa 536), (1, xi p0)]) (st' := [xi (xR m 536 3), xa 536]) (m' := m) (fun ex ns r q => ?_) ?_
        · refine xw_ic_leT rfl (w32_cg cp0) (w32_cg (w32_xR _ _ _)) (Int.not_lt.mp h2) ?_
          refine xw_aload_n rfl rfl rfl ?_
          refine xw_gfIc (v := (m 536 3)) (v' := (xR m 536 3)) rfl (xw_obd (by decide +kernel)) xk12_3 (qi := 3) rfl rfl rfl ?_
          exact q
        refine xS_if (fun h3 => ?_) (fun h3 => ?_)
        · refine xS_of (pc' := 61) (L' := [(0, xa 536), (1, xi p0)]) (st' := [xi (w32 ((xR m 536 5) - p0))]) (m' := (xw_u (xw_u m 536 1 0) 536 5 ((xR m 536 5) - p0))) (fun ex ns r q => ?_) ?_
          · refine xw_if_eqT rfl (w32_cg (w32_xR _ _ _)) h3 ?_
            refine xw_iconst rfl ?_
            refine xw_pfI rfl (xw_obd (by decide +kernel)) xk12_1 (qi := 1) rfl (xw_okI rfl) ?_
            refine xw_aload_n rfl rfl rfl ?_
            refine xw_gfIc (v := 0) (v' := 0) rfl (xw_obd (by decide +kernel)) xk12_1 (qi := 1) rfl xw_us rfl ?_
            refine xw_if_leT rfl (w32_cg rfl) (Int.not_lt.mp (by decide)) ?_
            refine xw_aload_n rfl rfl rfl ?_
            refine xw_dup rfl rfl ?_
            refine xw_gfIc (v := (m 536 5)) (v' := (xR m 536 5)) rfl (xw_obd (by decide +kernel)) xk12_5 (qi := 5) rfl (xw_un (fun e => absurd e.2 (by decide)) rfl) rfl ?_
            refine xw_iload_n rfl rfl ?_
            refine xw_isub rfl ?_
            refine xw_pfI rfl (xw_obd (by decide +kernel)) xk12_5 (qi := 5) rfl (xw_okI rfl) ?_
            refine xw_aload_n rfl rfl rfl ?_
            refine xw_gfIc (v := ((xR m 536 5) - p0)) (v' := (w32 ((xR m 536 5) - p0))) rfl (xw_obd (by decide +kernel)) xk12_5 (qi := 5) rfl xw_us rfl ?_
            exact q
          exact xS_ret (v := (w32 ((xR m 536 5) - p0))) rfl rfl xw_rtI (w32_w _)
        · refine xS_of (pc' := 46) (L' := [(0, xa 536), (1, xi p0)]) (st' := [xi 0]) (m' := (xw_u m 536 1 2)) (fun ex ns r q => ?_) ?_
          · refine xw_if_eqF rfl (w32_cg (w32_xR _ _ _)) h3 ?_
            refine xw_iconst rfl ?_
            refine xw_goto rfl ?_
            refine xw_pfI rfl (xw_obd (by decide +kernel)) xk12_1 (qi := 1) rfl (xw_okI rfl) ?_
            refine xw_aload_n rfl rfl rfl ?_
            refine xw_gfIc (v := 2) (v' := 2) rfl (xw_obd (by decide +kernel)) xk12_1 (qi := 1) rfl xw_us rfl ?_
            refine xw_if_leF rfl (w32_cg rfl) (Int.not_le.mpr (by decide)) ?_
            refine xw_iconst rfl ?_
            exact q
          exact xS_ret (v := 0) rfl rfl xw_rtI rfl
theorem ygf249 {B : Nat} (hB : B ≤ 512) {xs : Nat → Int32} {SL d : Nat} : ∀ p0 m, w32 p0 = p0 → xS B xs SL (d + 0) 249 (2, (some .int), [], 13) 1 0 [(0, xa 536), (1, xi p0)] [] m (yf249 B p0 m) := by
  intro p0 m cp0
  unfold yf249
  refine xS_of (pc' := 5) (L' := [(0, xa 536), (1, xi p0)]) (st' := [xi (xR m 536 5), xi p0]) (m' := m) (fun ex ns r q => ?_) ?_
  · refine xw_iload_n rfl rfl ?_
    refine xw_aload_n rfl rfl rfl ?_
    refine xw_gfIc (v := (m 536 5)) (v' := (xR m 536 5)) rfl (xw_obd (by decide +kernel)) xk12_5 (qi := 5) rfl rfl rfl ?_
    exact q
  refine xS_if (fun h0 => ?_) (fun h0 => ?_)
  · refine xS_g (fun g1 => ?_)
    refine xS_of (pc' := 22) (L' := [(0, xa 536), (1, xi p0)]) (st' := [xi (xw_iandf (xR m 537 p0) 255)]) (m' := m) (fun ex ns r q => ?_) ?_
    · refine xw_ic_geF rfl (w32_cg cp0) (w32_cg (w32_xR _ _ _)) (Int.not_le.mpr h0) ?_
      refine xw_aload_n rfl rfl rfl ?_
      refine xw_gfR (n := 537) (e := 537) rfl (xw_obd (by decide +kernel)) (by decide +kernel) (by decide +kernel) rfl ?_
      refine xw_iload_n rfl rfl ?_
      refine xw_baldc (n := 65536) (v := (m 537 p0)) (v' := (xR m 537 p0)) rfl hB (xw_obd (by decide +kernel)) rfl g1 rfl rfl ?_
      refine xw_sipush (e := 255) rfl (by decide +kernel) ?_
      refine xw_iand (z := (xw_iandf (xR m 537 p0) 255)) rfl (xw_iande _ _) ?_
      refine xw_goto rfl ?_
      exact q
    exact xS_ret (v := (xw_iandf (xR m 537 p0) 255)) rfl rfl xw_rtI (w32_ti _)
  · refine xS_of (pc' := 22) (L' := [(0, xa 536), (1, xi p0)]) (st' := [xi 0]) (m' := m) (fun ex ns r q => ?_) ?_
    · refine xw_ic_geT rfl (w32_cg cp0) (w32_cg (w32_xR _ _ _)) (Int.not_lt.mp h0) ?_
      refine xw_iconst rfl ?_
      exact q
    exact xS_ret (v := 0) rfl rfl xw_rtI rfl
theorem ygk250_12 {B : Nat} (hB : B ≤ 512) {xs : Nat → Int32} {SL d : Nat} : ∀ x0 m, w32 x0 = x0 → xS B xs SL (d + 0) 250 (1, (some .boolean), [], 0) 4 12 [(0, xi x0)] [] m (yk250_12 B x0 m) := by
  intro x0 m c0
  unfold yk250_12
  refine xS_of (pc' := 15) (L' := [(0, xi x0)]) (st' := [xi 97, xi x0]) (m' := m) (fun ex ns r q => ?_) ?_
  · refine xw_iload_n rfl rfl ?_
    refine xw_bipush (e := 97) rfl (by decide +kernel) ?_
    exact q
  refine xS_if (fun h0 => ?_) (fun h0 => ?_)
  · refine xS_of (pc' := 29) (L' := [(0, xi x0)]) (st' := [xi 0]) (m' := m) (fun ex ns r q => ?_) ?_
    · refine xw_ic_ltT rfl (w32_cg c0) (w32_cg rfl) h0 ?_
      refine xw_iconst rfl ?_
      exact q
    exact xS_ret (v := 0) rfl rfl (xw_rtZ (Or.inl rfl)) (Or.inl rfl)
  · refine xS_of (pc' := 21) (L' := [(0, xi x0)]) (st' := [xi 122, xi x0]) (m' := m) (fun ex ns r q => ?_) ?_
    · refine xw_ic_ltF rfl (w32_cg c0) (w32_cg rfl) h0 ?_
      refine xw_iload_n rfl rfl ?_
      refine xw_bipush (e := 122) rfl (by decide +kernel) ?_
      exact q
    refine xS_if (fun h1 => ?_) (fun h1 => ?_)
    · refine xS_of (pc' := 29) (L' := [(0, xi x0)]) (st' := [xi 0]) (m' := m) (fun ex ns r q => ?_) ?_
      · refine xw_ic_gtT rfl (w32_cg c0) (w32_cg rfl) h1 ?_
        refine xw_iconst rfl ?_
        exact q
      exact xS_ret (v := 0) rfl rfl (xw_rtZ (Or.inl rfl)) (Or.inl rfl)
    · refine xS_of (pc' := 29) (L' := [(0, xi x0)]) (st' := [xi 1]) (m' := m) (fun ex ns r q => ?_) ?_
      · refine xw_ic_gtF rfl (w32_cg c0) (w32_cg rfl) h1 ?_
        refine xw_iconst rfl ?_
        refine xw_goto rfl ?_
        exact q
      exact xS_ret (v := 1) rfl rfl (xw_rtZ (Or.inr rfl)) (Or.inr rfl)
theorem ygf250 {B : Nat} (hB : B ≤ 512) {xs : Nat → Int32} {SL d : Nat} : ∀ p0 m, w32 p0 = p0 → xS B xs SL (d + 0) 250 (1, (some .boolean), [], 0) 4 0 [(0, xi p0)] [] m (yf250 B p0 m) := by
  intro p0 m cp0
  unfold yf250
  refine xS_of (pc' := 3) (L' := [(0, xi p0)]) (st' := [xi 65, xi p0]) (m' := m) (fun ex ns r q => ?_) ?_
  · refine xw_iload_n rfl rfl ?_
    refine xw_bipush (e := 65) rfl (by decide +kernel) ?_
    exact q
  refine xS_if (fun h0 => ?_) (fun h0 => ?_)
  · refine xS_of (pc' := 12) (L' := [(0, xi p0)]) (st' := []) (m' := m) (fun ex ns r q => ?_) ?_
    · refine xw_ic_ltT rfl (w32_cg cp0) (w32_cg rfl) h0 ?_
      refine xw_lo (L2 := [(0, xi p0)]) (List.forall_mem_cons.mpr ⟨rfl, fun _ h => absurd h List.not_mem_nil⟩) ?_
      exact q
    exact ygk250_12 hB _ _ cp0
  · refine xS_of (pc' := 9) (L' := [(0, xi p0)]) (st' := [xi 90, xi p0]) (m' := m) (fun ex ns r q => ?_) ?_
    · refine xw_ic_ltF rfl (w32_cg cp0) (w32_cg rfl) h0 ?_
      refine xw_iload_n rfl rfl ?_
      refine xw_bipush (e := 90) rfl (by decide +kernel) ?_
      exact q
    refine xS_if (fun h1 => ?_) (fun h1 => ?_)
    · refine xS_of (pc' := 12) (L' := [(0, xi p0)]) (st' := []) (m' := m) (fun ex ns r q => ?_) ?_
      · refine xw_ic_leF rfl (w32_cg cp0) (w32_cg rfl) (Int.not_le.mpr h1) ?_
        refine xw_lo (L2 := [(0, xi p0)]) (List.forall_mem_cons.mpr ⟨rfl, fun _ h => absurd h List.not_mem_nil⟩) ?_
        exact q
      exact ygk250_12 hB _ _ cp0
    · refine xS_of (pc' := 29) (L' := [(0, xi p0)]) (st' := [xi 1]) (m' := m) (fun ex ns r q => ?_) ?_
      · refine xw_ic_leT rfl (w32_cg cp0) (w32_cg rfl) (Int.not_lt.mp h1) ?_
        refine xw_iconst rfl ?_
        refine xw_goto rfl ?_
        exact q
      exact xS_ret (v := 1) rfl rfl (xw_rtZ (Or.inr rfl)) (Or.inr rfl)
theorem ygf251 {B : Nat} (hB : B ≤ 512) {xs : Nat → Int32} {SL d : Nat} : ∀ p0 m, w32 p0 = p0 → xS B xs SL (d + 0) 251 (1, (some .boolean), [], 0) 4 0 [(0, xi p0)] [] m (yf251 B p0 m) := by
  intro p0 m cp0
  unfold yf251
  refine xS_of (pc' := 3) (L' := [(0, xi p0)]) (st' := [xi 48, xi p0]) (m' := m) (fun ex ns r q => ?_) ?_
  · refine xw_iload_n rfl rfl ?_
    refine xw_bipush (e := 48) rfl (by decide +kernel) ?_
    exact q
  refine xS_if (fun h0 => ?_) (fun h0 => ?_)
  · refine xS_of (pc' := 17) (L' := [(0, xi p0)]) (st' := [xi 0]) (m' := m) (fun ex ns r q => ?_) ?_
    · refine xw_ic_ltT rfl (w32_cg cp0) (w32_cg rfl) h0 ?_
      refine xw_iconst rfl ?_
      exact q
    exact xS_ret (v := 0) rfl rfl (xw_rtZ (Or.inl rfl)) (Or.inl rfl)
  · refine xS_of (pc' := 9) (L' := [(0, xi p0)]) (st' := [xi 57, xi p0]) (m' := m) (fun ex ns r q => ?_) ?_
    · refine xw_ic_ltF rfl (w32_cg cp0) (w32_cg rfl) h0 ?_
      refine xw_iload_n rfl rfl ?_
      refine xw_bipush (e := 57) rfl (by decide +kernel) ?_
      exact q
    refine xS_if (fun h1 => ?_) (fun h1 => ?_)
    · refine xS_of (pc' := 17) (L' := [(0, xi p0)]) (st' := [xi 0]) (m' := m) (fun ex ns r q => ?_) ?_
      · refine xw_ic_gtT rfl (w32_cg cp0) (w32_cg rfl) h1 ?_
        refine xw_iconst rfl ?_
        exact q
      exact xS_ret (v := 0) rfl rfl (xw_rtZ (Or.inl rfl)) (Or.inl rfl)
    · refine xS_of (pc' := 17) (L' := [(0, xi p0)]) (st' := [xi 1]) (m' := m) (fun ex ns r q => ?_) ?_
      · refine xw_ic_gtF rfl (w32_cg cp0) (w32_cg rfl) h1 ?_
        refine xw_iconst rfl ?_
        refine xw_goto rfl ?_
        exact q
      exact xS_ret (v := 1) rfl rfl (xw_rtZ (Or.inr rfl)) (Or.inr rfl)
theorem ysl252_92 {B : Nat} (hB : B ≤ 512) {xs : Nat → Int32} {SL d : Nat} {r4 : Int → Int → xw_M → xP} (hr4 : ∀ x1 x2 m, w32 x1 = x1 → w32 x2 = x2 → xS B xs SL (d + 1) 252 (4, (some .int), [], 13) 1 4 [(0, xa 536), (1, xi x1), (2, xi x2)] [] m (r4 x1 x2 m)) {r92 : Int → Int → xw_M → xP} (hr92 : ∀ x1 x2 m, w32 x1 = x1 → w32 x2 = x2 → xS B xs SL (d + 1) 252 (4, (some .int), [], 13) 1 92 [(0, xa 536), (1, xi x1), (2, xi x2)] [] m (r92 x1 x2 m)) : ∀ x1 x2 m, w32 x1 = x1 → w32 x2 = x2 → xS B xs SL (d + 1) 252 (4, (some .int), [], 13) 1 92 [(0, xa 536), (1, xi x1), (2, xi x2)] [] m (yl252_92 B r4 r92 x1 x2 m) := by
  intro x1 x2 m c1 c2
  unfold yl252_92
  refine xS_g (fun g0 => ?_)
  refine xS_of (pc' := 100) (L' := [(0, xa 536), (1, xi x1), (2, xi x2)]) (st' := [xi 32, xi (xw_chr 2 x2)]) (m' := m) (fun ex ns r q => ?_) ?_
  · refine xw_ldcS rfl (by decide) ?_
    refine xw_iload_n rfl rfl ?_
    refine xw_schar (n := 2) (x := x2) (e := 109) rfl rfl g0 rfl ?_
    refine xw_bipush (e := 32) rfl (by decide +kernel) ?_
    exact q
  refine xS_if (fun h1 => ?_) (fun h1 => ?_)
  · refine xS_of (pc' := 4) (L' := [(0, xa 536), (1, xi (w32 (x1 + 1))), (2, xi x2)]) (st' := []) (m' := m) (fun ex ns r q => ?_) ?_
    · refine xw_ic_eqT rfl (w32_cg (w32_chr _ _)) (w32_cg rfl) h1 ?_
      refine xw_iincc (z := (w32 (x1 + 1))) (L' := [(1, xi (w32 (x1 + 1))), (0, xa 536), (2, xi x2)]) rfl rfl (by decide) rfl rfl ?_
      refine xw_goto rfl ?_
      refine xw_lo (L2 := [(0, xa 536), (1, xi (w32 (x1 + 1))), (2, xi x2)]) (List.forall_mem_cons.mpr ⟨rfl, List.forall_mem_cons.mpr ⟨rfl, List.forall_mem_cons.mpr ⟨rfl, fun _ h => absurd h List.not_mem_nil⟩⟩⟩) ?_
      exact q
    exact hr4 _ _ _ (w32_w _) c2
  · refine xS_of (pc' := 92) (L' := [(0, xa 536), (1, xi x1), (2, xi (w32 (x2 + 1)))]) (st' := []) (m' := m) (fun ex ns r q => ?_) ?_
    · refine xw_ic_eqF rfl (w32_cg (w32_chr _ _)) (w32_cg rfl) h1 ?_
      refine xw_iincc (z := (w32 (x2 + 1))) (L' := [(2, xi (w32 (x2 + 1))), (0, xa 536), (1, xi x1)]) rfl rfl (by decide) rfl rfl ?_
      refine xw_goto rfl ?_
      refine xw_lo (L2 := [(0, xa 536), (1, xi x1), (2, xi (w32 (x2 + 1)))]) (List.forall_mem_cons.mpr ⟨rfl, List.forall_mem_cons.mpr ⟨rfl, List.forall_mem_cons.mpr ⟨rfl, fun _ h => absurd h List.not_mem_nil⟩⟩⟩) ?_
      exact q
    exact hr92 _ _ _ c1 (w32_w _)
theorem ygl252_92 {B : Nat} (hB : B ≤ 512) {xs : Nat → Int32} {SL d : Nat} {r4 : Int → Int → xw_M → xP} (hr4 : ∀ x1 x2 m, w32 x1 = x1 → w32 x2 = x2 → xS B xs SL (d + 1) 252 (4, (some .int), [], 13) 1 4 [(0, xa 536), (1, xi x1), (2, xi x2)] [] m (r4 x1 x2 m)) : ∀ n x1 x2 m, w32 x1 = x1 → w32 x2 = x2 → xS B xs SL (d + 1) 252 (4, (some .int), [], 13) 1 92 [(0, xa 536), (1, xi x1), (2, xi x2)] [] m (xl2 (yl252_92 B r4) n x1 x2 m) := by
  intro n
  induction n with
  | zero => intro x1 x2 m c1 c2; exact xS_none
  | succ n ih => exact ysl252_92 hB hr4 ih
theorem ygk252_59 {B : Nat} (hB : B ≤ 512) {xs : Nat → Int32} {SL d : Nat} {r4 : Int → Int → xw_M → xP} (hr4 : ∀ x1 x2 m, w32 x1 = x1 → w32 x2 = x2 → xS B xs SL (d + 1) 252 (4, (some .int), [], 13) 1 4 [(0, xa 536), (1, xi x1), (2, xi x2)] [] m (r4 x1 x2 m)) : ∀ x1 x2 x3 m, w32 x1 = x1 → w32 x2 = x2 → w32 x3 = x3 → xS B xs SL (d + 1) 252 (4, (some .int), [], 13) 1 59 [(0, xa 536), (1, xi x1), (2, xi x2), (3, xi x3)] [] m (yk252_59 B r4 x1 x2 x3 m) := by
  intro x1 x2 x3 m c1 c2 c3
  unfold yk252_59
  refine xS_of (pc' := 69) (L' := [(0, xa 536), (1, xi x1), (2, xi x2), (3, xi x3)]) (st' := [xi (xR m 536 8), xi (w32 ((xR m 536 9) + x3))]) (m' := m) (fun ex ns r q => ?_) ?_
  · refine xw_aload_n rfl rfl rfl ?_
    refine xw_gfIc (v := (m 536 9)) (v' := (xR m 536 9)) rfl (xw_obd (by decide +kernel)) xk12_9 (qi := 9) rfl rfl rfl ?_
    refine xw_iload_n rfl rfl ?_
    refine xw_iadd rfl ?_
    refine xw_aload_n rfl rfl rfl ?_
    refine xw_gfIc (v := (m 536 8)) (v' := (xR m 536 8)) rfl (xw_obd (by decide +kernel)) xk12_8 (qi := 8) rfl rfl rfl ?_
    refine xw_cst (st' := [xi (xR m 536 8), xi (w32 ((xR m 536 9) + x3))]) (xw_sc rfl (xw_sc (xi_c rfl) rfl)) ?_
    exact q
  refine xS_if (fun h0 => ?_) (fun h0 => ?_)
  · refine xS_g (fun g1 => ?_)
    refine xS_of (pc' := 84) (L' := [(0, xa 536), (1, xi x1), (2, xi x2), (3, xi x3)]) (st' := [xi 32, xi (xw_chr 2 ((x2 + 1) + x3))]) (m' := m) (fun ex ns r q => ?_) ?_
    · refine xw_ic_neF rfl (w32_cg (w32_w _)) (w32_cg (w32_xR _ _ _)) h0 ?_
      refine xw_ldcS rfl (by decide) ?_
      refine xw_iload_n rfl rfl ?_
      refine xw_iconst rfl ?_
      refine xw_iadd rfl ?_
      refine xw_iload_n rfl rfl ?_
      refine xw_iadd rfl ?_
      refine xw_schar (n := 2) (x := ((x2 + 1) + x3)) (e := 109) rfl rfl g1 rfl ?_
      refine xw_bipush (e := 32) rfl (by decide +kernel) ?_
      exact q
    refine xS_if (fun h2 => ?_) (fun h2 => ?_)
    · refine xS_of (pc' := 88) (L' := [(0, xa 536), (1, xi x1), (2, xi x2), (3, xi x3)]) (st' := [xi x1]) (m' := m) (fun ex ns r q => ?_) ?_
      · refine xw_ic_neF rfl (w32_cg (w32_chr _ _)) (w32_cg rfl) h2 ?_
        refine xw_iload_n rfl rfl ?_
        exact q
      exact xS_ret (v := x1) rfl rfl xw_rtI c1
    · refine xS_of (pc' := 92) (L' := [(0, xa 536), (1, xi x1), (2, xi (w32 (x2 + 1)))]) (st' := []) (m' := m) (fun ex ns r q => ?_) ?_
      · refine xw_ic_neT rfl (w32_cg (w32_chr _ _)) (w32_cg rfl) h2 ?_
        refine xw_iincc (z := (w32 (x2 + 1))) (L' := [(2, xi (w32 (x2 + 1))), (0, xa 536), (1, xi x1), (3, xi x3)]) rfl rfl (by decide) rfl rfl ?_
        refine xw_lo (L2 := [(0, xa 536), (1, xi x1), (2, xi (w32 (x2 + 1)))]) (List.forall_mem_cons.mpr ⟨rfl, List.forall_mem_cons.mpr ⟨rfl, List.forall_mem_cons.mpr ⟨rfl, fun _ h => absurd h List.not_mem_nil⟩⟩⟩) ?_
        exact q
      exact ygl252_92 hB hr4 1000000 _ _ _ c1 (w32_w _)
  · refine xS_of (pc' := 92) (L' := [(0, xa 536), (1, xi x1), (2, xi (w32 (x2 + 1)))]) (st' := []) (m' := m) (fun ex ns r q => ?_) ?_
    · refine xw_ic_neT rfl (w32_cg (w32_w _)) (w32_cg (w32_xR _ _ _)) h0 ?_
      refine xw_iincc (z := (w32 (x2 + 1))) (L' := [(2, xi (w32 (x2 + 1))), (0, xa 536), (1, xi x1), (3, xi x3)]) rfl rfl (by decide) rfl rfl ?_
      refine xw_lo (L2 := [(0, xa 536), (1, xi x1), (2, xi (w32 (x2 + 1)))]) (List.forall_mem_cons.mpr ⟨rfl, List.forall_mem_cons.mpr ⟨rfl, List.forall_mem_cons.mpr ⟨rfl, fun _ h => absurd h List.not_mem_nil⟩⟩⟩) ?_
      exact q
    exact ygl252_92 hB hr4 1000000 _ _ _ c1 (w32_w _)
theorem ysl252_17 {B : Nat} (hB : B ≤ 512) {xs : Nat → Int32} {SL d : Nat} {r4 : Int → Int → xw_M → xP} (hr4 : ∀ x1 x2 m, w32 x1 = x1 → w32 x2 = x2 → xS B xs SL (d + 1) 252 (4, (some .int), [], 13) 1 4 [(0, xa 536), (1, xi x1), (2, xi x2)] [] m (r4 x1 x2 m)) {r17 : Int → Int → Int → xw_M → xP} (hr17 : ∀ x1 x2 x3 m, w32 x1 = x1 → w32 x2 = x2 → w32 x3 = x3 → xS B xs SL (d + 1) 252 (4, (some .int), [], 13) 1 17 [(0, xa 536), (1, xi x1), (2, xi x2), (3, xi x3)] [] m (r17 x1 x2 x3 m)) : ∀ x1 x2 x3 m, w32 x1 = x1 → w32 x2 = x2 → w32 x3 = x3 → xS B xs SL (d + 1) 252 (4, (some .int), [], 13) 1 17 [(0, xa 536), (1, xi x1), (2, xi x2), (3, xi x3)] [] m (yl252_17 B r4 r17 x1 x2 x3 m) := by
  intro x1 x2 x3 m c1 c2 c3
  unfold yl252_17
  refine xS_of (pc' := 27) (L' := [(0, xa 536), (1, xi x1), (2, xi x2), (3, xi x3)]) (st' := [xi (xR m 536 8), xi (w32 ((xR m 536 9) + x3))]) (m' := m) (fun ex ns r q => ?_) ?_
  · refine xw_aload_n rfl rfl rfl ?_
    refine xw_gfIc (v := (m 536 9)) (v' := (xR m 536 9)) rfl (xw_obd (by decide +kernel)) xk12_9 (qi := 9) rfl rfl rfl ?_
    refine xw_iload_n rfl rfl ?_
    refine xw_iadd rfl ?_
    refine xw_aload_n rfl rfl rfl ?_
    refine xw_gfIc (v := (m 536 8)) (v' := (xR m 536 8)) rfl (xw_obd (by decide +kernel)) xk12_8 (qi := 8) rfl rfl rfl ?_
    refine xw_cst (st' := [xi (xR m 536 8), xi (w32 ((xR m 536 9) + x3))]) (xw_sc rfl (xw_sc (xi_c rfl) rfl)) ?_
    exact q
  refine xS_if (fun h0 => ?_) (fun h0 => ?_)
  · refine xS_g (fun g1 => ?_)
    refine xS_of (pc' := 47) (L' := [(0, xa 536), (1, xi x1), (2, xi x2), (3, xi x3)]) (st' := [xi (w32 ((xR m 536 9) + x3)), xa 536, xi (xw_chr 2 ((x2 + 1) + x3))]) (m' := m) (fun ex ns r q => ?_) ?_
    · refine xw_ic_geF rfl (w32_cg (w32_w _)) (w32_cg (w32_xR _ _ _)) (Int.not_le.mpr h0) ?_
      refine xw_ldcS rfl (by decide) ?_
      refine xw_iload_n rfl rfl ?_
      refine xw_iconst rfl ?_
      refine xw_iadd rfl ?_
      refine xw_iload_n rfl rfl ?_
      refine xw_iadd rfl ?_
      refine xw_schar (n := 2) (x := ((x2 + 1) + x3)) (e := 109) rfl rfl g1 rfl ?_
      refine xw_aload_n rfl rfl rfl ?_
      refine xw_aload_n rfl rfl rfl ?_
      refine xw_gfIc (v := (m 536 9)) (v' := (xR m 536 9)) rfl (xw_obd (by decide +kernel)) xk12_9 (qi := 9) rfl rfl rfl ?_
      refine xw_iload_n rfl rfl ?_
      refine xw_iadd rfl ?_
      refine xw_cst (st' := [xi (w32 ((xR m 536 9) + x3)), xa 536, xi (xw_chr 2 ((x2 + 1) + x3))]) (xw_sc (xi_c rfl) (xw_sc rfl rfl)) ?_
      refine xw_lo (L2 := [(0, xa 536), (1, xi x1), (2, xi x2), (3, xi x3)]) (List.forall_mem_cons.mpr ⟨rfl, List.forall_mem_cons.mpr ⟨rfl, List.forall_mem_cons.mpr ⟨rfl, List.forall_mem_cons.mpr ⟨rfl, fun _ h => absurd h List.not_mem_nil⟩⟩⟩⟩) ?_
      exact q
    refine xS_call (q := 249) (n := 2) (kq := 1) (as := [xa 536, xi (w32 ((xR m 536 9) + x3))]) (st1 := [xi (xw_chr 2 ((x2 + 1) + x3))]) rfl rfl rfl rfl rfl rfl rfl rfl rfl rfl (fun _ => xw_rcv1 (t := 12) (xw_obd (by decide +kernel)) rfl) rfl (List.forall_mem_cons.mpr ⟨rfl, List.forall_mem_cons.mpr ⟨rfl, fun _ h => absurd h List.not_mem_nil⟩⟩) (ygf249 hB _ _ (w32_w _)) (fun v1 m1 cv1 => ?_)
    refine xS_if (fun h2 => ?_) (fun h2 => ?_)
    · refine xS_of (pc' := 17) (L' := [(0, xa 536), (1, xi x1), (2, xi x2), (3, xi (w32 (x3 + 1)))]) (st' := []) (m' := m1) (fun ex ns r q => ?_) ?_
      · refine xw_ic_neF rfl (w32_cg (w32_chr _ _)) (w32_cg cv1) h2 ?_
        refine xw_iincc (z := (w32 (x3 + 1))) (L' := [(3, xi (w32 (x3 + 1))), (0, xa 536), (1, xi x1), (2, xi x2)]) rfl rfl (by decide) rfl rfl ?_
        refine xw_goto rfl ?_
        refine xw_lo (L2 := [(0, xa 536), (1, xi x1), (2, xi x2), (3, xi (w32 (x3 + 1)))]) (List.forall_mem_cons.mpr ⟨rfl, List.forall_mem_cons.mpr ⟨rfl, List.forall_mem_cons.mpr ⟨rfl, List.forall_mem_cons.mpr ⟨rfl, fun _ h => absurd h List.not_mem_nil⟩⟩⟩⟩) ?_
        exact q
      exact hr17 _ _ _ _ c1 c2 (w32_w _)
    · refine xS_of (pc' := 59) (L' := [(0, xa 536), (1, xi x1), (2, xi x2), (3, xi x3)]) (st' := []) (m' := m1) (fun ex ns r q => ?_) ?_
      · refine xw_ic_neT rfl (w32_cg (w32_chr _ _)) (w32_cg cv1) h2 ?_
        refine xw_lo (L2 := [(0, xa 536), (1, xi x1), (2, xi x2), (3, xi x3)]) (List.forall_mem_cons.mpr ⟨rfl, List.forall_mem_cons.mpr ⟨rfl, List.forall_mem_cons.mpr ⟨rfl, List.forall_mem_cons.mpr ⟨rfl, fun _ h => absurd h List.not_mem_nil⟩⟩⟩⟩) ?_
        exact q
      exact ygk252_59 hB hr4 _ _ _ _ c1 c2 c3
  · refine xS_of (pc' := 59) (L' := [(0, xa 536), (1, xi x1), (2, xi x2), (3, xi x3)]) (st' := []) (m' := m) (fun ex ns r q => ?_) ?_
    · refine xw_ic_geT rfl (w32_cg (w32_w _)) (w32_cg (w32_xR _ _ _)) (Int.not_lt.mp h0) ?_
      refine xw_lo (L2 := [(0, xa 536), (1, xi x1), (2, xi x2), (3, xi x3)]) (List.forall_mem_cons.mpr ⟨rfl, List.forall_mem_cons.mpr ⟨rfl, List.forall_mem_cons.mpr ⟨rfl, List.forall_mem_cons.mpr ⟨rfl, fun _ h => absurd h List.not_mem_nil⟩⟩⟩⟩) ?_
      exact q
    exact ygk252_59 hB hr4 _ _ _ _ c1 c2 c3
theorem ygl252_17 {B : Nat} (hB : B ≤ 512) {xs : Nat → Int32} {SL d : Nat} {r4 : Int → Int → xw_M → xP} (hr4 : ∀ x1 x2 m, w32 x1 = x1 → w32 x2 = x2 → xS B xs SL (d + 1) 252 (4, (some .int), [], 13) 1 4 [(0, xa 536), (1, xi x1), (2, xi x2)] [] m (r4 x1 x2 m)) : ∀ n x1 x2 x3 m, w32 x1 = x1 → w32 x2 = x2 → w32 x3 = x3 → xS B xs SL (d + 1) 252 (4, (some .int), [], 13) 1 17 [(0, xa 536), (1, xi x1), (2, xi x2), (3, xi x3)] [] m (xl3 (yl252_17 B r4) n x1 x2 x3 m) := by
  intro n
  induction n with
  | zero => intro x1 x2 x3 m c1 c2 c3; exact xS_none
  | succ n ih => exact ysl252_17 hB hr4 ih
theorem ysl252_4 {B : Nat} (hB : B ≤ 512) {xs : Nat → Int32} {SL d : Nat} {r4 : Int → Int → xw_M → xP} (hr4 : ∀ x1 x2 m, w32 x1 = x1 → w32 x2 = x2 → xS B xs SL (d + 1) 252 (4, (some .int), [], 13) 1 4 [(0, xa 536), (1, xi x1), (2, xi x2)] [] m (r4 x1 x2 m)) : ∀ x1 x2 m, w32 x1 = x1 → w32 x2 = x2 → xS B xs SL (d + 1) 252 (4, (some .int), [], 13) 1 4 [(0, xa 536), (1, xi x1), (2, xi x2)] [] m (yl252_4 B r4 x1 x2 m) := by
  intro x1 x2 m c1 c2
  unfold yl252_4
  refine xS_of (pc' := 12) (L' := [(0, xa 536), (1, xi x1), (2, xi x2)]) (st' := [xi 109, xi (w32 (x2 + 1))]) (m' := m) (fun ex ns r q => ?_) ?_
  · refine xw_iload_n rfl rfl ?_
    refine xw_iconst rfl ?_
    refine xw_iadd rfl ?_
    refine xw_ldcS rfl (by decide) ?_
    refine xw_slen (e := 109) rfl rfl rfl ?_
    refine xw_cst (st' := [xi 109, xi (w32 (x2 + 1))]) (xw_sc rfl (xw_sc (xi_c rfl) rfl)) ?_
    exact q
  refine xS_if (fun h0 => ?_) (fun h0 => ?_)
  · refine xS_of (pc' := 17) (L' := [(0, xa 536), (1, xi x1), (2, xi x2), (3, xi 0)]) (st' := []) (m' := m) (fun ex ns r q => ?_) ?_
    · refine xw_ic_geF rfl (w32_cg (w32_w _)) (w32_cg rfl) (Int.not_le.mpr h0) ?_
      refine xw_iconst rfl ?_
      refine xw_istore_n (L' := [(3, xi 0), (0, xa 536), (1, xi x1), (2, xi x2)]) rfl (by decide) rfl ?_
      refine xw_lo (L2 := [(0, xa 536), (1, xi x1), (2, xi x2), (3, xi 0)]) (List.forall_mem_cons.mpr ⟨rfl, List.forall_mem_cons.mpr ⟨rfl, List.forall_mem_cons.mpr ⟨rfl, List.forall_mem_cons.mpr ⟨rfl, fun _ h => absurd h List.not_mem_nil⟩⟩⟩⟩) ?_
      exact q
    exact ygl252_17 hB hr4 1000000 _ _ _ _ c1 c2 rfl
  · refine xS_of (pc' := 116) (L' := [(0, xa 536), (1, xi x1), (2, xi x2)]) (st' := [xi (-1)]) (m' := m) (fun ex ns r q => ?_) ?_
    · refine xw_ic_geT rfl (w32_cg (w32_w _)) (w32_cg rfl) (Int.not_lt.mp h0) ?_
      refine xw_iconst rfl ?_
      exact q
    exact xS_ret (v := (-1)) rfl rfl xw_rtI rfl
theorem ygl252_4 {B : Nat} (hB : B ≤ 512) {xs : Nat → Int32} {SL d : Nat} : ∀ n x1 x2 m, w32 x1 = x1 → w32 x2 = x2 → xS B xs SL (d + 1) 252 (4, (some .int), [], 13) 1 4 [(0, xa 536), (1, xi x1), (2, xi x2)] [] m (xl2 (yl252_4 B) n x1 x2 m) := by
  intro n
  induction n with
  | zero => intro x1 x2 m c1 c2; exact xS_none
  | succ n ih => exact ysl252_4 hB ih
theorem ygf252 {B : Nat} (hB : B ≤ 512) {xs : Nat → Int32} {SL d : Nat} : ∀ m, xS B xs SL (d + 1) 252 (4, (some .int), [], 13) 1 0 [(0, xa 536)] [] m (yf252 B m) := by
  intro m
  unfold yf252
  refine xS_of (pc' := 4) (L' := [(0, xa 536), (1, xi 0), (2, xi 0)]) (st' := []) (m' := m) (fun ex ns r q => ?_) ?_
  · refine xw_iconst rfl ?_
    refine xw_istore_n (L' := [(1, xi 0), (0, xa 536)]) rfl (by decide) rfl ?_
    refine xw_iconst rfl ?_
    refine xw_istore_n (L' := [(2, xi 0), (1, xi 0), (0, xa 536)]) rfl (by decide) rfl ?_
    refine xw_lo (L2 := [(0, xa 536), (1, xi 0), (2, xi 0)]) (List.forall_mem_cons.mpr ⟨rfl, List.forall_mem_cons.mpr ⟨rfl, List.forall_mem_cons.mpr ⟨rfl, fun _ h => absurd h List.not_mem_nil⟩⟩⟩) ?_
    exact q
  exact ygl252_4 hB 1000000 _ _ _ rfl rfl
theorem ygk254_21 {B : Nat} (hB : B ≤ 512) {xs : Nat → Int32} {SL d : Nat} : ∀ m, xS B xs SL (d + 0) 254 (4, (some .boolean), [], 13) 4 21 [(0, xa 536)] [] m (yk254_21 B m) := by
  intro m
  unfold yk254_21
  refine xS_of (pc' := 25) (L' := [(0, xa 536)]) (st' := [xi (xR m 536 6)]) (m' := m) (fun ex ns r q => ?_) ?_
  · refine xw_aload_n rfl rfl rfl ?_
    refine xw_gfIc (v := (m 536 6)) (v' := (xR m 536 6)) rfl (xw_obd (by decide +kernel)) xk12_6 (qi := 6) rfl rfl rfl ?_
    exact q
  refine xS_if (fun h0 => ?_) (fun h0 => ?_)
  · refine xS_of (pc' := 33) (L' := [(0, xa 536)]) (st' := [xi 1]) (m' := m) (fun ex ns r q => ?_) ?_
    · refine xw_if_neF rfl (w32_cg (w32_xR _ _ _)) h0 ?_
      refine xw_iconst rfl ?_
      refine xw_goto rfl ?_
      exact q
    exact xS_ret (v := 1) rfl rfl (xw_rtZ (Or.inr rfl)) (Or.inr rfl)
  · refine xS_of (pc' := 33) (L' := [(0, xa 536)]) (st' := [xi 0]) (m' := m) (fun ex ns r q => ?_) ?_
    · refine xw_if_neT rfl (w32_cg (w32_xR _ _ _)) h0 ?_
      refine xw_iconst rfl ?_
      exact q
    exact xS_ret (v := 0) rfl rfl (xw_rtZ (Or.inl rfl)) (Or.inl rfl)
theorem ygf254 {B : Nat} (hB : B ≤ 512) {xs : Nat → Int32} {SL d : Nat} : ∀ p0 p1 p2 m, w32 p0 = p0 → w32 p1 = p1 → w32 p2 = p2 → xS B xs SL (d + 0) 254 (4, (some .boolean), [], 13) 4 0 [(0, xa 536), (1, xi p0), (2, xi p1), (3, xi p2)] [] m (yf254 B p0 p1 p2 m) := by
  intro p0 p1 p2 m cp0 cp1 cp2
  unfold yf254
  refine xS_of (pc' := 4) (L' := [(0, xa 536), (1, xi p0), (2, xi p1), (3, xi p2)]) (st' := [xi (xR m 536 6)]) (m' := m) (fun ex ns r q => ?_) ?_
  · refine xw_aload_n rfl rfl rfl ?_
    refine xw_gfIc (v := (m 536 6)) (v' := (xR m 536 6)) rfl (xw_obd (by decide +kernel)) xk12_6 (qi := 6) rfl rfl rfl ?_
    exact q
  refine xS_if (fun h0 => ?_) (fun h0 => ?_)
  · refine xS_of (pc' := 8) (L' := [(0, xa 536), (1, xi p0), (2, xi p1), (3, xi p2)]) (st' := [xi p0]) (m' := m) (fun ex ns r q => ?_) ?_
    · refine xw_if_neF rfl (w32_cg (w32_xR _ _ _)) h0 ?_
      refine xw_iload_n rfl rfl ?_
      exact q
    refine xS_if (fun h1 => ?_) (fun h1 => ?_)
    · refine xS_of (pc' := 21) (L' := [(0, xa 536)]) (st' := []) (m' := (xw_u (xw_u m 536 6 p1) 536 7 p2)) (fun ex ns r q => ?_) ?_
      · refine xw_if_neF rfl (w32_cg cp0) h1 ?_
        refine xw_aload_n rfl rfl rfl ?_
        refine xw_iload_n rfl rfl ?_
        refine xw_pfI rfl (xw_obd (by decide +kernel)) xk12_6 (qi := 6) rfl (xw_okI rfl) ?_
        refine xw_aload_n rfl rfl rfl ?_
        refine xw_iload_n rfl rfl ?_
        refine xw_pfI rfl (xw_obd (by decide +kernel)) xk12_7 (qi := 7) rfl (xw_okI rfl) ?_
        refine xw_lo (L2 := [(0, xa 536)]) (List.forall_mem_cons.mpr ⟨rfl, fun _ h => absurd h List.not_mem_nil⟩) ?_
        exact q
      exact ygk254_21 hB _
    · refine xS_of (pc' := 21) (L' := [(0, xa 536)]) (st' := []) (m' := m) (fun ex ns r q => ?_) ?_
      · refine xw_if_neT rfl (w32_cg cp0) h1 ?_
        refine xw_lo (L2 := [(0, xa 536)]) (List.forall_mem_cons.mpr ⟨rfl, fun _ h => absurd h List.not_mem_nil⟩) ?_
        exact q
      exact ygk254_21 hB _
  · refine xS_of (pc' := 21) (L' := [(0, xa 536)]) (st' := []) (m' := m) (fun ex ns r q => ?_) ?_
    · refine xw_if_neT rfl (w32_cg (w32_xR _ _ _)) h0 ?_
      refine xw_lo (L2 := [(0, xa 536)]) (List.forall_mem_cons.mpr ⟨rfl, fun _ h => absurd h List.not_mem_nil⟩) ?_
      exact q
    exact ygk254_21 hB _
theorem ygk253_95 {B : Nat} (hB : B ≤ 512) {xs : Nat → Int32} {SL d : Nat} : ∀ x1 x2 m, w32 x1 = x1 → w64 x2 = x2 → xS B xs SL (d + 1) 253 (4, none, [], 13) 0 95 [(0, xa 536), (1, xi x1), (2, xj x2)] [] m (yk253_95 B x1 x2 m) := by
  intro x1 x2 m c1 c2
  unfold yk253_95
  refine xS_of (pc' := 96) (L' := [(0, xa 536), (1, xi x1), (2, xj x2)]) (st' := [xi x1]) (m' := m) (fun ex ns r q => ?_) ?_
  · refine xw_iload_n rfl rfl ?_
    exact q
  refine xS_if (fun h0 => ?_) (fun h0 => ?_)
  · refine xS_of (pc' := 111) (L' := [(2, xj x2), (0, xa 536), (1, xi x1)]) (st' := [xj (-2147483648), xj x2, xa 536]) (m' := m) (fun ex ns r q => ?_) ?_
    · refine xw_if_eqT rfl (w32_cg c1) h0 ?_
      refine xw_lload_n rfl rfl ?_
      refine xw_lstore_n (L' := [(2, xj x2), (0, xa 536), (1, xi x1)]) rfl (by decide) rfl ?_
      refine xw_aload_n rfl rfl rfl ?_
      refine xw_lload_n rfl rfl ?_
      refine xw_ldc2 (e := (-2147483648)) rfl (by decide +kernel) ?_
      exact q
    refine xS_if (fun h1 => ?_) (fun h1 => ?_)
    · refine xS_of (pc' := 133) (L' := [(0, xa 536), (2, xj x2)]) (st' := [xi (xR m 536 9), xi 2, xi 0, xa 536]) (m' := m) (fun ex ns r q => ?_) ?_
      · refine xw_jc_ltT rfl rfl (w64_cg c2) (w64_cg rfl) h1 ?_
        refine xw_iconst rfl ?_
        refine xw_iconst rfl ?_
        refine xw_aload_n rfl rfl rfl ?_
        refine xw_gfIc (v := (m 536 9)) (v' := (xR m 536 9)) rfl (xw_obd (by decide +kernel)) xk12_9 (qi := 9) rfl rfl rfl ?_
        refine xw_lo (L2 := [(0, xa 536), (2, xj x2)]) (List.forall_mem_cons.mpr ⟨rfl, List.forall_mem_cons.mpr ⟨rfl, fun _ h => absurd h List.not_mem_nil⟩⟩) ?_
        exact q
      refine xS_call (q := 254) (n := 4) (kq := 4) (as := [xa 536, xi 0, xi 2, xi (xR m 536 9)]) (st1 := []) rfl rfl rfl rfl rfl rfl rfl rfl rfl rfl (fun _ => xw_rcv1 (t := 12) (xw_obd (by decide +kernel)) rfl) rfl (List.forall_mem_cons.mpr ⟨rfl, List.forall_mem_cons.mpr ⟨rfl, List.forall_mem_cons.mpr ⟨rfl, List.forall_mem_cons.mpr ⟨rfl, fun _ h => absurd h List.not_mem_nil⟩⟩⟩⟩) (ygf254 hB _ _ _ _ rfl rfl (w32_xR _ _ _)) (fun v1 m1 cv1 => ?_)
      refine xS_if (fun h2 => ?_) (fun h2 => ?_)
      · refine xS_of (pc' := 145) (L' := [(0, xa 536), (2, xj x2)]) (st' := []) (m' := m1) (fun ex ns r q => ?_) ?_
        · refine xw_if_eqT rfl (w32_cg (w32_of (xw_zr cv1))) h2 ?_
          exact q
        exact xS_ret (v := 0) rfl rfl rfl rfl
      · refine xS_of (pc' := 145) (L' := [(0, xa 536), (2, xj x2)]) (st' := []) (m' := (xw_u m1 536 12 x2)) (fun ex ns r q => ?_) ?_
        · refine xw_if_eqF rfl (w32_cg (w32_of (xw_zr cv1))) h2 ?_
          refine xw_aload_n rfl rfl rfl ?_
          refine xw_lload_n rfl rfl ?_
          refine xw_l2i rfl ?_
          refine xw_pfI rfl (xw_obd (by decide +kernel)) xk12_12 (qi := 12) rfl (xw_okI rfl) ?_
          exact q
        exact xS_ret (v := 0) rfl rfl rfl rfl
    · refine xS_of (pc' := 119) (L' := [(2, xj x2), (0, xa 536), (1, xi x1)]) (st' := [xj 2147483647, xj x2, xa 536]) (m' := m) (fun ex ns r q => ?_) ?_
      · refine xw_jc_ltF rfl rfl (w64_cg c2) (w64_cg rfl) h1 ?_
        refine xw_lload_n rfl rfl ?_
        refine xw_ldc2 (e := 2147483647) rfl (by decide +kernel) ?_
        exact q
      refine xS_if (fun h2 => ?_) (fun h2 => ?_)
      · refine xS_of (pc' := 133) (L' := [(0, xa 536), (2, xj x2)]) (st' := [xi (xR m 536 9), xi 2, xi 0, xa 536]) (m' := m) (fun ex ns r q => ?_) ?_
        · refine xw_jc_gtT rfl rfl (w64_cg c2) (w64_cg rfl) h2 ?_
          refine xw_iconst rfl ?_
          refine xw_iconst rfl ?_
          refine xw_aload_n rfl rfl rfl ?_
          refine xw_gfIc (v := (m 536 9)) (v' := (xR m 536 9)) rfl (xw_obd (by decide +kernel)) xk12_9 (qi := 9) rfl rfl rfl ?_
          refine xw_lo (L2 := [(0, xa 536), (2, xj x2)]) (List.forall_mem_cons.mpr ⟨rfl, List.forall_mem_cons.mpr ⟨rfl, fun _ h => absurd h List.not_mem_nil⟩⟩) ?_
          exact q
        refine xS_call (q := 254) (n := 4) (kq := 4) (as := [xa 536, xi 0, xi 2, xi (xR m 536 9)]) (st1 := []) rfl rfl rfl rfl rfl rfl rfl rfl rfl rfl (fun _ => xw_rcv1 (t := 12) (xw_obd (by decide +kernel)) rfl) rfl (List.forall_mem_cons.mpr ⟨rfl, List.forall_mem_cons.mpr ⟨rfl, List.forall_mem_cons.mpr ⟨rfl, List.forall_mem_cons.mpr ⟨rfl, fun _ h => absurd h List.not_mem_nil⟩⟩⟩⟩) (ygf254 hB _ _ _ _ rfl rfl (w32_xR _ _ _)) (fun v2 m2 cv2 => ?_)
        refine xS_if (fun h3 => ?_) (fun h3 => ?_)
        · refine xS_of (pc' := 145) (L' := [(0, xa 536), (2, xj x2)]) (st' := []) (m' := m2) (fun ex ns r q => ?_) ?_
          · refine xw_if_eqT rfl (w32_cg (w32_of (xw_zr cv2))) h3 ?_
            exact q
          exact xS_ret (v := 0) rfl rfl rfl rfl
        · refine xS_of (pc' := 145) (L' := [(0, xa 536), (2, xj x2)]) (st' := []) (m' := (xw_u m2 536 12 x2)) (fun ex ns r q => ?_) ?_
          · refine xw_if_eqF rfl (w32_cg (w32_of (xw_zr cv2))) h3 ?_
            refine xw_aload_n rfl rfl rfl ?_
            refine xw_lload_n rfl rfl ?_
            refine xw_l2i rfl ?_
            refine xw_pfI rfl (xw_obd (by decide +kernel)) xk12_12 (qi := 12) rfl (xw_okI rfl) ?_
            exact q
          exact xS_ret (v := 0) rfl rfl rfl rfl
      · refine xS_of (pc' := 133) (L' := [(0, xa 536), (2, xj x2)]) (st' := [xi (xR m 536 9), xi 2, xi 1, xa 536]) (m' := m) (fun ex ns r q => ?_) ?_
        · refine xw_jc_gtF rfl rfl (w64_cg c2) (w64_cg rfl) h2 ?_
          refine xw_iconst rfl ?_
          refine xw_goto rfl ?_
          refine xw_iconst rfl ?_
          refine xw_aload_n rfl rfl rfl ?_
          refine xw_gfIc (v := (m 536 9)) (v' := (xR m 536 9)) rfl (xw_obd (by decide +kernel)) xk12_9 (qi := 9) rfl rfl rfl ?_
          refine xw_lo (L2 := [(0, xa 536), (2, xj x2)]) (List.forall_mem_cons.mpr ⟨rfl, List.forall_mem_cons.mpr ⟨rfl, fun _ h => absurd h List.not_mem_nil⟩⟩) ?_
          exact q
        refine xS_call (q := 254) (n := 4) (kq := 4) (as := [xa 536, xi 1, xi 2, xi (xR m 536 9)]) (st1 := []) rfl rfl rfl rfl rfl rfl rfl rfl rfl rfl (fun _ => xw_rcv1 (t := 12) (xw_obd (by decide +kernel)) rfl) rfl (List.forall_mem_cons.mpr ⟨rfl, List.forall_mem_cons.mpr ⟨rfl, List.forall_mem_cons.mpr ⟨rfl, List.forall_mem_cons.mpr ⟨rfl, fun _ h => absurd h List.not_mem_nil⟩⟩⟩⟩) (ygf254 hB _ _ _ _ rfl rfl (w32_xR _ _ _)) (fun v3 m3 cv3 => ?_)
        refine xS_if (fun h3 => ?_) (fun h3 => ?_)
        · refine xS_of (pc' := 145) (L' := [(0, xa 536), (2, xj x2)]) (st' := []) (m' := m3) (fun ex ns r q => ?_) ?_
          · refine xw_if_eqT rfl (w32_cg (w32_of (xw_zr cv3))) h3 ?_
            exact q
          exact xS_ret (v := 0) rfl rfl rfl rfl
        · refine xS_of (pc' := 145) (L' := [(0, xa 536), (2, xj x2)]) (st' := []) (m' := (xw_u m3 536 12 x2)) (fun ex ns r q => ?_) ?_
          · refine xw_if_eqF rfl (w32_cg (w32_of (xw_zr cv3))) h3 ?_
            refine xw_aload_n rfl rfl rfl ?_
            refine xw_lload_n rfl rfl ?_
            refine xw_l2i rfl ?_
            refine xw_pfI rfl (xw_obd (by decide +kernel)) xk12_12 (qi := 12) rfl (xw_okI rfl) ?_
            exact q
          exact xS_ret (v := 0) rfl rfl rfl rfl
  · refine xS_of (pc' := 111) (L' := [(2, xj (w64 (-x2))), (0, xa 536), (1, xi x1)]) (st' := [xj (-2147483648), xj (w64 (-x2)), xa 536]) (m' := m) (fun ex ns r q => ?_) ?_
    · refine xw_if_eqF rfl (w32_cg c1) h0 ?_
      refine xw_lload_n rfl rfl ?_
      refine xw_lneg rfl ?_
      refine xw_goto rfl ?_
      refine xw_cst (st' := [xj (w64 (-x2))]) (xw_sc (xj_c rfl) rfl) ?_
      refine xw_lstore_n (L' := [(2, xj (w64 (-x2))), (0, xa 536), (1, xi x1)]) rfl (by decide) rfl ?_
      refine xw_aload_n rfl rfl rfl ?_
      refine xw_lload_n rfl rfl ?_
      refine xw_ldc2 (e := (-2147483648)) rfl (by decide +kernel) ?_
      exact q
    refine xS_if (fun h1 => ?_) (fun h1 => ?_)
    · refine xS_of (pc' := 133) (L' := [(0, xa 536), (2, xj (w64 (-x2)))]) (st' := [xi (xR m 536 9), xi 2, xi 0, xa 536]) (m' := m) (fun ex ns r q => ?_) ?_
      · refine xw_jc_ltT rfl rfl (w64_cg (w64_w _)) (w64_cg rfl) h1 ?_
        refine xw_iconst rfl ?_
        refine xw_iconst rfl ?_
        refine xw_aload_n rfl rfl rfl ?_
        refine xw_gfIc (v := (m 536 9)) (v' := (xR m 536 9)) rfl (xw_obd (by decide +kernel)) xk12_9 (qi := 9) rfl rfl rfl ?_
        refine xw_lo (L2 := [(0, xa 536), (2, xj (w64 (-x2)))]) (List.forall_mem_cons.mpr ⟨rfl, List.forall_mem_cons.mpr ⟨rfl, fun _ h => absurd h List.not_mem_nil⟩⟩) ?_
        exact q
      refine xS_call (q := 254) (n := 4) (kq := 4) (as := [xa 536, xi 0, xi 2, xi (xR m 536 9)]) (st1 := []) rfl rfl rfl rfl rfl rfl rfl rfl rfl rfl (fun _ => xw_rcv1 (t := 12) (xw_obd (by decide +kernel)) rfl) rfl (List.forall_mem_cons.mpr ⟨rfl, List.forall_mem_cons.mpr ⟨rfl, List.forall_mem_cons.mpr ⟨rfl, List.forall_mem_cons.mpr ⟨rfl, fun _ h => absurd h List.not_mem_nil⟩⟩⟩⟩) (ygf254 hB _ _ _ _ rfl rfl (w32_xR _ _ _)) (fun v4 m4 cv4 => ?_)
      refine xS_if (fun h2 => ?_) (fun h2 => ?_)
      · refine xS_of (pc' := 145) (L' := [(0, xa 536), (2, xj (w64 (-x2)))]) (st' := []) (m' := m4) (fun ex ns r q => ?_) ?_
        · refine xw_if_eqT rfl (w32_cg (w32_of (xw_zr cv4))) h2 ?_
          exact q
        exact xS_ret (v := 0) rfl rfl rfl rfl
      · refine xS_of (pc' := 145) (L' := [(0, xa 536), (2, xj (w64 (-x2)))]) (st' := []) (m' := (xw_u m4 536 12 (w64 (-x2)))) (fun ex ns r q => ?_) ?_
        · refine xw_if_eqF rfl (w32_cg (w32_of (xw_zr cv4))) h2 ?_
          refine xw_aload_n rfl rfl rfl ?_
          refine xw_lload_n rfl rfl ?_
          refine xw_l2i rfl ?_
          refine xw_pfI rfl (xw_obd (by decide +kernel)) xk12_12 (qi := 12) rfl (xw_okI rfl) ?_
          exact q
        exact xS_ret (v := 0) rfl rfl rfl rfl
    · refine xS_of (pc' := 119) (L' := [(2, xj (w64 (-x2))), (0, xa 536), (1, xi x1)]) (st' := [xj 2147483647, xj (w64 (-x2)), xa 536]) (m' := m) (fun ex ns r q => ?_) ?_
      · refine xw_jc_ltF rfl rfl (w64_cg (w64_w _)) (w64_cg rfl) h1 ?_
        refine xw_lload_n rfl rfl ?_
        refine xw_ldc2 (e := 2147483647) rfl (by decide +kernel) ?_
        exact q
      refine xS_if (fun h2 => ?_) (fun h2 => ?_)
      · refine xS_of (pc' := 133) (L' := [(0, xa 536), (2, xj (w64 (-x2)))]) (st' := [xi (xR m 536 9), xi 2, xi 0, xa 536]) (m' := m) (fun ex ns r q => ?_) ?_
        · refine xw_jc_gtT rfl rfl (w64_cg (w64_w _)) (w64_cg rfl) h2 ?_
          refine xw_iconst rfl ?_
          refine xw_iconst rfl ?_
          refine xw_aload_n rfl rfl rfl ?_
          refine xw_gfIc (v := (m 536 9)) (v' := (xR m 536 9)) rfl (xw_obd (by decide +kernel)) xk12_9 (qi := 9) rfl rfl rfl ?_
          refine xw_lo (L2 := [(0, xa 536), (2, xj (w64 (-x2)))]) (List.forall_mem_cons.mpr ⟨rfl, List.forall_mem_cons.mpr ⟨rfl, fun _ h => absurd h List.not_mem_nil⟩⟩) ?_
          exact q
        refine xS_call (q := 254) (n := 4) (kq := 4) (as := [xa 536, xi 0, xi 2, xi (xR m 536 9)]) (st1 := []) rfl rfl rfl rfl rfl rfl rfl rfl rfl rfl (fun _ => xw_rcv1 (t := 12) (xw_obd (by decide +kernel)) rfl) rfl (List.forall_mem_cons.mpr ⟨rfl, List.forall_mem_cons.mpr ⟨rfl, List.forall_mem_cons.mpr ⟨rfl, List.forall_mem_cons.mpr ⟨rfl, fun _ h => absurd h List.not_mem_nil⟩⟩⟩⟩) (ygf254 hB _ _ _ _ rfl rfl (w32_xR _ _ _)) (fun v5 m5 cv5 => ?_)
        refine xS_if (fun h3 => ?_) (fun h3 => ?_)
        · refine xS_of (pc' := 145) (L' := [(0, xa 536), (2, xj (w64 (-x2)))]) (st' := []) (m' := m5) (fun ex ns r q => ?_) ?_
          · refine xw_if_eqT rfl (w32_cg (w32_of (xw_zr cv5))) h3 ?_
            exact q
          exact xS_ret (v := 0) rfl rfl rfl rfl
        · refine xS_of (pc' := 145) (L' := [(0, xa 536), (2, xj (w64 (-x2)))]) (st' := []) (m' := (xw_u m5 536 12 (w64 (-x2)))) (fun ex ns r q => ?_) ?_
          · refine xw_if_eqF rfl (w32_cg (w32_of (xw_zr cv5))) h3 ?_
            refine xw_aload_n rfl rfl rfl ?_
            refine xw_lload_n rfl rfl ?_
            refine xw_l2i rfl ?_
            refine xw_pfI rfl (xw_obd (by decide +kernel)) xk12_12 (qi := 12) rfl (xw_okI rfl) ?_
            exact q
          exact xS_ret (v := 0) rfl rfl rfl rfl
      · refine xS_of (pc' := 133) (L' := [(0, xa 536), (2, xj (w64 (-x2)))]) (st' := [xi (xR m 536 9), xi 2, xi 1, xa 536]) (m' := m) (fun ex ns r q => ?_) ?_
        · refine xw_jc_gtF rfl rfl (w64_cg (w64_w _)) (w64_cg rfl) h2 ?_
          refine xw_iconst rfl ?_
          refine xw_goto rfl ?_
          refine xw_iconst rfl ?_
          refine xw_aload_n rfl rfl rfl ?_
          refine xw_gfIc (v := (m 536 9)) (v' := (xR m 536 9)) rfl (xw_obd (by decide +kernel)) xk12_9 (qi := 9) rfl rfl rfl ?_
          refine xw_lo (L2 := [(0, xa 536), (2, xj (w64 (-x2)))]) (List.forall_mem_cons.mpr ⟨rfl, List.forall_mem_cons.mpr ⟨rfl, fun _ h => absurd h List.not_mem_nil⟩⟩) ?_
          exact q
        refine xS_call (q := 254) (n := 4) (kq := 4) (as := [xa 536, xi 1, xi 2, xi (xR m 536 9)]) (st1 := []) rfl rfl rfl rfl rfl rfl rfl rfl rfl rfl (fun _ => xw_rcv1 (t := 12) (xw_obd (by decide +kernel)) rfl) rfl (List.forall_mem_cons.mpr ⟨rfl, List.forall_mem_cons.mpr ⟨rfl, List.forall_mem_cons.mpr ⟨rfl, List.forall_mem_cons.mpr ⟨rfl, fun _ h => absurd h List.not_mem_nil⟩⟩⟩⟩) (ygf254 hB _ _ _ _ rfl rfl (w32_xR _ _ _)) (fun v6 m6 cv6 => ?_)
        refine xS_if (fun h3 => ?_) (fun h3 => ?_)
        · refine xS_of (pc' := 145) (L' := [(0, xa 536), (2, xj (w64 (-x2)))]) (st' := []) (m' := m6) (fun ex ns r q => ?_) ?_
          · refine xw_if_eqT rfl (w32_cg (w32_of (xw_zr cv6))) h3 ?_
            exact q
          exact xS_ret (v := 0) rfl rfl rfl rfl
        · refine xS_of (pc' := 145) (L' := [(0, xa 536), (2, xj (w64 (-x2)))]) (st' := []) (m' := (xw_u m6 536 12 (w64 (-x2)))) (fun ex ns r q => ?_) ?_
          · refine xw_if_eqF rfl (w32_cg (w32_of (xw_zr cv6))) h3 ?_
            refine xw_aload_n rfl rfl rfl ?_
            refine xw_lload_n rfl rfl ?_
            refine xw_l2i rfl ?_
            refine xw_pfI rfl (xw_obd (by decide +kernel)) xk12_12 (qi := 12) rfl (xw_okI rfl) ?_
            exact q
          exact xS_ret (v := 0) rfl rfl rfl rfl
theorem ysl253_25 {B : Nat} (hB : B ≤ 512) {xs : Nat → Int32} {SL d : Nat} {r25 : Int → Int → xw_M → xP} (hr25 : ∀ x1 x2 m, w32 x1 = x1 → w64 x2 = x2 → xS B xs SL (d + 1) 253 (4, none, [], 13) 0 25 [(0, xa 536), (1, xi x1), (2, xj x2)] [] m (r25 x1 x2 m)) : ∀ x1 x2 m, w32 x1 = x1 → w64 x2 = x2 → xS B xs SL (d + 1) 253 (4, none, [], 13) 0 25 [(0, xa 536), (1, xi x1), (2, xj x2)] [] m (yl253_25 B r25 x1 x2 m) := by
  intro x1 x2 m c1 c2
  unfold yl253_25
  refine xS_of (pc' := 33) (L' := [(0, xa 536), (1, xi x1), (2, xj x2)]) (st' := [xi (xR m 536 5), xi (xR m 536 8)]) (m' := m) (fun ex ns r q => ?_) ?_
  · refine xw_aload_n rfl rfl rfl ?_
    refine xw_gfIc (v := (m 536 8)) (v' := (xR m 536 8)) rfl (xw_obd (by decide +kernel)) xk12_8 (qi := 8) rfl rfl rfl ?_
    refine xw_aload_n rfl rfl rfl ?_
    refine xw_gfIc (v := (m 536 5)) (v' := (xR m 536 5)) rfl (xw_obd (by decide +kernel)) xk12_5 (qi := 5) rfl rfl rfl ?_
    exact q
  refine xS_if (fun h0 => ?_) (fun h0 => ?_)
  · refine xS_of (pc' := 41) (L' := [(0, xa 536), (1, xi x1), (2, xj x2)]) (st' := [xi (xR m 536 8), xa 536]) (m' := m) (fun ex ns r q => ?_) ?_
    · refine xw_ic_geF rfl (w32_cg (w32_xR _ _ _)) (w32_cg (w32_xR _ _ _)) (Int.not_le.mpr h0) ?_
      refine xw_aload_n rfl rfl rfl ?_
      refine xw_aload_n rfl rfl rfl ?_
      refine xw_gfIc (v := (m 536 8)) (v' := (xR m 536 8)) rfl (xw_obd (by decide +kernel)) xk12_8 (qi := 8) rfl rfl rfl ?_
      refine xw_lo (L2 := [(0, xa 536), (1, xi x1), (2, xj x2)]) (List.forall_mem_cons.mpr ⟨rfl, List.forall_mem_cons.mpr ⟨rfl, List.forall_mem_cons.mpr ⟨rfl, fun _ h => absurd h List.not_mem_nil⟩⟩⟩) ?_
      exact q
    refine xS_call (q := 249) (n := 2) (kq := 1) (as := [xa 536, xi (xR m 536 8)]) (st1 := []) rfl rfl rfl rfl rfl rfl rfl rfl rfl rfl (fun _ => xw_rcv1 (t := 12) (xw_obd (by decide +kernel)) rfl) rfl (List.forall_mem_cons.mpr ⟨rfl, List.forall_mem_cons.mpr ⟨rfl, fun _ h => absurd h List.not_mem_nil⟩⟩) (ygf249 hB _ _ (w32_xR _ _ _)) (fun v1 m1 cv1 => ?_)
    refine xS_of (pc' := 44) (L' := [(0, xa 536), (1, xi x1), (2, xj x2)]) (st' := [xi v1]) (m' := m1) (fun ex ns r q => ?_) ?_
    · refine xw_lo (L2 := [(0, xa 536), (1, xi x1), (2, xj x2)]) (List.forall_mem_cons.mpr ⟨rfl, List.forall_mem_cons.mpr ⟨rfl, List.forall_mem_cons.mpr ⟨rfl, fun _ h => absurd h List.not_mem_nil⟩⟩⟩) ?_
      exact q
    refine xS_call (q := 251) (n := 1) (kq := 4) (as := [xi v1]) (st1 := []) rfl rfl rfl rfl rfl rfl rfl rfl rfl rfl (fun _ => xw_rcv0 rfl) rfl (List.forall_mem_cons.mpr ⟨rfl, fun _ h => absurd h List.not_mem_nil⟩) (ygf251 hB _ _ cv1) (fun v2 m2 cv2 => ?_)
    refine xS_if (fun h1 => ?_) (fun h1 => ?_)
    · refine xS_of (pc' := 95) (L' := [(0, xa 536), (1, xi x1), (2, xj x2)]) (st' := []) (m' := m2) (fun ex ns r q => ?_) ?_
      · refine xw_if_eqT rfl (w32_cg (w32_of (xw_zr cv2))) h1 ?_
        refine xw_lo (L2 := [(0, xa 536), (1, xi x1), (2, xj x2)]) (List.forall_mem_cons.mpr ⟨rfl, List.forall_mem_cons.mpr ⟨rfl, List.forall_mem_cons.mpr ⟨rfl, fun _ h => absurd h List.not_mem_nil⟩⟩⟩) ?_
        exact q
      exact ygk253_95 hB _ _ _ c1 c2
    · refine xS_of (pc' := 54) (L' := [(0, xa 536), (1, xi x1), (2, xj x2)]) (st' := [xj 3000000000, xj x2]) (m' := m2) (fun ex ns r q => ?_) ?_
      · refine xw_if_eqF rfl (w32_cg (w32_of (xw_zr cv2))) h1 ?_
        refine xw_lload_n rfl rfl ?_
        refine xw_ldc2 (e := 3000000000) rfl (by decide +kernel) ?_
        exact q
      refine xS_if (fun h2 => ?_) (fun h2 => ?_)
      · refine xS_of (pc' := 25) (L' := [(0, xa 536), (1, xi x1), (2, xj x2)]) (st' := []) (m' := (xw_u m2 536 8 ((xR m2 536 8) + 1))) (fun ex ns r q => ?_) ?_
        · refine xw_jc_leF rfl rfl (w64_cg c2) (w64_cg rfl) (Int.not_le.mpr h2) ?_
          refine xw_lload_n rfl rfl ?_
          refine xw_goto rfl ?_
          refine xw_lstore_n (L' := [(2, xj x2), (0, xa 536), (1, xi x1)]) rfl (by decide) rfl ?_
          refine xw_aload_n rfl rfl rfl ?_
          refine xw_dup rfl rfl ?_
          refine xw_gfIc (v := (m2 536 8)) (v' := (xR m2 536 8)) rfl (xw_obd (by decide +kernel)) xk12_8 (qi := 8) rfl rfl rfl ?_
          refine xw_iconst rfl ?_
          refine xw_iadd rfl ?_
          refine xw_pfI rfl (xw_obd (by decide +kernel)) xk12_8 (qi := 8) rfl (xw_okI rfl) ?_
          refine xw_goto rfl ?_
          refine xw_lo (L2 := [(0, xa 536), (1, xi x1), (2, xj x2)]) (List.forall_mem_cons.mpr ⟨rfl, List.forall_mem_cons.mpr ⟨rfl, List.forall_mem_cons.mpr ⟨rfl, fun _ h => absurd h List.not_mem_nil⟩⟩⟩) ?_
          exact q
        exact hr25 _ _ _ c1 c2
      · refine xS_of (pc' := 72) (L' := [(0, xa 536), (1, xi x1)]) (st' := [xi (xR m2 536 8), xa 536, xj (10 * x2)]) (m' := m2) (fun ex ns r q => ?_) ?_
        · refine xw_jc_leT rfl rfl (w64_cg c2) (w64_cg rfl) (Int.not_lt.mp h2) ?_
          refine xw_ldc2 (e := 10) rfl (by decide +kernel) ?_
          refine xw_lload_n rfl rfl ?_
          refine xw_lmul rfl ?_
          refine xw_aload_n rfl rfl rfl ?_
          refine xw_aload_n rfl rfl rfl ?_
          refine xw_gfIc (v := (m2 536 8)) (v' := (xR m2 536 8)) rfl (xw_obd (by decide +kernel)) xk12_8 (qi := 8) rfl rfl rfl ?_
          refine xw_lo (L2 := [(0, xa 536), (1, xi x1)]) (List.forall_mem_cons.mpr ⟨rfl, List.forall_mem_cons.mpr ⟨rfl, fun _ h => absurd h List.not_mem_nil⟩⟩) ?_
          exact q
        refine xS_call (q := 249) (n := 2) (kq := 1) (as := [xa 536, xi (xR m2 536 8)]) (st1 := [xj (10 * x2)]) rfl rfl rfl rfl rfl rfl rfl rfl rfl rfl (fun _ => xw_rcv1 (t := 12) (xw_obd (by decide +kernel)) rfl) rfl (List.forall_mem_cons.mpr ⟨rfl, List.forall_mem_cons.mpr ⟨rfl, fun _ h => absurd h List.not_mem_nil⟩⟩) (ygf249 hB _ _ (w32_xR _ _ _)) (fun v3 m3 cv3 => ?_)
        refine xS_of (pc' := 25) (L' := [(0, xa 536), (1, xi x1), (2, xj (w64 (((10 * x2) + v3) - 48)))]) (st' := []) (m' := (xw_u m3 536 8 ((xR m3 536 8) + 1))) (fun ex ns r q => ?_) ?_
        · refine xw_i2l rfl (w32_cg cv3) ?_
          refine xw_ladd rfl ?_
          refine xw_ldc2 (e := 48) rfl (by decide +kernel) ?_
          refine xw_lsub rfl ?_
          refine xw_cst (st' := [xj (w64 (((10 * x2) + v3) - 48))]) (xw_sc (xj_c rfl) rfl) ?_
          refine xw_lstore_n (L' := [(2, xj (w64 (((10 * x2) + v3) - 48))), (0, xa 536), (1, xi x1)]) rfl (by decide) rfl ?_
          refine xw_aload_n rfl rfl rfl ?_
          refine xw_dup rfl rfl ?_
          refine xw_gfIc (v := (m3 536 8)) (v' := (xR m3 536 8)) rfl (xw_obd (by decide +kernel)) xk12_8 (qi := 8) rfl rfl rfl ?_
          refine xw_iconst rfl ?_
          refine xw_iadd rfl ?_
          refine xw_pfI rfl (xw_obd (by decide +kernel)) xk12_8 (qi := 8) rfl (xw_okI rfl) ?_
          refine xw_goto rfl ?_
          refine xw_lo (L2 := [(0, xa 536), (1, xi x1), (2, xj (w64 (((10 * x2) + v3) - 48)))]) (List.forall_mem_cons.mpr ⟨rfl, List.forall_mem_cons.mpr ⟨rfl, List.forall_mem_cons.mpr ⟨rfl, fun _ h => absurd h List.not_mem_nil⟩⟩⟩) ?_
          exact q
        exact hr25 _ _ _ c1 (w64_w _)
  · refine xS_of (pc' := 95) (L' := [(0, xa 536), (1, xi x1), (2, xj x2)]) (st' := []) (m' := m) (fun ex ns r q => ?_) ?_
    · refine xw_ic_geT rfl (w32_cg (w32_xR _ _ _)) (w32_cg (w32_xR _ _ _)) (Int.not_lt.mp h0) ?_
      refine xw_lo (L2 := [(0, xa 536), (1, xi x1), (2, xj x2)]) (List.forall_mem_cons.mpr ⟨rfl, List.forall_mem_cons.mpr ⟨rfl, List.forall_mem_cons.mpr ⟨rfl, fun _ h => absurd h List.not_mem_nil⟩⟩⟩) ?_
      exact q
    exact ygk253_95 hB _ _ _ c1 c2
theorem ygl253_25 {B : Nat} (hB : B ≤ 512) {xs : Nat → Int32} {SL d : Nat} : ∀ n x1 x2 m, w32 x1 = x1 → w64 x2 = x2 → xS B xs SL (d + 1) 253 (4, none, [], 13) 0 25 [(0, xa 536), (1, xi x1), (2, xj x2)] [] m (xl2 (yl253_25 B) n x1 x2 m) := by
  intro n
  induction n with
  | zero => intro x1 x2 m c1 c2; exact xS_none
  | succ n ih => exact ysl253_25 hB ih
theorem ygf253 {B : Nat} (hB : B ≤ 512) {xs : Nat → Int32} {SL d : Nat} : ∀ p0 m, w32 p0 = p0 → xS B xs SL (d + 1) 253 (4, none, [], 13) 0 0 [(0, xa 536), (1, xi p0)] [] m (yf253 B p0 m) := by
  intro p0 m cp0
  unfold yf253
  refine xS_of (pc' := 11) (L' := [(0, xa 536), (1, xi p0)]) (st' := [xi p0, xi (xR m 536 8), xa 536]) (m' := (xw_u m 536 10 2)) (fun ex ns r q => ?_) ?_
  · refine xw_aload_n rfl rfl rfl ?_
    refine xw_iconst rfl ?_
    refine xw_pfI rfl (xw_obd (by decide +kernel)) xk12_10 (qi := 10) rfl (xw_okI rfl) ?_
    refine xw_aload_n rfl rfl rfl ?_
    refine xw_dup rfl rfl ?_
    refine xw_gfIc (v := (m 536 8)) (v' := (xR m 536 8)) rfl (xw_obd (by decide +kernel)) xk12_8 (qi := 8) rfl (xw_un (fun e => absurd e.2 (by decide)) rfl) rfl ?_
    refine xw_iload_n rfl rfl ?_
    exact q
  refine xS_if (fun h0 => ?_) (fun h0 => ?_)
  · refine xS_of (pc' := 25) (L' := [(0, xa 536), (1, xi p0), (2, xj 0)]) (st' := []) (m' := (xw_u (xw_u m 536 10 2) 536 8 ((xR m 536 8) + 0))) (fun ex ns r q => ?_) ?_
    · refine xw_if_eqT rfl (w32_cg cp0) h0 ?_
      refine xw_iconst rfl ?_
      refine xw_iadd rfl ?_
      refine xw_pfI rfl (xw_obd (by decide +kernel)) xk12_8 (qi := 8) rfl (xw_okI rfl) ?_
      refine xw_lconst (e := 0) rfl rfl ?_
      refine xw_lstore_n (L' := [(2, xj 0), (0, xa 536), (1, xi p0)]) rfl (by decide) rfl ?_
      refine xw_lo (L2 := [(0, xa 536), (1, xi p0), (2, xj 0)]) (List.forall_mem_cons.mpr ⟨rfl, List.forall_mem_cons.mpr ⟨rfl, List.forall_mem_cons.mpr ⟨rfl, fun _ h => absurd h List.not_mem_nil⟩⟩⟩) ?_
      exact q
    exact ygl253_25 hB 1000000 _ _ _ cp0 rfl
  · refine xS_of (pc' := 25) (L' := [(0, xa 536), (1, xi p0), (2, xj 0)]) (st' := []) (m' := (xw_u (xw_u m 536 10 2) 536 8 ((xR m 536 8) + 1))) (fun ex ns r q => ?_) ?_
    · refine xw_if_eqF rfl (w32_cg cp0) h0 ?_
      refine xw_iconst rfl ?_
      refine xw_goto rfl ?_
      refine xw_iadd rfl ?_
      refine xw_pfI rfl (xw_obd (by decide +kernel)) xk12_8 (qi := 8) rfl (xw_okI rfl) ?_
      refine xw_lconst (e := 0) rfl rfl ?_
      refine xw_lstore_n (L' := [(2, xj 0), (0, xa 536), (1, xi p0)]) rfl (by decide) rfl ?_
      refine xw_lo (L2 := [(0, xa 536), (1, xi p0), (2, xj 0)]) (List.forall_mem_cons.mpr ⟨rfl, List.forall_mem_cons.mpr ⟨rfl, List.forall_mem_cons.mpr ⟨rfl, fun _ h => absurd h List.not_mem_nil⟩⟩⟩) ?_
      exact q
    exact ygl253_25 hB 1000000 _ _ _ cp0 rfl
theorem ygk255_101 {B : Nat} (hB : B ≤ 512) {xs : Nat → Int32} {SL d : Nat} : ∀ x1 x2 x3 m, w32 x1 = x1 → w32 x2 = x2 → w32 x3 = x3 → xS B xs SL (d + 1) 255 (5, none, [], 13) 0 101 [(0, xa 536), (1, xi x1), (2, xi x2), (3, xi x3)] [] m (yk255_101 B x1 x2 x3 m) := by
  intro x1 x2 x3 m c1 c2 c3
  unfold yk255_101
  refine xS_of (pc' := 116) (L' := [(0, xa 536), (1, xi x1), (2, xi x2), (3, xi x3)]) (st' := [xi (xR m 536 9), xi 1, xi 1, xa 536]) (m' := m) (fun ex ns r q => ?_) ?_
  · refine xw_iconst rfl ?_
    refine xw_goto rfl ?_
    refine xw_istore (L' := [(4, xi 1), (0, xa 536), (1, xi x1), (2, xi x2), (3, xi x3)]) rfl (by decide) rfl ?_
    refine xw_aload_n rfl rfl rfl ?_
    refine xw_iload rfl rfl ?_
    refine xw_iconst rfl ?_
    refine xw_aload_n rfl rfl rfl ?_
    refine xw_gfIc (v := (m 536 9)) (v' := (xR m 536 9)) rfl (xw_obd (by decide +kernel)) xk12_9 (qi := 9) rfl rfl rfl ?_
    refine xw_lo (L2 := [(0, xa 536), (1, xi x1), (2, xi x2), (3, xi x3)]) (List.forall_mem_cons.mpr ⟨rfl, List.forall_mem_cons.mpr ⟨rfl, List.forall_mem_cons.mpr ⟨rfl, List.forall_mem_cons.mpr ⟨rfl, fun _ h => absurd h List.not_mem_nil⟩⟩⟩⟩) ?_
    exact q
  refine xS_call (q := 254) (n := 4) (kq := 4) (as := [xa 536, xi 1, xi 1, xi (xR m 536 9)]) (st1 := []) rfl rfl rfl rfl rfl rfl rfl rfl rfl rfl (fun _ => xw_rcv1 (t := 12) (xw_obd (by decide +kernel)) rfl) rfl (List.forall_mem_cons.mpr ⟨rfl, List.forall_mem_cons.mpr ⟨rfl, List.forall_mem_cons.mpr ⟨rfl, List.forall_mem_cons.mpr ⟨rfl, fun _ h => absurd h List.not_mem_nil⟩⟩⟩⟩) (ygf254 hB _ _ _ _ rfl rfl (w32_xR _ _ _)) (fun v1 m1 cv1 => ?_)
  refine xS_if (fun h0 => ?_) (fun h0 => ?_)
  · refine xS_of (pc' := 159) (L' := [(0, xa 536), (1, xi x1), (2, xi x2), (3, xi x3)]) (st' := []) (m' := m1) (fun ex ns r q => ?_) ?_
    · refine xw_if_eqT rfl (w32_cg (w32_of (xw_zr cv1))) h0 ?_
      exact q
    exact xS_ret (v := 0) rfl rfl rfl rfl
  · refine xS_of (pc' := 124) (L' := [(0, xa 536), (1, xi x1), (2, xi x2), (3, xi x3)]) (st' := [xi x3, xa 536]) (m' := m1) (fun ex ns r q => ?_) ?_
    · refine xw_if_eqF rfl (w32_cg (w32_of (xw_zr cv1))) h0 ?_
      refine xw_aload_n rfl rfl rfl ?_
      refine xw_iload_n rfl rfl ?_
      exact q
    refine xS_if (fun h1 => ?_) (fun h1 => ?_)
    · refine xS_of (pc' := 159) (L' := [(0, xa 536), (1, xi x1), (2, xi x2), (3, xi x3)]) (st' := []) (m' := (xw_u (xw_u m1 536 13 x1) 536 8 ((xR m1 536 8) + 1))) (fun ex ns r q => ?_) ?_
      · refine xw_if_eqT rfl (w32_cg c3) h1 ?_
        refine xw_iload_n rfl rfl ?_
        refine xw_pfI rfl (xw_obd (by decide +kernel)) xk12_13 (qi := 13) rfl (xw_okI rfl) ?_
        refine xw_aload_n rfl rfl rfl ?_
        refine xw_dup rfl rfl ?_
        refine xw_gfIc (v := (m1 536 8)) (v' := (xR m1 536 8)) rfl (xw_obd (by decide +kernel)) xk12_8 (qi := 8) rfl (xw_un (fun e => absurd e.2 (by decide)) rfl) rfl ?_
        refine xw_iload_n rfl rfl ?_
        refine xw_if_eqT rfl (w32_cg c3) h1 ?_
        refine xw_iconst rfl ?_
        refine xw_iadd rfl ?_
        refine xw_pfI rfl (xw_obd (by decide +kernel)) xk12_8 (qi := 8) rfl (xw_okI rfl) ?_
        exact q
      exact xS_ret (v := 0) rfl rfl rfl rfl
    · refine xS_of (pc' := 159) (L' := [(0, xa 536), (1, xi x1), (2, xi x2), (3, xi x3)]) (st' := []) (m' := (xw_u (xw_u m1 536 13 ((256 * x1) + x2)) 536 8 ((xR m1 536 8) + 2))) (fun ex ns r q => ?_) ?_
      · refine xw_if_eqF rfl (w32_cg c3) h1 ?_
        refine xw_sipush (e := 256) rfl (by decide +kernel) ?_
        refine xw_iload_n rfl rfl ?_
        refine xw_imul rfl ?_
        refine xw_iload_n rfl rfl ?_
        refine xw_iadd rfl ?_
        refine xw_goto rfl ?_
        refine xw_pfI rfl (xw_obd (by decide +kernel)) xk12_13 (qi := 13) rfl (xw_okI rfl) ?_
        refine xw_aload_n rfl rfl rfl ?_
        refine xw_dup rfl rfl ?_
        refine xw_gfIc (v := (m1 536 8)) (v' := (xR m1 536 8)) rfl (xw_obd (by decide +kernel)) xk12_8 (qi := 8) rfl (xw_un (fun e => absurd e.2 (by decide)) rfl) rfl ?_
        refine xw_iload_n rfl rfl ?_
        refine xw_if_eqF rfl (w32_cg c3) h1 ?_
        refine xw_iconst rfl ?_
        refine xw_goto rfl ?_
        refine xw_iadd rfl ?_
        refine xw_pfI rfl (xw_obd (by decide +kernel)) xk12_8 (qi := 8) rfl (xw_okI rfl) ?_
        exact q
      exact xS_ret (v := 0) rfl rfl rfl rfl
theorem ygk255_41 {B : Nat} (hB : B ≤ 512) {xs : Nat → Int32} {SL d : Nat} : ∀ x1 x2 m, w32 x1 = x1 → w32 x2 = x2 → xS B xs SL (d + 1) 255 (5, none, [], 13) 0 41 [(0, xa 536), (1, xi x1), (2, xi x2)] [] m (yk255_41 B x1 x2 m) := by
  intro x1 x2 m c1 c2
  unfold yk255_41
  refine xS_of (pc' := 50) (L' := [(3, xi 1), (0, xa 536), (1, xi x1), (2, xi x2)]) (st' := [xi 40, xi x1]) (m' := m) (fun ex ns r q => ?_) ?_
  · refine xw_iconst rfl ?_
    refine xw_goto rfl ?_
    refine xw_istore_n (L' := [(3, xi 1), (0, xa 536), (1, xi x1), (2, xi x2)]) rfl (by decide) rfl ?_
    refine xw_iload_n rfl rfl ?_
    refine xw_bipush (e := 40) rfl (by decide +kernel) ?_
    exact q
  refine xS_if (fun h0 => ?_) (fun h0 => ?_)
  · refine xS_of (pc' := 101) (L' := [(0, xa 536), (1, xi x1), (2, xi x2), (3, xi 1)]) (st' := []) (m' := m) (fun ex ns r q => ?_) ?_
    · refine xw_ic_eqT rfl (w32_cg c1) (w32_cg rfl) h0 ?_
      refine xw_lo (L2 := [(0, xa 536), (1, xi x1), (2, xi x2), (3, xi 1)]) (List.forall_mem_cons.mpr ⟨rfl, List.forall_mem_cons.mpr ⟨rfl, List.forall_mem_cons.mpr ⟨rfl, List.forall_mem_cons.mpr ⟨rfl, fun _ h => absurd h List.not_mem_nil⟩⟩⟩⟩) ?_
      exact q
    exact ygk255_101 hB _ _ _ _ c1 c2 rfl
  · refine xS_of (pc' := 56) (L' := [(3, xi 1), (0, xa 536), (1, xi x1), (2, xi x2)]) (st' := [xi 41, xi x1]) (m' := m) (fun ex ns r q => ?_) ?_
    · refine xw_ic_eqF rfl (w32_cg c1) (w32_cg rfl) h0 ?_
      refine xw_iload_n rfl rfl ?_
      refine xw_bipush (e := 41) rfl (by decide +kernel) ?_
      exact q
    refine xS_if (fun h1 => ?_) (fun h1 => ?_)
    · refine xS_of (pc' := 101) (L' := [(0, xa 536), (1, xi x1), (2, xi x2), (3, xi 1)]) (st' := []) (m' := m) (fun ex ns r q => ?_) ?_
      · refine xw_ic_eqT rfl (w32_cg c1) (w32_cg rfl) h1 ?_
        refine xw_lo (L2 := [(0, xa 536), (1, xi x1), (2, xi x2), (3, xi 1)]) (List.forall_mem_cons.mpr ⟨rfl, List.forall_mem_cons.mpr ⟨rfl, List.forall_mem_cons.mpr ⟨rfl, List.forall_mem_cons.mpr ⟨rfl, fun _ h => absurd h List.not_mem_nil⟩⟩⟩⟩) ?_
        exact q
      exact ygk255_101 hB _ _ _ _ c1 c2 rfl
    · refine xS_of (pc' := 62) (L' := [(3, xi 1), (0, xa 536), (1, xi x1), (2, xi x2)]) (st' := [xi 44, xi x1]) (m' := m) (fun ex ns r q => ?_) ?_
      · refine xw_ic_eqF rfl (w32_cg c1) (w32_cg rfl) h1 ?_
        refine xw_iload_n rfl rfl ?_
        refine xw_bipush (e := 44) rfl (by decide +kernel) ?_
        exact q
      refine xS_if (fun h2 => ?_) (fun h2 => ?_)
      · refine xS_of (pc' := 101) (L' := [(0, xa 536), (1, xi x1), (2, xi x2), (3, xi 1)]) (st' := []) (m' := m) (fun ex ns r q => ?_) ?_
        · refine xw_ic_eqT rfl (w32_cg c1) (w32_cg rfl) h2 ?_
          refine xw_lo (L2 := [(0, xa 536), (1, xi x1), (2, xi x2), (3, xi 1)]) (List.forall_mem_cons.mpr ⟨rfl, List.forall_mem_cons.mpr ⟨rfl, List.forall_mem_cons.mpr ⟨rfl, List.forall_mem_cons.mpr ⟨rfl, fun _ h => absurd h List.not_mem_nil⟩⟩⟩⟩) ?_
          exact q
        exact ygk255_101 hB _ _ _ _ c1 c2 rfl
      · refine xS_of (pc' := 68) (L' := [(3, xi 1), (0, xa 536), (1, xi x1), (2, xi x2)]) (st' := [xi 59, xi x1]) (m' := m) (fun ex ns r q => ?_) ?_
        · refine xw_ic_eqF rfl (w32_cg c1) (w32_cg rfl) h2 ?_
          refine xw_iload_n rfl rfl ?_
          refine xw_bipush (e := 59) rfl (by decide +kernel) ?_
          exact q
        refine xS_if (fun h3 => ?_) (fun h3 => ?_)
        · refine xS_of (pc' := 101) (L' := [(0, xa 536), (1, xi x1), (2, xi x2), (3, xi 1)]) (st' := []) (m' := m) (fun ex ns r q => ?_) ?_
          · refine xw_ic_eqT rfl (w32_cg c1) (w32_cg rfl) h3 ?_
            refine xw_lo (L2 := [(0, xa 536), (1, xi x1), (2, xi x2), (3, xi 1)]) (List.forall_mem_cons.mpr ⟨rfl, List.forall_mem_cons.mpr ⟨rfl, List.forall_mem_cons.mpr ⟨rfl, List.forall_mem_cons.mpr ⟨rfl, fun _ h => absurd h List.not_mem_nil⟩⟩⟩⟩) ?_
            exact q
          exact ygk255_101 hB _ _ _ _ c1 c2 rfl
        · refine xS_of (pc' := 74) (L' := [(3, xi 1), (0, xa 536), (1, xi x1), (2, xi x2)]) (st' := [xi 46, xi x1]) (m' := m) (fun ex ns r q => ?_) ?_
          · refine xw_ic_eqF rfl (w32_cg c1) (w32_cg rfl) h3 ?_
            refine xw_iload_n rfl rfl ?_
            refine xw_bipush (e := 46) rfl (by decide +kernel) ?_
            exact q
          refine xS_if (fun h4 => ?_) (fun h4 => ?_)
          · refine xS_of (pc' := 101) (L' := [(0, xa 536), (1, xi x1), (2, xi x2), (3, xi 1)]) (st' := []) (m' := m) (fun ex ns r q => ?_) ?_
            · refine xw_ic_eqT rfl (w32_cg c1) (w32_cg rfl) h4 ?_
              refine xw_lo (L2 := [(0, xa 536), (1, xi x1), (2, xi x2), (3, xi 1)]) (List.forall_mem_cons.mpr ⟨rfl, List.forall_mem_cons.mpr ⟨rfl, List.forall_mem_cons.mpr ⟨rfl, List.forall_mem_cons.mpr ⟨rfl, fun _ h => absurd h List.not_mem_nil⟩⟩⟩⟩) ?_
              exact q
            exact ygk255_101 hB _ _ _ _ c1 c2 rfl
          · refine xS_of (pc' := 80) (L' := [(3, xi 1), (0, xa 536), (1, xi x1), (2, xi x2)]) (st' := [xi 42, xi x1]) (m' := m) (fun ex ns r q => ?_) ?_
            · refine xw_ic_eqF rfl (w32_cg c1) (w32_cg rfl) h4 ?_
              refine xw_iload_n rfl rfl ?_
              refine xw_bipush (e := 42) rfl (by decide +kernel) ?_
              exact q
            refine xS_if (fun h5 => ?_) (fun h5 => ?_)
            · refine xS_of (pc' := 101) (L' := [(0, xa 536), (1, xi x1), (2, xi x2), (3, xi 1)]) (st' := []) (m' := m) (fun ex ns r q => ?_) ?_
              · refine xw_ic_eqT rfl (w32_cg c1) (w32_cg rfl) h5 ?_
                refine xw_lo (L2 := [(0, xa 536), (1, xi x1), (2, xi x2), (3, xi 1)]) (List.forall_mem_cons.mpr ⟨rfl, List.forall_mem_cons.mpr ⟨rfl, List.forall_mem_cons.mpr ⟨rfl, List.forall_mem_cons.mpr ⟨rfl, fun _ h => absurd h List.not_mem_nil⟩⟩⟩⟩) ?_
                exact q
              exact ygk255_101 hB _ _ _ _ c1 c2 rfl
            · refine xS_of (pc' := 86) (L' := [(3, xi 1), (0, xa 536), (1, xi x1), (2, xi x2)]) (st' := [xi 61, xi x1]) (m' := m) (fun ex ns r q => ?_) ?_
              · refine xw_ic_eqF rfl (w32_cg c1) (w32_cg rfl) h5 ?_
                refine xw_iload_n rfl rfl ?_
                refine xw_bipush (e := 61) rfl (by decide +kernel) ?_
                exact q
              refine xS_if (fun h6 => ?_) (fun h6 => ?_)
              · refine xS_of (pc' := 101) (L' := [(0, xa 536), (1, xi x1), (2, xi x2), (3, xi 1)]) (st' := []) (m' := m) (fun ex ns r q => ?_) ?_
                · refine xw_ic_eqT rfl (w32_cg c1) (w32_cg rfl) h6 ?_
                  refine xw_lo (L2 := [(0, xa 536), (1, xi x1), (2, xi x2), (3, xi 1)]) (List.forall_mem_cons.mpr ⟨rfl, List.forall_mem_cons.mpr ⟨rfl, List.forall_mem_cons.mpr ⟨rfl, List.forall_mem_cons.mpr ⟨rfl, fun _ h => absurd h List.not_mem_nil⟩⟩⟩⟩) ?_
                  exact q
                exact ygk255_101 hB _ _ _ _ c1 c2 rfl
              · refine xS_of (pc' := 92) (L' := [(3, xi 1), (0, xa 536), (1, xi x1), (2, xi x2)]) (st' := [xi 60, xi x1]) (m' := m) (fun ex ns r q => ?_) ?_
                · refine xw_ic_eqF rfl (w32_cg c1) (w32_cg rfl) h6 ?_
                  refine xw_iload_n rfl rfl ?_
                  refine xw_bipush (e := 60) rfl (by decide +kernel) ?_
                  exact q
                refine xS_if (fun h7 => ?_) (fun h7 => ?_)
                · refine xS_of (pc' := 101) (L' := [(0, xa 536), (1, xi x1), (2, xi x2), (3, xi 1)]) (st' := []) (m' := m) (fun ex ns r q => ?_) ?_
                  · refine xw_ic_eqT rfl (w32_cg c1) (w32_cg rfl) h7 ?_
                    refine xw_lo (L2 := [(0, xa 536), (1, xi x1), (2, xi x2), (3, xi 1)]) (List.forall_mem_cons.mpr ⟨rfl, List.forall_mem_cons.mpr ⟨rfl, List.forall_mem_cons.mpr ⟨rfl, List.forall_mem_cons.mpr ⟨rfl, fun _ h => absurd h List.not_mem_nil⟩⟩⟩⟩) ?_
                    exact q
                  exact ygk255_101 hB _ _ _ _ c1 c2 rfl
                · refine xS_of (pc' := 98) (L' := [(3, xi 1), (0, xa 536), (1, xi x1), (2, xi x2)]) (st' := [xi 62, xi x1]) (m' := m) (fun ex ns r q => ?_) ?_
                  · refine xw_ic_eqF rfl (w32_cg c1) (w32_cg rfl) h7 ?_
                    refine xw_iload_n rfl rfl ?_
                    refine xw_bipush (e := 62) rfl (by decide +kernel) ?_
                    exact q
                  refine xS_if (fun h8 => ?_) (fun h8 => ?_)
                  · refine xS_of (pc' := 101) (L' := [(0, xa 536), (1, xi x1), (2, xi x2), (3, xi 1)]) (st' := []) (m' := m) (fun ex ns r q => ?_) ?_
                    · refine xw_ic_neF rfl (w32_cg c1) (w32_cg rfl) h8 ?_
                      refine xw_lo (L2 := [(0, xa 536), (1, xi x1), (2, xi x2), (3, xi 1)]) (List.forall_mem_cons.mpr ⟨rfl, List.forall_mem_cons.mpr ⟨rfl, List.forall_mem_cons.mpr ⟨rfl, List.forall_mem_cons.mpr ⟨rfl, fun _ h => absurd h List.not_mem_nil⟩⟩⟩⟩) ?_
                      exact q
                    exact ygk255_101 hB _ _ _ _ c1 c2 rfl
                  · refine xS_of (pc' := 116) (L' := [(0, xa 536), (1, xi x1), (2, xi x2), (3, xi 1)]) (st' := [xi (xR m 536 9), xi 1, xi 0, xa 536]) (m' := m) (fun ex ns r q => ?_) ?_
                    · refine xw_ic_neT rfl (w32_cg c1) (w32_cg rfl) h8 ?_
                      refine xw_iconst rfl ?_
                      refine xw_istore (L' := [(4, xi 0), (3, xi 1), (0, xa 536), (1, xi x1), (2, xi x2)]) rfl (by decide) rfl ?_
                      refine xw_aload_n rfl rfl rfl ?_
                      refine xw_iload rfl rfl ?_
                      refine xw_iconst rfl ?_
                      refine xw_aload_n rfl rfl rfl ?_
                      refine xw_gfIc (v := (m 536 9)) (v' := (xR m 536 9)) rfl (xw_obd (by decide +kernel)) xk12_9 (qi := 9) rfl rfl rfl ?_
                      refine xw_lo (L2 := [(0, xa 536), (1, xi x1), (2, xi x2), (3, xi 1)]) (List.forall_mem_cons.mpr ⟨rfl, List.forall_mem_cons.mpr ⟨rfl, List.forall_mem_cons.mpr ⟨rfl, List.forall_mem_cons.mpr ⟨rfl, fun _ h => absurd h List.not_mem_nil⟩⟩⟩⟩) ?_
                      exact q
                    refine xS_call (q := 254) (n := 4) (kq := 4) (as := [xa 536, xi 0, xi 1, xi (xR m 536 9)]) (st1 := []) rfl rfl rfl rfl rfl rfl rfl rfl rfl rfl (fun _ => xw_rcv1 (t := 12) (xw_obd (by decide +kernel)) rfl) rfl (List.forall_mem_cons.mpr ⟨rfl, List.forall_mem_cons.mpr ⟨rfl, List.forall_mem_cons.mpr ⟨rfl, List.forall_mem_cons.mpr ⟨rfl, fun _ h => absurd h List.not_mem_nil⟩⟩⟩⟩) (ygf254 hB _ _ _ _ rfl rfl (w32_xR _ _ _)) (fun v1 m1 cv1 => ?_)
                    refine xS_if (fun h9 => ?_) (fun h9 => ?_)
                    · refine xS_of (pc' := 159) (L' := [(0, xa 536), (1, xi x1), (2, xi x2), (3, xi 1)]) (st' := []) (m' := m1) (fun ex ns r q => ?_) ?_
                      · refine xw_if_eqT rfl (w32_cg (w32_of (xw_zr cv1))) h9 ?_
                        exact q
                      exact xS_ret (v := 0) rfl rfl rfl rfl
                    · refine xS_of (pc' := 159) (L' := [(0, xa 536), (1, xi x1), (2, xi x2), (3, xi 1)]) (st' := []) (m' := (xw_u (xw_u m1 536 13 ((256 * x1) + x2)) 536 8 ((xR m1 536 8) + 2))) (fun ex ns r q => ?_) ?_
                      · refine xw_if_eqF rfl (w32_cg (w32_of (xw_zr cv1))) h9 ?_
                        refine xw_aload_n rfl rfl rfl ?_
                        refine xw_iload_n rfl rfl ?_
                        refine xw_if_eqF rfl (w32_cg rfl) (by decide) ?_
                        refine xw_sipush (e := 256) rfl (by decide +kernel) ?_
                        refine xw_iload_n rfl rfl ?_
                        refine xw_imul rfl ?_
                        refine xw_iload_n rfl rfl ?_
                        refine xw_iadd rfl ?_
                        refine xw_goto rfl ?_
                        refine xw_pfI rfl (xw_obd (by decide +kernel)) xk12_13 (qi := 13) rfl (xw_okI rfl) ?_
                        refine xw_aload_n rfl rfl rfl ?_
                        refine xw_dup rfl rfl ?_
                        refine xw_gfIc (v := (m1 536 8)) (v' := (xR m1 536 8)) rfl (xw_obd (by decide +kernel)) xk12_8 (qi := 8) rfl (xw_un (fun e => absurd e.2 (by decide)) rfl) rfl ?_
                        refine xw_iload_n rfl rfl ?_
                        refine xw_if_eqF rfl (w32_cg rfl) (by decide) ?_
                        refine xw_iconst rfl ?_
                        refine xw_goto rfl ?_
                        refine xw_iadd rfl ?_
                        refine xw_pfI rfl (xw_obd (by decide +kernel)) xk12_8 (qi := 8) rfl (xw_okI rfl) ?_
                        exact q
                      exact xS_ret (v := 0) rfl rfl rfl rfl
theorem ygk255_45 {B : Nat} (hB : B ≤ 512) {xs : Nat → Int32} {SL d : Nat} : ∀ x1 x2 m, w32 x1 = x1 → w32 x2 = x2 → xS B xs SL (d + 1) 255 (5, none, [], 13) 0 45 [(0, xa 536), (1, xi x1), (2, xi x2)] [] m (yk255_45 B x1 x2 m) := by
  intro x1 x2 m c1 c2
  unfold yk255_45
  refine xS_of (pc' := 50) (L' := [(3, xi 0), (0, xa 536), (1, xi x1), (2, xi x2)]) (st' := [xi 40, xi x1]) (m' := m) (fun ex ns r q => ?_) ?_
  · refine xw_iconst rfl ?_
    refine xw_istore_n (L' := [(3, xi 0), (0, xa 536), (1, xi x1), (2, xi x2)]) rfl (by decide) rfl ?_
    refine xw_iload_n rfl rfl ?_
    refine xw_bipush (e := 40) rfl (by decide +kernel) ?_
    exact q
  refine xS_if (fun h0 => ?_) (fun h0 => ?_)
  · refine xS_of (pc' := 101) (L' := [(0, xa 536), (1, xi x1), (2, xi x2), (3, xi 0)]) (st' := []) (m' := m) (fun ex ns r q => ?_) ?_
    · refine xw_ic_eqT rfl (w32_cg c1) (w32_cg rfl) h0 ?_
      refine xw_lo (L2 := [(0, xa 536), (1, xi x1), (2, xi x2), (3, xi 0)]) (List.forall_mem_cons.mpr ⟨rfl, List.forall_mem_cons.mpr ⟨rfl, List.forall_mem_cons.mpr ⟨rfl, List.forall_mem_cons.mpr ⟨rfl, fun _ h => absurd h List.not_mem_nil⟩⟩⟩⟩) ?_
      exact q
    exact ygk255_101 hB _ _ _ _ c1 c2 rfl
  · refine xS_of (pc' := 56) (L' := [(3, xi 0), (0, xa 536), (1, xi x1), (2, xi x2)]) (st' := [xi 41, xi x1]) (m' := m) (fun ex ns r q => ?_) ?_
    · refine xw_ic_eqF rfl (w32_cg c1) (w32_cg rfl) h0 ?_
      refine xw_iload_n rfl rfl ?_
      refine xw_bipush (e := 41) rfl (by decide +kernel) ?_
      exact q
    refine xS_if (fun h1 => ?_) (fun h1 => ?_)
    · refine xS_of (pc' := 101) (L' := [(0, xa 536), (1, xi x1), (2, xi x2), (3, xi 0)]) (st' := []) (m' := m) (fun ex ns r q => ?_) ?_
      · refine xw_ic_eqT rfl (w32_cg c1) (w32_cg rfl) h1 ?_
        refine xw_lo (L2 := [(0, xa 536), (1, xi x1), (2, xi x2), (3, xi 0)]) (List.forall_mem_cons.mpr ⟨rfl, List.forall_mem_cons.mpr ⟨rfl, List.forall_mem_cons.mpr ⟨rfl, List.forall_mem_cons.mpr ⟨rfl, fun _ h => absurd h List.not_mem_nil⟩⟩⟩⟩) ?_
        exact q
      exact ygk255_101 hB _ _ _ _ c1 c2 rfl
    · refine xS_of (pc' := 62) (L' := [(3, xi 0), (0, xa 536), (1, xi x1), (2, xi x2)]) (st' := [xi 44, xi x1]) (m' := m) (fun ex ns r q => ?_) ?_
      · refine xw_ic_eqF rfl (w32_cg c1) (w32_cg rfl) h1 ?_
        refine xw_iload_n rfl rfl ?_
        refine xw_bipush (e := 44) rfl (by decide +kernel) ?_
        exact q
      refine xS_if (fun h2 => ?_) (fun h2 => ?_)
      · refine xS_of (pc' := 101) (L' := [(0, xa 536), (1, xi x1), (2, xi x2), (3, xi 0)]) (st' := []) (m' := m) (fun ex ns r q => ?_) ?_
        · refine xw_ic_eqT rfl (w32_cg c1) (w32_cg rfl) h2 ?_
          refine xw_lo (L2 := [(0, xa 536), (1, xi x1), (2, xi x2), (3, xi 0)]) (List.forall_mem_cons.mpr ⟨rfl, List.forall_mem_cons.mpr ⟨rfl, List.forall_mem_cons.mpr ⟨rfl, List.forall_mem_cons.mpr ⟨rfl, fun _ h => absurd h List.not_mem_nil⟩⟩⟩⟩) ?_
          exact q
        exact ygk255_101 hB _ _ _ _ c1 c2 rfl
      · refine xS_of (pc' := 68) (L' := [(3, xi 0), (0, xa 536), (1, xi x1), (2, xi x2)]) (st' := [xi 59, xi x1]) (m' := m) (fun ex ns r q => ?_) ?_
        · refine xw_ic_eqF rfl (w32_cg c1) (w32_cg rfl) h2 ?_
          refine xw_iload_n rfl rfl ?_
          refine xw_bipush (e := 59) rfl (by decide +kernel) ?_
          exact q
        refine xS_if (fun h3 => ?_) (fun h3 => ?_)
        · refine xS_of (pc' := 101) (L' := [(0, xa 536), (1, xi x1), (2, xi x2), (3, xi 0)]) (st' := []) (m' := m) (fun ex ns r q => ?_) ?_
          · refine xw_ic_eqT rfl (w32_cg c1) (w32_cg rfl) h3 ?_
            refine xw_lo (L2 := [(0, xa 536), (1, xi x1), (2, xi x2), (3, xi 0)]) (List.forall_mem_cons.mpr ⟨rfl, List.forall_mem_cons.mpr ⟨rfl, List.forall_mem_cons.mpr ⟨rfl, List.forall_mem_cons.mpr ⟨rfl, fun _ h => absurd h List.not_mem_nil⟩⟩⟩⟩) ?_
            exact q
          exact ygk255_101 hB _ _ _ _ c1 c2 rfl
        · refine xS_of (pc' := 74) (L' := [(3, xi 0), (0, xa 536), (1, xi x1), (2, xi x2)]) (st' := [xi 46, xi x1]) (m' := m) (fun ex ns r q => ?_) ?_
          · refine xw_ic_eqF rfl (w32_cg c1) (w32_cg rfl) h3 ?_
            refine xw_iload_n rfl rfl ?_
            refine xw_bipush (e := 46) rfl (by decide +kernel) ?_
            exact q
          refine xS_if (fun h4 => ?_) (fun h4 => ?_)
          · refine xS_of (pc' := 101) (L' := [(0, xa 536), (1, xi x1), (2, xi x2), (3, xi 0)]) (st' := []) (m' := m) (fun ex ns r q => ?_) ?_
            · refine xw_ic_eqT rfl (w32_cg c1) (w32_cg rfl) h4 ?_
              refine xw_lo (L2 := [(0, xa 536), (1, xi x1), (2, xi x2), (3, xi 0)]) (List.forall_mem_cons.mpr ⟨rfl, List.forall_mem_cons.mpr ⟨rfl, List.forall_mem_cons.mpr ⟨rfl, List.forall_mem_cons.mpr ⟨rfl, fun _ h => absurd h List.not_mem_nil⟩⟩⟩⟩) ?_
              exact q
            exact ygk255_101 hB _ _ _ _ c1 c2 rfl
          · refine xS_of (pc' := 80) (L' := [(3, xi 0), (0, xa 536), (1, xi x1), (2, xi x2)]) (st' := [xi 42, xi x1]) (m' := m) (fun ex ns r q => ?_) ?_
            · refine xw_ic_eqF rfl (w32_cg c1) (w32_cg rfl) h4 ?_
              refine xw_iload_n rfl rfl ?_
              refine xw_bipush (e := 42) rfl (by decide +kernel) ?_
              exact q
            refine xS_if (fun h5 => ?_) (fun h5 => ?_)
            · refine xS_of (pc' := 101) (L' := [(0, xa 536), (1, xi x1), (2, xi x2), (3, xi 0)]) (st' := []) (m' := m) (fun ex ns r q => ?_) ?_
              · refine xw_ic_eqT rfl (w32_cg c1) (w32_cg rfl) h5 ?_
                refine xw_lo (L2 := [(0, xa 536), (1, xi x1), (2, xi x2), (3, xi 0)]) (List.forall_mem_cons.mpr ⟨rfl, List.forall_mem_cons.mpr ⟨rfl, List.forall_mem_cons.mpr ⟨rfl, List.forall_mem_cons.mpr ⟨rfl, fun _ h => absurd h List.not_mem_nil⟩⟩⟩⟩) ?_
                exact q
              exact ygk255_101 hB _ _ _ _ c1 c2 rfl
            · refine xS_of (pc' := 86) (L' := [(3, xi 0), (0, xa 536), (1, xi x1), (2, xi x2)]) (st' := [xi 61, xi x1]) (m' := m) (fun ex ns r q => ?_) ?_
              · refine xw_ic_eqF rfl (w32_cg c1) (w32_cg rfl) h5 ?_
                refine xw_iload_n rfl rfl ?_
                refine xw_bipush (e := 61) rfl (by decide +kernel) ?_
                exact q
              refine xS_if (fun h6 => ?_) (fun h6 => ?_)
              · refine xS_of (pc' := 101) (L' := [(0, xa 536), (1, xi x1), (2, xi x2), (3, xi 0)]) (st' := []) (m' := m) (fun ex ns r q => ?_) ?_
                · refine xw_ic_eqT rfl (w32_cg c1) (w32_cg rfl) h6 ?_
                  refine xw_lo (L2 := [(0, xa 536), (1, xi x1), (2, xi x2), (3, xi 0)]) (List.forall_mem_cons.mpr ⟨rfl, List.forall_mem_cons.mpr ⟨rfl, List.forall_mem_cons.mpr ⟨rfl, List.forall_mem_cons.mpr ⟨rfl, fun _ h => absurd h List.not_mem_nil⟩⟩⟩⟩) ?_
                  exact q
                exact ygk255_101 hB _ _ _ _ c1 c2 rfl
              · refine xS_of (pc' := 92) (L' := [(3, xi 0), (0, xa 536), (1, xi x1), (2, xi x2)]) (st' := [xi 60, xi x1]) (m' := m) (fun ex ns r q => ?_) ?_
                · refine xw_ic_eqF rfl (w32_cg c1) (w32_cg rfl) h6 ?_
                  refine xw_iload_n rfl rfl ?_
                  refine xw_bipush (e := 60) rfl (by decide +kernel) ?_
                  exact q
                refine xS_if (fun h7 => ?_) (fun h7 => ?_)
                · refine xS_of (pc' := 101) (L' := [(0, xa 536), (1, xi x1), (2, xi x2), (3, xi 0)]) (st' := []) (m' := m) (fun ex ns r q => ?_) ?_
                  · refine xw_ic_eqT rfl (w32_cg c1) (w32_cg rfl) h7 ?_
                    refine xw_lo (L2 := [(0, xa 536), (1, xi x1), (2, xi x2), (3, xi 0)]) (List.forall_mem_cons.mpr ⟨rfl, List.forall_mem_cons.mpr ⟨rfl, List.forall_mem_cons.mpr ⟨rfl, List.forall_mem_cons.mpr ⟨rfl, fun _ h => absurd h List.not_mem_nil⟩⟩⟩⟩) ?_
                    exact q
                  exact ygk255_101 hB _ _ _ _ c1 c2 rfl
                · refine xS_of (pc' := 98) (L' := [(3, xi 0), (0, xa 536), (1, xi x1), (2, xi x2)]) (st' := [xi 62, xi x1]) (m' := m) (fun ex ns r q => ?_) ?_
                  · refine xw_ic_eqF rfl (w32_cg c1) (w32_cg rfl) h7 ?_
                    refine xw_iload_n rfl rfl ?_
                    refine xw_bipush (e := 62) rfl (by decide +kernel) ?_
                    exact q
                  refine xS_if (fun h8 => ?_) (fun h8 => ?_)
                  · refine xS_of (pc' := 101) (L' := [(0, xa 536), (1, xi x1), (2, xi x2), (3, xi 0)]) (st' := []) (m' := m) (fun ex ns r q => ?_) ?_
                    · refine xw_ic_neF rfl (w32_cg c1) (w32_cg rfl) h8 ?_
                      refine xw_lo (L2 := [(0, xa 536), (1, xi x1), (2, xi x2), (3, xi 0)]) (List.forall_mem_cons.mpr ⟨rfl, List.forall_mem_cons.mpr ⟨rfl, List.forall_mem_cons.mpr ⟨rfl, List.forall_mem_cons.mpr ⟨rfl, fun _ h => absurd h List.not_mem_nil⟩⟩⟩⟩) ?_
                      exact q
                    exact ygk255_101 hB _ _ _ _ c1 c2 rfl
                  · refine xS_of (pc' := 116) (L' := [(0, xa 536), (1, xi x1), (2, xi x2), (3, xi 0)]) (st' := [xi (xR m 536 9), xi 1, xi 0, xa 536]) (m' := m) (fun ex ns r q => ?_) ?_
                    · refine xw_ic_neT rfl (w32_cg c1) (w32_cg rfl) h8 ?_
                      refine xw_iconst rfl ?_
                      refine xw_istore (L' := [(4, xi 0), (3, xi 0), (0, xa 536), (1, xi x1), (2, xi x2)]) rfl (by decide) rfl ?_
                      refine xw_aload_n rfl rfl rfl ?_
                      refine xw_iload rfl rfl ?_
                      refine xw_iconst rfl ?_
                      refine xw_aload_n rfl rfl rfl ?_
                      refine xw_gfIc (v := (m 536 9)) (v' := (xR m 536 9)) rfl (xw_obd (by decide +kernel)) xk12_9 (qi := 9) rfl rfl rfl ?_
                      refine xw_lo (L2 := [(0, xa 536), (1, xi x1), (2, xi x2), (3, xi 0)]) (List.forall_mem_cons.mpr ⟨rfl, List.forall_mem_cons.mpr ⟨rfl, List.forall_mem_cons.mpr ⟨rfl, List.forall_mem_cons.mpr ⟨rfl, fun _ h => absurd h List.not_mem_nil⟩⟩⟩⟩) ?_
                      exact q
                    refine xS_call (q := 254) (n := 4) (kq := 4) (as := [xa 536, xi 0, xi 1, xi (xR m 536 9)]) (st1 := []) rfl rfl rfl rfl rfl rfl rfl rfl rfl rfl (fun _ => xw_rcv1 (t := 12) (xw_obd (by decide +kernel)) rfl) rfl (List.forall_mem_cons.mpr ⟨rfl, List.forall_mem_cons.mpr ⟨rfl, List.forall_mem_cons.mpr ⟨rfl, List.forall_mem_cons.mpr ⟨rfl, fun _ h => absurd h List.not_mem_nil⟩⟩⟩⟩) (ygf254 hB _ _ _ _ rfl rfl (w32_xR _ _ _)) (fun v1 m1 cv1 => ?_)
                    refine xS_if (fun h9 => ?_) (fun h9 => ?_)
                    · refine xS_of (pc' := 159) (L' := [(0, xa 536), (1, xi x1), (2, xi x2), (3, xi 0)]) (st' := []) (m' := m1) (fun ex ns r q => ?_) ?_
                      · refine xw_if_eqT rfl (w32_cg (w32_of (xw_zr cv1))) h9 ?_
                        exact q
                      exact xS_ret (v := 0) rfl rfl rfl rfl
                    · refine xS_of (pc' := 159) (L' := [(0, xa 536), (1, xi x1), (2, xi x2), (3, xi 0)]) (st' := []) (m' := (xw_u (xw_u m1 536 13 x1) 536 8 ((xR m1 536 8) + 1))) (fun ex ns r q => ?_) ?_
                      · refine xw_if_eqF rfl (w32_cg (w32_of (xw_zr cv1))) h9 ?_
                        refine xw_aload_n rfl rfl rfl ?_
                        refine xw_iload_n rfl rfl ?_
                        refine xw_if_eqT rfl (w32_cg rfl) (by decide) ?_
                        refine xw_iload_n rfl rfl ?_
                        refine xw_pfI rfl (xw_obd (by decide +kernel)) xk12_13 (qi := 13) rfl (xw_okI rfl) ?_
                        refine xw_aload_n rfl rfl rfl ?_
                        refine xw_dup rfl rfl ?_
                        refine xw_gfIc (v := (m1 536 8)) (v' := (xR m1 536 8)) rfl (xw_obd (by decide +kernel)) xk12_8 (qi := 8) rfl (xw_un (fun e => absurd e.2 (by decide)) rfl) rfl ?_
                        refine xw_iload_n rfl rfl ?_
                        refine xw_if_eqT rfl (w32_cg rfl) (by decide) ?_
                        refine xw_iconst rfl ?_
                        refine xw_iadd rfl ?_
                        refine xw_pfI rfl (xw_obd (by decide +kernel)) xk12_8 (qi := 8) rfl (xw_okI rfl) ?_
                        exact q
                      exact xS_ret (v := 0) rfl rfl rfl rfl
theorem ygk255_29 {B : Nat} (hB : B ≤ 512) {xs : Nat → Int32} {SL d : Nat} : ∀ x1 x2 m, w32 x1 = x1 → w32 x2 = x2 → xS B xs SL (d + 1) 255 (5, none, [], 13) 0 29 [(0, xa 536), (1, xi x1), (2, xi x2)] [] m (yk255_29 B x1 x2 m) := by
  intro x1 x2 m c1 c2
  unfold yk255_29
  refine xS_of (pc' := 32) (L' := [(0, xa 536), (1, xi x1), (2, xi x2)]) (st' := [xi 62, xi x1]) (m' := m) (fun ex ns r q => ?_) ?_
  · refine xw_iload_n rfl rfl ?_
    refine xw_bipush (e := 62) rfl (by decide +kernel) ?_
    exact q
  refine xS_if (fun h0 => ?_) (fun h0 => ?_)
  · refine xS_of (pc' := 38) (L' := [(0, xa 536), (1, xi x1), (2, xi x2)]) (st' := [xi 61, xi x2]) (m' := m) (fun ex ns r q => ?_) ?_
    · refine xw_ic_neF rfl (w32_cg c1) (w32_cg rfl) h0 ?_
      refine xw_iload_n rfl rfl ?_
      refine xw_bipush (e := 61) rfl (by decide +kernel) ?_
      exact q
    refine xS_if (fun h1 => ?_) (fun h1 => ?_)
    · refine xS_of (pc' := 41) (L' := [(0, xa 536), (1, xi x1), (2, xi x2)]) (st' := []) (m' := m) (fun ex ns r q => ?_) ?_
      · refine xw_ic_neF rfl (w32_cg c2) (w32_cg rfl) h1 ?_
        refine xw_lo (L2 := [(0, xa 536), (1, xi x1), (2, xi x2)]) (List.forall_mem_cons.mpr ⟨rfl, List.forall_mem_cons.mpr ⟨rfl, List.forall_mem_cons.mpr ⟨rfl, fun _ h => absurd h List.not_mem_nil⟩⟩⟩) ?_
        exact q
      exact ygk255_41 hB _ _ _ c1 c2
    · refine xS_of (pc' := 45) (L' := [(0, xa 536), (1, xi x1), (2, xi x2)]) (st' := []) (m' := m) (fun ex ns r q => ?_) ?_
      · refine xw_ic_neT rfl (w32_cg c2) (w32_cg rfl) h1 ?_
        refine xw_lo (L2 := [(0, xa 536), (1, xi x1), (2, xi x2)]) (List.forall_mem_cons.mpr ⟨rfl, List.forall_mem_cons.mpr ⟨rfl, List.forall_mem_cons.mpr ⟨rfl, fun _ h => absurd h List.not_mem_nil⟩⟩⟩) ?_
        exact q
      exact ygk255_45 hB _ _ _ c1 c2
  · refine xS_of (pc' := 45) (L' := [(0, xa 536), (1, xi x1), (2, xi x2)]) (st' := []) (m' := m) (fun ex ns r q => ?_) ?_
    · refine xw_ic_neT rfl (w32_cg c1) (w32_cg rfl) h0 ?_
      refine xw_lo (L2 := [(0, xa 536), (1, xi x1), (2, xi x2)]) (List.forall_mem_cons.mpr ⟨rfl, List.forall_mem_cons.mpr ⟨rfl, List.forall_mem_cons.mpr ⟨rfl, fun _ h => absurd h List.not_mem_nil⟩⟩⟩) ?_
      exact q
    exact ygk255_45 hB _ _ _ c1 c2
theorem ygf255 {B : Nat} (hB : B ≤ 512) {xs : Nat → Int32} {SL d : Nat} : ∀ p0 m, w32 p0 = p0 → xS B xs SL (d + 1) 255 (5, none, [], 13) 0 0 [(0, xa 536), (1, xi p0)] [] m (yf255 B p0 m) := by
  intro p0 m cp0
  unfold yf255
  refine xS_of (pc' := 7) (L' := [(0, xa 536), (1, xi p0)]) (st' := [xi (w32 ((xR m 536 8) + 1)), xa 536]) (m' := m) (fun ex ns r q => ?_) ?_
  · refine xw_aload_n rfl rfl rfl ?_
    refine xw_aload_n rfl rfl rfl ?_
    refine xw_gfIc (v := (m 536 8)) (v' := (xR m 536 8)) rfl (xw_obd (by decide +kernel)) xk12_8 (qi := 8) rfl rfl rfl ?_
    refine xw_iconst rfl ?_
    refine xw_iadd rfl ?_
    refine xw_cst (st' := [xi (w32 ((xR m 536 8) + 1)), xa 536]) (xw_sc (xi_c rfl) (xw_sc rfl rfl)) ?_
    refine xw_lo (L2 := [(0, xa 536), (1, xi p0)]) (List.forall_mem_cons.mpr ⟨rfl, List.forall_mem_cons.mpr ⟨rfl, fun _ h => absurd h List.not_mem_nil⟩⟩) ?_
    exact q
  refine xS_call (q := 249) (n := 2) (kq := 1) (as := [xa 536, xi (w32 ((xR m 536 8) + 1))]) (st1 := []) rfl rfl rfl rfl rfl rfl rfl rfl rfl rfl (fun _ => xw_rcv1 (t := 12) (xw_obd (by decide +kernel)) rfl) rfl (List.forall_mem_cons.mpr ⟨rfl, List.forall_mem_cons.mpr ⟨rfl, fun _ h => absurd h List.not_mem_nil⟩⟩) (ygf249 hB _ _ (w32_w _)) (fun v1 m1 cv1 => ?_)
  refine xS_of (pc' := 14) (L' := [(2, xi v1), (0, xa 536), (1, xi p0)]) (st' := [xi 60, xi p0]) (m' := m1) (fun ex ns r q => ?_) ?_
  · refine xw_istore_n (L' := [(2, xi v1), (0, xa 536), (1, xi p0)]) rfl (by decide) rfl ?_
    refine xw_iload_n rfl rfl ?_
    refine xw_bipush (e := 60) rfl (by decide +kernel) ?_
    exact q
  refine xS_if (fun h0 => ?_) (fun h0 => ?_)
  · refine xS_of (pc' := 20) (L' := [(2, xi v1), (0, xa 536), (1, xi p0)]) (st' := [xi 61, xi v1]) (m' := m1) (fun ex ns r q => ?_) ?_
    · refine xw_ic_neF rfl (w32_cg cp0) (w32_cg rfl) h0 ?_
      refine xw_iload_n rfl rfl ?_
      refine xw_bipush (e := 61) rfl (by decide +kernel) ?_
      exact q
    refine xS_if (fun h1 => ?_) (fun h1 => ?_)
    · refine xS_of (pc' := 41) (L' := [(0, xa 536), (1, xi p0), (2, xi v1)]) (st' := []) (m' := m1) (fun ex ns r q => ?_) ?_
      · refine xw_ic_eqT rfl (w32_cg cv1) (w32_cg rfl) h1 ?_
        refine xw_lo (L2 := [(0, xa 536), (1, xi p0), (2, xi v1)]) (List.forall_mem_cons.mpr ⟨rfl, List.forall_mem_cons.mpr ⟨rfl, List.forall_mem_cons.mpr ⟨rfl, fun _ h => absurd h List.not_mem_nil⟩⟩⟩) ?_
        exact q
      exact ygk255_41 hB _ _ _ cp0 cv1
    · refine xS_of (pc' := 26) (L' := [(2, xi v1), (0, xa 536), (1, xi p0)]) (st' := [xi 62, xi v1]) (m' := m1) (fun ex ns r q => ?_) ?_
      · refine xw_ic_eqF rfl (w32_cg cv1) (w32_cg rfl) h1 ?_
        refine xw_iload_n rfl rfl ?_
        refine xw_bipush (e := 62) rfl (by decide +kernel) ?_
        exact q
      refine xS_if (fun h2 => ?_) (fun h2 => ?_)
      · refine xS_of (pc' := 41) (L' := [(0, xa 536), (1, xi p0), (2, xi v1)]) (st' := []) (m' := m1) (fun ex ns r q => ?_) ?_
        · refine xw_ic_eqT rfl (w32_cg cv1) (w32_cg rfl) h2 ?_
          refine xw_lo (L2 := [(0, xa 536), (1, xi p0), (2, xi v1)]) (List.forall_mem_cons.mpr ⟨rfl, List.forall_mem_cons.mpr ⟨rfl, List.forall_mem_cons.mpr ⟨rfl, fun _ h => absurd h List.not_mem_nil⟩⟩⟩) ?_
          exact q
        exact ygk255_41 hB _ _ _ cp0 cv1
      · refine xS_of (pc' := 29) (L' := [(0, xa 536), (1, xi p0), (2, xi v1)]) (st' := []) (m' := m1) (fun ex ns r q => ?_) ?_
        · refine xw_ic_eqF rfl (w32_cg cv1) (w32_cg rfl) h2 ?_
          refine xw_lo (L2 := [(0, xa 536), (1, xi p0), (2, xi v1)]) (List.forall_mem_cons.mpr ⟨rfl, List.forall_mem_cons.mpr ⟨rfl, List.forall_mem_cons.mpr ⟨rfl, fun _ h => absurd h List.not_mem_nil⟩⟩⟩) ?_
          exact q
        exact ygk255_29 hB _ _ _ cp0 cv1
  · refine xS_of (pc' := 29) (L' := [(0, xa 536), (1, xi p0), (2, xi v1)]) (st' := []) (m' := m1) (fun ex ns r q => ?_) ?_
    · refine xw_ic_neT rfl (w32_cg cp0) (w32_cg rfl) h0 ?_
      refine xw_lo (L2 := [(0, xa 536), (1, xi p0), (2, xi v1)]) (List.forall_mem_cons.mpr ⟨rfl, List.forall_mem_cons.mpr ⟨rfl, List.forall_mem_cons.mpr ⟨rfl, fun _ h => absurd h List.not_mem_nil⟩⟩⟩) ?_
      exact q
    exact ygk255_29 hB _ _ _ cp0 cv1
theorem ygk248_71 {B : Nat} (hB : B ≤ 512) {xs : Nat → Int32} {SL d : Nat} {r8 : xw_M → xP} (hr8 : ∀ m, xS B xs SL (d + 2) 248 (2, none, [], 13) 0 8 [(0, xa 536)] [] m (r8 m)) : ∀ m, xS B xs SL (d + 2) 248 (2, none, [], 13) 0 71 [(0, xa 536)] [] m (yk248_71 B r8 m) := by
  intro m
  unfold yk248_71
  refine xS_of (pc' := 8) (L' := [(0, xa 536)]) (st' := []) (m' := (xw_u m 536 8 ((xR m 536 8) + 1))) (fun ex ns r q => ?_) ?_
  · refine xw_aload_n rfl rfl rfl ?_
    refine xw_dup rfl rfl ?_
    refine xw_gfIc (v := (m 536 8)) (v' := (xR m 536 8)) rfl (xw_obd (by decide +kernel)) xk12_8 (qi := 8) rfl rfl rfl ?_
    refine xw_iconst rfl ?_
    refine xw_iadd rfl ?_
    refine xw_pfI rfl (xw_obd (by decide +kernel)) xk12_8 (qi := 8) rfl (xw_okI rfl) ?_
    refine xw_goto rfl ?_
    refine xw_lo (L2 := [(0, xa 536)]) (List.forall_mem_cons.mpr ⟨rfl, fun _ h => absurd h List.not_mem_nil⟩) ?_
    exact q
  exact hr8 _
theorem ygk248_189 {B : Nat} (hB : B ≤ 512) {xs : Nat → Int32} {SL d : Nat} {r137 : xw_M → xP} (hr137 : ∀ m, xS B xs SL (d + 2) 248 (2, none, [], 13) 0 137 [(0, xa 536)] [] m (r137 m)) : ∀ m, xS B xs SL (d + 2) 248 (2, none, [], 13) 0 189 [(0, xa 536)] [] m (yk248_189 B r137 m) := by
  intro m
  unfold yk248_189
  refine xS_of (pc' := 137) (L' := [(0, xa 536)]) (st' := []) (m' := (xw_u m 536 8 ((xR m 536 8) + 1))) (fun ex ns r q => ?_) ?_
  · refine xw_aload_n rfl rfl rfl ?_
    refine xw_dup rfl rfl ?_
    refine xw_gfIc (v := (m 536 8)) (v' := (xR m 536 8)) rfl (xw_obd (by decide +kernel)) xk12_8 (qi := 8) rfl rfl rfl ?_
    refine xw_iconst rfl ?_
    refine xw_iadd rfl ?_
    refine xw_pfI rfl (xw_obd (by decide +kernel)) xk12_8 (qi := 8) rfl (xw_okI rfl) ?_
    refine xw_goto rfl ?_
    refine xw_lo (L2 := [(0, xa 536)]) (List.forall_mem_cons.mpr ⟨rfl, fun _ h => absurd h List.not_mem_nil⟩) ?_
    exact q
  exact hr137 _
theorem ygk248_202 {B : Nat} (hB : B ≤ 512) {xs : Nat → Int32} {SL d : Nat} : ∀ m, xS B xs SL (d + 2) 248 (2, none, [], 13) 0 202 [(0, xa 536)] [] m (yk248_202 B m) := by
  intro m
  unfold yk248_202
  refine xS_of (pc' := 209) (L' := []) (st' := [xa 536, xa 536]) (m' := (xw_u m 536 10 1)) (fun ex ns r q => ?_) ?_
  · refine xw_aload_n rfl rfl rfl ?_
    refine xw_iconst rfl ?_
    refine xw_pfI rfl (xw_obd (by decide +kernel)) xk12_10 (qi := 10) rfl (xw_okI rfl) ?_
    refine xw_aload_n rfl rfl rfl ?_
    refine xw_aload_n rfl rfl rfl ?_
    refine xw_lo (L2 := []) (fun _ h => absurd h List.not_mem_nil) ?_
    exact q
  refine xS_call (q := 252) (n := 1) (kq := 1) (as := [xa 536]) (st1 := [xa 536]) rfl rfl rfl rfl rfl rfl rfl rfl rfl rfl (fun _ => xw_rcv1 (t := 12) (xw_obd (by decide +kernel)) rfl) rfl (List.forall_mem_cons.mpr ⟨rfl, fun _ h => absurd h List.not_mem_nil⟩) (ygf252 hB _) (fun v1 m1 cv1 => ?_)
  refine xS_of (pc' := 275) (L' := []) (st' := []) (m' := (xw_u m1 536 11 v1)) (fun ex ns r q => ?_) ?_
  · refine xw_pfI rfl (xw_obd (by decide +kernel)) xk12_11 (qi := 11) rfl (xw_okI rfl) ?_
    refine xw_goto rfl ?_
    exact q
  exact xS_ret (v := 0) rfl rfl rfl rfl
theorem ysl248_137 {B : Nat} (hB : B ≤ 512) {xs : Nat → Int32} {SL d : Nat} {r137 : xw_M → xP} (hr137 : ∀ m, xS B xs SL (d + 2) 248 (2, none, [], 13) 0 137 [(0, xa 536)] [] m (r137 m)) : ∀ m, xS B xs SL (d + 2) 248 (2, none, [], 13) 0 137 [(0, xa 536)] [] m (yl248_137 B r137 m) := by
  intro m
  unfold yl248_137
  refine xS_of (pc' := 145) (L' := [(0, xa 536)]) (st' := [xi (xR m 536 5), xi (xR m 536 8)]) (m' := m) (fun ex ns r q => ?_) ?_
  · refine xw_aload_n rfl rfl rfl ?_
    refine xw_gfIc (v := (m 536 8)) (v' := (xR m 536 8)) rfl (xw_obd (by decide +kernel)) xk12_8 (qi := 8) rfl rfl rfl ?_
    refine xw_aload_n rfl rfl rfl ?_
    refine xw_gfIc (v := (m 536 5)) (v' := (xR m 536 5)) rfl (xw_obd (by decide +kernel)) xk12_5 (qi := 5) rfl rfl rfl ?_
    exact q
  refine xS_if (fun h0 => ?_) (fun h0 => ?_)
  · refine xS_of (pc' := 153) (L' := [(0, xa 536)]) (st' := [xi (xR m 536 8), xa 536]) (m' := m) (fun ex ns r q => ?_) ?_
    · refine xw_ic_geF rfl (w32_cg (w32_xR _ _ _)) (w32_cg (w32_xR _ _ _)) (Int.not_le.mpr h0) ?_
      refine xw_aload_n rfl rfl rfl ?_
      refine xw_aload_n rfl rfl rfl ?_
      refine xw_gfIc (v := (m 536 8)) (v' := (xR m 536 8)) rfl (xw_obd (by decide +kernel)) xk12_8 (qi := 8) rfl rfl rfl ?_
      refine xw_lo (L2 := [(0, xa 536)]) (List.forall_mem_cons.mpr ⟨rfl, fun _ h => absurd h List.not_mem_nil⟩) ?_
      exact q
    refine xS_call (q := 249) (n := 2) (kq := 1) (as := [xa 536, xi (xR m 536 8)]) (st1 := []) rfl rfl rfl rfl rfl rfl rfl rfl rfl rfl (fun _ => xw_rcv1 (t := 12) (xw_obd (by decide +kernel)) rfl) rfl (List.forall_mem_cons.mpr ⟨rfl, List.forall_mem_cons.mpr ⟨rfl, fun _ h => absurd h List.not_mem_nil⟩⟩) (ygf249 hB _ _ (w32_xR _ _ _)) (fun v1 m1 cv1 => ?_)
    refine xS_of (pc' := 156) (L' := [(0, xa 536)]) (st' := [xi v1]) (m' := m1) (fun ex ns r q => ?_) ?_
    · refine xw_lo (L2 := [(0, xa 536)]) (List.forall_mem_cons.mpr ⟨rfl, fun _ h => absurd h List.not_mem_nil⟩) ?_
      exact q
    refine xS_call (q := 250) (n := 1) (kq := 4) (as := [xi v1]) (st1 := []) rfl rfl rfl rfl rfl rfl rfl rfl rfl rfl (fun _ => xw_rcv0 rfl) rfl (List.forall_mem_cons.mpr ⟨rfl, fun _ h => absurd h List.not_mem_nil⟩) (ygf250 hB _ _ cv1) (fun v2 m2 cv2 => ?_)
    refine xS_if (fun h1 => ?_) (fun h1 => ?_)
    · refine xS_of (pc' := 167) (L' := [(0, xa 536)]) (st' := [xi (xR m2 536 8), xa 536]) (m' := m2) (fun ex ns r q => ?_) ?_
      · refine xw_if_neF rfl (w32_cg (w32_of (xw_zr cv2))) h1 ?_
        refine xw_aload_n rfl rfl rfl ?_
        refine xw_aload_n rfl rfl rfl ?_
        refine xw_gfIc (v := (m2 536 8)) (v' := (xR m2 536 8)) rfl (xw_obd (by decide +kernel)) xk12_8 (qi := 8) rfl rfl rfl ?_
        refine xw_lo (L2 := [(0, xa 536)]) (List.forall_mem_cons.mpr ⟨rfl, fun _ h => absurd h List.not_mem_nil⟩) ?_
        exact q
      refine xS_call (q := 249) (n := 2) (kq := 1) (as := [xa 536, xi (xR m2 536 8)]) (st1 := []) rfl rfl rfl rfl rfl rfl rfl rfl rfl rfl (fun _ => xw_rcv1 (t := 12) (xw_obd (by decide +kernel)) rfl) rfl (List.forall_mem_cons.mpr ⟨rfl, List.forall_mem_cons.mpr ⟨rfl, fun _ h => absurd h List.not_mem_nil⟩⟩) (ygf249 hB _ _ (w32_xR _ _ _)) (fun v3 m3 cv3 => ?_)
      refine xS_of (pc' := 170) (L' := [(0, xa 536)]) (st' := [xi v3]) (m' := m3) (fun ex ns r q => ?_) ?_
      · refine xw_lo (L2 := [(0, xa 536)]) (List.forall_mem_cons.mpr ⟨rfl, fun _ h => absurd h List.not_mem_nil⟩) ?_
        exact q
      refine xS_call (q := 251) (n := 1) (kq := 4) (as := [xi v3]) (st1 := []) rfl rfl rfl rfl rfl rfl rfl rfl rfl rfl (fun _ => xw_rcv0 rfl) rfl (List.forall_mem_cons.mpr ⟨rfl, fun _ h => absurd h List.not_mem_nil⟩) (ygf251 hB _ _ cv3) (fun v4 m4 cv4 => ?_)
      refine xS_if (fun h2 => ?_) (fun h2 => ?_)
      · refine xS_of (pc' := 181) (L' := [(0, xa 536)]) (st' := [xi (xR m4 536 8), xa 536]) (m' := m4) (fun ex ns r q => ?_) ?_
        · refine xw_if_neF rfl (w32_cg (w32_of (xw_zr cv4))) h2 ?_
          refine xw_aload_n rfl rfl rfl ?_
          refine xw_aload_n rfl rfl rfl ?_
          refine xw_gfIc (v := (m4 536 8)) (v' := (xR m4 536 8)) rfl (xw_obd (by decide +kernel)) xk12_8 (qi := 8) rfl rfl rfl ?_
          refine xw_lo (L2 := [(0, xa 536)]) (List.forall_mem_cons.mpr ⟨rfl, fun _ h => absurd h List.not_mem_nil⟩) ?_
          exact q
        refine xS_call (q := 249) (n := 2) (kq := 1) (as := [xa 536, xi (xR m4 536 8)]) (st1 := []) rfl rfl rfl rfl rfl rfl rfl rfl rfl rfl (fun _ => xw_rcv1 (t := 12) (xw_obd (by decide +kernel)) rfl) rfl (List.forall_mem_cons.mpr ⟨rfl, List.forall_mem_cons.mpr ⟨rfl, fun _ h => absurd h List.not_mem_nil⟩⟩) (ygf249 hB _ _ (w32_xR _ _ _)) (fun v5 m5 cv5 => ?_)
        refine xS_of (pc' := 186) (L' := [(0, xa 536)]) (st' := [xi 95, xi v5]) (m' := m5) (fun ex ns r q => ?_) ?_
        · refine xw_bipush (e := 95) rfl (by decide +kernel) ?_
          exact q
        refine xS_if (fun h3 => ?_) (fun h3 => ?_)
        · refine xS_of (pc' := 189) (L' := [(0, xa 536)]) (st' := []) (m' := m5) (fun ex ns r q => ?_) ?_
          · refine xw_ic_neF rfl (w32_cg cv5) (w32_cg rfl) h3 ?_
            refine xw_lo (L2 := [(0, xa 536)]) (List.forall_mem_cons.mpr ⟨rfl, fun _ h => absurd h List.not_mem_nil⟩) ?_
            exact q
          exact ygk248_189 hB hr137 _
        · refine xS_of (pc' := 202) (L' := [(0, xa 536)]) (st' := []) (m' := m5) (fun ex ns r q => ?_) ?_
          · refine xw_ic_neT rfl (w32_cg cv5) (w32_cg rfl) h3 ?_
            refine xw_lo (L2 := [(0, xa 536)]) (List.forall_mem_cons.mpr ⟨rfl, fun _ h => absurd h List.not_mem_nil⟩) ?_
            exact q
          exact ygk248_202 hB _
      · refine xS_of (pc' := 189) (L' := [(0, xa 536)]) (st' := []) (m' := m4) (fun ex ns r q => ?_) ?_
        · refine xw_if_neT rfl (w32_cg (w32_of (xw_zr cv4))) h2 ?_
          refine xw_lo (L2 := [(0, xa 536)]) (List.forall_mem_cons.mpr ⟨rfl, fun _ h => absurd h List.not_mem_nil⟩) ?_
          exact q
        exact ygk248_189 hB hr137 _
    · refine xS_of (pc' := 189) (L' := [(0, xa 536)]) (st' := []) (m' := m2) (fun ex ns r q => ?_) ?_
      · refine xw_if_neT rfl (w32_cg (w32_of (xw_zr cv2))) h1 ?_
        refine xw_lo (L2 := [(0, xa 536)]) (List.forall_mem_cons.mpr ⟨rfl, fun _ h => absurd h List.not_mem_nil⟩) ?_
        exact q
      exact ygk248_189 hB hr137 _
  · refine xS_of (pc' := 202) (L' := [(0, xa 536)]) (st' := []) (m' := m) (fun ex ns r q => ?_) ?_
    · refine xw_ic_geT rfl (w32_cg (w32_xR _ _ _)) (w32_cg (w32_xR _ _ _)) (Int.not_lt.mp h0) ?_
      refine xw_lo (L2 := [(0, xa 536)]) (List.forall_mem_cons.mpr ⟨rfl, fun _ h => absurd h List.not_mem_nil⟩) ?_
      exact q
    exact ygk248_202 hB _
theorem ygl248_137 {B : Nat} (hB : B ≤ 512) {xs : Nat → Int32} {SL d : Nat} : ∀ n m, xS B xs SL (d + 2) 248 (2, none, [], 13) 0 137 [(0, xa 536)] [] m (xl0 (yl248_137 B) n m) := by
  intro n
  induction n with
  | zero => intro m; exact xS_none
  | succ n ih => exact ysl248_137 hB ih
theorem ygk248_247 {B : Nat} (hB : B ≤ 512) {xs : Nat → Int32} {SL d : Nat} : ∀ x1 m, w32 x1 = x1 → xS B xs SL (d + 2) 248 (2, none, [], 13) 0 247 [(0, xa 536), (1, xi x1)] [] m (yk248_247 B x1 m) := by
  intro x1 m c1
  unfold yk248_247
  refine xS_of (pc' := 251) (L' := [(0, xa 536), (1, xi x1)]) (st' := [xi 45, xi x1, xa 536]) (m' := m) (fun ex ns r q => ?_) ?_
  · refine xw_aload_n rfl rfl rfl ?_
    refine xw_iload_n rfl rfl ?_
    refine xw_bipush (e := 45) rfl (by decide +kernel) ?_
    exact q
  refine xS_if (fun h0 => ?_) (fun h0 => ?_)
  · refine xS_of (pc' := 259) (L' := []) (st' := [xi 1, xa 536]) (m' := m) (fun ex ns r q => ?_) ?_
    · refine xw_ic_neF rfl (w32_cg c1) (w32_cg rfl) h0 ?_
      refine xw_iconst rfl ?_
      refine xw_goto rfl ?_
      refine xw_lo (L2 := []) (fun _ h => absurd h List.not_mem_nil) ?_
      exact q
    refine xS_call (q := 253) (n := 2) (kq := 0) (as := [xa 536, xi 1]) (st1 := []) rfl rfl rfl rfl rfl rfl rfl rfl rfl rfl (fun _ => xw_rcv1 (t := 12) (xw_obd (by decide +kernel)) rfl) rfl (List.forall_mem_cons.mpr ⟨rfl, List.forall_mem_cons.mpr ⟨rfl, fun _ h => absurd h List.not_mem_nil⟩⟩) (ygf253 hB _ _ rfl) (fun v1 m1 cv1 => ?_)
    refine xS_of (pc' := 275) (L' := []) (st' := []) (m' := m1) (fun ex ns r q => ?_) ?_
    · refine xw_goto rfl ?_
      exact q
    exact xS_ret (v := 0) rfl rfl rfl rfl
  · refine xS_of (pc' := 259) (L' := []) (st' := [xi 0, xa 536]) (m' := m) (fun ex ns r q => ?_) ?_
    · refine xw_ic_neT rfl (w32_cg c1) (w32_cg rfl) h0 ?_
      refine xw_iconst rfl ?_
      refine xw_lo (L2 := []) (fun _ h => absurd h List.not_mem_nil) ?_
      exact q
    refine xS_call (q := 253) (n := 2) (kq := 0) (as := [xa 536, xi 0]) (st1 := []) rfl rfl rfl rfl rfl rfl rfl rfl rfl rfl (fun _ => xw_rcv1 (t := 12) (xw_obd (by decide +kernel)) rfl) rfl (List.forall_mem_cons.mpr ⟨rfl, List.forall_mem_cons.mpr ⟨rfl, fun _ h => absurd h List.not_mem_nil⟩⟩) (ygf253 hB _ _ rfl) (fun v2 m2 cv2 => ?_)
    refine xS_of (pc' := 275) (L' := []) (st' := []) (m' := m2) (fun ex ns r q => ?_) ?_
    · refine xw_goto rfl ?_
      exact q
    exact xS_ret (v := 0) rfl rfl rfl rfl
theorem ygk248_265 {B : Nat} (hB : B ≤ 512) {xs : Nat → Int32} {SL d : Nat} : ∀ x1 m, w32 x1 = x1 → xS B xs SL (d + 2) 248 (2, none, [], 13) 0 265 [(0, xa 536), (1, xi x1)] [] m (yk248_265 B x1 m) := by
  intro x1 m c1
  unfold yk248_265
  refine xS_of (pc' := 272) (L' := []) (st' := [xi x1, xa 536]) (m' := (xw_u m 536 10 3)) (fun ex ns r q => ?_) ?_
  · refine xw_aload_n rfl rfl rfl ?_
    refine xw_iconst rfl ?_
    refine xw_pfI rfl (xw_obd (by decide +kernel)) xk12_10 (qi := 10) rfl (xw_okI rfl) ?_
    refine xw_aload_n rfl rfl rfl ?_
    refine xw_iload_n rfl rfl ?_
    refine xw_lo (L2 := []) (fun _ h => absurd h List.not_mem_nil) ?_
    exact q
  refine xS_call (q := 255) (n := 2) (kq := 0) (as := [xa 536, xi x1]) (st1 := []) rfl rfl rfl rfl rfl rfl rfl rfl rfl rfl (fun _ => xw_rcv1 (t := 12) (xw_obd (by decide +kernel)) rfl) rfl (List.forall_mem_cons.mpr ⟨rfl, List.forall_mem_cons.mpr ⟨rfl, fun _ h => absurd h List.not_mem_nil⟩⟩) (ygf255 hB _ _ c1) (fun v1 m1 cv1 => ?_)
  exact xS_ret (v := 0) rfl rfl rfl rfl
theorem ygk248_84 {B : Nat} (hB : B ≤ 512) {xs : Nat → Int32} {SL d : Nat} : ∀ m, xS B xs SL (d + 2) 248 (2, none, [], 13) 0 84 [(0, xa 536)] [] m (yk248_84 B m) := by
  intro m
  unfold yk248_84
  refine xS_of (pc' := 107) (L' := [(0, xa 536)]) (st' := [xi (xR m 536 8), xa 536]) (m' := (xw_u (xw_u (xw_u m 536 9 (xR m 536 8)) 536 11 (-1)) 536 13 0)) (fun ex ns r q => ?_) ?_
  · refine xw_aload_n rfl rfl rfl ?_
    refine xw_aload_n rfl rfl rfl ?_
    refine xw_gfIc (v := (m 536 8)) (v' := (xR m 536 8)) rfl (xw_obd (by decide +kernel)) xk12_8 (qi := 8) rfl rfl rfl ?_
    refine xw_pfI rfl (xw_obd (by decide +kernel)) xk12_9 (qi := 9) rfl (xw_okI rfl) ?_
    refine xw_aload_n rfl rfl rfl ?_
    refine xw_iconst rfl ?_
    refine xw_pfI rfl (xw_obd (by decide +kernel)) xk12_11 (qi := 11) rfl (xw_okI rfl) ?_
    refine xw_aload_n rfl rfl rfl ?_
    refine xw_iconst rfl ?_
    refine xw_pfI rfl (xw_obd (by decide +kernel)) xk12_13 (qi := 13) rfl (xw_okI rfl) ?_
    refine xw_aload_n rfl rfl rfl ?_
    refine xw_aload_n rfl rfl rfl ?_
    refine xw_gfIc (v := (m 536 8)) (v' := (xR m 536 8)) rfl (xw_obd (by decide +kernel)) xk12_8 (qi := 8) rfl (xw_un (fun e => absurd e.2 (by decide)) (xw_un (fun e => absurd e.2 (by decide)) (xw_un (fun e => absurd e.2 (by decide)) rfl))) rfl ?_
    refine xw_lo (L2 := [(0, xa 536)]) (List.forall_mem_cons.mpr ⟨rfl, fun _ h => absurd h List.not_mem_nil⟩) ?_
    exact q
  refine xS_call (q := 249) (n := 2) (kq := 1) (as := [xa 536, xi (xR m 536 8)]) (st1 := []) rfl rfl rfl rfl rfl rfl rfl rfl rfl rfl (fun _ => xw_rcv1 (t := 12) (xw_obd (by decide +kernel)) rfl) rfl (List.forall_mem_cons.mpr ⟨rfl, List.forall_mem_cons.mpr ⟨rfl, fun _ h => absurd h List.not_mem_nil⟩⟩) (ygf249 hB _ _ (w32_xR _ _ _)) (fun v1 m1 cv1 => ?_)
  refine xS_of (pc' := 119) (L' := [(1, xi v1), (0, xa 536)]) (st' := [xi (xR m1 536 5), xi (xR m1 536 8)]) (m' := m1) (fun ex ns r q => ?_) ?_
  · refine xw_istore_n (L' := [(1, xi v1), (0, xa 536)]) rfl (by decide) rfl ?_
    refine xw_aload_n rfl rfl rfl ?_
    refine xw_gfIc (v := (m1 536 8)) (v' := (xR m1 536 8)) rfl (xw_obd (by decide +kernel)) xk12_8 (qi := 8) rfl rfl rfl ?_
    refine xw_aload_n rfl rfl rfl ?_
    refine xw_gfIc (v := (m1 536 5)) (v' := (xR m1 536 5)) rfl (xw_obd (by decide +kernel)) xk12_5 (qi := 5) rfl rfl rfl ?_
    exact q
  refine xS_if (fun h0 => ?_) (fun h0 => ?_)
  · refine xS_of (pc' := 275) (L' := [(1, xi v1), (0, xa 536)]) (st' := []) (m' := (xw_u m1 536 10 0)) (fun ex ns r q => ?_) ?_
    · refine xw_ic_neF rfl (w32_cg (w32_xR _ _ _)) (w32_cg (w32_xR _ _ _)) h0 ?_
      refine xw_aload_n rfl rfl rfl ?_
      refine xw_iconst rfl ?_
      refine xw_pfI rfl (xw_obd (by decide +kernel)) xk12_10 (qi := 10) rfl (xw_okI rfl) ?_
      refine xw_goto rfl ?_
      exact q
    exact xS_ret (v := 0) rfl rfl rfl rfl
  · refine xS_of (pc' := 131) (L' := [(0, xa 536), (1, xi v1)]) (st' := [xi v1]) (m' := m1) (fun ex ns r q => ?_) ?_
    · refine xw_ic_neT rfl (w32_cg (w32_xR _ _ _)) (w32_cg (w32_xR _ _ _)) h0 ?_
      refine xw_iload_n rfl rfl ?_
      refine xw_lo (L2 := [(0, xa 536), (1, xi v1)]) (List.forall_mem_cons.mpr ⟨rfl, List.forall_mem_cons.mpr ⟨rfl, fun _ h => absurd h List.not_mem_nil⟩⟩) ?_
      exact q
    refine xS_call (q := 250) (n := 1) (kq := 4) (as := [xi v1]) (st1 := []) rfl rfl rfl rfl rfl rfl rfl rfl rfl rfl (fun _ => xw_rcv0 rfl) rfl (List.forall_mem_cons.mpr ⟨rfl, fun _ h => absurd h List.not_mem_nil⟩) (ygf250 hB _ _ cv1) (fun v2 m2 cv2 => ?_)
    refine xS_if (fun h1 => ?_) (fun h1 => ?_)
    · refine xS_of (pc' := 219) (L' := [(0, xa 536), (1, xi v1)]) (st' := [xi v1]) (m' := m2) (fun ex ns r q => ?_) ?_
      · refine xw_if_eqT rfl (w32_cg (w32_of (xw_zr cv2))) h1 ?_
        refine xw_iload_n rfl rfl ?_
        refine xw_lo (L2 := [(0, xa 536), (1, xi v1)]) (List.forall_mem_cons.mpr ⟨rfl, List.forall_mem_cons.mpr ⟨rfl, fun _ h => absurd h List.not_mem_nil⟩⟩) ?_
        exact q
      refine xS_call (q := 251) (n := 1) (kq := 4) (as := [xi v1]) (st1 := []) rfl rfl rfl rfl rfl rfl rfl rfl rfl rfl (fun _ => xw_rcv0 rfl) rfl (List.forall_mem_cons.mpr ⟨rfl, fun _ h => absurd h List.not_mem_nil⟩) (ygf251 hB _ _ cv1) (fun v3 m3 cv3 => ?_)
      refine xS_if (fun h2 => ?_) (fun h2 => ?_)
      · refine xS_of (pc' := 228) (L' := [(0, xa 536), (1, xi v1)]) (st' := [xi 45, xi v1]) (m' := m3) (fun ex ns r q => ?_) ?_
        · refine xw_if_neF rfl (w32_cg (w32_of (xw_zr cv3))) h2 ?_
          refine xw_iload_n rfl rfl ?_
          refine xw_bipush (e := 45) rfl (by decide +kernel) ?_
          exact q
        refine xS_if (fun h3 => ?_) (fun h3 => ?_)
        · refine xS_of (pc' := 238) (L' := [(0, xa 536), (1, xi v1)]) (st' := [xi (w32 ((xR m3 536 8) + 1)), xa 536]) (m' := m3) (fun ex ns r q => ?_) ?_
          · refine xw_ic_neF rfl (w32_cg cv1) (w32_cg rfl) h3 ?_
            refine xw_aload_n rfl rfl rfl ?_
            refine xw_aload_n rfl rfl rfl ?_
            refine xw_gfIc (v := (m3 536 8)) (v' := (xR m3 536 8)) rfl (xw_obd (by decide +kernel)) xk12_8 (qi := 8) rfl rfl rfl ?_
            refine xw_iconst rfl ?_
            refine xw_iadd rfl ?_
            refine xw_cst (st' := [xi (w32 ((xR m3 536 8) + 1)), xa 536]) (xw_sc (xi_c rfl) (xw_sc rfl rfl)) ?_
            refine xw_lo (L2 := [(0, xa 536), (1, xi v1)]) (List.forall_mem_cons.mpr ⟨rfl, List.forall_mem_cons.mpr ⟨rfl, fun _ h => absurd h List.not_mem_nil⟩⟩) ?_
            exact q
          refine xS_call (q := 249) (n := 2) (kq := 1) (as := [xa 536, xi (w32 ((xR m3 536 8) + 1))]) (st1 := []) rfl rfl rfl rfl rfl rfl rfl rfl rfl rfl (fun _ => xw_rcv1 (t := 12) (xw_obd (by decide +kernel)) rfl) rfl (List.forall_mem_cons.mpr ⟨rfl, List.forall_mem_cons.mpr ⟨rfl, fun _ h => absurd h List.not_mem_nil⟩⟩) (ygf249 hB _ _ (w32_w _)) (fun v4 m4 cv4 => ?_)
          refine xS_of (pc' := 241) (L' := [(0, xa 536), (1, xi v1)]) (st' := [xi v4]) (m' := m4) (fun ex ns r q => ?_) ?_
          · refine xw_lo (L2 := [(0, xa 536), (1, xi v1)]) (List.forall_mem_cons.mpr ⟨rfl, List.forall_mem_cons.mpr ⟨rfl, fun _ h => absurd h List.not_mem_nil⟩⟩) ?_
            exact q
          refine xS_call (q := 251) (n := 1) (kq := 4) (as := [xi v4]) (st1 := []) rfl rfl rfl rfl rfl rfl rfl rfl rfl rfl (fun _ => xw_rcv0 rfl) rfl (List.forall_mem_cons.mpr ⟨rfl, fun _ h => absurd h List.not_mem_nil⟩) (ygf251 hB _ _ cv4) (fun v5 m5 cv5 => ?_)
          refine xS_if (fun h4 => ?_) (fun h4 => ?_)
          · refine xS_of (pc' := 265) (L' := [(0, xa 536), (1, xi v1)]) (st' := []) (m' := m5) (fun ex ns r q => ?_) ?_
            · refine xw_if_eqT rfl (w32_cg (w32_of (xw_zr cv5))) h4 ?_
              refine xw_lo (L2 := [(0, xa 536), (1, xi v1)]) (List.forall_mem_cons.mpr ⟨rfl, List.forall_mem_cons.mpr ⟨rfl, fun _ h => absurd h List.not_mem_nil⟩⟩) ?_
              exact q
            exact ygk248_265 hB _ _ cv1
          · refine xS_of (pc' := 247) (L' := [(0, xa 536), (1, xi v1)]) (st' := []) (m' := m5) (fun ex ns r q => ?_) ?_
            · refine xw_if_eqF rfl (w32_cg (w32_of (xw_zr cv5))) h4 ?_
              refine xw_lo (L2 := [(0, xa 536), (1, xi v1)]) (List.forall_mem_cons.mpr ⟨rfl, List.forall_mem_cons.mpr ⟨rfl, fun _ h => absurd h List.not_mem_nil⟩⟩) ?_
              exact q
            exact ygk248_247 hB _ _ cv1
        · refine xS_of (pc' := 265) (L' := [(0, xa 536), (1, xi v1)]) (st' := []) (m' := m3) (fun ex ns r q => ?_) ?_
          · refine xw_ic_neT rfl (w32_cg cv1) (w32_cg rfl) h3 ?_
            refine xw_lo (L2 := [(0, xa 536), (1, xi v1)]) (List.forall_mem_cons.mpr ⟨rfl, List.forall_mem_cons.mpr ⟨rfl, fun _ h => absurd h List.not_mem_nil⟩⟩) ?_
            exact q
          exact ygk248_265 hB _ _ cv1
      · refine xS_of (pc' := 247) (L' := [(0, xa 536), (1, xi v1)]) (st' := []) (m' := m3) (fun ex ns r q => ?_) ?_
        · refine xw_if_neT rfl (w32_cg (w32_of (xw_zr cv3))) h2 ?_
          refine xw_lo (L2 := [(0, xa 536), (1, xi v1)]) (List.forall_mem_cons.mpr ⟨rfl, List.forall_mem_cons.mpr ⟨rfl, fun _ h => absurd h List.not_mem_nil⟩⟩) ?_
          exact q
        exact ygk248_247 hB _ _ cv1
    · refine xS_of (pc' := 137) (L' := [(0, xa 536)]) (st' := []) (m' := m2) (fun ex ns r q => ?_) ?_
      · refine xw_if_eqF rfl (w32_cg (w32_of (xw_zr cv2))) h1 ?_
        refine xw_lo (L2 := [(0, xa 536)]) (List.forall_mem_cons.mpr ⟨rfl, fun _ h => absurd h List.not_mem_nil⟩) ?_
        exact q
      exact ygl248_137 hB 1000000 _
theorem ysl248_8 {B : Nat} (hB : B ≤ 512) {xs : Nat → Int32} {SL d : Nat} {r8 : xw_M → xP} (hr8 : ∀ m, xS B xs SL (d + 2) 248 (2, none, [], 13) 0 8 [(0, xa 536)] [] m (r8 m)) : ∀ m, xS B xs SL (d + 2) 248 (2, none, [], 13) 0 8 [(0, xa 536)] [] m (yl248_8 B r8 m) := by
  intro m
  unfold yl248_8
  refine xS_of (pc' := 16) (L' := [(0, xa 536)]) (st' := [xi (xR m 536 5), xi (xR m 536 8)]) (m' := m) (fun ex ns r q => ?_) ?_
  · refine xw_aload_n rfl rfl rfl ?_
    refine xw_gfIc (v := (m 536 8)) (v' := (xR m 536 8)) rfl (xw_obd (by decide +kernel)) xk12_8 (qi := 8) rfl rfl rfl ?_
    refine xw_aload_n rfl rfl rfl ?_
    refine xw_gfIc (v := (m 536 5)) (v' := (xR m 536 5)) rfl (xw_obd (by decide +kernel)) xk12_5 (qi := 5) rfl rfl rfl ?_
    exact q
  refine xS_if (fun h0 => ?_) (fun h0 => ?_)
  · refine xS_of (pc' := 24) (L' := [(0, xa 536)]) (st' := [xi (xR m 536 8), xa 536]) (m' := m) (fun ex ns r q => ?_) ?_
    · refine xw_ic_geF rfl (w32_cg (w32_xR _ _ _)) (w32_cg (w32_xR _ _ _)) (Int.not_le.mpr h0) ?_
      refine xw_aload_n rfl rfl rfl ?_
      refine xw_aload_n rfl rfl rfl ?_
      refine xw_gfIc (v := (m 536 8)) (v' := (xR m 536 8)) rfl (xw_obd (by decide +kernel)) xk12_8 (qi := 8) rfl rfl rfl ?_
      refine xw_lo (L2 := [(0, xa 536)]) (List.forall_mem_cons.mpr ⟨rfl, fun _ h => absurd h List.not_mem_nil⟩) ?_
      exact q
    refine xS_call (q := 249) (n := 2) (kq := 1) (as := [xa 536, xi (xR m 536 8)]) (st1 := []) rfl rfl rfl rfl rfl rfl rfl rfl rfl rfl (fun _ => xw_rcv1 (t := 12) (xw_obd (by decide +kernel)) rfl) rfl (List.forall_mem_cons.mpr ⟨rfl, List.forall_mem_cons.mpr ⟨rfl, fun _ h => absurd h List.not_mem_nil⟩⟩) (ygf249 hB _ _ (w32_xR _ _ _)) (fun v1 m1 cv1 => ?_)
    refine xS_of (pc' := 29) (L' := [(0, xa 536)]) (st' := [xi 32, xi v1]) (m' := m1) (fun ex ns r q => ?_) ?_
    · refine xw_bipush (e := 32) rfl (by decide +kernel) ?_
      exact q
    refine xS_if (fun h1 => ?_) (fun h1 => ?_)
    · refine xS_of (pc' := 71) (L' := [(0, xa 536)]) (st' := []) (m' := m1) (fun ex ns r q => ?_) ?_
      · refine xw_ic_eqT rfl (w32_cg cv1) (w32_cg rfl) h1 ?_
        refine xw_lo (L2 := [(0, xa 536)]) (List.forall_mem_cons.mpr ⟨rfl, fun _ h => absurd h List.not_mem_nil⟩) ?_
        exact q
      exact ygk248_71 hB hr8 _
    · refine xS_of (pc' := 37) (L' := [(0, xa 536)]) (st' := [xi (xR m1 536 8), xa 536]) (m' := m1) (fun ex ns r q => ?_) ?_
      · refine xw_ic_eqF rfl (w32_cg cv1) (w32_cg rfl) h1 ?_
        refine xw_aload_n rfl rfl rfl ?_
        refine xw_aload_n rfl rfl rfl ?_
        refine xw_gfIc (v := (m1 536 8)) (v' := (xR m1 536 8)) rfl (xw_obd (by decide +kernel)) xk12_8 (qi := 8) rfl rfl rfl ?_
        refine xw_lo (L2 := [(0, xa 536)]) (List.forall_mem_cons.mpr ⟨rfl, fun _ h => absurd h List.not_mem_nil⟩) ?_
        exact q
      refine xS_call (q := 249) (n := 2) (kq := 1) (as := [xa 536, xi (xR m1 536 8)]) (st1 := []) rfl rfl rfl rfl rfl rfl rfl rfl rfl rfl (fun _ => xw_rcv1 (t := 12) (xw_obd (by decide +kernel)) rfl) rfl (List.forall_mem_cons.mpr ⟨rfl, List.forall_mem_cons.mpr ⟨rfl, fun _ h => absurd h List.not_mem_nil⟩⟩) (ygf249 hB _ _ (w32_xR _ _ _)) (fun v2 m2 cv2 => ?_)
      refine xS_of (pc' := 42) (L' := [(0, xa 536)]) (st' := [xi 9, xi v2]) (m' := m2) (fun ex ns r q => ?_) ?_
      · refine xw_bipush (e := 9) rfl (by decide +kernel) ?_
        exact q
      refine xS_if (fun h2 => ?_) (fun h2 => ?_)
      · refine xS_of (pc' := 71) (L' := [(0, xa 536)]) (st' := []) (m' := m2) (fun ex ns r q => ?_) ?_
        · refine xw_ic_eqT rfl (w32_cg cv2) (w32_cg rfl) h2 ?_
          refine xw_lo (L2 := [(0, xa 536)]) (List.forall_mem_cons.mpr ⟨rfl, fun _ h => absurd h List.not_mem_nil⟩) ?_
          exact q
        exact ygk248_71 hB hr8 _
      · refine xS_of (pc' := 50) (L' := [(0, xa 536)]) (st' := [xi (xR m2 536 8), xa 536]) (m' := m2) (fun ex ns r q => ?_) ?_
        · refine xw_ic_eqF rfl (w32_cg cv2) (w32_cg rfl) h2 ?_
          refine xw_aload_n rfl rfl rfl ?_
          refine xw_aload_n rfl rfl rfl ?_
          refine xw_gfIc (v := (m2 536 8)) (v' := (xR m2 536 8)) rfl (xw_obd (by decide +kernel)) xk12_8 (qi := 8) rfl rfl rfl ?_
          refine xw_lo (L2 := [(0, xa 536)]) (List.forall_mem_cons.mpr ⟨rfl, fun _ h => absurd h List.not_mem_nil⟩) ?_
          exact q
        refine xS_call (q := 249) (n := 2) (kq := 1) (as := [xa 536, xi (xR m2 536 8)]) (st1 := []) rfl rfl rfl rfl rfl rfl rfl rfl rfl rfl (fun _ => xw_rcv1 (t := 12) (xw_obd (by decide +kernel)) rfl) rfl (List.forall_mem_cons.mpr ⟨rfl, List.forall_mem_cons.mpr ⟨rfl, fun _ h => absurd h List.not_mem_nil⟩⟩) (ygf249 hB _ _ (w32_xR _ _ _)) (fun v3 m3 cv3 => ?_)
        refine xS_of (pc' := 55) (L' := [(0, xa 536)]) (st' := [xi 10, xi v3]) (m' := m3) (fun ex ns r q => ?_) ?_
        · refine xw_bipush (e := 10) rfl (by decide +kernel) ?_
          exact q
        refine xS_if (fun h3 => ?_) (fun h3 => ?_)
        · refine xS_of (pc' := 71) (L' := [(0, xa 536)]) (st' := []) (m' := m3) (fun ex ns r q => ?_) ?_
          · refine xw_ic_eqT rfl (w32_cg cv3) (w32_cg rfl) h3 ?_
            refine xw_lo (L2 := [(0, xa 536)]) (List.forall_mem_cons.mpr ⟨rfl, fun _ h => absurd h List.not_mem_nil⟩) ?_
            exact q
          exact ygk248_71 hB hr8 _
        · refine xS_of (pc' := 63) (L' := [(0, xa 536)]) (st' := [xi (xR m3 536 8), xa 536]) (m' := m3) (fun ex ns r q => ?_) ?_
          · refine xw_ic_eqF rfl (w32_cg cv3) (w32_cg rfl) h3 ?_
            refine xw_aload_n rfl rfl rfl ?_
            refine xw_aload_n rfl rfl rfl ?_
            refine xw_gfIc (v := (m3 536 8)) (v' := (xR m3 536 8)) rfl (xw_obd (by decide +kernel)) xk12_8 (qi := 8) rfl rfl rfl ?_
            refine xw_lo (L2 := [(0, xa 536)]) (List.forall_mem_cons.mpr ⟨rfl, fun _ h => absurd h List.not_mem_nil⟩) ?_
            exact q
          refine xS_call (q := 249) (n := 2) (kq := 1) (as := [xa 536, xi (xR m3 536 8)]) (st1 := []) rfl rfl rfl rfl rfl rfl rfl rfl rfl rfl (fun _ => xw_rcv1 (t := 12) (xw_obd (by decide +kernel)) rfl) rfl (List.forall_mem_cons.mpr ⟨rfl, List.forall_mem_cons.mpr ⟨rfl, fun _ h => absurd h List.not_mem_nil⟩⟩) (ygf249 hB _ _ (w32_xR _ _ _)) (fun v4 m4 cv4 => ?_)
          refine xS_of (pc' := 68) (L' := [(0, xa 536)]) (st' := [xi 13, xi v4]) (m' := m4) (fun ex ns r q => ?_) ?_
          · refine xw_bipush (e := 13) rfl (by decide +kernel) ?_
            exact q
          refine xS_if (fun h4 => ?_) (fun h4 => ?_)
          · refine xS_of (pc' := 71) (L' := [(0, xa 536)]) (st' := []) (m' := m4) (fun ex ns r q => ?_) ?_
            · refine xw_ic_neF rfl (w32_cg cv4) (w32_cg rfl) h4 ?_
              refine xw_lo (L2 := [(0, xa 536)]) (List.forall_mem_cons.mpr ⟨rfl, fun _ h => absurd h List.not_mem_nil⟩) ?_
              exact q
            exact ygk248_71 hB hr8 _
          · refine xS_of (pc' := 84) (L' := [(0, xa 536)]) (st' := []) (m' := m4) (fun ex ns r q => ?_) ?_
            · refine xw_ic_neT rfl (w32_cg cv4) (w32_cg rfl) h4 ?_
              refine xw_lo (L2 := [(0, xa 536)]) (List.forall_mem_cons.mpr ⟨rfl, fun _ h => absurd h List.not_mem_nil⟩) ?_
              exact q
            exact ygk248_84 hB _
  · refine xS_of (pc' := 84) (L' := [(0, xa 536)]) (st' := []) (m' := m) (fun ex ns r q => ?_) ?_
    · refine xw_ic_geT rfl (w32_cg (w32_xR _ _ _)) (w32_cg (w32_xR _ _ _)) (Int.not_lt.mp h0) ?_
      refine xw_lo (L2 := [(0, xa 536)]) (List.forall_mem_cons.mpr ⟨rfl, fun _ h => absurd h List.not_mem_nil⟩) ?_
      exact q
    exact ygk248_84 hB _
theorem ygl248_8 {B : Nat} (hB : B ≤ 512) {xs : Nat → Int32} {SL d : Nat} : ∀ n m, xS B xs SL (d + 2) 248 (2, none, [], 13) 0 8 [(0, xa 536)] [] m (xl0 (yl248_8 B) n m) := by
  intro n
  induction n with
  | zero => intro m; exact xS_none
  | succ n ih => exact ysl248_8 hB ih
theorem ygf248 {B : Nat} (hB : B ≤ 512) {xs : Nat → Int32} {SL d : Nat} : ∀ m, xS B xs SL (d + 2) 248 (2, none, [], 13) 0 0 [(0, xa 536)] [] m (yf248 B m) := by
  intro m
  unfold yf248
  refine xS_of (pc' := 4) (L' := [(0, xa 536)]) (st' := [xi (xR m 536 6)]) (m' := m) (fun ex ns r q => ?_) ?_
  · refine xw_aload_n rfl rfl rfl ?_
    refine xw_gfIc (v := (m 536 6)) (v' := (xR m 536 6)) rfl (xw_obd (by decide +kernel)) xk12_6 (qi := 6) rfl rfl rfl ?_
    exact q
  refine xS_if (fun h0 => ?_) (fun h0 => ?_)
  · refine xS_of (pc' := 7) (L' := [(0, xa 536)]) (st' := []) (m' := m) (fun ex ns r q => ?_) ?_
    · refine xw_if_leF rfl (w32_cg (w32_xR _ _ _)) (Int.not_le.mpr h0) ?_
      exact q
    exact xS_ret (v := 0) rfl rfl rfl rfl
  · refine xS_of (pc' := 8) (L' := [(0, xa 536)]) (st' := []) (m' := m) (fun ex ns r q => ?_) ?_
    · refine xw_if_leT rfl (w32_cg (w32_xR _ _ _)) (Int.not_lt.mp h0) ?_
      refine xw_lo (L2 := [(0, xa 536)]) (List.forall_mem_cons.mpr ⟨rfl, fun _ h => absurd h List.not_mem_nil⟩) ?_
      exact q
    exact ygl248_8 hB 1000000 _
theorem ygf257 {B : Nat} (hB : B ≤ 512) {xs : Nat → Int32} {SL d : Nat} : ∀ p0 m, w32 p0 = p0 → xS B xs SL (d + 0) 257 (2, (some .boolean), [], 13) 4 0 [(0, xa 536), (1, xi p0)] [] m (yf257 B p0 m) := by
  intro p0 m cp0
  unfold yf257
  refine xS_of (pc' := 5) (L' := [(0, xa 536), (1, xi p0)]) (st' := [xi 1, xi (xR m 536 10)]) (m' := m) (fun ex ns r q => ?_) ?_
  · refine xw_aload_n rfl rfl rfl ?_
    refine xw_gfIc (v := (m 536 10)) (v' := (xR m 536 10)) rfl (xw_obd (by decide +kernel)) xk12_10 (qi := 10) rfl rfl rfl ?_
    refine xw_iconst rfl ?_
    exact q
  refine xS_if (fun h0 => ?_) (fun h0 => ?_)
  · refine xS_of (pc' := 13) (L' := [(0, xa 536), (1, xi p0)]) (st' := [xi p0, xi (xR m 536 11)]) (m' := m) (fun ex ns r q => ?_) ?_
    · refine xw_ic_neF rfl (w32_cg (w32_xR _ _ _)) (w32_cg rfl) h0 ?_
      refine xw_aload_n rfl rfl rfl ?_
      refine xw_gfIc (v := (m 536 11)) (v' := (xR m 536 11)) rfl (xw_obd (by decide +kernel)) xk12_11 (qi := 11) rfl rfl rfl ?_
      refine xw_iload_n rfl rfl ?_
      exact q
    refine xS_if (fun h1 => ?_) (fun h1 => ?_)
    · refine xS_of (pc' := 21) (L' := [(0, xa 536), (1, xi p0)]) (st' := [xi 1]) (m' := m) (fun ex ns r q => ?_) ?_
      · refine xw_ic_neF rfl (w32_cg (w32_xR _ _ _)) (w32_cg cp0) h1 ?_
        refine xw_iconst rfl ?_
        refine xw_goto rfl ?_
        exact q
      exact xS_ret (v := 1) rfl rfl (xw_rtZ (Or.inr rfl)) (Or.inr rfl)
    · refine xS_of (pc' := 21) (L' := [(0, xa 536), (1, xi p0)]) (st' := [xi 0]) (m' := m) (fun ex ns r q => ?_) ?_
      · refine xw_ic_neT rfl (w32_cg (w32_xR _ _ _)) (w32_cg cp0) h1 ?_
        refine xw_iconst rfl ?_
        exact q
      exact xS_ret (v := 0) rfl rfl (xw_rtZ (Or.inl rfl)) (Or.inl rfl)
  · refine xS_of (pc' := 21) (L' := [(0, xa 536), (1, xi p0)]) (st' := [xi 0]) (m' := m) (fun ex ns r q => ?_) ?_
    · refine xw_ic_neT rfl (w32_cg (w32_xR _ _ _)) (w32_cg rfl) h0 ?_
      refine xw_iconst rfl ?_
      exact q
    exact xS_ret (v := 0) rfl rfl (xw_rtZ (Or.inl rfl)) (Or.inl rfl)
theorem ygf258 {B : Nat} (hB : B ≤ 512) {xs : Nat → Int32} {SL d : Nat} : ∀ p0 m, w32 p0 = p0 → xS B xs SL (d + 1) 258 (2, (some .boolean), [], 13) 4 0 [(0, xa 536), (1, xi p0)] [] m (yf258 B p0 m) := by
  intro p0 m cp0
  unfold yf258
  refine xS_of (pc' := 6) (L' := [(0, xa 536), (1, xi p0)]) (st' := [xi (xR m 536 10), xi p0, xa 536]) (m' := m) (fun ex ns r q => ?_) ?_
  · refine xw_aload_n rfl rfl rfl ?_
    refine xw_iload_n rfl rfl ?_
    refine xw_aload_n rfl rfl rfl ?_
    refine xw_gfIc (v := (m 536 10)) (v' := (xR m 536 10)) rfl (xw_obd (by decide +kernel)) xk12_10 (qi := 10) rfl rfl rfl ?_
    exact q
  refine xS_if (fun h0 => ?_) (fun h0 => ?_)
  · refine xS_of (pc' := 18) (L' := []) (st' := [xi (xR m 536 9), xi 3, xi p0, xa 536]) (m' := m) (fun ex ns r q => ?_) ?_
    · refine xw_if_neF rfl (w32_cg (w32_xR _ _ _)) h0 ?_
      refine xw_iconst rfl ?_
      refine xw_goto rfl ?_
      refine xw_aload_n rfl rfl rfl ?_
      refine xw_gfIc (v := (m 536 9)) (v' := (xR m 536 9)) rfl (xw_obd (by decide +kernel)) xk12_9 (qi := 9) rfl rfl rfl ?_
      refine xw_lo (L2 := []) (fun _ h => absurd h List.not_mem_nil) ?_
      exact q
    refine xS_call (q := 254) (n := 4) (kq := 4) (as := [xa 536, xi p0, xi 3, xi (xR m 536 9)]) (st1 := []) rfl rfl rfl rfl rfl rfl rfl rfl rfl rfl (fun _ => xw_rcv1 (t := 12) (xw_obd (by decide +kernel)) rfl) rfl (List.forall_mem_cons.mpr ⟨rfl, List.forall_mem_cons.mpr ⟨rfl, List.forall_mem_cons.mpr ⟨rfl, List.forall_mem_cons.mpr ⟨rfl, fun _ h => absurd h List.not_mem_nil⟩⟩⟩⟩) (ygf254 hB _ _ _ _ cp0 rfl (w32_xR _ _ _)) (fun v1 m1 cv1 => ?_)
    exact xS_ret (v := v1) rfl rfl (xw_rtZ cv1) cv1
  · refine xS_of (pc' := 18) (L' := []) (st' := [xi (xR m 536 9), xi 4, xi p0, xa 536]) (m' := m) (fun ex ns r q => ?_) ?_
    · refine xw_if_neT rfl (w32_cg (w32_xR _ _ _)) h0 ?_
      refine xw_iconst rfl ?_
      refine xw_aload_n rfl rfl rfl ?_
      refine xw_gfIc (v := (m 536 9)) (v' := (xR m 536 9)) rfl (xw_obd (by decide +kernel)) xk12_9 (qi := 9) rfl rfl rfl ?_
      refine xw_lo (L2 := []) (fun _ h => absurd h List.not_mem_nil) ?_
      exact q
    refine xS_call (q := 254) (n := 4) (kq := 4) (as := [xa 536, xi p0, xi 4, xi (xR m 536 9)]) (st1 := []) rfl rfl rfl rfl rfl rfl rfl rfl rfl rfl (fun _ => xw_rcv1 (t := 12) (xw_obd (by decide +kernel)) rfl) rfl (List.forall_mem_cons.mpr ⟨rfl, List.forall_mem_cons.mpr ⟨rfl, List.forall_mem_cons.mpr ⟨rfl, List.forall_mem_cons.mpr ⟨rfl, fun _ h => absurd h List.not_mem_nil⟩⟩⟩⟩) (ygf254 hB _ _ _ _ cp0 rfl (w32_xR _ _ _)) (fun v2 m2 cv2 => ?_)
    exact xS_ret (v := v2) rfl rfl (xw_rtZ cv2) cv2
theorem ygf261 {B : Nat} (hB : B ≤ 512) {xs : Nat → Int32} {SL d : Nat} : ∀ m, xS B xs SL (d + 2) 261 (1, (some .boolean), [], 13) 4 0 [(0, xa 536)] [] m (yf261 B m) := by
  intro m
  unfold yf261
  refine xS_of (pc' := 6) (L' := [(0, xa 536)]) (st' := [xi 1, xi (xR m 536 10), xa 536]) (m' := m) (fun ex ns r q => ?_) ?_
  · refine xw_aload_n rfl rfl rfl ?_
    refine xw_aload_n rfl rfl rfl ?_
    refine xw_gfIc (v := (m 536 10)) (v' := (xR m 536 10)) rfl (xw_obd (by decide +kernel)) xk12_10 (qi := 10) rfl rfl rfl ?_
    refine xw_iconst rfl ?_
    exact q
  refine xS_if (fun h0 => ?_) (fun h0 => ?_)
  · refine xS_of (pc' := 14) (L' := [(0, xa 536)]) (st' := [xi 1, xa 536]) (m' := m) (fun ex ns r q => ?_) ?_
    · refine xw_ic_neF rfl (w32_cg (w32_xR _ _ _)) (w32_cg rfl) h0 ?_
      refine xw_iconst rfl ?_
      refine xw_goto rfl ?_
      refine xw_lo (L2 := [(0, xa 536)]) (List.forall_mem_cons.mpr ⟨rfl, fun _ h => absurd h List.not_mem_nil⟩) ?_
      exact q
    refine xS_call (q := 258) (n := 2) (kq := 4) (as := [xa 536, xi 1]) (st1 := []) rfl rfl rfl rfl rfl rfl rfl rfl rfl rfl (fun _ => xw_rcv1 (t := 12) (xw_obd (by decide +kernel)) rfl) rfl (List.forall_mem_cons.mpr ⟨rfl, List.forall_mem_cons.mpr ⟨rfl, fun _ h => absurd h List.not_mem_nil⟩⟩) (ygf258 hB _ _ rfl) (fun v1 m1 cv1 => ?_)
    refine xS_if (fun h1 => ?_) (fun h1 => ?_)
    · refine xS_of (pc' := 63) (L' := [(0, xa 536)]) (st' := [xi 0]) (m' := m1) (fun ex ns r q => ?_) ?_
      · refine xw_if_eqT rfl (w32_cg (w32_of (xw_zr cv1))) h1 ?_
        refine xw_iconst rfl ?_
        exact q
      exact xS_ret (v := 0) rfl rfl (xw_rtZ (Or.inl rfl)) (Or.inl rfl)
    · refine xS_of (pc' := 25) (L' := [(0, xa 536)]) (st' := [xi (xR m1 536 11), xa 536]) (m' := m1) (fun ex ns r q => ?_) ?_
      · refine xw_if_eqF rfl (w32_cg (w32_of (xw_zr cv1))) h1 ?_
        refine xw_aload_n rfl rfl rfl ?_
        refine xw_aload_n rfl rfl rfl ?_
        refine xw_gfIc (v := (m1 536 11)) (v' := (xR m1 536 11)) rfl (xw_obd (by decide +kernel)) xk12_11 (qi := 11) rfl rfl rfl ?_
        exact q
      refine xS_if (fun h2 => ?_) (fun h2 => ?_)
      · refine xS_of (pc' := 39) (L' := [(0, xa 536)]) (st' := [xi 40, xi (w32 ((xR m1 536 8) - (xR m1 536 9))), xa 536]) (m' := m1) (fun ex ns r q => ?_) ?_
        · refine xw_if_geF rfl (w32_cg (w32_xR _ _ _)) (Int.not_le.mpr h2) ?_
          refine xw_aload_n rfl rfl rfl ?_
          refine xw_gfIc (v := (m1 536 8)) (v' := (xR m1 536 8)) rfl (xw_obd (by decide +kernel)) xk12_8 (qi := 8) rfl rfl rfl ?_
          refine xw_aload_n rfl rfl rfl ?_
          refine xw_gfIc (v := (m1 536 9)) (v' := (xR m1 536 9)) rfl (xw_obd (by decide +kernel)) xk12_9 (qi := 9) rfl rfl rfl ?_
          refine xw_isub rfl ?_
          refine xw_bipush (e := 40) rfl (by decide +kernel) ?_
          refine xw_cst (st' := [xi 40, xi (w32 ((xR m1 536 8) - (xR m1 536 9))), xa 536]) (xw_sc rfl (xw_sc (xi_c rfl) rfl)) ?_
          exact q
        refine xS_if (fun h3 => ?_) (fun h3 => ?_)
        · refine xS_of (pc' := 52) (L' := []) (st' := [xi (xR m1 536 9), xi 5, xi 0, xa 536]) (m' := m1) (fun ex ns r q => ?_) ?_
          · refine xw_ic_gtT rfl (w32_cg (w32_w _)) (w32_cg rfl) h3 ?_
            refine xw_iconst rfl ?_
            refine xw_iconst rfl ?_
            refine xw_aload_n rfl rfl rfl ?_
            refine xw_gfIc (v := (m1 536 9)) (v' := (xR m1 536 9)) rfl (xw_obd (by decide +kernel)) xk12_9 (qi := 9) rfl rfl rfl ?_
            refine xw_lo (L2 := []) (fun _ h => absurd h List.not_mem_nil) ?_
            exact q
          refine xS_call (q := 254) (n := 4) (kq := 4) (as := [xa 536, xi 0, xi 5, xi (xR m1 536 9)]) (st1 := []) rfl rfl rfl rfl rfl rfl rfl rfl rfl rfl (fun _ => xw_rcv1 (t := 12) (xw_obd (by decide +kernel)) rfl) rfl (List.forall_mem_cons.mpr ⟨rfl, List.forall_mem_cons.mpr ⟨rfl, List.forall_mem_cons.mpr ⟨rfl, List.forall_mem_cons.mpr ⟨rfl, fun _ h => absurd h List.not_mem_nil⟩⟩⟩⟩) (ygf254 hB _ _ _ _ rfl rfl (w32_xR _ _ _)) (fun v2 m2 cv2 => ?_)
          refine xS_if (fun h4 => ?_) (fun h4 => ?_)
          · refine xS_of (pc' := 63) (L' := []) (st' := [xi 0]) (m' := m2) (fun ex ns r q => ?_) ?_
            · refine xw_if_eqT rfl (w32_cg (w32_of (xw_zr cv2))) h4 ?_
              refine xw_iconst rfl ?_
              exact q
            exact xS_ret (v := 0) rfl rfl (xw_rtZ (Or.inl rfl)) (Or.inl rfl)
          · refine xS_of (pc' := 63) (L' := []) (st' := [xi 1]) (m' := m2) (fun ex ns r q => ?_) ?_
            · refine xw_if_eqF rfl (w32_cg (w32_of (xw_zr cv2))) h4 ?_
              refine xw_iconst rfl ?_
              refine xw_goto rfl ?_
              exact q
            exact xS_ret (v := 1) rfl rfl (xw_rtZ (Or.inr rfl)) (Or.inr rfl)
        · refine xS_of (pc' := 52) (L' := []) (st' := [xi (xR m1 536 9), xi 5, xi 1, xa 536]) (m' := m1) (fun ex ns r q => ?_) ?_
          · refine xw_ic_gtF rfl (w32_cg (w32_w _)) (w32_cg rfl) h3 ?_
            refine xw_iconst rfl ?_
            refine xw_goto rfl ?_
            refine xw_iconst rfl ?_
            refine xw_aload_n rfl rfl rfl ?_
            refine xw_gfIc (v := (m1 536 9)) (v' := (xR m1 536 9)) rfl (xw_obd (by decide +kernel)) xk12_9 (qi := 9) rfl rfl rfl ?_
            refine xw_lo (L2 := []) (fun _ h => absurd h List.not_mem_nil) ?_
            exact q
          refine xS_call (q := 254) (n := 4) (kq := 4) (as := [xa 536, xi 1, xi 5, xi (xR m1 536 9)]) (st1 := []) rfl rfl rfl rfl rfl rfl rfl rfl rfl rfl (fun _ => xw_rcv1 (t := 12) (xw_obd (by decide +kernel)) rfl) rfl (List.forall_mem_cons.mpr ⟨rfl, List.forall_mem_cons.mpr ⟨rfl, List.forall_mem_cons.mpr ⟨rfl, List.forall_mem_cons.mpr ⟨rfl, fun _ h => absurd h List.not_mem_nil⟩⟩⟩⟩) (ygf254 hB _ _ _ _ rfl rfl (w32_xR _ _ _)) (fun v3 m3 cv3 => ?_)
          refine xS_if (fun h4 => ?_) (fun h4 => ?_)
          · refine xS_of (pc' := 63) (L' := []) (st' := [xi 0]) (m' := m3) (fun ex ns r q => ?_) ?_
            · refine xw_if_eqT rfl (w32_cg (w32_of (xw_zr cv3))) h4 ?_
              refine xw_iconst rfl ?_
              exact q
            exact xS_ret (v := 0) rfl rfl (xw_rtZ (Or.inl rfl)) (Or.inl rfl)
          · refine xS_of (pc' := 63) (L' := []) (st' := [xi 1]) (m' := m3) (fun ex ns r q => ?_) ?_
            · refine xw_if_eqF rfl (w32_cg (w32_of (xw_zr cv3))) h4 ?_
              refine xw_iconst rfl ?_
              refine xw_goto rfl ?_
              exact q
            exact xS_ret (v := 1) rfl rfl (xw_rtZ (Or.inr rfl)) (Or.inr rfl)
      · refine xS_of (pc' := 52) (L' := []) (st' := [xi (xR m1 536 9), xi 5, xi 0, xa 536]) (m' := m1) (fun ex ns r q => ?_) ?_
        · refine xw_if_geT rfl (w32_cg (w32_xR _ _ _)) (Int.not_lt.mp h2) ?_
          refine xw_iconst rfl ?_
          refine xw_iconst rfl ?_
          refine xw_aload_n rfl rfl rfl ?_
          refine xw_gfIc (v := (m1 536 9)) (v' := (xR m1 536 9)) rfl (xw_obd (by decide +kernel)) xk12_9 (qi := 9) rfl rfl rfl ?_
          refine xw_lo (L2 := []) (fun _ h => absurd h List.not_mem_nil) ?_
          exact q
        refine xS_call (q := 254) (n := 4) (kq := 4) (as := [xa 536, xi 0, xi 5, xi (xR m1 536 9)]) (st1 := []) rfl rfl rfl rfl rfl rfl rfl rfl rfl rfl (fun _ => xw_rcv1 (t := 12) (xw_obd (by decide +kernel)) rfl) rfl (List.forall_mem_cons.mpr ⟨rfl, List.forall_mem_cons.mpr ⟨rfl, List.forall_mem_cons.mpr ⟨rfl, List.forall_mem_cons.mpr ⟨rfl, fun _ h => absurd h List.not_mem_nil⟩⟩⟩⟩) (ygf254 hB _ _ _ _ rfl rfl (w32_xR _ _ _)) (fun v4 m4 cv4 => ?_)
        refine xS_if (fun h3 => ?_) (fun h3 => ?_)
        · refine xS_of (pc' := 63) (L' := []) (st' := [xi 0]) (m' := m4) (fun ex ns r q => ?_) ?_
          · refine xw_if_eqT rfl (w32_cg (w32_of (xw_zr cv4))) h3 ?_
            refine xw_iconst rfl ?_
            exact q
          exact xS_ret (v := 0) rfl rfl (xw_rtZ (Or.inl rfl)) (Or.inl rfl)
        · refine xS_of (pc' := 63) (L' := []) (st' := [xi 1]) (m' := m4) (fun ex ns r q => ?_) ?_
          · refine xw_if_eqF rfl (w32_cg (w32_of (xw_zr cv4))) h3 ?_
            refine xw_iconst rfl ?_
            refine xw_goto rfl ?_
            exact q
          exact xS_ret (v := 1) rfl rfl (xw_rtZ (Or.inr rfl)) (Or.inr rfl)
  · refine xS_of (pc' := 14) (L' := [(0, xa 536)]) (st' := [xi 0, xa 536]) (m' := m) (fun ex ns r q => ?_) ?_
    · refine xw_ic_neT rfl (w32_cg (w32_xR _ _ _)) (w32_cg rfl) h0 ?_
      refine xw_iconst rfl ?_
      refine xw_lo (L2 := [(0, xa 536)]) (List.forall_mem_cons.mpr ⟨rfl, fun _ h => absurd h List.not_mem_nil⟩) ?_
      exact q
    refine xS_call (q := 258) (n := 2) (kq := 4) (as := [xa 536, xi 0]) (st1 := []) rfl rfl rfl rfl rfl rfl rfl rfl rfl rfl (fun _ => xw_rcv1 (t := 12) (xw_obd (by decide +kernel)) rfl) rfl (List.forall_mem_cons.mpr ⟨rfl, List.forall_mem_cons.mpr ⟨rfl, fun _ h => absurd h List.not_mem_nil⟩⟩) (ygf258 hB _ _ rfl) (fun v5 m5 cv5 => ?_)
    refine xS_if (fun h1 => ?_) (fun h1 => ?_)
    · refine xS_of (pc' := 63) (L' := [(0, xa 536)]) (st' := [xi 0]) (m' := m5) (fun ex ns r q => ?_) ?_
      · refine xw_if_eqT rfl (w32_cg (w32_of (xw_zr cv5))) h1 ?_
        refine xw_iconst rfl ?_
        exact q
      exact xS_ret (v := 0) rfl rfl (xw_rtZ (Or.inl rfl)) (Or.inl rfl)
    · refine xS_of (pc' := 25) (L' := [(0, xa 536)]) (st' := [xi (xR m5 536 11), xa 536]) (m' := m5) (fun ex ns r q => ?_) ?_
      · refine xw_if_eqF rfl (w32_cg (w32_of (xw_zr cv5))) h1 ?_
        refine xw_aload_n rfl rfl rfl ?_
        refine xw_aload_n rfl rfl rfl ?_
        refine xw_gfIc (v := (m5 536 11)) (v' := (xR m5 536 11)) rfl (xw_obd (by decide +kernel)) xk12_11 (qi := 11) rfl rfl rfl ?_
        exact q
      refine xS_if (fun h2 => ?_) (fun h2 => ?_)
      · refine xS_of (pc' := 39) (L' := [(0, xa 536)]) (st' := [xi 40, xi (w32 ((xR m5 536 8) - (xR m5 536 9))), xa 536]) (m' := m5) (fun ex ns r q => ?_) ?_
        · refine xw_if_geF rfl (w32_cg (w32_xR _ _ _)) (Int.not_le.mpr h2) ?_
          refine xw_aload_n rfl rfl rfl ?_
          refine xw_gfIc (v := (m5 536 8)) (v' := (xR m5 536 8)) rfl (xw_obd (by decide +kernel)) xk12_8 (qi := 8) rfl rfl rfl ?_
          refine xw_aload_n rfl rfl rfl ?_
          refine xw_gfIc (v := (m5 536 9)) (v' := (xR m5 536 9)) rfl (xw_obd (by decide +kernel)) xk12_9 (qi := 9) rfl rfl rfl ?_
          refine xw_isub rfl ?_
          refine xw_bipush (e := 40) rfl (by decide +kernel) ?_
          refine xw_cst (st' := [xi 40, xi (w32 ((xR m5 536 8) - (xR m5 536 9))), xa 536]) (xw_sc rfl (xw_sc (xi_c rfl) rfl)) ?_
          exact q
        refine xS_if (fun h3 => ?_) (fun h3 => ?_)
        · refine xS_of (pc' := 52) (L' := []) (st' := [xi (xR m5 536 9), xi 5, xi 0, xa 536]) (m' := m5) (fun ex ns r q => ?_) ?_
          · refine xw_ic_gtT rfl (w32_cg (w32_w _)) (w32_cg rfl) h3 ?_
            refine xw_iconst rfl ?_
            refine xw_iconst rfl ?_
            refine xw_aload_n rfl rfl rfl ?_
            refine xw_gfIc (v := (m5 536 9)) (v' := (xR m5 536 9)) rfl (xw_obd (by decide +kernel)) xk12_9 (qi := 9) rfl rfl rfl ?_
            refine xw_lo (L2 := []) (fun _ h => absurd h List.not_mem_nil) ?_
            exact q
          refine xS_call (q := 254) (n := 4) (kq := 4) (as := [xa 536, xi 0, xi 5, xi (xR m5 536 9)]) (st1 := []) rfl rfl rfl rfl rfl rfl rfl rfl rfl rfl (fun _ => xw_rcv1 (t := 12) (xw_obd (by decide +kernel)) rfl) rfl (List.forall_mem_cons.mpr ⟨rfl, List.forall_mem_cons.mpr ⟨rfl, List.forall_mem_cons.mpr ⟨rfl, List.forall_mem_cons.mpr ⟨rfl, fun _ h => absurd h List.not_mem_nil⟩⟩⟩⟩) (ygf254 hB _ _ _ _ rfl rfl (w32_xR _ _ _)) (fun v6 m6 cv6 => ?_)
          refine xS_if (fun h4 => ?_) (fun h4 => ?_)
          · refine xS_of (pc' := 63) (L' := []) (st' := [xi 0]) (m' := m6) (fun ex ns r q => ?_) ?_
            · refine xw_if_eqT rfl (w32_cg (w32_of (xw_zr cv6))) h4 ?_
              refine xw_iconst rfl ?_
              exact q
            exact xS_ret (v := 0) rfl rfl (xw_rtZ (Or.inl rfl)) (Or.inl rfl)
          · refine xS_of (pc' := 63) (L' := []) (st' := [xi 1]) (m' := m6) (fun ex ns r q => ?_) ?_
            · refine xw_if_eqF rfl (w32_cg (w32_of (xw_zr cv6))) h4 ?_
              refine xw_iconst rfl ?_
              refine xw_goto rfl ?_
              exact q
            exact xS_ret (v := 1) rfl rfl (xw_rtZ (Or.inr rfl)) (Or.inr rfl)
        · refine xS_of (pc' := 52) (L' := []) (st' := [xi (xR m5 536 9), xi 5, xi 1, xa 536]) (m' := m5) (fun ex ns r q => ?_) ?_
          · refine xw_ic_gtF rfl (w32_cg (w32_w _)) (w32_cg rfl) h3 ?_
            refine xw_iconst rfl ?_
            refine xw_goto rfl ?_
            refine xw_iconst rfl ?_
            refine xw_aload_n rfl rfl rfl ?_
            refine xw_gfIc (v := (m5 536 9)) (v' := (xR m5 536 9)) rfl (xw_obd (by decide +kernel)) xk12_9 (qi := 9) rfl rfl rfl ?_
            refine xw_lo (L2 := []) (fun _ h => absurd h List.not_mem_nil) ?_
            exact q
          refine xS_call (q := 254) (n := 4) (kq := 4) (as := [xa 536, xi 1, xi 5, xi (xR m5 536 9)]) (st1 := []) rfl rfl rfl rfl rfl rfl rfl rfl rfl rfl (fun _ => xw_rcv1 (t := 12) (xw_obd (by decide +kernel)) rfl) rfl (List.forall_mem_cons.mpr ⟨rfl, List.forall_mem_cons.mpr ⟨rfl, List.forall_mem_cons.mpr ⟨rfl, List.forall_mem_cons.mpr ⟨rfl, fun _ h => absurd h List.not_mem_nil⟩⟩⟩⟩) (ygf254 hB _ _ _ _ rfl rfl (w32_xR _ _ _)) (fun v7 m7 cv7 => ?_)
          refine xS_if (fun h4 => ?_) (fun h4 => ?_)
          · refine xS_of (pc' := 63) (L' := []) (st' := [xi 0]) (m' := m7) (fun ex ns r q => ?_) ?_
            · refine xw_if_eqT rfl (w32_cg (w32_of (xw_zr cv7))) h4 ?_
              refine xw_iconst rfl ?_
              exact q
            exact xS_ret (v := 0) rfl rfl (xw_rtZ (Or.inl rfl)) (Or.inl rfl)
          · refine xS_of (pc' := 63) (L' := []) (st' := [xi 1]) (m' := m7) (fun ex ns r q => ?_) ?_
            · refine xw_if_eqF rfl (w32_cg (w32_of (xw_zr cv7))) h4 ?_
              refine xw_iconst rfl ?_
              refine xw_goto rfl ?_
              exact q
            exact xS_ret (v := 1) rfl rfl (xw_rtZ (Or.inr rfl)) (Or.inr rfl)
      · refine xS_of (pc' := 52) (L' := []) (st' := [xi (xR m5 536 9), xi 5, xi 0, xa 536]) (m' := m5) (fun ex ns r q => ?_) ?_
        · refine xw_if_geT rfl (w32_cg (w32_xR _ _ _)) (Int.not_lt.mp h2) ?_
          refine xw_iconst rfl ?_
          refine xw_iconst rfl ?_
          refine xw_aload_n rfl rfl rfl ?_
          refine xw_gfIc (v := (m5 536 9)) (v' := (xR m5 536 9)) rfl (xw_obd (by decide +kernel)) xk12_9 (qi := 9) rfl rfl rfl ?_
          refine xw_lo (L2 := []) (fun _ h => absurd h List.not_mem_nil) ?_
          exact q
        refine xS_call (q := 254) (n := 4) (kq := 4) (as := [xa 536, xi 0, xi 5, xi (xR m5 536 9)]) (st1 := []) rfl rfl rfl rfl rfl rfl rfl rfl rfl rfl (fun _ => xw_rcv1 (t := 12) (xw_obd (by decide +kernel)) rfl) rfl (List.forall_mem_cons.mpr ⟨rfl, List.forall_mem_cons.mpr ⟨rfl, List.forall_mem_cons.mpr ⟨rfl, List.forall_mem_cons.mpr ⟨rfl, fun _ h => absurd h List.not_mem_nil⟩⟩⟩⟩) (ygf254 hB _ _ _ _ rfl rfl (w32_xR _ _ _)) (fun v8 m8 cv8 => ?_)
        refine xS_if (fun h3 => ?_) (fun h3 => ?_)
        · refine xS_of (pc' := 63) (L' := []) (st' := [xi 0]) (m' := m8) (fun ex ns r q => ?_) ?_
          · refine xw_if_eqT rfl (w32_cg (w32_of (xw_zr cv8))) h3 ?_
            refine xw_iconst rfl ?_
            exact q
          exact xS_ret (v := 0) rfl rfl (xw_rtZ (Or.inl rfl)) (Or.inl rfl)
        · refine xS_of (pc' := 63) (L' := []) (st' := [xi 1]) (m' := m8) (fun ex ns r q => ?_) ?_
          · refine xw_if_eqF rfl (w32_cg (w32_of (xw_zr cv8))) h3 ?_
            refine xw_iconst rfl ?_
            refine xw_goto rfl ?_
            exact q
          exact xS_ret (v := 1) rfl rfl (xw_rtZ (Or.inr rfl)) (Or.inr rfl)
