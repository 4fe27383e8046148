/-! the machine does what the functions say, 13 -/
theorem ygk303_136 {B : Nat} (hB : B ≤ 512) {xs : Nat → Int32} {SL d : Nat} : ∀ x2 m, w32 x2 = x2 → xS B xs SL (d + 3) 303 (4, (some .int), [], 13) 1 136 [(0, xa 536), (2, xi x2)] [] m (yk303_136 B x2 m) := by
  intro x2 m c2
  unfold yk303_136
  refine xS_of (pc' := 138) (L' := []) (st' := [xi x2, xa 536]) (m' := m) (fun ex ns r q => ?_) ?_
  · refine xw_aload_n rfl rfl rfl ?_
    refine xw_iload_n rfl rfl ?_
    refine xw_lo (L2 := []) (fun _ h => absurd h List.not_mem_nil) ?_
    exact q
  refine xS_call (q := 312) (n := 2) (kq := 1) (as := [xa 536, xi x2]) (st1 := []) rfl rfl rfl rfl rfl rfl rfl rfl rfl rfl (fun _ => xw_rcv1 (t := 12) (xw_obd (by decide +kernel)) rfl) rfl (List.forall_mem_cons.mpr ⟨rfl, List.forall_mem_cons.mpr ⟨rfl, fun _ h => absurd h List.not_mem_nil⟩⟩) (ygf312 hB _ _ c2) (fun v1 m1 cv1 => ?_)
  exact xS_ret (v := v1) rfl rfl xw_rtI cv1
theorem ysl303_117 {B : Nat} (hB : B ≤ 512) {xs : Nat → Int32} {SL d : Nat} {r117 : Int → Int → xw_M → xP} (hr117 : ∀ x2 x3 m, w32 x2 = x2 → w32 x3 = x3 → xS B xs SL (d + 3) 303 (4, (some .int), [], 13) 1 117 [(0, xa 536), (2, xi x2), (3, xi x3)] [] m (r117 x2 x3 m)) : ∀ x2 x3 m, w32 x2 = x2 → w32 x3 = x3 → xS B xs SL (d + 3) 303 (4, (some .int), [], 13) 1 117 [(0, xa 536), (2, xi x2), (3, xi x3)] [] m (yl303_117 B r117 x2 x3 m) := by
  intro x2 x3 m c2 c3
  unfold yl303_117
  refine xS_of (pc' := 122) (L' := [(0, xa 536), (2, xi x2), (3, xi x3)]) (st' := [xi (xR m 536 14), xi x3]) (m' := m) (fun ex ns r q => ?_) ?_
  · refine xw_iload_n rfl rfl ?_
    refine xw_aload_n rfl rfl rfl ?_
    refine xw_gfIc (v := (m 536 14)) (v' := (xR m 536 14)) rfl (xw_obd (by decide +kernel)) xk12_14 (qi := 14) rfl rfl rfl ?_
    exact q
  refine xS_if (fun h0 => ?_) (fun h0 => ?_)
  · refine xS_of (pc' := 127) (L' := [(0, xa 536), (2, xi x2), (3, xi x3)]) (st' := [xi x3, xa 536]) (m' := m) (fun ex ns r q => ?_) ?_
    · refine xw_ic_geF rfl (w32_cg c3) (w32_cg (w32_xR _ _ _)) (Int.not_le.mpr h0) ?_
      refine xw_aload_n rfl rfl rfl ?_
      refine xw_iload_n rfl rfl ?_
      refine xw_lo (L2 := [(0, xa 536), (2, xi x2), (3, xi x3)]) (List.forall_mem_cons.mpr ⟨rfl, List.forall_mem_cons.mpr ⟨rfl, List.forall_mem_cons.mpr ⟨rfl, fun _ h => absurd h List.not_mem_nil⟩⟩⟩) ?_
      exact q
    refine xS_call (q := 309) (n := 2) (kq := 0) (as := [xa 536, xi x3]) (st1 := []) rfl rfl rfl rfl rfl rfl rfl rfl rfl rfl (fun _ => xw_rcv1 (t := 12) (xw_obd (by decide +kernel)) rfl) rfl (List.forall_mem_cons.mpr ⟨rfl, List.forall_mem_cons.mpr ⟨rfl, fun _ h => absurd h List.not_mem_nil⟩⟩) (ygf309 hB _ _ c3) (fun v1 m1 cv1 => ?_)
    refine xS_of (pc' := 117) (L' := [(0, xa 536), (2, xi x2), (3, xi (w32 (x3 + 1)))]) (st' := []) (m' := m1) (fun ex ns r q => ?_) ?_
    · refine xw_iincc (z := (w32 (x3 + 1))) (L' := [(3, xi (w32 (x3 + 1))), (0, xa 536), (2, xi x2)]) rfl rfl (by decide) rfl rfl ?_
      refine xw_goto rfl ?_
      refine xw_lo (L2 := [(0, xa 536), (2, xi x2), (3, xi (w32 (x3 + 1)))]) (List.forall_mem_cons.mpr ⟨rfl, List.forall_mem_cons.mpr ⟨rfl, List.forall_mem_cons.mpr ⟨rfl, fun _ h => absurd h List.not_mem_nil⟩⟩⟩) ?_
      exact q
    exact hr117 _ _ _ c2 (w32_w _)
  · refine xS_of (pc' := 136) (L' := [(0, xa 536), (2, xi x2)]) (st' := []) (m' := m) (fun ex ns r q => ?_) ?_
    · refine xw_ic_geT rfl (w32_cg c3) (w32_cg (w32_xR _ _ _)) (Int.not_lt.mp h0) ?_
      refine xw_lo (L2 := [(0, xa 536), (2, xi x2)]) (List.forall_mem_cons.mpr ⟨rfl, List.forall_mem_cons.mpr ⟨rfl, fun _ h => absurd h List.not_mem_nil⟩⟩) ?_
      exact q
    exact ygk303_136 hB _ _ c2
theorem ygl303_117 {B : Nat} (hB : B ≤ 512) {xs : Nat → Int32} {SL d : Nat} : ∀ n x2 x3 m, w32 x2 = x2 → w32 x3 = x3 → xS B xs SL (d + 3) 303 (4, (some .int), [], 13) 1 117 [(0, xa 536), (2, xi x2), (3, xi x3)] [] m (xl2 (yl303_117 B) n x2 x3 m) := by
  intro n
  induction n with
  | zero => intro x2 x3 m c2 c3; exact xS_none
  | succ n ih => exact ysl303_117 hB ih
theorem ysl303_36 {B : Nat} (hB : B ≤ 512) {xs : Nat → Int32} {SL d : Nat} {r36 : Int → Int → xw_M → xP} (hr36 : ∀ x1 x2 m, w32 x1 = x1 → w32 x2 = x2 → xS B xs SL (d + 3) 303 (4, (some .int), [], 13) 1 36 [(0, xa 536), (1, xi x1), (2, xi x2)] [] m (r36 x1 x2 m)) : ∀ x1 x2 m, w32 x1 = x1 → w32 x2 = x2 → xS B xs SL (d + 3) 303 (4, (some .int), [], 13) 1 36 [(0, xa 536), (1, xi x1), (2, xi x2)] [] m (yl303_36 B r36 x1 x2 m) := by
  intro x1 x2 m c1 c2
  unfold yl303_36
  refine xS_of (pc' := 41) (L' := [(0, xa 536), (1, xi x1), (2, xi x2)]) (st' := [xi (xR m 536 14), xi x2]) (m' := m) (fun ex ns r q => ?_) ?_
  · refine xw_iload_n rfl rfl ?_
    refine xw_aload_n rfl rfl rfl ?_
    refine xw_gfIc (v := (m 536 14)) (v' := (xR m 536 14)) rfl (xw_obd (by decide +kernel)) xk12_14 (qi := 14) rfl rfl rfl ?_
    exact q
  refine xS_if (fun h0 => ?_) (fun h0 => ?_)
  · refine xS_of (pc' := 45) (L' := [(0, xa 536), (1, xi x1), (2, xi x2)]) (st' := [xi x1]) (m' := m) (fun ex ns r q => ?_) ?_
    · refine xw_ic_geF rfl (w32_cg c2) (w32_cg (w32_xR _ _ _)) (Int.not_le.mpr h0) ?_
      refine xw_iload_n rfl rfl ?_
      exact q
    refine xS_if (fun h1 => ?_) (fun h1 => ?_)
    · refine xS_of (pc' := 36) (L' := [(0, xa 536), (1, xi 0), (2, xi (w32 (x2 + 1)))]) (st' := []) (m' := m) (fun ex ns r q => ?_) ?_
      · refine xw_if_eqT rfl (w32_cg c1) h1 ?_
        refine xw_iconst rfl ?_
        refine xw_istore_n (L' := [(1, xi 0), (0, xa 536), (2, xi x2)]) rfl (by decide) rfl ?_
        refine xw_iincc (z := (w32 (x2 + 1))) (L' := [(2, xi (w32 (x2 + 1))), (1, xi 0), (0, xa 536)]) rfl rfl (by decide) rfl rfl ?_
        refine xw_goto rfl ?_
        refine xw_lo (L2 := [(0, xa 536), (1, xi 0), (2, xi (w32 (x2 + 1)))]) (List.forall_mem_cons.mpr ⟨rfl, List.forall_mem_cons.mpr ⟨rfl, List.forall_mem_cons.mpr ⟨rfl, fun _ h => absurd h List.not_mem_nil⟩⟩⟩) ?_
        exact q
      exact hr36 _ _ _ rfl (w32_w _)
    · refine xS_g (fun g2 => ?_)
      refine xS_of (pc' := 54) (L' := [(0, xa 536), (1, xi x1), (2, xi x2)]) (st' := [xi (xR m 539 x2)]) (m' := m) (fun ex ns r q => ?_) ?_
      · refine xw_if_eqF rfl (w32_cg c1) h1 ?_
        refine xw_aload_n rfl rfl rfl ?_
        refine xw_gfR (n := 539) (e := 539) rfl (xw_obd (by decide +kernel)) (by decide +kernel) (by decide +kernel) rfl ?_
        refine xw_iload_n rfl rfl ?_
        refine xw_ialdc (n := 8) (v := (m 539 x2)) (v' := (xR m 539 x2)) rfl hB (xw_obd (by decide +kernel)) rfl g2 rfl rfl ?_
        exact q
      refine xS_if (fun h3 => ?_) (fun h3 => ?_)
      · refine xS_of (pc' := 36) (L' := [(0, xa 536), (1, xi 1), (2, xi (w32 (x2 + 1)))]) (st' := []) (m' := m) (fun ex ns r q => ?_) ?_
        · refine xw_if_leF rfl (w32_cg (w32_xR _ _ _)) (Int.not_le.mpr h3) ?_
          refine xw_iconst rfl ?_
          refine xw_goto rfl ?_
          refine xw_istore_n (L' := [(1, xi 1), (0, xa 536), (2, xi x2)]) rfl (by decide) rfl ?_
          refine xw_iincc (z := (w32 (x2 + 1))) (L' := [(2, xi (w32 (x2 + 1))), (1, xi 1), (0, xa 536)]) rfl rfl (by decide) rfl rfl ?_
          refine xw_goto rfl ?_
          refine xw_lo (L2 := [(0, xa 536), (1, xi 1), (2, xi (w32 (x2 + 1)))]) (List.forall_mem_cons.mpr ⟨rfl, List.forall_mem_cons.mpr ⟨rfl, List.forall_mem_cons.mpr ⟨rfl, fun _ h => absurd h List.not_mem_nil⟩⟩⟩) ?_
          exact q
        exact hr36 _ _ _ rfl (w32_w _)
      · refine xS_of (pc' := 36) (L' := [(0, xa 536), (1, xi 0), (2, xi (w32 (x2 + 1)))]) (st' := []) (m' := m) (fun ex ns r q => ?_) ?_
        · refine xw_if_leT rfl (w32_cg (w32_xR _ _ _)) (Int.not_lt.mp h3) ?_
          refine xw_iconst rfl ?_
          refine xw_istore_n (L' := [(1, xi 0), (0, xa 536), (2, xi x2)]) rfl (by decide) rfl ?_
          refine xw_iincc (z := (w32 (x2 + 1))) (L' := [(2, xi (w32 (x2 + 1))), (1, xi 0), (0, xa 536)]) rfl rfl (by decide) rfl rfl ?_
          refine xw_goto rfl ?_
          refine xw_lo (L2 := [(0, xa 536), (1, xi 0), (2, xi (w32 (x2 + 1)))]) (List.forall_mem_cons.mpr ⟨rfl, List.forall_mem_cons.mpr ⟨rfl, List.forall_mem_cons.mpr ⟨rfl, fun _ h => absurd h List.not_mem_nil⟩⟩⟩) ?_
          exact q
        exact hr36 _ _ _ rfl (w32_w _)
  · refine xS_of (pc' := 71) (L' := [(0, xa 536), (1, xi x1), (2, xi x2)]) (st' := [xi x1, xa 536]) (m' := m) (fun ex ns r q => ?_) ?_
    · refine xw_ic_geT rfl (w32_cg c2) (w32_cg (w32_xR _ _ _)) (Int.not_lt.mp h0) ?_
      refine xw_aload_n rfl rfl rfl ?_
      refine xw_iload_n rfl rfl ?_
      exact q
    refine xS_if (fun h1 => ?_) (fun h1 => ?_)
    · refine xS_of (pc' := 90) (L' := [(0, xa 536), (1, xi x1), (2, xi x2)]) (st' := [xi 0]) (m' := (xw_u m 536 1 1)) (fun ex ns r q => ?_) ?_
      · refine xw_if_eqT rfl (w32_cg c1) h1 ?_
        refine xw_iconst rfl ?_
        refine xw_pfI rfl (xw_obd (by decide +kernel)) xk12_1 (qi := 1) rfl (xw_okI rfl) ?_
        refine xw_aload_n rfl rfl rfl ?_
        refine xw_gfIc (v := 1) (v' := 1) rfl (xw_obd (by decide +kernel)) xk12_1 (qi := 1) rfl xw_us rfl ?_
        refine xw_if_leF rfl (w32_cg rfl) (Int.not_le.mpr (by decide)) ?_
        refine xw_iconst rfl ?_
        exact q
      exact xS_ret (v := 0) rfl rfl xw_rtI rfl
    · refine xS_of (pc' := 93) (L' := [(0, xa 536)]) (st' := [xa 536, xa 536]) (m' := (xw_u m 536 1 0)) (fun ex ns r q => ?_) ?_
      · refine xw_if_eqF rfl (w32_cg c1) h1 ?_
        refine xw_iconst rfl ?_
        refine xw_goto rfl ?_
        refine xw_pfI rfl (xw_obd (by decide +kernel)) xk12_1 (qi := 1) rfl (xw_okI rfl) ?_
        refine xw_aload_n rfl rfl rfl ?_
        refine xw_gfIc (v := 0) (v' := 0) rfl (xw_obd (by decide +kernel)) xk12_1 (qi := 1) rfl xw_us rfl ?_
        refine xw_if_leT rfl (w32_cg rfl) (Int.not_lt.mp (by decide)) ?_
        refine xw_aload_n rfl rfl rfl ?_
        refine xw_aload_n rfl rfl rfl ?_
        refine xw_lo (L2 := [(0, xa 536)]) (List.forall_mem_cons.mpr ⟨rfl, fun _ h => absurd h List.not_mem_nil⟩) ?_
        exact q
      refine xS_call (q := 304) (n := 1) (kq := 1) (as := [xa 536]) (st1 := [xa 536]) rfl rfl rfl rfl rfl rfl rfl rfl rfl rfl (fun _ => xw_rcv1 (t := 12) (xw_obd (by decide +kernel)) rfl) rfl (List.forall_mem_cons.mpr ⟨rfl, fun _ h => absurd h List.not_mem_nil⟩) (ygf304 hB _) (fun v1 m1 cv1 => ?_)
      refine xS_of (pc' := 99) (L' := [(0, xa 536)]) (st' := [xi 0, xi 0, xi 0, xi v1, xa 536]) (m' := m1) (fun ex ns r q => ?_) ?_
      · refine xw_iconst rfl ?_
        refine xw_iconst rfl ?_
        refine xw_iconst rfl ?_
        refine xw_lo (L2 := [(0, xa 536)]) (List.forall_mem_cons.mpr ⟨rfl, fun _ h => absurd h List.not_mem_nil⟩) ?_
        exact q
      refine xS_call (q := 305) (n := 5) (kq := 1) (as := [xa 536, xi v1, xi 0, xi 0, xi 0]) (st1 := []) rfl rfl rfl rfl rfl rfl rfl rfl rfl rfl (fun _ => xw_rcv1 (t := 12) (xw_obd (by decide +kernel)) rfl) rfl (List.forall_mem_cons.mpr ⟨rfl, List.forall_mem_cons.mpr ⟨rfl, List.forall_mem_cons.mpr ⟨rfl, List.forall_mem_cons.mpr ⟨rfl, List.forall_mem_cons.mpr ⟨rfl, fun _ h => absurd h List.not_mem_nil⟩⟩⟩⟩⟩) (ygf305 hB _ _ _ _ _ cv1 rfl rfl rfl) (fun v2 m2 cv2 => ?_)
      refine xS_of (pc' := 107) (L' := [(2, xi v2), (0, xa 536)]) (st' := [xi (xR m2 536 57)]) (m' := m2) (fun ex ns r q => ?_) ?_
      · refine xw_istore_n (L' := [(2, xi v2), (0, xa 536)]) rfl (by decide) rfl ?_
        refine xw_aload_n rfl rfl rfl ?_
        refine xw_gfIc (v := (m2 536 57)) (v' := (xR m2 536 57)) rfl (xw_obd (by decide +kernel)) xk12_57 (qi := 57) rfl rfl rfl ?_
        exact q
      refine xS_if (fun h2 => ?_) (fun h2 => ?_)
      · refine xS_of (pc' := 136) (L' := [(0, xa 536), (2, xi v2)]) (st' := []) (m' := m2) (fun ex ns r q => ?_) ?_
        · refine xw_if_eqT rfl (w32_cg (w32_xR _ _ _)) h2 ?_
          refine xw_lo (L2 := [(0, xa 536), (2, xi v2)]) (List.forall_mem_cons.mpr ⟨rfl, List.forall_mem_cons.mpr ⟨rfl, fun _ h => absurd h List.not_mem_nil⟩⟩) ?_
          exact q
        exact ygk303_136 hB _ _ cv2
      · refine xS_of (pc' := 117) (L' := [(0, xa 536), (2, xi v2), (3, xi 0)]) (st' := []) (m' := (xw_u m2 536 2 1)) (fun ex ns r q => ?_) ?_
        · refine xw_if_eqF rfl (w32_cg (w32_xR _ _ _)) h2 ?_
          refine xw_aload_n rfl rfl rfl ?_
          refine xw_iconst rfl ?_
          refine xw_pfI rfl (xw_obd (by decide +kernel)) xk12_2 (qi := 2) rfl (xw_okZ rfl (Or.inr rfl)) ?_
          refine xw_iconst rfl ?_
          refine xw_istore_n (L' := [(3, xi 0), (2, xi v2), (0, xa 536)]) rfl (by decide) rfl ?_
          refine xw_lo (L2 := [(0, xa 536), (2, xi v2), (3, xi 0)]) (List.forall_mem_cons.mpr ⟨rfl, List.forall_mem_cons.mpr ⟨rfl, List.forall_mem_cons.mpr ⟨rfl, fun _ h => absurd h List.not_mem_nil⟩⟩⟩) ?_
          exact q
        exact ygl303_117 hB 1000000 _ _ _ cv2 rfl
theorem ygl303_36 {B : Nat} (hB : B ≤ 512) {xs : Nat → Int32} {SL d : Nat} : ∀ n x1 x2 m, w32 x1 = x1 → w32 x2 = x2 → xS B xs SL (d + 3) 303 (4, (some .int), [], 13) 1 36 [(0, xa 536), (1, xi x1), (2, xi x2)] [] m (xl2 (yl303_36 B) n x1 x2 m) := by
  intro n
  induction n with
  | zero => intro x1 x2 m c1 c2; exact xS_none
  | succ n ih => exact ysl303_36 hB ih
theorem ygf303 {B : Nat} (hB : B ≤ 512) {xs : Nat → Int32} {SL d : Nat} : ∀ m, xS B xs SL (d + 3) 303 (4, (some .int), [], 13) 1 0 [(0, xa 536)] [] m (yf303 B m) := by
  intro m
  unfold yf303
  refine xS_of (pc' := 4) (L' := [(0, xa 536)]) (st' := [xi (xR m 536 3)]) (m' := m) (fun ex ns r q => ?_) ?_
  · refine xw_aload_n rfl rfl rfl ?_
    refine xw_gfIc (v := (m 536 3)) (v' := (xR m 536 3)) rfl (xw_obd (by decide +kernel)) xk12_3 (qi := 3) rfl rfl rfl ?_
    exact q
  refine xS_if (fun h0 => ?_) (fun h0 => ?_)
  · refine xS_of (pc' := 11) (L' := [(0, xa 536)]) (st' := [xi (xR m 536 2)]) (m' := m) (fun ex ns r q => ?_) ?_
    · refine xw_if_neF rfl (w32_cg (w32_xR _ _ _)) h0 ?_
      refine xw_aload_n rfl rfl rfl ?_
      refine xw_gfIc (v := (m 536 2)) (v' := (xR m 536 2)) rfl (xw_obd (by decide +kernel)) xk12_2 (qi := 2) rfl rfl rfl ?_
      exact q
    refine xS_if (fun h1 => ?_) (fun h1 => ?_)
    · refine xS_of (pc' := 18) (L' := [(0, xa 536)]) (st' := [xi (xR m 536 14)]) (m' := m) (fun ex ns r q => ?_) ?_
      · refine xw_if_neF rfl (w32_cg (w32_xR _ _ _)) h1 ?_
        refine xw_aload_n rfl rfl rfl ?_
        refine xw_gfIc (v := (m 536 14)) (v' := (xR m 536 14)) rfl (xw_obd (by decide +kernel)) xk12_14 (qi := 14) rfl rfl rfl ?_
        exact q
      refine xS_if (fun h2 => ?_) (fun h2 => ?_)
      · refine xS_of (pc' := 25) (L' := [(0, xa 536)]) (st' := [xi (xR m 536 19)]) (m' := m) (fun ex ns r q => ?_) ?_
        · refine xw_if_leF rfl (w32_cg (w32_xR _ _ _)) (Int.not_le.mpr h2) ?_
          refine xw_aload_n rfl rfl rfl ?_
          refine xw_gfIc (v := (m 536 19)) (v' := (xR m 536 19)) rfl (xw_obd (by decide +kernel)) xk12_19 (qi := 19) rfl rfl rfl ?_
          exact q
        refine xS_if (fun h3 => ?_) (fun h3 => ?_)
        · refine xS_of (pc' := 36) (L' := [(0, xa 536), (1, xi 1), (2, xi 0)]) (st' := []) (m' := m) (fun ex ns r q => ?_) ?_
          · refine xw_if_leF rfl (w32_cg (w32_xR _ _ _)) (Int.not_le.mpr h3) ?_
            refine xw_iconst rfl ?_
            refine xw_goto rfl ?_
            refine xw_istore_n (L' := [(1, xi 1), (0, xa 536)]) rfl (by decide) rfl ?_
            refine xw_iconst rfl ?_
            refine xw_istore_n (L' := [(2, xi 0), (1, xi 1), (0, xa 536)]) rfl (by decide) rfl ?_
            refine xw_lo (L2 := [(0, xa 536), (1, xi 1), (2, xi 0)]) (List.forall_mem_cons.mpr ⟨rfl, List.forall_mem_cons.mpr ⟨rfl, List.forall_mem_cons.mpr ⟨rfl, fun _ h => absurd h List.not_mem_nil⟩⟩⟩) ?_
            exact q
          exact ygl303_36 hB 1000000 _ _ _ rfl rfl
        · refine xS_of (pc' := 36) (L' := [(0, xa 536), (1, xi 0), (2, xi 0)]) (st' := []) (m' := m) (fun ex ns r q => ?_) ?_
          · refine xw_if_leT rfl (w32_cg (w32_xR _ _ _)) (Int.not_lt.mp h3) ?_
            refine xw_iconst rfl ?_
            refine xw_istore_n (L' := [(1, xi 0), (0, xa 536)]) rfl (by decide) rfl ?_
            refine xw_iconst rfl ?_
            refine xw_istore_n (L' := [(2, xi 0), (1, xi 0), (0, xa 536)]) rfl (by decide) rfl ?_
            refine xw_lo (L2 := [(0, xa 536), (1, xi 0), (2, xi 0)]) (List.forall_mem_cons.mpr ⟨rfl, List.forall_mem_cons.mpr ⟨rfl, List.forall_mem_cons.mpr ⟨rfl, fun _ h => absurd h List.not_mem_nil⟩⟩⟩) ?_
            exact q
          exact ygl303_36 hB 1000000 _ _ _ rfl rfl
      · refine xS_of (pc' := 36) (L' := [(0, xa 536), (1, xi 0), (2, xi 0)]) (st' := []) (m' := m) (fun ex ns r q => ?_) ?_
        · refine xw_if_leT rfl (w32_cg (w32_xR _ _ _)) (Int.not_lt.mp h2) ?_
          refine xw_iconst rfl ?_
          refine xw_istore_n (L' := [(1, xi 0), (0, xa 536)]) rfl (by decide) rfl ?_
          refine xw_iconst rfl ?_
          refine xw_istore_n (L' := [(2, xi 0), (1, xi 0), (0, xa 536)]) rfl (by decide) rfl ?_
          refine xw_lo (L2 := [(0, xa 536), (1, xi 0), (2, xi 0)]) (List.forall_mem_cons.mpr ⟨rfl, List.forall_mem_cons.mpr ⟨rfl, List.forall_mem_cons.mpr ⟨rfl, fun _ h => absurd h List.not_mem_nil⟩⟩⟩) ?_
          exact q
        exact ygl303_36 hB 1000000 _ _ _ rfl rfl
    · refine xS_of (pc' := 36) (L' := [(0, xa 536), (1, xi 0), (2, xi 0)]) (st' := []) (m' := m) (fun ex ns r q => ?_) ?_
      · refine xw_if_neT rfl (w32_cg (w32_xR _ _ _)) h1 ?_
        refine xw_iconst rfl ?_
        refine xw_istore_n (L' := [(1, xi 0), (0, xa 536)]) rfl (by decide) rfl ?_
        refine xw_iconst rfl ?_
        refine xw_istore_n (L' := [(2, xi 0), (1, xi 0), (0, xa 536)]) rfl (by decide) rfl ?_
        refine xw_lo (L2 := [(0, xa 536), (1, xi 0), (2, xi 0)]) (List.forall_mem_cons.mpr ⟨rfl, List.forall_mem_cons.mpr ⟨rfl, List.forall_mem_cons.mpr ⟨rfl, fun _ h => absurd h List.not_mem_nil⟩⟩⟩) ?_
        exact q
      exact ygl303_36 hB 1000000 _ _ _ rfl rfl
  · refine xS_of (pc' := 36) (L' := [(0, xa 536), (1, xi 0), (2, xi 0)]) (st' := []) (m' := m) (fun ex ns r q => ?_) ?_
    · refine xw_if_neT rfl (w32_cg (w32_xR _ _ _)) h0 ?_
      refine xw_iconst rfl ?_
      refine xw_istore_n (L' := [(1, xi 0), (0, xa 536)]) rfl (by decide) rfl ?_
      refine xw_iconst rfl ?_
      refine xw_istore_n (L' := [(2, xi 0), (1, xi 0), (0, xa 536)]) rfl (by decide) rfl ?_
      refine xw_lo (L2 := [(0, xa 536), (1, xi 0), (2, xi 0)]) (List.forall_mem_cons.mpr ⟨rfl, List.forall_mem_cons.mpr ⟨rfl, List.forall_mem_cons.mpr ⟨rfl, fun _ h => absurd h List.not_mem_nil⟩⟩⟩) ?_
      exact q
    exact ygl303_36 hB 1000000 _ _ _ rfl rfl
theorem ygf314 {B : Nat} (hB : B ≤ 512) {xs : Nat → Int32} {SL d : Nat} : ∀ p0 m, w32 p0 = p0 → xS B xs SL (d + 2) 314 (3, none, [], 13) 0 0 [(0, xa 536), (1, xi p0)] [] m (yf314 B p0 m) := by
  intro p0 m cp0
  unfold yf314
  refine xS_of (pc' := 3) (L' := [(0, xa 536), (1, xi p0)]) (st' := [xi (-1), xi p0, xa 536]) (m' := m) (fun ex ns r q => ?_) ?_
  · refine xw_aload_n rfl rfl rfl ?_
    refine xw_iload_n rfl rfl ?_
    refine xw_iconst rfl ?_
    exact q
  refine xS_if (fun h0 => ?_) (fun h0 => ?_)
  · refine xS_of (pc' := 63) (L' := [(0, xa 536), (1, xi p0)]) (st' := []) (m' := (xw_u m 536 1 1)) (fun ex ns r q => ?_) ?_
    · refine xw_ic_ltT rfl (w32_cg cp0) (w32_cg rfl) h0 ?_
      refine xw_iconst rfl ?_
      refine xw_goto rfl ?_
      refine xw_pfI rfl (xw_obd (by decide +kernel)) xk12_1 (qi := 1) rfl (xw_okI rfl) ?_
      refine xw_aload_n rfl rfl rfl ?_
      refine xw_gfIc (v := 1) (v' := 1) rfl (xw_obd (by decide +kernel)) xk12_1 (qi := 1) rfl xw_us rfl ?_
      refine xw_if_neT rfl (w32_cg rfl) (by decide) ?_
      exact q
    exact xS_ret (v := 0) rfl rfl rfl rfl
  · refine xS_of (pc' := 10) (L' := [(0, xa 536), (1, xi p0)]) (st' := [xi 1000, xi p0, xa 536]) (m' := m) (fun ex ns r q => ?_) ?_
    · refine xw_ic_ltF rfl (w32_cg cp0) (w32_cg rfl) h0 ?_
      refine xw_iload_n rfl rfl ?_
      refine xw_sipush (e := 1000) rfl (by decide +kernel) ?_
      exact q
    refine xS_if (fun h1 => ?_) (fun h1 => ?_)
    · refine xS_of (pc' := 63) (L' := [(0, xa 536), (1, xi p0)]) (st' := []) (m' := (xw_u m 536 1 1)) (fun ex ns r q => ?_) ?_
      · refine xw_ic_leF rfl (w32_cg cp0) (w32_cg rfl) (Int.not_le.mpr h1) ?_
        refine xw_iconst rfl ?_
        refine xw_goto rfl ?_
        refine xw_pfI rfl (xw_obd (by decide +kernel)) xk12_1 (qi := 1) rfl (xw_okI rfl) ?_
        refine xw_aload_n rfl rfl rfl ?_
        refine xw_gfIc (v := 1) (v' := 1) rfl (xw_obd (by decide +kernel)) xk12_1 (qi := 1) rfl xw_us rfl ?_
        refine xw_if_neT rfl (w32_cg rfl) (by decide) ?_
        exact q
      exact xS_ret (v := 0) rfl rfl rfl rfl
    · refine xS_of (pc' := 21) (L' := [(0, xa 536), (1, xi p0)]) (st' := [xi (xR m 536 3), xa 536]) (m' := m) (fun ex ns r q => ?_) ?_
      · refine xw_ic_leT rfl (w32_cg cp0) (w32_cg rfl) (Int.not_lt.mp h1) ?_
        refine xw_aload_n rfl rfl rfl ?_
        refine xw_gfIc (v := (m 536 3)) (v' := (xR m 536 3)) rfl (xw_obd (by decide +kernel)) xk12_3 (qi := 3) rfl rfl rfl ?_
        exact q
      refine xS_if (fun h2 => ?_) (fun h2 => ?_)
      · refine xS_of (pc' := 46) (L' := [(0, xa 536), (1, xi p0)]) (st' := [xi p0, xa 536]) (m' := (xw_u (xw_u m 536 1 0) 536 51 p0)) (fun ex ns r q => ?_) ?_
        · refine xw_if_eqT rfl (w32_cg (w32_xR _ _ _)) h2 ?_
          refine xw_iconst rfl ?_
          refine xw_pfI rfl (xw_obd (by decide +kernel)) xk12_1 (qi := 1) rfl (xw_okI rfl) ?_
          refine xw_aload_n rfl rfl rfl ?_
          refine xw_gfIc (v := 0) (v' := 0) rfl (xw_obd (by decide +kernel)) xk12_1 (qi := 1) rfl xw_us rfl ?_
          refine xw_if_neF rfl (w32_cg rfl) (by decide) ?_
          refine xw_aload_n rfl rfl rfl ?_
          refine xw_iload_n rfl rfl ?_
          refine xw_pfI rfl (xw_obd (by decide +kernel)) xk12_51 (qi := 51) rfl (xw_okI rfl) ?_
          refine xw_aload_n rfl rfl rfl ?_
          refine xw_iload_n rfl rfl ?_
          exact q
        refine xS_if (fun h3 => ?_) (fun h3 => ?_)
        · refine xS_of (pc' := 59) (L' := []) (st' := [xi 0, xa 536]) (m' := (xw_u (xw_u (xw_u m 536 1 0) 536 51 p0) 536 3 1)) (fun ex ns r q => ?_) ?_
          · refine xw_if_neF rfl (w32_cg cp0) h3 ?_
            refine xw_iconst rfl ?_
            refine xw_goto rfl ?_
            refine xw_pfI rfl (xw_obd (by decide +kernel)) xk12_3 (qi := 3) rfl (xw_okZ rfl (Or.inr rfl)) ?_
            refine xw_aload_n rfl rfl rfl ?_
            refine xw_iconst rfl ?_
            refine xw_lo (L2 := []) (fun _ h => absurd h List.not_mem_nil) ?_
            exact q
          refine xS_call (q := 312) (n := 2) (kq := 1) (as := [xa 536, xi 0]) (st1 := []) rfl rfl rfl rfl rfl rfl rfl rfl rfl rfl (fun _ => xw_rcv1 (t := 12) (xw_obd (by decide +kernel)) rfl) rfl (List.forall_mem_cons.mpr ⟨rfl, List.forall_mem_cons.mpr ⟨rfl, fun _ h => absurd h List.not_mem_nil⟩⟩) (ygf312 hB _ _ rfl) (fun v1 m1 cv1 => ?_)
          refine xS_of (pc' := 63) (L' := [(2, xi v1)]) (st' := []) (m' := m1) (fun ex ns r q => ?_) ?_
          · refine xw_istore_n (L' := [(2, xi v1)]) rfl (by decide) rfl ?_
            exact q
          exact xS_ret (v := 0) rfl rfl rfl rfl
        · refine xS_of (pc' := 59) (L' := []) (st' := [xi 0, xa 536]) (m' := (xw_u (xw_u (xw_u m 536 1 0) 536 51 p0) 536 3 0)) (fun ex ns r q => ?_) ?_
          · refine xw_if_neT rfl (w32_cg cp0) h3 ?_
            refine xw_iconst rfl ?_
            refine xw_pfI rfl (xw_obd (by decide +kernel)) xk12_3 (qi := 3) rfl (xw_okZ rfl (Or.inl rfl)) ?_
            refine xw_aload_n rfl rfl rfl ?_
            refine xw_iconst rfl ?_
            refine xw_lo (L2 := []) (fun _ h => absurd h List.not_mem_nil) ?_
            exact q
          refine xS_call (q := 312) (n := 2) (kq := 1) (as := [xa 536, xi 0]) (st1 := []) rfl rfl rfl rfl rfl rfl rfl rfl rfl rfl (fun _ => xw_rcv1 (t := 12) (xw_obd (by decide +kernel)) rfl) rfl (List.forall_mem_cons.mpr ⟨rfl, List.forall_mem_cons.mpr ⟨rfl, fun _ h => absurd h List.not_mem_nil⟩⟩) (ygf312 hB _ _ rfl) (fun v2 m2 cv2 => ?_)
          refine xS_of (pc' := 63) (L' := [(2, xi v2)]) (st' := []) (m' := m2) (fun ex ns r q => ?_) ?_
          · refine xw_istore_n (L' := [(2, xi v2)]) rfl (by decide) rfl ?_
            exact q
          exact xS_ret (v := 0) rfl rfl rfl rfl
      · refine xS_of (pc' := 63) (L' := [(0, xa 536), (1, xi p0)]) (st' := []) (m' := (xw_u m 536 1 2)) (fun ex ns r q => ?_) ?_
        · refine xw_if_eqF rfl (w32_cg (w32_xR _ _ _)) h2 ?_
          refine xw_iconst rfl ?_
          refine xw_goto rfl ?_
          refine xw_pfI rfl (xw_obd (by decide +kernel)) xk12_1 (qi := 1) rfl (xw_okI rfl) ?_
          refine xw_aload_n rfl rfl rfl ?_
          refine xw_gfIc (v := 2) (v' := 2) rfl (xw_obd (by decide +kernel)) xk12_1 (qi := 1) rfl xw_us rfl ?_
          refine xw_if_neT rfl (w32_cg rfl) (by decide) ?_
          exact q
        exact xS_ret (v := 0) rfl rfl rfl rfl
theorem ygf315 {B : Nat} (hB : B ≤ 512) {xs : Nat → Int32} {SL d : Nat} : ∀ m, xS B xs SL (d + 1) 315 (1, (some .int), [], 13) 1 0 [(0, xa 536)] [] m (yf315 B m) := by
  intro m
  unfold yf315
  refine xS_of (pc' := 11) (L' := [(0, xa 536)]) (st' := [xa 536]) (m' := (xw_u (xw_u m 536 1 0) 536 3 0)) (fun ex ns r q => ?_) ?_
  · refine xw_aload_n rfl rfl rfl ?_
    refine xw_iconst rfl ?_
    refine xw_pfI rfl (xw_obd (by decide +kernel)) xk12_1 (qi := 1) rfl (xw_okI rfl) ?_
    refine xw_aload_n rfl rfl rfl ?_
    refine xw_iconst rfl ?_
    refine xw_pfI rfl (xw_obd (by decide +kernel)) xk12_3 (qi := 3) rfl (xw_okZ rfl (Or.inl rfl)) ?_
    refine xw_aload_n rfl rfl rfl ?_
    refine xw_lo (L2 := [(0, xa 536)]) (List.forall_mem_cons.mpr ⟨rfl, fun _ h => absurd h List.not_mem_nil⟩) ?_
    exact q
  refine xS_call (q := 313) (n := 1) (kq := 0) (as := [xa 536]) (st1 := []) rfl rfl rfl rfl rfl rfl rfl rfl rfl rfl (fun _ => xw_rcv1 (t := 12) (xw_obd (by decide +kernel)) rfl) rfl (List.forall_mem_cons.mpr ⟨rfl, fun _ h => absurd h List.not_mem_nil⟩) (ygf313 hB _) (fun v1 m1 cv1 => ?_)
  refine xS_of (pc' := 18) (L' := [(0, xa 536)]) (st' := [xi (xR m1 536 2)]) (m' := m1) (fun ex ns r q => ?_) ?_
  · refine xw_aload_n rfl rfl rfl ?_
    refine xw_gfIc (v := (m1 536 2)) (v' := (xR m1 536 2)) rfl (xw_obd (by decide +kernel)) xk12_2 (qi := 2) rfl rfl rfl ?_
    exact q
  refine xS_if (fun h0 => ?_) (fun h0 => ?_)
  · refine xS_of (pc' := 32) (L' := [(0, xa 536)]) (st' := [xi (-1)]) (m' := (xw_u (xw_u m1 536 14 0) 536 19 0)) (fun ex ns r q => ?_) ?_
    · refine xw_if_neF rfl (w32_cg (w32_xR _ _ _)) h0 ?_
      refine xw_aload_n rfl rfl rfl ?_
      refine xw_iconst rfl ?_
      refine xw_pfI rfl (xw_obd (by decide +kernel)) xk12_14 (qi := 14) rfl (xw_okI rfl) ?_
      refine xw_aload_n rfl rfl rfl ?_
      refine xw_iconst rfl ?_
      refine xw_pfI rfl (xw_obd (by decide +kernel)) xk12_19 (qi := 19) rfl (xw_okI rfl) ?_
      refine xw_iconst rfl ?_
      exact q
    exact xS_ret (v := (-1)) rfl rfl xw_rtI rfl
  · refine xS_of (pc' := 37) (L' := [(0, xa 536)]) (st' := [xi (xR m1 536 38)]) (m' := m1) (fun ex ns r q => ?_) ?_
    · refine xw_if_neT rfl (w32_cg (w32_xR _ _ _)) h0 ?_
      refine xw_aload_n rfl rfl rfl ?_
      refine xw_gfIc (v := (m1 536 38)) (v' := (xR m1 536 38)) rfl (xw_obd (by decide +kernel)) xk12_38 (qi := 38) rfl rfl rfl ?_
      exact q
    exact xS_ret (v := (xR m1 536 38)) rfl rfl xw_rtI (w32_xR _ _ _)
theorem ysl316_41 {B : Nat} (hB : B ≤ 512) {xs : Nat → Int32} {SL d : Nat} {r41 : Int → Int → Int → xw_M → xP} (hr41 : ∀ x1 x2 x3 m, w32 x1 = x1 → w32 x2 = x2 → w32 x3 = x3 → xS B xs SL (d + 1) 316 (4, (some .boolean), [], 13) 4 41 [(0, xa 536), (1, xi x1), (2, xi x2), (3, xi x3)] [] m (r41 x1 x2 x3 m)) : ∀ x1 x2 x3 m, w32 x1 = x1 → w32 x2 = x2 → w32 x3 = x3 → xS B xs SL (d + 1) 316 (4, (some .boolean), [], 13) 4 41 [(0, xa 536), (1, xi x1), (2, xi x2), (3, xi x3)] [] m (yl316_41 B r41 x1 x2 x3 m) := by
  intro x1 x2 x3 m c1 c2 c3
  unfold yl316_41
  refine xS_of (pc' := 45) (L' := [(0, xa 536), (1, xi x1), (2, xi x2), (3, xi x3)]) (st' := [xi 1000, xi x3]) (m' := m) (fun ex ns r q => ?_) ?_
  · refine xw_iload_n rfl rfl ?_
    refine xw_sipush (e := 1000) rfl (by decide +kernel) ?_
    exact q
  refine xS_if (fun h0 => ?_) (fun h0 => ?_)
  · refine xS_of (pc' := 52) (L' := [(0, xa 536), (1, xi x1), (2, xi x2), (3, xi x3)]) (st' := [xi (xR m 536 1)]) (m' := m) (fun ex ns r q => ?_) ?_
    · refine xw_ic_geF rfl (w32_cg c3) (w32_cg rfl) (Int.not_le.mpr h0) ?_
      refine xw_aload_n rfl rfl rfl ?_
      refine xw_gfIc (v := (m 536 1)) (v' := (xR m 536 1)) rfl (xw_obd (by decide +kernel)) xk12_1 (qi := 1) rfl rfl rfl ?_
      exact q
    refine xS_if (fun h1 => ?_) (fun h1 => ?_)
    · refine xS_g (fun g2 => ?_)
      refine xS_of (pc' := 62) (L' := [(0, xa 536), (1, xi x1), (2, xi x2), (3, xi x3)]) (st' := [xi (xR m 539 x1), xi x3]) (m' := m) (fun ex ns r q => ?_) ?_
      · refine xw_if_neF rfl (w32_cg (w32_xR _ _ _)) h1 ?_
        refine xw_iload_n rfl rfl ?_
        refine xw_aload_n rfl rfl rfl ?_
        refine xw_gfR (n := 539) (e := 539) rfl (xw_obd (by decide +kernel)) (by decide +kernel) (by decide +kernel) rfl ?_
        refine xw_iload_n rfl rfl ?_
        refine xw_ialdc (n := 8) (v := (m 539 x1)) (v' := (xR m 539 x1)) rfl hB (xw_obd (by decide +kernel)) rfl g2 rfl rfl ?_
        exact q
      refine xS_if (fun h3 => ?_) (fun h3 => ?_)
      · refine xS_of (pc' := 69) (L' := [(0, xa 536), (1, xi x1), (2, xi x2), (3, xi x3)]) (st' := [xi x3, xi 0, xi x1, xa 536]) (m' := m) (fun ex ns r q => ?_) ?_
        · refine xw_ic_geF rfl (w32_cg c3) (w32_cg (w32_xR _ _ _)) (Int.not_le.mpr h3) ?_
          refine xw_aload_n rfl rfl rfl ?_
          refine xw_iload_n rfl rfl ?_
          refine xw_iconst rfl ?_
          refine xw_iload_n rfl rfl ?_
          refine xw_lo (L2 := [(0, xa 536), (1, xi x1), (2, xi x2), (3, xi x3)]) (List.forall_mem_cons.mpr ⟨rfl, List.forall_mem_cons.mpr ⟨rfl, List.forall_mem_cons.mpr ⟨rfl, List.forall_mem_cons.mpr ⟨rfl, fun _ h => absurd h List.not_mem_nil⟩⟩⟩⟩) ?_
          exact q
        refine xS_call (q := 289) (n := 4) (kq := 1) (as := [xa 536, xi x1, xi 0, xi x3]) (st1 := []) rfl rfl rfl rfl rfl rfl rfl rfl rfl rfl (fun _ => xw_rcv1 (t := 12) (xw_obd (by decide +kernel)) rfl) rfl (List.forall_mem_cons.mpr ⟨rfl, List.forall_mem_cons.mpr ⟨rfl, List.forall_mem_cons.mpr ⟨rfl, List.forall_mem_cons.mpr ⟨rfl, fun _ h => absurd h List.not_mem_nil⟩⟩⟩⟩) (ygf289 hB _ _ _ _ c1 rfl c3) (fun v1 m1 cv1 => ?_)
        refine xS_of (pc' := 73) (L' := [(0, xa 536), (1, xi x1), (2, xi x2), (3, xi x3)]) (st' := [xi x2, xi v1]) (m' := m1) (fun ex ns r q => ?_) ?_
        · refine xw_iload_n rfl rfl ?_
          exact q
        refine xS_if (fun h4 => ?_) (fun h4 => ?_)
        · refine xS_of (pc' := 84) (L' := [(0, xa 536), (1, xi x1), (2, xi x2), (3, xi x3)]) (st' := [xi 1]) (m' := (xw_u m1 577 x1 x3)) (fun ex ns r q => ?_) ?_
          · refine xw_ic_neF rfl (w32_cg cv1) (w32_cg c2) h4 ?_
            refine xw_aload_n rfl rfl rfl ?_
            refine xw_gfR (n := 577) (e := 577) rfl (xw_obd (by decide +kernel)) (by decide +kernel) (by decide +kernel) rfl ?_
            refine xw_iload_n rfl rfl ?_
            refine xw_iload_n rfl rfl ?_
            refine xw_iast (n := 8) rfl hB (xw_obd (by decide +kernel)) rfl g2 ?_
            refine xw_iconst rfl ?_
            exact q
          exact xS_ret (v := 1) rfl rfl (xw_rtZ (Or.inr rfl)) (Or.inr rfl)
        · refine xS_of (pc' := 41) (L' := [(0, xa 536), (1, xi x1), (2, xi x2), (3, xi (w32 (x3 + 1)))]) (st' := []) (m' := m1) (fun ex ns r q => ?_) ?_
          · refine xw_ic_neT rfl (w32_cg cv1) (w32_cg c2) h4 ?_
            refine xw_iincc (z := (w32 (x3 + 1))) (L' := [(3, xi (w32 (x3 + 1))), (0, xa 536), (1, xi x1), (2, xi x2)]) rfl rfl (by decide) rfl rfl ?_
            refine xw_goto rfl ?_
            refine xw_lo (L2 := [(0, xa 536), (1, xi x1), (2, xi x2), (3, xi (w32 (x3 + 1)))]) (List.forall_mem_cons.mpr ⟨rfl, List.forall_mem_cons.mpr ⟨rfl, List.forall_mem_cons.mpr ⟨rfl, List.forall_mem_cons.mpr ⟨rfl, fun _ h => absurd h List.not_mem_nil⟩⟩⟩⟩) ?_
            exact q
          exact hr41 _ _ _ _ c1 c2 (w32_w _)
      · refine xS_of (pc' := 92) (L' := [(0, xa 536), (1, xi x1), (2, xi x2), (3, xi x3)]) (st' := [xi 0]) (m' := m) (fun ex ns r q => ?_) ?_
        · refine xw_ic_geT rfl (w32_cg c3) (w32_cg (w32_xR _ _ _)) (Int.not_lt.mp h3) ?_
          refine xw_iconst rfl ?_
          exact q
        exact xS_ret (v := 0) rfl rfl (xw_rtZ (Or.inl rfl)) (Or.inl rfl)
    · refine xS_of (pc' := 92) (L' := [(0, xa 536), (1, xi x1), (2, xi x2), (3, xi x3)]) (st' := [xi 0]) (m' := m) (fun ex ns r q => ?_) ?_
      · refine xw_if_neT rfl (w32_cg (w32_xR _ _ _)) h1 ?_
        refine xw_iconst rfl ?_
        exact q
      exact xS_ret (v := 0) rfl rfl (xw_rtZ (Or.inl rfl)) (Or.inl rfl)
  · refine xS_of (pc' := 92) (L' := [(0, xa 536), (1, xi x1), (2, xi x2), (3, xi x3)]) (st' := [xi 0]) (m' := m) (fun ex ns r q => ?_) ?_
    · refine xw_ic_geT rfl (w32_cg c3) (w32_cg rfl) (Int.not_lt.mp h0) ?_
      refine xw_iconst rfl ?_
      exact q
    exact xS_ret (v := 0) rfl rfl (xw_rtZ (Or.inl rfl)) (Or.inl rfl)
theorem ygl316_41 {B : Nat} (hB : B ≤ 512) {xs : Nat → Int32} {SL d : Nat} : ∀ n x1 x2 x3 m, w32 x1 = x1 → w32 x2 = x2 → w32 x3 = x3 → xS B xs SL (d + 1) 316 (4, (some .boolean), [], 13) 4 41 [(0, xa 536), (1, xi x1), (2, xi x2), (3, xi x3)] [] m (xl3 (yl316_41 B) n x1 x2 x3 m) := by
  intro n
  induction n with
  | zero => intro x1 x2 x3 m c1 c2 c3; exact xS_none
  | succ n ih => exact ysl316_41 hB ih
theorem ygf316 {B : Nat} (hB : B ≤ 512) {xs : Nat → Int32} {SL d : Nat} : ∀ p0 p1 m, w32 p0 = p0 → w32 p1 = p1 → xS B xs SL (d + 1) 316 (4, (some .boolean), [], 13) 4 0 [(0, xa 536), (1, xi p0), (2, xi p1)] [] m (yf316 B p0 p1 m) := by
  intro p0 p1 m cp0 cp1
  unfold yf316
  refine xS_of (pc' := 5) (L' := [(0, xa 536), (1, xi p0), (2, xi p1)]) (st' := [xi (xR m 536 3), xa 536]) (m' := m) (fun ex ns r q => ?_) ?_
  · refine xw_aload_n rfl rfl rfl ?_
    refine xw_aload_n rfl rfl rfl ?_
    refine xw_gfIc (v := (m 536 3)) (v' := (xR m 536 3)) rfl (xw_obd (by decide +kernel)) xk12_3 (qi := 3) rfl rfl rfl ?_
    exact q
  refine xS_if (fun h0 => ?_) (fun h0 => ?_)
  · refine xS_of (pc' := 9) (L' := [(0, xa 536), (1, xi p0), (2, xi p1)]) (st' := [xi p0, xa 536]) (m' := m) (fun ex ns r q => ?_) ?_
    · refine xw_if_neF rfl (w32_cg (w32_xR _ _ _)) h0 ?_
      refine xw_iload_n rfl rfl ?_
      exact q
    refine xS_if (fun h1 => ?_) (fun h1 => ?_)
    · refine xS_of (pc' := 41) (L' := [(0, xa 536), (1, xi p0), (2, xi p1), (3, xi 0)]) (st' := []) (m' := (xw_u m 536 1 1)) (fun ex ns r q => ?_) ?_
      · refine xw_if_ltT rfl (w32_cg cp0) h1 ?_
        refine xw_iconst rfl ?_
        refine xw_goto rfl ?_
        refine xw_pfI rfl (xw_obd (by decide +kernel)) xk12_1 (qi := 1) rfl (xw_okI rfl) ?_
        refine xw_iconst rfl ?_
        refine xw_istore_n (L' := [(3, xi 0), (0, xa 536), (1, xi p0), (2, xi p1)]) rfl (by decide) rfl ?_
        refine xw_lo (L2 := [(0, xa 536), (1, xi p0), (2, xi p1), (3, xi 0)]) (List.forall_mem_cons.mpr ⟨rfl, List.forall_mem_cons.mpr ⟨rfl, List.forall_mem_cons.mpr ⟨rfl, List.forall_mem_cons.mpr ⟨rfl, fun _ h => absurd h List.not_mem_nil⟩⟩⟩⟩) ?_
        exact q
      exact ygl316_41 hB 1000000 _ _ _ _ cp0 cp1 rfl
    · refine xS_of (pc' := 17) (L' := [(0, xa 536), (1, xi p0), (2, xi p1)]) (st' := [xi (xR m 536 14), xi p0, xa 536]) (m' := m) (fun ex ns r q => ?_) ?_
      · refine xw_if_ltF rfl (w32_cg cp0) h1 ?_
        refine xw_iload_n rfl rfl ?_
        refine xw_aload_n rfl rfl rfl ?_
        refine xw_gfIc (v := (m 536 14)) (v' := (xR m 536 14)) rfl (xw_obd (by decide +kernel)) xk12_14 (qi := 14) rfl rfl rfl ?_
        exact q
      refine xS_if (fun h2 => ?_) (fun h2 => ?_)
      · refine xS_of (pc' := 28) (L' := [(0, xa 536), (1, xi p0), (2, xi p1)]) (st' := [xi (xR m 536 2), xa 536]) (m' := m) (fun ex ns r q => ?_) ?_
        · refine xw_ic_ltT rfl (w32_cg cp0) (w32_cg (w32_xR _ _ _)) h2 ?_
          refine xw_aload_n rfl rfl rfl ?_
          refine xw_gfIc (v := (m 536 2)) (v' := (xR m 536 2)) rfl (xw_obd (by decide +kernel)) xk12_2 (qi := 2) rfl rfl rfl ?_
          exact q
        refine xS_if (fun h3 => ?_) (fun h3 => ?_)
        · refine xS_of (pc' := 41) (L' := [(0, xa 536), (1, xi p0), (2, xi p1), (3, xi 0)]) (st' := []) (m' := (xw_u m 536 1 2)) (fun ex ns r q => ?_) ?_
          · refine xw_if_neF rfl (w32_cg (w32_xR _ _ _)) h3 ?_
            refine xw_iconst rfl ?_
            refine xw_goto rfl ?_
            refine xw_pfI rfl (xw_obd (by decide +kernel)) xk12_1 (qi := 1) rfl (xw_okI rfl) ?_
            refine xw_iconst rfl ?_
            refine xw_istore_n (L' := [(3, xi 0), (0, xa 536), (1, xi p0), (2, xi p1)]) rfl (by decide) rfl ?_
            refine xw_lo (L2 := [(0, xa 536), (1, xi p0), (2, xi p1), (3, xi 0)]) (List.forall_mem_cons.mpr ⟨rfl, List.forall_mem_cons.mpr ⟨rfl, List.forall_mem_cons.mpr ⟨rfl, List.forall_mem_cons.mpr ⟨rfl, fun _ h => absurd h List.not_mem_nil⟩⟩⟩⟩) ?_
            exact q
          exact ygl316_41 hB 1000000 _ _ _ _ cp0 cp1 rfl
        · refine xS_of (pc' := 41) (L' := [(0, xa 536), (1, xi p0), (2, xi p1), (3, xi 0)]) (st' := []) (m' := (xw_u m 536 1 0)) (fun ex ns r q => ?_) ?_
          · refine xw_if_neT rfl (w32_cg (w32_xR _ _ _)) h3 ?_
            refine xw_iconst rfl ?_
            refine xw_pfI rfl (xw_obd (by decide +kernel)) xk12_1 (qi := 1) rfl (xw_okI rfl) ?_
            refine xw_iconst rfl ?_
            refine xw_istore_n (L' := [(3, xi 0), (0, xa 536), (1, xi p0), (2, xi p1)]) rfl (by decide) rfl ?_
            refine xw_lo (L2 := [(0, xa 536), (1, xi p0), (2, xi p1), (3, xi 0)]) (List.forall_mem_cons.mpr ⟨rfl, List.forall_mem_cons.mpr ⟨rfl, List.forall_mem_cons.mpr ⟨rfl, List.forall_mem_cons.mpr ⟨rfl, fun _ h => absurd h List.not_mem_nil⟩⟩⟩⟩) ?_
            exact q
          exact ygl316_41 hB 1000000 _ _ _ _ cp0 cp1 rfl
      · refine xS_of (pc' := 41) (L' := [(0, xa 536), (1, xi p0), (2, xi p1), (3, xi 0)]) (st' := []) (m' := (xw_u m 536 1 1)) (fun ex ns r q => ?_) ?_
        · refine xw_ic_ltF rfl (w32_cg cp0) (w32_cg (w32_xR _ _ _)) h2 ?_
          refine xw_iconst rfl ?_
          refine xw_goto rfl ?_
          refine xw_pfI rfl (xw_obd (by decide +kernel)) xk12_1 (qi := 1) rfl (xw_okI rfl) ?_
          refine xw_iconst rfl ?_
          refine xw_istore_n (L' := [(3, xi 0), (0, xa 536), (1, xi p0), (2, xi p1)]) rfl (by decide) rfl ?_
          refine xw_lo (L2 := [(0, xa 536), (1, xi p0), (2, xi p1), (3, xi 0)]) (List.forall_mem_cons.mpr ⟨rfl, List.forall_mem_cons.mpr ⟨rfl, List.forall_mem_cons.mpr ⟨rfl, List.forall_mem_cons.mpr ⟨rfl, fun _ h => absurd h List.not_mem_nil⟩⟩⟩⟩) ?_
          exact q
        exact ygl316_41 hB 1000000 _ _ _ _ cp0 cp1 rfl
  · refine xS_of (pc' := 41) (L' := [(0, xa 536), (1, xi p0), (2, xi p1), (3, xi 0)]) (st' := []) (m' := (xw_u m 536 1 1)) (fun ex ns r q => ?_) ?_
    · refine xw_if_neT rfl (w32_cg (w32_xR _ _ _)) h0 ?_
      refine xw_iconst rfl ?_
      refine xw_goto rfl ?_
      refine xw_pfI rfl (xw_obd (by decide +kernel)) xk12_1 (qi := 1) rfl (xw_okI rfl) ?_
      refine xw_iconst rfl ?_
      refine xw_istore_n (L' := [(3, xi 0), (0, xa 536), (1, xi p0), (2, xi p1)]) rfl (by decide) rfl ?_
      refine xw_lo (L2 := [(0, xa 536), (1, xi p0), (2, xi p1), (3, xi 0)]) (List.forall_mem_cons.mpr ⟨rfl, List.forall_mem_cons.mpr ⟨rfl, List.forall_mem_cons.mpr ⟨rfl, List.forall_mem_cons.mpr ⟨rfl, fun _ h => absurd h List.not_mem_nil⟩⟩⟩⟩) ?_
      exact q
    exact ygl316_41 hB 1000000 _ _ _ _ cp0 cp1 rfl
theorem ygf317 {B : Nat} (hB : B ≤ 512) {xs : Nat → Int32} {SL d : Nat} : ∀ p0 p1 m, w32 p0 = p0 → w64 p1 = p1 → xS B xs SL (d + 0) 317 (6, (some .long), [], 13) 2 0 [(0, xa 536), (1, xi p0), (2, xj p1)] [] m (yf317 B p0 p1 m) := by
  intro p0 p1 m cp0 cp1
  unfold yf317
  refine xS_of (pc' := 5) (L' := [(0, xa 536), (1, xi p0), (2, xj p1)]) (st' := [xi (xR m 536 3), xa 536]) (m' := m) (fun ex ns r q => ?_) ?_
  · refine xw_aload_n rfl rfl rfl ?_
    refine xw_aload_n rfl rfl rfl ?_
    refine xw_gfIc (v := (m 536 3)) (v' := (xR m 536 3)) rfl (xw_obd (by decide +kernel)) xk12_3 (qi := 3) rfl rfl rfl ?_
    exact q
  refine xS_if (fun h0 => ?_) (fun h0 => ?_)
  · refine xS_of (pc' := 9) (L' := [(0, xa 536), (1, xi p0), (2, xj p1)]) (st' := [xi p0, xa 536]) (m' := m) (fun ex ns r q => ?_) ?_
    · refine xw_if_neF rfl (w32_cg (w32_xR _ _ _)) h0 ?_
      refine xw_iload_n rfl rfl ?_
      exact q
    refine xS_if (fun h1 => ?_) (fun h1 => ?_)
    · refine xS_of (pc' := 47) (L' := [(0, xa 536), (1, xi p0), (2, xj p1)]) (st' := [xj 0]) (m' := (xw_u m 536 1 1)) (fun ex ns r q => ?_) ?_
      · refine xw_if_ltT rfl (w32_cg cp0) h1 ?_
        refine xw_iconst rfl ?_
        refine xw_goto rfl ?_
        refine xw_pfI rfl (xw_obd (by decide +kernel)) xk12_1 (qi := 1) rfl (xw_okI rfl) ?_
        refine xw_aload_n rfl rfl rfl ?_
        refine xw_gfIc (v := 1) (v' := 1) rfl (xw_obd (by decide +kernel)) xk12_1 (qi := 1) rfl xw_us rfl ?_
        refine xw_if_leF rfl (w32_cg rfl) (Int.not_le.mpr (by decide)) ?_
        refine xw_lconst (e := 0) rfl rfl ?_
        exact q
      exact xS_ret (v := 0) rfl rfl rfl rfl
    · refine xS_of (pc' := 17) (L' := [(0, xa 536), (1, xi p0), (2, xj p1)]) (st' := [xi (xR m 536 19), xi p0, xa 536]) (m' := m) (fun ex ns r q => ?_) ?_
      · refine xw_if_ltF rfl (w32_cg cp0) h1 ?_
        refine xw_iload_n rfl rfl ?_
        refine xw_aload_n rfl rfl rfl ?_
        refine xw_gfIc (v := (m 536 19)) (v' := (xR m 536 19)) rfl (xw_obd (by decide +kernel)) xk12_19 (qi := 19) rfl rfl rfl ?_
        exact q
      refine xS_if (fun h2 => ?_) (fun h2 => ?_)
      · refine xS_of (pc' := 28) (L' := [(0, xa 536), (1, xi p0), (2, xj p1)]) (st' := [xi (xR m 536 2), xa 536]) (m' := m) (fun ex ns r q => ?_) ?_
        · refine xw_ic_ltT rfl (w32_cg cp0) (w32_cg (w32_xR _ _ _)) h2 ?_
          refine xw_aload_n rfl rfl rfl ?_
          refine xw_gfIc (v := (m 536 2)) (v' := (xR m 536 2)) rfl (xw_obd (by decide +kernel)) xk12_2 (qi := 2) rfl rfl rfl ?_
          exact q
        refine xS_if (fun h3 => ?_) (fun h3 => ?_)
        · refine xS_of (pc' := 47) (L' := [(0, xa 536), (1, xi p0), (2, xj p1)]) (st' := [xj 0]) (m' := (xw_u m 536 1 2)) (fun ex ns r q => ?_) ?_
          · refine xw_if_neF rfl (w32_cg (w32_xR _ _ _)) h3 ?_
            refine xw_iconst rfl ?_
            refine xw_goto rfl ?_
            refine xw_pfI rfl (xw_obd (by decide +kernel)) xk12_1 (qi := 1) rfl (xw_okI rfl) ?_
            refine xw_aload_n rfl rfl rfl ?_
            refine xw_gfIc (v := 2) (v' := 2) rfl (xw_obd (by decide +kernel)) xk12_1 (qi := 1) rfl xw_us rfl ?_
            refine xw_if_leF rfl (w32_cg rfl) (Int.not_le.mpr (by decide)) ?_
            refine xw_lconst (e := 0) rfl rfl ?_
            exact q
          exact xS_ret (v := 0) rfl rfl rfl rfl
        · refine xS_g (fun g4 => ?_)
          refine xS_of (pc' := 65) (L' := [(4, xj (xJ m 578 p0)), (0, xa 536), (1, xi p0), (2, xj p1)]) (st' := [xj (xJ m 578 p0)]) (m' := (xw_u (xw_u m 536 1 0) 578 p0 p1)) (fun ex ns r q => ?_) ?_
          · refine xw_if_neT rfl (w32_cg (w32_xR _ _ _)) h3 ?_
            refine xw_iconst rfl ?_
            refine xw_pfI rfl (xw_obd (by decide +kernel)) xk12_1 (qi := 1) rfl (xw_okI rfl) ?_
            refine xw_aload_n rfl rfl rfl ?_
            refine xw_gfIc (v := 0) (v' := 0) rfl (xw_obd (by decide +kernel)) xk12_1 (qi := 1) rfl xw_us rfl ?_
            refine xw_if_leT rfl (w32_cg rfl) (Int.not_lt.mp (by decide)) ?_
            refine xw_aload_n rfl rfl rfl ?_
            refine xw_gfR (n := 578) (e := 578) rfl (xw_obd (by decide +kernel)) (by decide +kernel) (by decide +kernel) rfl ?_
            refine xw_iload_n rfl rfl ?_
            refine xw_laldc (n := 8) (v := (m 578 p0)) (v' := (xJ m 578 p0)) rfl hB (xw_obd (by decide +kernel)) rfl g4 (xw_un (fun e => absurd e.1 (by decide)) rfl) rfl ?_
            refine xw_lstore (L' := [(4, xj (xJ m 578 p0)), (0, xa 536), (1, xi p0), (2, xj p1)]) rfl (by decide) rfl ?_
            refine xw_aload_n rfl rfl rfl ?_
            refine xw_gfR (n := 578) (e := 578) rfl (xw_obd (by decide +kernel)) (by decide +kernel) (by decide +kernel) rfl ?_
            refine xw_iload_n rfl rfl ?_
            refine xw_lload_n rfl rfl ?_
            refine xw_last (n := 8) rfl hB (xw_obd (by decide +kernel)) rfl g4 ?_
            refine xw_lload rfl rfl ?_
            exact q
          exact xS_ret (v := (xJ m 578 p0)) rfl rfl rfl (w64_xJ _ _ _)
      · refine xS_of (pc' := 47) (L' := [(0, xa 536), (1, xi p0), (2, xj p1)]) (st' := [xj 0]) (m' := (xw_u m 536 1 1)) (fun ex ns r q => ?_) ?_
        · refine xw_ic_ltF rfl (w32_cg cp0) (w32_cg (w32_xR _ _ _)) h2 ?_
          refine xw_iconst rfl ?_
          refine xw_goto rfl ?_
          refine xw_pfI rfl (xw_obd (by decide +kernel)) xk12_1 (qi := 1) rfl (xw_okI rfl) ?_
          refine xw_aload_n rfl rfl rfl ?_
          refine xw_gfIc (v := 1) (v' := 1) rfl (xw_obd (by decide +kernel)) xk12_1 (qi := 1) rfl xw_us rfl ?_
          refine xw_if_leF rfl (w32_cg rfl) (Int.not_le.mpr (by decide)) ?_
          refine xw_lconst (e := 0) rfl rfl ?_
          exact q
        exact xS_ret (v := 0) rfl rfl rfl rfl
  · refine xS_of (pc' := 47) (L' := [(0, xa 536), (1, xi p0), (2, xj p1)]) (st' := [xj 0]) (m' := (xw_u m 536 1 1)) (fun ex ns r q => ?_) ?_
    · refine xw_if_neT rfl (w32_cg (w32_xR _ _ _)) h0 ?_
      refine xw_iconst rfl ?_
      refine xw_goto rfl ?_
      refine xw_pfI rfl (xw_obd (by decide +kernel)) xk12_1 (qi := 1) rfl (xw_okI rfl) ?_
      refine xw_aload_n rfl rfl rfl ?_
      refine xw_gfIc (v := 1) (v' := 1) rfl (xw_obd (by decide +kernel)) xk12_1 (qi := 1) rfl xw_us rfl ?_
      refine xw_if_leF rfl (w32_cg rfl) (Int.not_le.mpr (by decide)) ?_
      refine xw_lconst (e := 0) rfl rfl ?_
      exact q
    exact xS_ret (v := 0) rfl rfl rfl rfl
theorem ygf320 {B : Nat} (hB : B ≤ 512) {xs : Nat → Int32} {SL d : Nat} : ∀ m, xS B xs SL (d + 0) 320 (1, (some .boolean), [], 13) 4 0 [(0, xa 536)] [] m (yf320 B m) := by
  intro m
  unfold yf320
  refine xS_of (pc' := 4) (L' := [(0, xa 536)]) (st' := [xi (xR m 536 2)]) (m' := m) (fun ex ns r q => ?_) ?_
  · refine xw_aload_n rfl rfl rfl ?_
    refine xw_gfIc (v := (m 536 2)) (v' := (xR m 536 2)) rfl (xw_obd (by decide +kernel)) xk12_2 (qi := 2) rfl rfl rfl ?_
    exact q
  refine xS_if (fun h0 => ?_) (fun h0 => ?_)
  · refine xS_of (pc' := 19) (L' := [(0, xa 536)]) (st' := [xi 0]) (m' := m) (fun ex ns r q => ?_) ?_
    · refine xw_if_eqT rfl (w32_cg (w32_xR _ _ _)) h0 ?_
      refine xw_iconst rfl ?_
      exact q
    exact xS_ret (v := 0) rfl rfl (xw_rtZ (Or.inl rfl)) (Or.inl rfl)
  · refine xS_of (pc' := 11) (L' := [(0, xa 536)]) (st' := [xi (xR m 536 3)]) (m' := m) (fun ex ns r q => ?_) ?_
    · refine xw_if_eqF rfl (w32_cg (w32_xR _ _ _)) h0 ?_
      refine xw_aload_n rfl rfl rfl ?_
      refine xw_gfIc (v := (m 536 3)) (v' := (xR m 536 3)) rfl (xw_obd (by decide +kernel)) xk12_3 (qi := 3) rfl rfl rfl ?_
      exact q
    refine xS_if (fun h1 => ?_) (fun h1 => ?_)
    · refine xS_of (pc' := 19) (L' := [(0, xa 536)]) (st' := [xi 1]) (m' := m) (fun ex ns r q => ?_) ?_
      · refine xw_if_neF rfl (w32_cg (w32_xR _ _ _)) h1 ?_
        refine xw_iconst rfl ?_
        refine xw_goto rfl ?_
        exact q
      exact xS_ret (v := 1) rfl rfl (xw_rtZ (Or.inr rfl)) (Or.inr rfl)
    · refine xS_of (pc' := 19) (L' := [(0, xa 536)]) (st' := [xi 0]) (m' := m) (fun ex ns r q => ?_) ?_
      · refine xw_if_neT rfl (w32_cg (w32_xR _ _ _)) h1 ?_
        refine xw_iconst rfl ?_
        exact q
      exact xS_ret (v := 0) rfl rfl (xw_rtZ (Or.inl rfl)) (Or.inl rfl)
theorem ygf319 {B : Nat} (hB : B ≤ 512) {xs : Nat → Int32} {SL d : Nat} : ∀ p0 m, w32 p0 = p0 → xS B xs SL (d + 1) 319 (2, (some .boolean), [], 13) 4 0 [(0, xa 536), (1, xi p0)] [] m (yf319 B p0 m) := by
  intro p0 m cp0
  unfold yf319
  refine xS_of (pc' := 1) (L' := [(0, xa 536), (1, xi p0)]) (st' := [xa 536]) (m' := m) (fun ex ns r q => ?_) ?_
  · refine xw_aload_n rfl rfl rfl ?_
    refine xw_lo (L2 := [(0, xa 536), (1, xi p0)]) (List.forall_mem_cons.mpr ⟨rfl, List.forall_mem_cons.mpr ⟨rfl, fun _ h => absurd h List.not_mem_nil⟩⟩) ?_
    exact q
  refine xS_call (q := 320) (n := 1) (kq := 4) (as := [xa 536]) (st1 := []) rfl rfl rfl rfl rfl rfl rfl rfl rfl rfl (fun _ => xw_rcv1 (t := 12) (xw_obd (by decide +kernel)) rfl) rfl (List.forall_mem_cons.mpr ⟨rfl, fun _ h => absurd h List.not_mem_nil⟩) (ygf320 hB _) (fun v1 m1 cv1 => ?_)
  refine xS_if (fun h0 => ?_) (fun h0 => ?_)
  · refine xS_of (pc' := 36) (L' := [(0, xa 536), (1, xi p0)]) (st' := [xi 0]) (m' := m1) (fun ex ns r q => ?_) ?_
    · refine xw_if_eqT rfl (w32_cg (w32_of (xw_zr cv1))) h0 ?_
      refine xw_iconst rfl ?_
      exact q
    exact xS_ret (v := 0) rfl rfl (xw_rtZ (Or.inl rfl)) (Or.inl rfl)
  · refine xS_of (pc' := 16) (L' := [(0, xa 536), (1, xi p0)]) (st' := [xi 8192, xi (w32 ((xR m1 536 32) + p0))]) (m' := m1) (fun ex ns r q => ?_) ?_
    · refine xw_if_eqF rfl (w32_cg (w32_of (xw_zr cv1))) h0 ?_
      refine xw_aload_n rfl rfl rfl ?_
      refine xw_gfIc (v := (m1 536 32)) (v' := (xR m1 536 32)) rfl (xw_obd (by decide +kernel)) xk12_32 (qi := 32) rfl rfl rfl ?_
      refine xw_iload_n rfl rfl ?_
      refine xw_iadd rfl ?_
      refine xw_sipush (e := 8192) rfl (by decide +kernel) ?_
      refine xw_cst (st' := [xi 8192, xi (w32 ((xR m1 536 32) + p0))]) (xw_sc rfl (xw_sc (xi_c rfl) rfl)) ?_
      exact q
    refine xS_if (fun h1 => ?_) (fun h1 => ?_)
    · refine xS_of (pc' := 36) (L' := [(0, xa 536), (1, xi p0)]) (st' := [xi 0]) (m' := m1) (fun ex ns r q => ?_) ?_
      · refine xw_ic_gtT rfl (w32_cg (w32_w _)) (w32_cg rfl) h1 ?_
        refine xw_iconst rfl ?_
        exact q
      exact xS_ret (v := 0) rfl rfl (xw_rtZ (Or.inl rfl)) (Or.inl rfl)
    · refine xS_of (pc' := 28) (L' := [(0, xa 536), (1, xi p0)]) (st' := [xi 20000, xi (w32 ((xR m1 536 33) + p0))]) (m' := m1) (fun ex ns r q => ?_) ?_
      · refine xw_ic_gtF rfl (w32_cg (w32_w _)) (w32_cg rfl) h1 ?_
        refine xw_aload_n rfl rfl rfl ?_
        refine xw_gfIc (v := (m1 536 33)) (v' := (xR m1 536 33)) rfl (xw_obd (by decide +kernel)) xk12_33 (qi := 33) rfl rfl rfl ?_
        refine xw_iload_n rfl rfl ?_
        refine xw_iadd rfl ?_
        refine xw_sipush (e := 20000) rfl (by decide +kernel) ?_
        refine xw_cst (st' := [xi 20000, xi (w32 ((xR m1 536 33) + p0))]) (xw_sc rfl (xw_sc (xi_c rfl) rfl)) ?_
        exact q
      refine xS_if (fun h2 => ?_) (fun h2 => ?_)
      · refine xS_of (pc' := 36) (L' := [(0, xa 536), (1, xi p0)]) (st' := [xi 0]) (m' := m1) (fun ex ns r q => ?_) ?_
        · refine xw_ic_gtT rfl (w32_cg (w32_w _)) (w32_cg rfl) h2 ?_
          refine xw_iconst rfl ?_
          exact q
        exact xS_ret (v := 0) rfl rfl (xw_rtZ (Or.inl rfl)) (Or.inl rfl)
      · refine xS_of (pc' := 36) (L' := [(0, xa 536), (1, xi p0)]) (st' := [xi 1]) (m' := m1) (fun ex ns r q => ?_) ?_
        · refine xw_ic_gtF rfl (w32_cg (w32_w _)) (w32_cg rfl) h2 ?_
          refine xw_iconst rfl ?_
          refine xw_goto rfl ?_
          exact q
        exact xS_ret (v := 1) rfl rfl (xw_rtZ (Or.inr rfl)) (Or.inr rfl)
theorem ysl318_49 {B : Nat} (hB : B ≤ 512) {xs : Nat → Int32} {SL d : Nat} {r35 : Int → Int → xw_M → xP} (hr35 : ∀ x1 x2 m, w32 x1 = x1 → w32 x2 = x2 → xS B xs SL (d + 2) 318 (4, (some .int), [], 13) 1 35 [(0, xa 536), (1, xi x1), (2, xi x2)] [] m (r35 x1 x2 m)) {r49 : Int → Int → Int → xw_M → xP} (hr49 : ∀ x1 x2 x3 m, w32 x1 = x1 → w32 x2 = x2 → w32 x3 = x3 → xS B xs SL (d + 2) 318 (4, (some .int), [], 13) 1 49 [(0, xa 536), (1, xi x1), (2, xi x2), (3, xi x3)] [] m (r49 x1 x2 x3 m)) : ∀ x1 x2 x3 m, w32 x1 = x1 → w32 x2 = x2 → w32 x3 = x3 → xS B xs SL (d + 2) 318 (4, (some .int), [], 13) 1 49 [(0, xa 536), (1, xi x1), (2, xi x2), (3, xi x3)] [] m (yl318_49 B r35 r49 x1 x2 x3 m) := by
  intro x1 x2 x3 m c1 c2 c3
  unfold yl318_49
  refine xS_of (pc' := 52) (L' := [(0, xa 536), (1, xi x1), (2, xi x2), (3, xi x3)]) (st' := [xi 8, xi x3]) (m' := m) (fun ex ns r q => ?_) ?_
  · refine xw_iload_n rfl rfl ?_
    refine xw_bipush (e := 8) rfl (by decide +kernel) ?_
    exact q
  refine xS_if (fun h0 => ?_) (fun h0 => ?_)
  · refine xS_g (fun g1 => ?_)
    refine xS_g (fun g2 => ?_)
    refine xS_of (pc' := 49) (L' := [(0, xa 536), (1, xi x1), (2, xi x2), (3, xi (w32 (x3 + 1)))]) (st' := []) (m' := (xw_u (xw_u m 575 ((8 * ((xR m 536 31) + (xR m 536 32))) + x3) (xR m 577 x3)) 576 ((8 * ((xR m 536 31) + (xR m 536 32))) + x3) (xJ m 578 x3))) (fun ex ns r q => ?_) ?_
    · refine xw_ic_geF rfl (w32_cg c3) (w32_cg rfl) (Int.not_le.mpr h0) ?_
      refine xw_aload_n rfl rfl rfl ?_
      refine xw_gfR (n := 575) (e := 575) rfl (xw_obd (by decide +kernel)) (by decide +kernel) (by decide +kernel) rfl ?_
      refine xw_bipush (e := 8) rfl (by decide +kernel) ?_
      refine xw_aload_n rfl rfl rfl ?_
      refine xw_gfIc (v := (m 536 31)) (v' := (xR m 536 31)) rfl (xw_obd (by decide +kernel)) xk12_31 (qi := 31) rfl rfl rfl ?_
      refine xw_aload_n rfl rfl rfl ?_
      refine xw_gfIc (v := (m 536 32)) (v' := (xR m 536 32)) rfl (xw_obd (by decide +kernel)) xk12_32 (qi := 32) rfl rfl rfl ?_
      refine xw_iadd rfl ?_
      refine xw_imul rfl ?_
      refine xw_iload_n rfl rfl ?_
      refine xw_iadd rfl ?_
      refine xw_aload_n rfl rfl rfl ?_
      refine xw_gfR (n := 577) (e := 577) rfl (xw_obd (by decide +kernel)) (by decide +kernel) (by decide +kernel) rfl ?_
      refine xw_iload_n rfl rfl ?_
      refine xw_ialdc (n := 8) (v := (m 577 x3)) (v' := (xR m 577 x3)) rfl hB (xw_obd (by decide +kernel)) rfl g1 rfl rfl ?_
      refine xw_iast (n := 160000) rfl hB (xw_obd (by decide +kernel)) rfl g2 ?_
      refine xw_aload_n rfl rfl rfl ?_
      refine xw_gfR (n := 576) (e := 576) rfl (xw_obd (by decide +kernel)) (by decide +kernel) (by decide +kernel) rfl ?_
      refine xw_bipush (e := 8) rfl (by decide +kernel) ?_
      refine xw_aload_n rfl rfl rfl ?_
      refine xw_gfIc (v := (m 536 31)) (v' := (xR m 536 31)) rfl (xw_obd (by decide +kernel)) xk12_31 (qi := 31) rfl (xw_un (fun e => absurd e.1 (by decide)) rfl) rfl ?_
      refine xw_aload_n rfl rfl rfl ?_
      refine xw_gfIc (v := (m 536 32)) (v' := (xR m 536 32)) rfl (xw_obd (by decide +kernel)) xk12_32 (qi := 32) rfl (xw_un (fun e => absurd e.1 (by decide)) rfl) rfl ?_
      refine xw_iadd rfl ?_
      refine xw_imul rfl ?_
      refine xw_iload_n rfl rfl ?_
      refine xw_iadd rfl ?_
      refine xw_aload_n rfl rfl rfl ?_
      refine xw_gfR (n := 578) (e := 578) rfl (xw_obd (by decide +kernel)) (by decide +kernel) (by decide +kernel) rfl ?_
      refine xw_iload_n rfl rfl ?_
      refine xw_laldc (n := 8) (v := (m 578 x3)) (v' := (xJ m 578 x3)) rfl hB (xw_obd (by decide +kernel)) rfl g1 (xw_un (fun e => absurd e.1 (by decide)) rfl) rfl ?_
      refine xw_last (n := 160000) rfl hB (xw_obd (by decide +kernel)) rfl g2 ?_
      refine xw_iincc (z := (w32 (x3 + 1))) (L' := [(3, xi (w32 (x3 + 1))), (0, xa 536), (1, xi x1), (2, xi x2)]) rfl rfl (by decide) rfl rfl ?_
      refine xw_goto rfl ?_
      refine xw_lo (L2 := [(0, xa 536), (1, xi x1), (2, xi x2), (3, xi (w32 (x3 + 1)))]) (List.forall_mem_cons.mpr ⟨rfl, List.forall_mem_cons.mpr ⟨rfl, List.forall_mem_cons.mpr ⟨rfl, List.forall_mem_cons.mpr ⟨rfl, fun _ h => absurd h List.not_mem_nil⟩⟩⟩⟩) ?_
      exact q
    exact hr49 _ _ _ _ c1 c2 (w32_w _)
  · refine xS_of (pc' := 35) (L' := [(0, xa 536), (1, xi x1), (2, xi (w32 (x2 + 1)))]) (st' := []) (m' := (xw_u (xw_u m 536 32 ((xR m 536 32) + 1)) 536 33 ((xR m 536 33) + 1))) (fun ex ns r q => ?_) ?_
    · refine xw_ic_geT rfl (w32_cg c3) (w32_cg rfl) (Int.not_lt.mp h0) ?_
      refine xw_aload_n rfl rfl rfl ?_
      refine xw_dup rfl rfl ?_
      refine xw_gfIc (v := (m 536 32)) (v' := (xR m 536 32)) rfl (xw_obd (by decide +kernel)) xk12_32 (qi := 32) rfl rfl rfl ?_
      refine xw_iconst rfl ?_
      refine xw_iadd rfl ?_
      refine xw_pfI rfl (xw_obd (by decide +kernel)) xk12_32 (qi := 32) rfl (xw_okI rfl) ?_
      refine xw_aload_n rfl rfl rfl ?_
      refine xw_dup rfl rfl ?_
      refine xw_gfIc (v := (m 536 33)) (v' := (xR m 536 33)) rfl (xw_obd (by decide +kernel)) xk12_33 (qi := 33) rfl (xw_un (fun e => absurd e.2 (by decide)) rfl) rfl ?_
      refine xw_iconst rfl ?_
      refine xw_iadd rfl ?_
      refine xw_pfI rfl (xw_obd (by decide +kernel)) xk12_33 (qi := 33) rfl (xw_okI rfl) ?_
      refine xw_iincc (z := (w32 (x2 + 1))) (L' := [(2, xi (w32 (x2 + 1))), (0, xa 536), (1, xi x1), (3, xi x3)]) rfl rfl (by decide) rfl rfl ?_
      refine xw_goto rfl ?_
      refine xw_lo (L2 := [(0, xa 536), (1, xi x1), (2, xi (w32 (x2 + 1)))]) (List.forall_mem_cons.mpr ⟨rfl, List.forall_mem_cons.mpr ⟨rfl, List.forall_mem_cons.mpr ⟨rfl, fun _ h => absurd h List.not_mem_nil⟩⟩⟩) ?_
      exact q
    exact hr35 _ _ _ c1 (w32_w _)
theorem ygl318_49 {B : Nat} (hB : B ≤ 512) {xs : Nat → Int32} {SL d : Nat} {r35 : Int → Int → xw_M → xP} (hr35 : ∀ x1 x2 m, w32 x1 = x1 → w32 x2 = x2 → xS B xs SL (d + 2) 318 (4, (some .int), [], 13) 1 35 [(0, xa 536), (1, xi x1), (2, xi x2)] [] m (r35 x1 x2 m)) : ∀ n x1 x2 x3 m, w32 x1 = x1 → w32 x2 = x2 → w32 x3 = x3 → xS B xs SL (d + 2) 318 (4, (some .int), [], 13) 1 49 [(0, xa 536), (1, xi x1), (2, xi x2), (3, xi x3)] [] m (xl3 (yl318_49 B r35) n x1 x2 x3 m) := by
  intro n
  induction n with
  | zero => intro x1 x2 x3 m c1 c2 c3; exact xS_none
  | succ n ih => exact ysl318_49 hB hr35 ih
theorem ygk318_137 {B : Nat} (hB : B ≤ 512) {xs : Nat → Int32} {SL d : Nat} : ∀ m, xS B xs SL (d + 2) 318 (4, (some .int), [], 13) 1 137 [(0, xa 536)] [] m (yk318_137 B m) := by
  intro m
  unfold yk318_137
  refine xS_of (pc' := 141) (L' := [(0, xa 536)]) (st' := [xi (xR m 536 1)]) (m' := m) (fun ex ns r q => ?_) ?_
  · refine xw_aload_n rfl rfl rfl ?_
    refine xw_gfIc (v := (m 536 1)) (v' := (xR m 536 1)) rfl (xw_obd (by decide +kernel)) xk12_1 (qi := 1) rfl rfl rfl ?_
    exact q
  refine xS_if (fun h0 => ?_) (fun h0 => ?_)
  · refine xS_of (pc' := 152) (L' := [(0, xa 536)]) (st' := [xi 0]) (m' := m) (fun ex ns r q => ?_) ?_
    · refine xw_if_leF rfl (w32_cg (w32_xR _ _ _)) (Int.not_le.mpr h0) ?_
      refine xw_iconst rfl ?_
      refine xw_goto rfl ?_
      exact q
    exact xS_ret (v := 0) rfl rfl xw_rtI rfl
  · refine xS_of (pc' := 152) (L' := [(0, xa 536)]) (st' := [xi (xR m 536 32)]) (m' := m) (fun ex ns r q => ?_) ?_
    · refine xw_if_leT rfl (w32_cg (w32_xR _ _ _)) (Int.not_lt.mp h0) ?_
      refine xw_aload_n rfl rfl rfl ?_
      refine xw_gfIc (v := (m 536 32)) (v' := (xR m 536 32)) rfl (xw_obd (by decide +kernel)) xk12_32 (qi := 32) rfl rfl rfl ?_
      exact q
    exact xS_ret (v := (xR m 536 32)) rfl rfl xw_rtI (w32_xR _ _ _)
theorem ysl318_35 {B : Nat} (hB : B ≤ 512) {xs : Nat → Int32} {SL d : Nat} {r35 : Int → Int → xw_M → xP} (hr35 : ∀ x1 x2 m, w32 x1 = x1 → w32 x2 = x2 → xS B xs SL (d + 2) 318 (4, (some .int), [], 13) 1 35 [(0, xa 536), (1, xi x1), (2, xi x2)] [] m (r35 x1 x2 m)) : ∀ x1 x2 m, w32 x1 = x1 → w32 x2 = x2 → xS B xs SL (d + 2) 318 (4, (some .int), [], 13) 1 35 [(0, xa 536), (1, xi x1), (2, xi x2)] [] m (yl318_35 B r35 x1 x2 m) := by
  intro x1 x2 m c1 c2
  unfold yl318_35
  refine xS_of (pc' := 37) (L' := [(0, xa 536), (1, xi x1), (2, xi x2)]) (st' := [xi x1, xi x2]) (m' := m) (fun ex ns r q => ?_) ?_
  · refine xw_iload_n rfl rfl ?_
    refine xw_iload_n rfl rfl ?_
    exact q
  refine xS_if (fun h0 => ?_) (fun h0 => ?_)
  · refine xS_of (pc' := 44) (L' := [(0, xa 536), (1, xi x1), (2, xi x2)]) (st' := [xi (xR m 536 1)]) (m' := m) (fun ex ns r q => ?_) ?_
    · refine xw_ic_geF rfl (w32_cg c2) (w32_cg c1) (Int.not_le.mpr h0) ?_
      refine xw_aload_n rfl rfl rfl ?_
      refine xw_gfIc (v := (m 536 1)) (v' := (xR m 536 1)) rfl (xw_obd (by decide +kernel)) xk12_1 (qi := 1) rfl rfl rfl ?_
      exact q
    refine xS_if (fun h1 => ?_) (fun h1 => ?_)
    · refine xS_of (pc' := 49) (L' := [(0, xa 536), (1, xi x1), (2, xi x2), (3, xi 0)]) (st' := []) (m' := m) (fun ex ns r q => ?_) ?_
      · refine xw_if_neF rfl (w32_cg (w32_xR _ _ _)) h1 ?_
        refine xw_iconst rfl ?_
        refine xw_istore_n (L' := [(3, xi 0), (0, xa 536), (1, xi x1), (2, xi x2)]) rfl (by decide) rfl ?_
        refine xw_lo (L2 := [(0, xa 536), (1, xi x1), (2, xi x2), (3, xi 0)]) (List.forall_mem_cons.mpr ⟨rfl, List.forall_mem_cons.mpr ⟨rfl, List.forall_mem_cons.mpr ⟨rfl, List.forall_mem_cons.mpr ⟨rfl, fun _ h => absurd h List.not_mem_nil⟩⟩⟩⟩) ?_
        exact q
      exact ygl318_49 hB hr35 1000000 _ _ _ _ c1 c2 rfl
    · refine xS_of (pc' := 137) (L' := [(0, xa 536)]) (st' := []) (m' := m) (fun ex ns r q => ?_) ?_
      · refine xw_if_neT rfl (w32_cg (w32_xR _ _ _)) h1 ?_
        refine xw_lo (L2 := [(0, xa 536)]) (List.forall_mem_cons.mpr ⟨rfl, fun _ h => absurd h List.not_mem_nil⟩) ?_
        exact q
      exact ygk318_137 hB _
  · refine xS_of (pc' := 137) (L' := [(0, xa 536)]) (st' := []) (m' := m) (fun ex ns r q => ?_) ?_
    · refine xw_ic_geT rfl (w32_cg c2) (w32_cg c1) (Int.not_lt.mp h0) ?_
      refine xw_lo (L2 := [(0, xa 536)]) (List.forall_mem_cons.mpr ⟨rfl, fun _ h => absurd h List.not_mem_nil⟩) ?_
      exact q
    exact ygk318_137 hB _
theorem ygl318_35 {B : Nat} (hB : B ≤ 512) {xs : Nat → Int32} {SL d : Nat} : ∀ n x1 x2 m, w32 x1 = x1 → w32 x2 = x2 → xS B xs SL (d + 2) 318 (4, (some .int), [], 13) 1 35 [(0, xa 536), (1, xi x1), (2, xi x2)] [] m (xl2 (yl318_35 B) n x1 x2 m) := by
  intro n
  induction n with
  | zero => intro x1 x2 m c1 c2; exact xS_none
  | succ n ih => exact ysl318_35 hB ih
theorem ygf318 {B : Nat} (hB : B ≤ 512) {xs : Nat → Int32} {SL d : Nat} : ∀ p0 m, w32 p0 = p0 → xS B xs SL (d + 2) 318 (4, (some .int), [], 13) 1 0 [(0, xa 536), (1, xi p0)] [] m (yf318 B p0 m) := by
  intro p0 m cp0
  unfold yf318
  refine xS_of (pc' := 3) (L' := [(0, xa 536), (1, xi p0)]) (st' := [xi 1, xi p0, xa 536]) (m' := m) (fun ex ns r q => ?_) ?_
  · refine xw_aload_n rfl rfl rfl ?_
    refine xw_iload_n rfl rfl ?_
    refine xw_iconst rfl ?_
    exact q
  refine xS_if (fun h0 => ?_) (fun h0 => ?_)
  · refine xS_of (pc' := 35) (L' := [(0, xa 536), (1, xi p0), (2, xi 0)]) (st' := []) (m' := (xw_u m 536 1 1)) (fun ex ns r q => ?_) ?_
    · refine xw_ic_ltT rfl (w32_cg cp0) (w32_cg rfl) h0 ?_
      refine xw_iconst rfl ?_
      refine xw_goto rfl ?_
      refine xw_pfI rfl (xw_obd (by decide +kernel)) xk12_1 (qi := 1) rfl (xw_okI rfl) ?_
      refine xw_iconst rfl ?_
      refine xw_istore_n (L' := [(2, xi 0), (0, xa 536), (1, xi p0)]) rfl (by decide) rfl ?_
      refine xw_lo (L2 := [(0, xa 536), (1, xi p0), (2, xi 0)]) (List.forall_mem_cons.mpr ⟨rfl, List.forall_mem_cons.mpr ⟨rfl, List.forall_mem_cons.mpr ⟨rfl, fun _ h => absurd h List.not_mem_nil⟩⟩⟩) ?_
      exact q
    exact ygl318_35 hB 1000000 _ _ _ cp0 rfl
  · refine xS_of (pc' := 10) (L' := [(0, xa 536), (1, xi p0)]) (st' := [xi 1000, xi p0, xa 536]) (m' := m) (fun ex ns r q => ?_) ?_
    · refine xw_ic_ltF rfl (w32_cg cp0) (w32_cg rfl) h0 ?_
      refine xw_iload_n rfl rfl ?_
      refine xw_sipush (e := 1000) rfl (by decide +kernel) ?_
      exact q
    refine xS_if (fun h1 => ?_) (fun h1 => ?_)
    · refine xS_of (pc' := 35) (L' := [(0, xa 536), (1, xi p0), (2, xi 0)]) (st' := []) (m' := (xw_u m 536 1 1)) (fun ex ns r q => ?_) ?_
      · refine xw_ic_leF rfl (w32_cg cp0) (w32_cg rfl) (Int.not_le.mpr h1) ?_
        refine xw_iconst rfl ?_
        refine xw_goto rfl ?_
        refine xw_pfI rfl (xw_obd (by decide +kernel)) xk12_1 (qi := 1) rfl (xw_okI rfl) ?_
        refine xw_iconst rfl ?_
        refine xw_istore_n (L' := [(2, xi 0), (0, xa 536), (1, xi p0)]) rfl (by decide) rfl ?_
        refine xw_lo (L2 := [(0, xa 536), (1, xi p0), (2, xi 0)]) (List.forall_mem_cons.mpr ⟨rfl, List.forall_mem_cons.mpr ⟨rfl, List.forall_mem_cons.mpr ⟨rfl, fun _ h => absurd h List.not_mem_nil⟩⟩⟩) ?_
        exact q
      exact ygl318_35 hB 1000000 _ _ _ cp0 rfl
    · refine xS_of (pc' := 19) (L' := [(0, xa 536), (1, xi p0)]) (st' := [xi p0, xa 536, xa 536]) (m' := m) (fun ex ns r q => ?_) ?_
      · refine xw_ic_leT rfl (w32_cg cp0) (w32_cg rfl) (Int.not_lt.mp h1) ?_
        refine xw_aload_n rfl rfl rfl ?_
        refine xw_iload_n rfl rfl ?_
        refine xw_lo (L2 := [(0, xa 536), (1, xi p0)]) (List.forall_mem_cons.mpr ⟨rfl, List.forall_mem_cons.mpr ⟨rfl, fun _ h => absurd h List.not_mem_nil⟩⟩) ?_
        exact q
      refine xS_call (q := 319) (n := 2) (kq := 4) (as := [xa 536, xi p0]) (st1 := [xa 536]) rfl rfl rfl rfl rfl rfl rfl rfl rfl rfl (fun _ => xw_rcv1 (t := 12) (xw_obd (by decide +kernel)) rfl) rfl (List.forall_mem_cons.mpr ⟨rfl, List.forall_mem_cons.mpr ⟨rfl, fun _ h => absurd h List.not_mem_nil⟩⟩) (ygf319 hB _ _ cp0) (fun v1 m1 cv1 => ?_)
      refine xS_if (fun h2 => ?_) (fun h2 => ?_)
      · refine xS_of (pc' := 35) (L' := [(0, xa 536), (1, xi p0), (2, xi 0)]) (st' := []) (m' := (xw_u m1 536 1 2)) (fun ex ns r q => ?_) ?_
        · refine xw_if_neF rfl (w32_cg (w32_of (xw_zr cv1))) h2 ?_
          refine xw_iconst rfl ?_
          refine xw_goto rfl ?_
          refine xw_pfI rfl (xw_obd (by decide +kernel)) xk12_1 (qi := 1) rfl (xw_okI rfl) ?_
          refine xw_iconst rfl ?_
          refine xw_istore_n (L' := [(2, xi 0), (0, xa 536), (1, xi p0)]) rfl (by decide) rfl ?_
          refine xw_lo (L2 := [(0, xa 536), (1, xi p0), (2, xi 0)]) (List.forall_mem_cons.mpr ⟨rfl, List.forall_mem_cons.mpr ⟨rfl, List.forall_mem_cons.mpr ⟨rfl, fun _ h => absurd h List.not_mem_nil⟩⟩⟩) ?_
          exact q
        exact ygl318_35 hB 1000000 _ _ _ cp0 rfl
      · refine xS_of (pc' := 35) (L' := [(0, xa 536), (1, xi p0), (2, xi 0)]) (st' := []) (m' := (xw_u m1 536 1 0)) (fun ex ns r q => ?_) ?_
        · refine xw_if_neT rfl (w32_cg (w32_of (xw_zr cv1))) h2 ?_
          refine xw_iconst rfl ?_
          refine xw_pfI rfl (xw_obd (by decide +kernel)) xk12_1 (qi := 1) rfl (xw_okI rfl) ?_
          refine xw_iconst rfl ?_
          refine xw_istore_n (L' := [(2, xi 0), (0, xa 536), (1, xi p0)]) rfl (by decide) rfl ?_
          refine xw_lo (L2 := [(0, xa 536), (1, xi p0), (2, xi 0)]) (List.forall_mem_cons.mpr ⟨rfl, List.forall_mem_cons.mpr ⟨rfl, List.forall_mem_cons.mpr ⟨rfl, fun _ h => absurd h List.not_mem_nil⟩⟩⟩) ?_
          exact q
        exact ygl318_35 hB 1000000 _ _ _ cp0 rfl
theorem ysl321_120 {B : Nat} (hB : B ≤ 512) {xs : Nat → Int32} {SL d : Nat} {r39 : Int → Int → Int → xw_M → xP} (hr39 : ∀ x1 x4 x6 m, w32 x1 = x1 → w64 x4 = x4 → w32 x6 = x6 → xS B xs SL (d + 2) 321 (8, (some .int), [], 13) 1 39 [(0, xa 536), (1, xi x1), (4, xj x4), (6, xi x6)] [] m (r39 x1 x4 x6 m)) {r120 : Int → Int → Int → Int → xw_M → xP} (hr120 : ∀ x1 x4 x6 x7 m, w32 x1 = x1 → w64 x4 = x4 → w32 x6 = x6 → w32 x7 = x7 → xS B xs SL (d + 2) 321 (8, (some .int), [], 13) 1 120 [(0, xa 536), (1, xi x1), (4, xj x4), (6, xi x6), (7, xi x7)] [] m (r120 x1 x4 x6 x7 m)) : ∀ x1 x4 x6 x7 m, w32 x1 = x1 → w64 x4 = x4 → w32 x6 = x6 → w32 x7 = x7 → xS B xs SL (d + 2) 321 (8, (some .int), [], 13) 1 120 [(0, xa 536), (1, xi x1), (4, xj x4), (6, xi x6), (7, xi x7)] [] m (yl321_120 B r39 r120 x1 x4 x6 x7 m) := by
  intro x1 x4 x6 x7 m c1 c4 c6 c7
  unfold yl321_120
  refine xS_of (pc' := 126) (L' := [(0, xa 536), (1, xi x1), (4, xj x4), (6, xi x6), (7, xi x7)]) (st' := [xi (xR m 536 19), xi x7]) (m' := m) (fun ex ns r q => ?_) ?_
  · refine xw_iload rfl rfl ?_
    refine xw_aload_n rfl rfl rfl ?_
    refine xw_gfIc (v := (m 536 19)) (v' := (xR m 536 19)) rfl (xw_obd (by decide +kernel)) xk12_19 (qi := 19) rfl rfl rfl ?_
    exact q
  refine xS_if (fun h0 => ?_) (fun h0 => ?_)
  · refine xS_g (fun g1 => ?_)
    refine xS_g (fun g2 => ?_)
    refine xS_of (pc' := 120) (L' := [(0, xa 536), (1, xi x1), (4, xj (w64 ((x4 * 6364136223846793005) + 1442695040888963407))), (6, xi x6), (7, xi (w32 (x7 + 1)))]) (st' := []) (m' := (xw_u m 576 ((8 * ((xR m 536 31) + (xR m 536 32))) + x7) (xw_lshrf (w64 ((x4 * 6364136223846793005) + 1442695040888963407)) (8 * (x7 % 8))))) (fun ex ns r q => ?_) ?_
    · refine xw_ic_geF rfl (w32_cg c7) (w32_cg (w32_xR _ _ _)) (Int.not_le.mpr h0) ?_
      refine xw_lload rfl rfl ?_
      refine xw_ldc2 (e := 6364136223846793005) rfl (by decide +kernel) ?_
      refine xw_lmul rfl ?_
      refine xw_ldc2 (e := 1442695040888963407) rfl (by decide +kernel) ?_
      refine xw_ladd rfl ?_
      refine xw_cst (st' := [xj (w64 ((x4 * 6364136223846793005) + 1442695040888963407))]) (xw_sc (xj_c rfl) rfl) ?_
      refine xw_lstore (L' := [(4, xj (w64 ((x4 * 6364136223846793005) + 1442695040888963407))), (0, xa 536), (1, xi x1), (6, xi x6), (7, xi x7)]) rfl (by decide) rfl ?_
      refine xw_aload_n rfl rfl rfl ?_
      refine xw_gfR (n := 576) (e := 576) rfl (xw_obd (by decide +kernel)) (by decide +kernel) (by decide +kernel) rfl ?_
      refine xw_bipush (e := 8) rfl (by decide +kernel) ?_
      refine xw_aload_n rfl rfl rfl ?_
      refine xw_gfIc (v := (m 536 31)) (v' := (xR m 536 31)) rfl (xw_obd (by decide +kernel)) xk12_31 (qi := 31) rfl rfl rfl ?_
      refine xw_aload_n rfl rfl rfl ?_
      refine xw_gfIc (v := (m 536 32)) (v' := (xR m 536 32)) rfl (xw_obd (by decide +kernel)) xk12_32 (qi := 32) rfl rfl rfl ?_
      refine xw_iadd rfl ?_
      refine xw_imul rfl ?_
      refine xw_iload rfl rfl ?_
      refine xw_iadd rfl ?_
      refine xw_lload rfl rfl ?_
      refine xw_bipush (e := 8) rfl (by decide +kernel) ?_
      refine xw_iload rfl rfl ?_
      refine xw_bipush (e := 8) rfl (by decide +kernel) ?_
      refine xw_irem (z := (x7 % 8)) rfl (xw_iremn ⟨(by decide), (w32_cg rfl).2⟩) (xw_ireme ⟨g1, (w32_cg c7).2⟩ ⟨(by decide), (w32_cg rfl).2⟩) ?_
      refine xw_imul rfl ?_
      refine xw_lshr (z := (xw_lshrf (w64 ((x4 * 6364136223846793005) + 1442695040888963407)) (8 * (x7 % 8)))) rfl (xw_lshre _ _) ?_
      refine xw_last (n := 160000) rfl hB (xw_obd (by decide +kernel)) rfl g2 ?_
      refine xw_iincc (z := (w32 (x7 + 1))) (L' := [(7, xi (w32 (x7 + 1))), (4, xj (w64 ((x4 * 6364136223846793005) + 1442695040888963407))), (0, xa 536), (1, xi x1), (6, xi x6)]) rfl rfl (by decide) rfl rfl ?_
      refine xw_goto rfl ?_
      refine xw_lo (L2 := [(0, xa 536), (1, xi x1), (4, xj (w64 ((x4 * 6364136223846793005) + 1442695040888963407))), (6, xi x6), (7, xi (w32 (x7 + 1)))]) (List.forall_mem_cons.mpr ⟨rfl, List.forall_mem_cons.mpr ⟨rfl, List.forall_mem_cons.mpr ⟨rfl, List.forall_mem_cons.mpr ⟨rfl, List.forall_mem_cons.mpr ⟨rfl, fun _ h => absurd h List.not_mem_nil⟩⟩⟩⟩⟩) ?_
      exact q
    exact hr120 _ _ _ _ _ c1 (w64_w _) c6 (w32_w _)
  · refine xS_of (pc' := 39) (L' := [(0, xa 536), (1, xi x1), (4, xj x4), (6, xi (w32 (x6 + 1)))]) (st' := []) (m' := (xw_u (xw_u m 536 32 ((xR m 536 32) + 1)) 536 33 ((xR m 536 33) + 1))) (fun ex ns r q => ?_) ?_
    · refine xw_ic_geT rfl (w32_cg c7) (w32_cg (w32_xR _ _ _)) (Int.not_lt.mp h0) ?_
      refine xw_aload_n rfl rfl rfl ?_
      refine xw_dup rfl rfl ?_
      refine xw_gfIc (v := (m 536 32)) (v' := (xR m 536 32)) rfl (xw_obd (by decide +kernel)) xk12_32 (qi := 32) rfl rfl rfl ?_
      refine xw_iconst rfl ?_
      refine xw_iadd rfl ?_
      refine xw_pfI rfl (xw_obd (by decide +kernel)) xk12_32 (qi := 32) rfl (xw_okI rfl) ?_
      refine xw_aload_n rfl rfl rfl ?_
      refine xw_dup rfl rfl ?_
      refine xw_gfIc (v := (m 536 33)) (v' := (xR m 536 33)) rfl (xw_obd (by decide +kernel)) xk12_33 (qi := 33) rfl (xw_un (fun e => absurd e.2 (by decide)) rfl) rfl ?_
      refine xw_iconst rfl ?_
      refine xw_iadd rfl ?_
      refine xw_pfI rfl (xw_obd (by decide +kernel)) xk12_33 (qi := 33) rfl (xw_okI rfl) ?_
      refine xw_iincc (z := (w32 (x6 + 1))) (L' := [(6, xi (w32 (x6 + 1))), (0, xa 536), (1, xi x1), (4, xj x4), (7, xi x7)]) rfl rfl (by decide) rfl rfl ?_
      refine xw_goto rfl ?_
      refine xw_lo (L2 := [(0, xa 536), (1, xi x1), (4, xj x4), (6, xi (w32 (x6 + 1)))]) (List.forall_mem_cons.mpr ⟨rfl, List.forall_mem_cons.mpr ⟨rfl, List.forall_mem_cons.mpr ⟨rfl, List.forall_mem_cons.mpr ⟨rfl, fun _ h => absurd h List.not_mem_nil⟩⟩⟩⟩) ?_
      exact q
    exact hr39 _ _ _ _ c1 c4 (w32_w _)
theorem ygl321_120 {B : Nat} (hB : B ≤ 512) {xs : Nat → Int32} {SL d : Nat} {r39 : Int → Int → Int → xw_M → xP} (hr39 : ∀ x1 x4 x6 m, w32 x1 = x1 → w64 x4 = x4 → w32 x6 = x6 → xS B xs SL (d + 2) 321 (8, (some .int), [], 13) 1 39 [(0, xa 536), (1, xi x1), (4, xj x4), (6, xi x6)] [] m (r39 x1 x4 x6 m)) : ∀ n x1 x4 x6 x7 m, w32 x1 = x1 → w64 x4 = x4 → w32 x6 = x6 → w32 x7 = x7 → xS B xs SL (d + 2) 321 (8, (some .int), [], 13) 1 120 [(0, xa 536), (1, xi x1), (4, xj x4), (6, xi x6), (7, xi x7)] [] m (xl4 (yl321_120 B r39) n x1 x4 x6 x7 m) := by
  intro n
  induction n with
  | zero => intro x1 x4 x6 x7 m c1 c4 c6 c7; exact xS_none
  | succ n ih => exact ysl321_120 hB hr39 ih
theorem ysl321_55 {B : Nat} (hB : B ≤ 512) {xs : Nat → Int32} {SL d : Nat} {r39 : Int → Int → Int → xw_M → xP} (hr39 : ∀ x1 x4 x6 m, w32 x1 = x1 → w64 x4 = x4 → w32 x6 = x6 → xS B xs SL (d + 2) 321 (8, (some .int), [], 13) 1 39 [(0, xa 536), (1, xi x1), (4, xj x4), (6, xi x6)] [] m (r39 x1 x4 x6 m)) {r55 : Int → Int → Int → Int → xw_M → xP} (hr55 : ∀ x1 x4 x6 x7 m, w32 x1 = x1 → w64 x4 = x4 → w32 x6 = x6 → w32 x7 = x7 → xS B xs SL (d + 2) 321 (8, (some .int), [], 13) 1 55 [(0, xa 536), (1, xi x1), (4, xj x4), (6, xi x6), (7, xi x7)] [] m (r55 x1 x4 x6 x7 m)) : ∀ x1 x4 x6 x7 m, w32 x1 = x1 → w64 x4 = x4 → w32 x6 = x6 → w32 x7 = x7 → xS B xs SL (d + 2) 321 (8, (some .int), [], 13) 1 55 [(0, xa 536), (1, xi x1), (4, xj x4), (6, xi x6), (7, xi x7)] [] m (yl321_55 B r39 r55 x1 x4 x6 x7 m) := by
  intro x1 x4 x6 x7 m c1 c4 c6 c7
  unfold yl321_55
  refine xS_of (pc' := 61) (L' := [(0, xa 536), (1, xi x1), (4, xj x4), (6, xi x6), (7, xi x7)]) (st' := [xi (xR m 536 14), xi x7]) (m' := m) (fun ex ns r q => ?_) ?_
  · refine xw_iload rfl rfl ?_
    refine xw_aload_n rfl rfl rfl ?_
    refine xw_gfIc (v := (m 536 14)) (v' := (xR m 536 14)) rfl (xw_obd (by decide +kernel)) xk12_14 (qi := 14) rfl rfl rfl ?_
    exact q
  refine xS_if (fun h0 => ?_) (fun h0 => ?_)
  · refine xS_g (fun g1 => ?_)
    refine xS_g (fun g2 => ?_)
    refine xS_g (fun g3 => ?_)
    refine xS_g (fun g4 => ?_)
    refine xS_of (pc' := 55) (L' := [(0, xa 536), (1, xi x1), (4, xj (w64 ((x4 * 6364136223846793005) + 1442695040888963407))), (6, xi x6), (7, xi (w32 (x7 + 1)))]) (st' := []) (m' := (xw_u m 575 ((8 * ((xR m 536 31) + (xR m 536 32))) + x7) ((xw_lushrf (w64 ((x4 * 6364136223846793005) + 1442695040888963407)) 33) % (xR m 539 x7)))) (fun ex ns r q => ?_) ?_
    · refine xw_ic_geF rfl (w32_cg c7) (w32_cg (w32_xR _ _ _)) (Int.not_le.mpr h0) ?_
      refine xw_lload rfl rfl ?_
      refine xw_ldc2 (e := 6364136223846793005) rfl (by decide +kernel) ?_
      refine xw_lmul rfl ?_
      refine xw_ldc2 (e := 1442695040888963407) rfl (by decide +kernel) ?_
      refine xw_ladd rfl ?_
      refine xw_cst (st' := [xj (w64 ((x4 * 6364136223846793005) + 1442695040888963407))]) (xw_sc (xj_c rfl) rfl) ?_
      refine xw_lstore (L' := [(4, xj (w64 ((x4 * 6364136223846793005) + 1442695040888963407))), (0, xa 536), (1, xi x1), (6, xi x6), (7, xi x7)]) rfl (by decide) rfl ?_
      refine xw_aload_n rfl rfl rfl ?_
      refine xw_gfR (n := 575) (e := 575) rfl (xw_obd (by decide +kernel)) (by decide +kernel) (by decide +kernel) rfl ?_
      refine xw_bipush (e := 8) rfl (by decide +kernel) ?_
      refine xw_aload_n rfl rfl rfl ?_
      refine xw_gfIc (v := (m 536 31)) (v' := (xR m 536 31)) rfl (xw_obd (by decide +kernel)) xk12_31 (qi := 31) rfl rfl rfl ?_
      refine xw_aload_n rfl rfl rfl ?_
      refine xw_gfIc (v := (m 536 32)) (v' := (xR m 536 32)) rfl (xw_obd (by decide +kernel)) xk12_32 (qi := 32) rfl rfl rfl ?_
      refine xw_iadd rfl ?_
      refine xw_imul rfl ?_
      refine xw_iload rfl rfl ?_
      refine xw_iadd rfl ?_
      refine xw_lload rfl rfl ?_
      refine xw_bipush (e := 33) rfl (by decide +kernel) ?_
      refine xw_lushr (z := (xw_lushrf (w64 ((x4 * 6364136223846793005) + 1442695040888963407)) 33)) rfl (xw_lushre _ _) ?_
      refine xw_aload_n rfl rfl rfl ?_
      refine xw_gfR (n := 539) (e := 539) rfl (xw_obd (by decide +kernel)) (by decide +kernel) (by decide +kernel) rfl ?_
      refine xw_iload rfl rfl ?_
      refine xw_ialdc (n := 8) (v := (m 539 x7)) (v' := (xR m 539 x7)) rfl hB (xw_obd (by decide +kernel)) rfl g1 rfl rfl ?_
      refine xw_i2l rfl (w32_cg (w32_xR _ _ _)) ?_
      refine xw_lrem (z := ((xw_lushrf (w64 ((x4 * 6364136223846793005) + 1442695040888963407)) 33) % (xR m 539 x7))) rfl (xw_lremn ⟨g3, (w64_cg (w64_32 (w32_xR _ _ _))).2⟩) (xw_lreme ⟨g2, (w64_cg (w64_ti _)).2⟩ ⟨g3, (w64_cg (w64_32 (w32_xR _ _ _))).2⟩) ?_
      refine xw_l2i rfl ?_
      refine xw_iast (n := 160000) rfl hB (xw_obd (by decide +kernel)) rfl g4 ?_
      refine xw_iincc (z := (w32 (x7 + 1))) (L' := [(7, xi (w32 (x7 + 1))), (4, xj (w64 ((x4 * 6364136223846793005) + 1442695040888963407))), (0, xa 536), (1, xi x1), (6, xi x6)]) rfl rfl (by decide) rfl rfl ?_
      refine xw_goto rfl ?_
      refine xw_lo (L2 := [(0, xa 536), (1, xi x1), (4, xj (w64 ((x4 * 6364136223846793005) + 1442695040888963407))), (6, xi x6), (7, xi (w32 (x7 + 1)))]) (List.forall_mem_cons.mpr ⟨rfl, List.forall_mem_cons.mpr ⟨rfl, List.forall_mem_cons.mpr ⟨rfl, List.forall_mem_cons.mpr ⟨rfl, List.forall_mem_cons.mpr ⟨rfl, fun _ h => absurd h List.not_mem_nil⟩⟩⟩⟩⟩) ?_
      exact q
    exact hr55 _ _ _ _ _ c1 (w64_w _) c6 (w32_w _)
  · refine xS_of (pc' := 120) (L' := [(0, xa 536), (1, xi x1), (4, xj x4), (6, xi x6), (7, xi 0)]) (st' := []) (m' := m) (fun ex ns r q => ?_) ?_
    · refine xw_ic_geT rfl (w32_cg c7) (w32_cg (w32_xR _ _ _)) (Int.not_lt.mp h0) ?_
      refine xw_iconst rfl ?_
      refine xw_istore (L' := [(7, xi 0), (0, xa 536), (1, xi x1), (4, xj x4), (6, xi x6)]) rfl (by decide) rfl ?_
      refine xw_lo (L2 := [(0, xa 536), (1, xi x1), (4, xj x4), (6, xi x6), (7, xi 0)]) (List.forall_mem_cons.mpr ⟨rfl, List.forall_mem_cons.mpr ⟨rfl, List.forall_mem_cons.mpr ⟨rfl, List.forall_mem_cons.mpr ⟨rfl, List.forall_mem_cons.mpr ⟨rfl, fun _ h => absurd h List.not_mem_nil⟩⟩⟩⟩⟩) ?_
      exact q
    exact ygl321_120 hB hr39 1000000 _ _ _ _ _ c1 c4 c6 rfl
theorem ygl321_55 {B : Nat} (hB : B ≤ 512) {xs : Nat → Int32} {SL d : Nat} {r39 : Int → Int → Int → xw_M → xP} (hr39 : ∀ x1 x4 x6 m, w32 x1 = x1 → w64 x4 = x4 → w32 x6 = x6 → xS B xs SL (d + 2) 321 (8, (some .int), [], 13) 1 39 [(0, xa 536), (1, xi x1), (4, xj x4), (6, xi x6)] [] m (r39 x1 x4 x6 m)) : ∀ n x1 x4 x6 x7 m, w32 x1 = x1 → w64 x4 = x4 → w32 x6 = x6 → w32 x7 = x7 → xS B xs SL (d + 2) 321 (8, (some .int), [], 13) 1 55 [(0, xa 536), (1, xi x1), (4, xj x4), (6, xi x6), (7, xi x7)] [] m (xl4 (yl321_55 B r39) n x1 x4 x6 x7 m) := by
  intro n
  induction n with
  | zero => intro x1 x4 x6 x7 m c1 c4 c6 c7; exact xS_none
  | succ n ih => exact ysl321_55 hB hr39 ih
theorem ygk321_204 {B : Nat} (hB : B ≤ 512) {xs : Nat → Int32} {SL d : Nat} : ∀ m, xS B xs SL (d + 2) 321 (8, (some .int), [], 13) 1 204 [(0, xa 536)] [] m (yk321_204 B m) := by
  intro m
  unfold yk321_204
  refine xS_of (pc' := 208) (L' := [(0, xa 536)]) (st' := [xi (xR m 536 1)]) (m' := m) (fun ex ns r q => ?_) ?_
  · refine xw_aload_n rfl rfl rfl ?_
    refine xw_gfIc (v := (m 536 1)) (v' := (xR m 536 1)) rfl (xw_obd (by decide +kernel)) xk12_1 (qi := 1) rfl rfl rfl ?_
    exact q
  refine xS_if (fun h0 => ?_) (fun h0 => ?_)
  · refine xS_of (pc' := 219) (L' := [(0, xa 536)]) (st' := [xi 0]) (m' := m) (fun ex ns r q => ?_) ?_
    · refine xw_if_leF rfl (w32_cg (w32_xR _ _ _)) (Int.not_le.mpr h0) ?_
      refine xw_iconst rfl ?_
      refine xw_goto rfl ?_
      exact q
    exact xS_ret (v := 0) rfl rfl xw_rtI rfl
  · refine xS_of (pc' := 219) (L' := [(0, xa 536)]) (st' := [xi (xR m 536 32)]) (m' := m) (fun ex ns r q => ?_) ?_
    · refine xw_if_leT rfl (w32_cg (w32_xR _ _ _)) (Int.not_lt.mp h0) ?_
      refine xw_aload_n rfl rfl rfl ?_
      refine xw_gfIc (v := (m 536 32)) (v' := (xR m 536 32)) rfl (xw_obd (by decide +kernel)) xk12_32 (qi := 32) rfl rfl rfl ?_
      exact q
    exact xS_ret (v := (xR m 536 32)) rfl rfl xw_rtI (w32_xR _ _ _)
theorem ysl321_39 {B : Nat} (hB : B ≤ 512) {xs : Nat → Int32} {SL d : Nat} {r39 : Int → Int → Int → xw_M → xP} (hr39 : ∀ x1 x4 x6 m, w32 x1 = x1 → w64 x4 = x4 → w32 x6 = x6 → xS B xs SL (d + 2) 321 (8, (some .int), [], 13) 1 39 [(0, xa 536), (1, xi x1), (4, xj x4), (6, xi x6)] [] m (r39 x1 x4 x6 m)) : ∀ x1 x4 x6 m, w32 x1 = x1 → w64 x4 = x4 → w32 x6 = x6 → xS B xs SL (d + 2) 321 (8, (some .int), [], 13) 1 39 [(0, xa 536), (1, xi x1), (4, xj x4), (6, xi x6)] [] m (yl321_39 B r39 x1 x4 x6 m) := by
  intro x1 x4 x6 m c1 c4 c6
  unfold yl321_39
  refine xS_of (pc' := 42) (L' := [(0, xa 536), (1, xi x1), (4, xj x4), (6, xi x6)]) (st' := [xi x1, xi x6]) (m' := m) (fun ex ns r q => ?_) ?_
  · refine xw_iload rfl rfl ?_
    refine xw_iload_n rfl rfl ?_
    exact q
  refine xS_if (fun h0 => ?_) (fun h0 => ?_)
  · refine xS_of (pc' := 49) (L' := [(0, xa 536), (1, xi x1), (4, xj x4), (6, xi x6)]) (st' := [xi (xR m 536 1)]) (m' := m) (fun ex ns r q => ?_) ?_
    · refine xw_ic_geF rfl (w32_cg c6) (w32_cg c1) (Int.not_le.mpr h0) ?_
      refine xw_aload_n rfl rfl rfl ?_
      refine xw_gfIc (v := (m 536 1)) (v' := (xR m 536 1)) rfl (xw_obd (by decide +kernel)) xk12_1 (qi := 1) rfl rfl rfl ?_
      exact q
    refine xS_if (fun h1 => ?_) (fun h1 => ?_)
    · refine xS_of (pc' := 55) (L' := [(0, xa 536), (1, xi x1), (4, xj x4), (6, xi x6), (7, xi 0)]) (st' := []) (m' := m) (fun ex ns r q => ?_) ?_
      · refine xw_if_neF rfl (w32_cg (w32_xR _ _ _)) h1 ?_
        refine xw_iconst rfl ?_
        refine xw_istore (L' := [(7, xi 0), (0, xa 536), (1, xi x1), (4, xj x4), (6, xi x6)]) rfl (by decide) rfl ?_
        refine xw_lo (L2 := [(0, xa 536), (1, xi x1), (4, xj x4), (6, xi x6), (7, xi 0)]) (List.forall_mem_cons.mpr ⟨rfl, List.forall_mem_cons.mpr ⟨rfl, List.forall_mem_cons.mpr ⟨rfl, List.forall_mem_cons.mpr ⟨rfl, List.forall_mem_cons.mpr ⟨rfl, fun _ h => absurd h List.not_mem_nil⟩⟩⟩⟩⟩) ?_
        exact q
      exact ygl321_55 hB hr39 1000000 _ _ _ _ _ c1 c4 c6 rfl
    · refine xS_of (pc' := 204) (L' := [(0, xa 536)]) (st' := []) (m' := m) (fun ex ns r q => ?_) ?_
      · refine xw_if_neT rfl (w32_cg (w32_xR _ _ _)) h1 ?_
        refine xw_lo (L2 := [(0, xa 536)]) (List.forall_mem_cons.mpr ⟨rfl, fun _ h => absurd h List.not_mem_nil⟩) ?_
        exact q
      exact ygk321_204 hB _
  · refine xS_of (pc' := 204) (L' := [(0, xa 536)]) (st' := []) (m' := m) (fun ex ns r q => ?_) ?_
    · refine xw_ic_geT rfl (w32_cg c6) (w32_cg c1) (Int.not_lt.mp h0) ?_
      refine xw_lo (L2 := [(0, xa 536)]) (List.forall_mem_cons.mpr ⟨rfl, fun _ h => absurd h List.not_mem_nil⟩) ?_
      exact q
    exact ygk321_204 hB _
theorem ygl321_39 {B : Nat} (hB : B ≤ 512) {xs : Nat → Int32} {SL d : Nat} : ∀ n x1 x4 x6 m, w32 x1 = x1 → w64 x4 = x4 → w32 x6 = x6 → xS B xs SL (d + 2) 321 (8, (some .int), [], 13) 1 39 [(0, xa 536), (1, xi x1), (4, xj x4), (6, xi x6)] [] m (xl3 (yl321_39 B) n x1 x4 x6 m) := by
  intro n
  induction n with
  | zero => intro x1 x4 x6 m c1 c4 c6; exact xS_none
  | succ n ih => exact ysl321_39 hB ih
theorem ygf321 {B : Nat} (hB : B ≤ 512) {xs : Nat → Int32} {SL d : Nat} : ∀ p0 p1 m, w32 p0 = p0 → w64 p1 = p1 → xS B xs SL (d + 2) 321 (8, (some .int), [], 13) 1 0 [(0, xa 536), (1, xi p0), (2, xj p1)] [] m (yf321 B p0 p1 m) := by
  intro p0 p1 m cp0 cp1
  unfold yf321
  refine xS_of (pc' := 3) (L' := [(0, xa 536), (1, xi p0), (2, xj p1)]) (st' := [xi 1, xi p0, xa 536]) (m' := m) (fun ex ns r q => ?_) ?_
  · refine xw_aload_n rfl rfl rfl ?_
    refine xw_iload_n rfl rfl ?_
    refine xw_iconst rfl ?_
    exact q
  refine xS_if (fun h0 => ?_) (fun h0 => ?_)
  · refine xS_of (pc' := 39) (L' := [(0, xa 536), (1, xi p0), (4, xj p1), (6, xi 0)]) (st' := []) (m' := (xw_u m 536 1 1)) (fun ex ns r q => ?_) ?_
    · refine xw_ic_ltT rfl (w32_cg cp0) (w32_cg rfl) h0 ?_
      refine xw_iconst rfl ?_
      refine xw_goto rfl ?_
      refine xw_pfI rfl (xw_obd (by decide +kernel)) xk12_1 (qi := 1) rfl (xw_okI rfl) ?_
      refine xw_lload_n rfl rfl ?_
      refine xw_lstore (L' := [(4, xj p1), (0, xa 536), (1, xi p0), (2, xj p1)]) rfl (by decide) rfl ?_
      refine xw_iconst rfl ?_
      refine xw_istore (L' := [(6, xi 0), (4, xj p1), (0, xa 536), (1, xi p0), (2, xj p1)]) rfl (by decide) rfl ?_
      refine xw_lo (L2 := [(0, xa 536), (1, xi p0), (4, xj p1), (6, xi 0)]) (List.forall_mem_cons.mpr ⟨rfl, List.forall_mem_cons.mpr ⟨rfl, List.forall_mem_cons.mpr ⟨rfl, List.forall_mem_cons.mpr ⟨rfl, fun _ h => absurd h List.not_mem_nil⟩⟩⟩⟩) ?_
      exact q
    exact ygl321_39 hB 1000000 _ _ _ _ cp0 cp1 rfl
  · refine xS_of (pc' := 10) (L' := [(0, xa 536), (1, xi p0), (2, xj p1)]) (st' := [xi 4096, xi p0, xa 536]) (m' := m) (fun ex ns r q => ?_) ?_
    · refine xw_ic_ltF rfl (w32_cg cp0) (w32_cg rfl) h0 ?_
      refine xw_iload_n rfl rfl ?_
      refine xw_sipush (e := 4096) rfl (by decide +kernel) ?_
      exact q
    refine xS_if (fun h1 => ?_) (fun h1 => ?_)
    · refine xS_of (pc' := 39) (L' := [(0, xa 536), (1, xi p0), (4, xj p1), (6, xi 0)]) (st' := []) (m' := (xw_u m 536 1 1)) (fun ex ns r q => ?_) ?_
      · refine xw_ic_leF rfl (w32_cg cp0) (w32_cg rfl) (Int.not_le.mpr h1) ?_
        refine xw_iconst rfl ?_
        refine xw_goto rfl ?_
        refine xw_pfI rfl (xw_obd (by decide +kernel)) xk12_1 (qi := 1) rfl (xw_okI rfl) ?_
        refine xw_lload_n rfl rfl ?_
        refine xw_lstore (L' := [(4, xj p1), (0, xa 536), (1, xi p0), (2, xj p1)]) rfl (by decide) rfl ?_
        refine xw_iconst rfl ?_
        refine xw_istore (L' := [(6, xi 0), (4, xj p1), (0, xa 536), (1, xi p0), (2, xj p1)]) rfl (by decide) rfl ?_
        refine xw_lo (L2 := [(0, xa 536), (1, xi p0), (4, xj p1), (6, xi 0)]) (List.forall_mem_cons.mpr ⟨rfl, List.forall_mem_cons.mpr ⟨rfl, List.forall_mem_cons.mpr ⟨rfl, List.forall_mem_cons.mpr ⟨rfl, fun _ h => absurd h List.not_mem_nil⟩⟩⟩⟩) ?_
        exact q
      exact ygl321_39 hB 1000000 _ _ _ _ cp0 cp1 rfl
    · refine xS_of (pc' := 19) (L' := [(0, xa 536), (1, xi p0), (2, xj p1)]) (st' := [xi p0, xa 536, xa 536]) (m' := m) (fun ex ns r q => ?_) ?_
      · refine xw_ic_leT rfl (w32_cg cp0) (w32_cg rfl) (Int.not_lt.mp h1) ?_
        refine xw_aload_n rfl rfl rfl ?_
        refine xw_iload_n rfl rfl ?_
        refine xw_lo (L2 := [(0, xa 536), (1, xi p0), (2, xj p1)]) (List.forall_mem_cons.mpr ⟨rfl, List.forall_mem_cons.mpr ⟨rfl, List.forall_mem_cons.mpr ⟨rfl, fun _ h => absurd h List.not_mem_nil⟩⟩⟩) ?_
        exact q
      refine xS_call (q := 319) (n := 2) (kq := 4) (as := [xa 536, xi p0]) (st1 := [xa 536]) rfl rfl rfl rfl rfl rfl rfl rfl rfl rfl (fun _ => xw_rcv1 (t := 12) (xw_obd (by decide +kernel)) rfl) rfl (List.forall_mem_cons.mpr ⟨rfl, List.forall_mem_cons.mpr ⟨rfl, fun _ h => absurd h List.not_mem_nil⟩⟩) (ygf319 hB _ _ cp0) (fun v1 m1 cv1 => ?_)
      refine xS_if (fun h2 => ?_) (fun h2 => ?_)
      · refine xS_of (pc' := 39) (L' := [(0, xa 536), (1, xi p0), (4, xj p1), (6, xi 0)]) (st' := []) (m' := (xw_u m1 536 1 2)) (fun ex ns r q => ?_) ?_
        · refine xw_if_neF rfl (w32_cg (w32_of (xw_zr cv1))) h2 ?_
          refine xw_iconst rfl ?_
          refine xw_goto rfl ?_
          refine xw_pfI rfl (xw_obd (by decide +kernel)) xk12_1 (qi := 1) rfl (xw_okI rfl) ?_
          refine xw_lload_n rfl rfl ?_
          refine xw_lstore (L' := [(4, xj p1), (0, xa 536), (1, xi p0), (2, xj p1)]) rfl (by decide) rfl ?_
          refine xw_iconst rfl ?_
          refine xw_istore (L' := [(6, xi 0), (4, xj p1), (0, xa 536), (1, xi p0), (2, xj p1)]) rfl (by decide) rfl ?_
          refine xw_lo (L2 := [(0, xa 536), (1, xi p0), (4, xj p1), (6, xi 0)]) (List.forall_mem_cons.mpr ⟨rfl, List.forall_mem_cons.mpr ⟨rfl, List.forall_mem_cons.mpr ⟨rfl, List.forall_mem_cons.mpr ⟨rfl, fun _ h => absurd h List.not_mem_nil⟩⟩⟩⟩) ?_
          exact q
        exact ygl321_39 hB 1000000 _ _ _ _ cp0 cp1 rfl
      · refine xS_of (pc' := 39) (L' := [(0, xa 536), (1, xi p0), (4, xj p1), (6, xi 0)]) (st' := []) (m' := (xw_u m1 536 1 0)) (fun ex ns r q => ?_) ?_
        · refine xw_if_neT rfl (w32_cg (w32_of (xw_zr cv1))) h2 ?_
          refine xw_iconst rfl ?_
          refine xw_pfI rfl (xw_obd (by decide +kernel)) xk12_1 (qi := 1) rfl (xw_okI rfl) ?_
          refine xw_lload_n rfl rfl ?_
          refine xw_lstore (L' := [(4, xj p1), (0, xa 536), (1, xi p0), (2, xj p1)]) rfl (by decide) rfl ?_
          refine xw_iconst rfl ?_
          refine xw_istore (L' := [(6, xi 0), (4, xj p1), (0, xa 536), (1, xi p0), (2, xj p1)]) rfl (by decide) rfl ?_
          refine xw_lo (L2 := [(0, xa 536), (1, xi p0), (4, xj p1), (6, xi 0)]) (List.forall_mem_cons.mpr ⟨rfl, List.forall_mem_cons.mpr ⟨rfl, List.forall_mem_cons.mpr ⟨rfl, List.forall_mem_cons.mpr ⟨rfl, fun _ h => absurd h List.not_mem_nil⟩⟩⟩⟩) ?_
          exact q
        exact ygl321_39 hB 1000000 _ _ _ _ cp0 cp1 rfl
theorem ygf322 {B : Nat} (hB : B ≤ 512) {xs : Nat → Int32} {SL d : Nat} : ∀ m, xS B xs SL (d + 1) 322 (2, (some .int), [], 13) 1 0 [(0, xa 536)] [] m (yf322 B m) := by
  intro m
  unfold yf322
  refine xS_of (pc' := 2) (L' := [(0, xa 536)]) (st' := [xa 536, xa 536]) (m' := m) (fun ex ns r q => ?_) ?_
  · refine xw_aload_n rfl rfl rfl ?_
    refine xw_aload_n rfl rfl rfl ?_
    refine xw_lo (L2 := [(0, xa 536)]) (List.forall_mem_cons.mpr ⟨rfl, fun _ h => absurd h List.not_mem_nil⟩) ?_
    exact q
  refine xS_call (q := 320) (n := 1) (kq := 4) (as := [xa 536]) (st1 := [xa 536]) rfl rfl rfl rfl rfl rfl rfl rfl rfl rfl (fun _ => xw_rcv1 (t := 12) (xw_obd (by decide +kernel)) rfl) rfl (List.forall_mem_cons.mpr ⟨rfl, fun _ h => absurd h List.not_mem_nil⟩) (ygf320 hB _) (fun v1 m1 cv1 => ?_)
  refine xS_if (fun h0 => ?_) (fun h0 => ?_)
  · refine xS_of (pc' := 24) (L' := [(0, xa 536)]) (st' := [xi 0]) (m' := (xw_u m1 536 1 1)) (fun ex ns r q => ?_) ?_
    · refine xw_if_eqT rfl (w32_cg (w32_of (xw_zr cv1))) h0 ?_
      refine xw_iconst rfl ?_
      refine xw_pfI rfl (xw_obd (by decide +kernel)) xk12_1 (qi := 1) rfl (xw_okI rfl) ?_
      refine xw_aload_n rfl rfl rfl ?_
      refine xw_gfIc (v := 1) (v' := 1) rfl (xw_obd (by decide +kernel)) xk12_1 (qi := 1) rfl xw_us rfl ?_
      refine xw_if_leF rfl (w32_cg rfl) (Int.not_le.mpr (by decide)) ?_
      refine xw_iconst rfl ?_
      exact q
    exact xS_ret (v := 0) rfl rfl xw_rtI rfl
  · refine xS_of (pc' := 36) (L' := [(1, xi (xR m1 536 32)), (0, xa 536)]) (st' := [xi (xR m1 536 32)]) (m' := (xw_u (xw_u m1 536 1 0) 536 32 0)) (fun ex ns r q => ?_) ?_
    · refine xw_if_eqF rfl (w32_cg (w32_of (xw_zr cv1))) h0 ?_
      refine xw_iconst rfl ?_
      refine xw_goto rfl ?_
      refine xw_pfI rfl (xw_obd (by decide +kernel)) xk12_1 (qi := 1) rfl (xw_okI rfl) ?_
      refine xw_aload_n rfl rfl rfl ?_
      refine xw_gfIc (v := 0) (v' := 0) rfl (xw_obd (by decide +kernel)) xk12_1 (qi := 1) rfl xw_us rfl ?_
      refine xw_if_leT rfl (w32_cg rfl) (Int.not_lt.mp (by decide)) ?_
      refine xw_aload_n rfl rfl rfl ?_
      refine xw_gfIc (v := (m1 536 32)) (v' := (xR m1 536 32)) rfl (xw_obd (by decide +kernel)) xk12_32 (qi := 32) rfl (xw_un (fun e => absurd e.2 (by decide)) rfl) rfl ?_
      refine xw_istore_n (L' := [(1, xi (xR m1 536 32)), (0, xa 536)]) rfl (by decide) rfl ?_
      refine xw_aload_n rfl rfl rfl ?_
      refine xw_iconst rfl ?_
      refine xw_pfI rfl (xw_obd (by decide +kernel)) xk12_32 (qi := 32) rfl (xw_okI rfl) ?_
      refine xw_iload_n rfl rfl ?_
      exact q
    exact xS_ret (v := (xR m1 536 32)) rfl rfl xw_rtI (w32_xR _ _ _)
theorem ygk325_45 {B : Nat} (hB : B ≤ 512) {xs : Nat → Int32} {SL d : Nat} {r30 : Int → Int → Int → Int → xw_M → xP} (hr30 : ∀ x3 x5 x7 x8 m, w32 x3 = x3 → w32 x5 = x5 → w32 x7 = x7 → w32 x8 = x8 → xS B xs SL (d + 2) 325 (14, (some .long), [], 13) 2 30 [(0, xa 536), (3, xi x3), (5, xi x5), (7, xi x7), (8, xi x8)] [] m (r30 x3 x5 x7 x8 m)) : ∀ x3 x5 x7 x8 m, w32 x3 = x3 → w32 x5 = x5 → w32 x7 = x7 → w32 x8 = x8 → xS B xs SL (d + 2) 325 (14, (some .long), [], 13) 2 45 [(0, xa 536), (3, xi x3), (5, xi x5), (7, xi x7), (8, xi x8)] [] m (yk325_45 B r30 x3 x5 x7 x8 m) := by
  intro x3 x5 x7 x8 m c3 c5 c7 c8
  unfold yk325_45
  refine xS_of (pc' := 51) (L' := [(0, xa 536), (3, xi x3), (5, xi x5), (7, xi x7)]) (st' := [xi x7, xi x3, xa 536, xi x8]) (m' := m) (fun ex ns r q => ?_) ?_
  · refine xw_iload rfl rfl ?_
    refine xw_aload_n rfl rfl rfl ?_
    refine xw_iload_n rfl rfl ?_
    refine xw_iload rfl rfl ?_
    refine xw_lo (L2 := [(0, xa 536), (3, xi x3), (5, xi x5), (7, xi x7)]) (List.forall_mem_cons.mpr ⟨rfl, List.forall_mem_cons.mpr ⟨rfl, List.forall_mem_cons.mpr ⟨rfl, List.forall_mem_cons.mpr ⟨rfl, fun _ h => absurd h List.not_mem_nil⟩⟩⟩⟩) ?_
    exact q
  refine xS_call (q := 294) (n := 3) (kq := 4) (as := [xa 536, xi x3, xi x7]) (st1 := [xi x8]) rfl rfl rfl rfl rfl rfl rfl rfl rfl rfl (fun _ => xw_rcv1 (t := 12) (xw_obd (by decide +kernel)) rfl) rfl (List.forall_mem_cons.mpr ⟨rfl, List.forall_mem_cons.mpr ⟨rfl, List.forall_mem_cons.mpr ⟨rfl, fun _ h => absurd h List.not_mem_nil⟩⟩⟩) (ygf294 hB _ _ _ c3 c7) (fun v1 m1 cv1 => ?_)
  refine xS_if (fun h0 => ?_) (fun h0 => ?_)
  · refine xS_of (pc' := 30) (L' := [(0, xa 536), (3, xi x3), (5, xi x5), (7, xi (w32 (x7 + 1))), (8, xi (w32 (x8 - 0)))]) (st' := []) (m' := m1) (fun ex ns r q => ?_) ?_
    · refine xw_if_eqT rfl (w32_cg (w32_of (xw_zr cv1))) h0 ?_
      refine xw_iconst rfl ?_
      refine xw_isub rfl ?_
      refine xw_cst (st' := [xi (w32 (x8 - 0))]) (xw_sc (xi_c rfl) rfl) ?_
      refine xw_istore (L' := [(8, xi (w32 (x8 - 0))), (0, xa 536), (3, xi x3), (5, xi x5), (7, xi x7)]) rfl (by decide) rfl ?_
      refine xw_iincc (z := (w32 (x7 + 1))) (L' := [(7, xi (w32 (x7 + 1))), (8, xi (w32 (x8 - 0))), (0, xa 536), (3, xi x3), (5, xi x5)]) rfl rfl (by decide) rfl rfl ?_
      refine xw_goto rfl ?_
      refine xw_lo (L2 := [(0, xa 536), (3, xi x3), (5, xi x5), (7, xi (w32 (x7 + 1))), (8, xi (w32 (x8 - 0)))]) (List.forall_mem_cons.mpr ⟨rfl, List.forall_mem_cons.mpr ⟨rfl, List.forall_mem_cons.mpr ⟨rfl, List.forall_mem_cons.mpr ⟨rfl, List.forall_mem_cons.mpr ⟨rfl, fun _ h => absurd h List.not_mem_nil⟩⟩⟩⟩⟩) ?_
      exact q
    exact hr30 _ _ _ _ _ c3 c5 (w32_w _) (w32_w _)
  · refine xS_of (pc' := 30) (L' := [(0, xa 536), (3, xi x3), (5, xi x5), (7, xi (w32 (x7 + 1))), (8, xi (w32 (x8 - 1)))]) (st' := []) (m' := m1) (fun ex ns r q => ?_) ?_
    · refine xw_if_eqF rfl (w32_cg (w32_of (xw_zr cv1))) h0 ?_
      refine xw_iconst rfl ?_
      refine xw_goto rfl ?_
      refine xw_isub rfl ?_
      refine xw_cst (st' := [xi (w32 (x8 - 1))]) (xw_sc (xi_c rfl) rfl) ?_
      refine xw_istore (L' := [(8, xi (w32 (x8 - 1))), (0, xa 536), (3, xi x3), (5, xi x5), (7, xi x7)]) rfl (by decide) rfl ?_
      refine xw_iincc (z := (w32 (x7 + 1))) (L' := [(7, xi (w32 (x7 + 1))), (8, xi (w32 (x8 - 1))), (0, xa 536), (3, xi x3), (5, xi x5)]) rfl rfl (by decide) rfl rfl ?_
      refine xw_goto rfl ?_
      refine xw_lo (L2 := [(0, xa 536), (3, xi x3), (5, xi x5), (7, xi (w32 (x7 + 1))), (8, xi (w32 (x8 - 1)))]) (List.forall_mem_cons.mpr ⟨rfl, List.forall_mem_cons.mpr ⟨rfl, List.forall_mem_cons.mpr ⟨rfl, List.forall_mem_cons.mpr ⟨rfl, List.forall_mem_cons.mpr ⟨rfl, fun _ h => absurd h List.not_mem_nil⟩⟩⟩⟩⟩) ?_
      exact q
    exact hr30 _ _ _ _ _ c3 c5 (w32_w _) (w32_w _)
theorem ysl325_30 {B : Nat} (hB : B ≤ 512) {xs : Nat → Int32} {SL d : Nat} {r30 : Int → Int → Int → Int → xw_M → xP} (hr30 : ∀ x3 x5 x7 x8 m, w32 x3 = x3 → w32 x5 = x5 → w32 x7 = x7 → w32 x8 = x8 → xS B xs SL (d + 2) 325 (14, (some .long), [], 13) 2 30 [(0, xa 536), (3, xi x3), (5, xi x5), (7, xi x7), (8, xi x8)] [] m (r30 x3 x5 x7 x8 m)) : ∀ x3 x5 x7 x8 m, w32 x3 = x3 → w32 x5 = x5 → w32 x7 = x7 → w32 x8 = x8 → xS B xs SL (d + 2) 325 (14, (some .long), [], 13) 2 30 [(0, xa 536), (3, xi x3), (5, xi x5), (7, xi x7), (8, xi x8)] [] m (yl325_30 B r30 x3 x5 x7 x8 m) := by
  intro x3 x5 x7 x8 m c3 c5 c7 c8
  unfold yl325_30
  refine xS_of (pc' := 34) (L' := [(0, xa 536), (3, xi x3), (5, xi x5), (7, xi x7), (8, xi x8)]) (st' := [xi x7, xi x3, xa 536]) (m' := m) (fun ex ns r q => ?_) ?_
  · refine xw_aload_n rfl rfl rfl ?_
    refine xw_iload_n rfl rfl ?_
    refine xw_iload rfl rfl ?_
    refine xw_lo (L2 := [(0, xa 536), (3, xi x3), (5, xi x5), (7, xi x7), (8, xi x8)]) (List.forall_mem_cons.mpr ⟨rfl, List.forall_mem_cons.mpr ⟨rfl, List.forall_mem_cons.mpr ⟨rfl, List.forall_mem_cons.mpr ⟨rfl, List.forall_mem_cons.mpr ⟨rfl, fun _ h => absurd h List.not_mem_nil⟩⟩⟩⟩⟩) ?_
    exact q
  refine xS_call (q := 294) (n := 3) (kq := 4) (as := [xa 536, xi x3, xi x7]) (st1 := []) rfl rfl rfl rfl rfl rfl rfl rfl rfl rfl (fun _ => xw_rcv1 (t := 12) (xw_obd (by decide +kernel)) rfl) rfl (List.forall_mem_cons.mpr ⟨rfl, List.forall_mem_cons.mpr ⟨rfl, List.forall_mem_cons.mpr ⟨rfl, fun _ h => absurd h List.not_mem_nil⟩⟩⟩) (ygf294 hB _ _ _ c3 c7) (fun v1 m1 cv1 => ?_)
  refine xS_if (fun h0 => ?_) (fun h0 => ?_)
  · refine xS_of (pc' := 45) (L' := [(0, xa 536), (3, xi x3), (5, xi x5), (7, xi x7), (8, xi x8)]) (st' := []) (m' := m1) (fun ex ns r q => ?_) ?_
    · refine xw_if_eqT rfl (w32_cg (w32_of (xw_zr cv1))) h0 ?_
      refine xw_lo (L2 := [(0, xa 536), (3, xi x3), (5, xi x5), (7, xi x7), (8, xi x8)]) (List.forall_mem_cons.mpr ⟨rfl, List.forall_mem_cons.mpr ⟨rfl, List.forall_mem_cons.mpr ⟨rfl, List.forall_mem_cons.mpr ⟨rfl, List.forall_mem_cons.mpr ⟨rfl, fun _ h => absurd h List.not_mem_nil⟩⟩⟩⟩⟩) ?_
      exact q
    exact ygk325_45 hB hr30 _ _ _ _ _ c3 c5 c7 c8
  · refine xS_of (pc' := 42) (L' := [(0, xa 536), (3, xi x3), (5, xi x5), (7, xi x7), (8, xi x8)]) (st' := [xi x8]) (m' := m1) (fun ex ns r q => ?_) ?_
    · refine xw_if_eqF rfl (w32_cg (w32_of (xw_zr cv1))) h0 ?_
      refine xw_iload rfl rfl ?_
      exact q
    refine xS_if (fun h1 => ?_) (fun h1 => ?_)
    · refine xS_of (pc' := 45) (L' := [(0, xa 536), (3, xi x3), (5, xi x5), (7, xi x7), (8, xi x8)]) (st' := []) (m' := m1) (fun ex ns r q => ?_) ?_
      · refine xw_if_leF rfl (w32_cg c8) (Int.not_le.mpr h1) ?_
        refine xw_lo (L2 := [(0, xa 536), (3, xi x3), (5, xi x5), (7, xi x7), (8, xi x8)]) (List.forall_mem_cons.mpr ⟨rfl, List.forall_mem_cons.mpr ⟨rfl, List.forall_mem_cons.mpr ⟨rfl, List.forall_mem_cons.mpr ⟨rfl, List.forall_mem_cons.mpr ⟨rfl, fun _ h => absurd h List.not_mem_nil⟩⟩⟩⟩⟩) ?_
        exact q
      exact ygk325_45 hB hr30 _ _ _ _ _ c3 c5 c7 c8
    · refine xS_of (pc' := 77) (L' := []) (st' := [xi x7, xi x3, xi x5, xa 536]) (m' := m1) (fun ex ns r q => ?_) ?_
      · refine xw_if_leT rfl (w32_cg c8) (Int.not_lt.mp h1) ?_
        refine xw_aload_n rfl rfl rfl ?_
        refine xw_iload rfl rfl ?_
        refine xw_iload_n rfl rfl ?_
        refine xw_iload rfl rfl ?_
        refine xw_lo (L2 := []) (fun _ h => absurd h List.not_mem_nil) ?_
        exact q
      refine xS_call (q := 295) (n := 4) (kq := 1) (as := [xa 536, xi x5, xi x3, xi x7]) (st1 := []) rfl rfl rfl rfl rfl rfl rfl rfl rfl rfl (fun _ => xw_rcv1 (t := 12) (xw_obd (by decide +kernel)) rfl) rfl (List.forall_mem_cons.mpr ⟨rfl, List.forall_mem_cons.mpr ⟨rfl, List.forall_mem_cons.mpr ⟨rfl, List.forall_mem_cons.mpr ⟨rfl, fun _ h => absurd h List.not_mem_nil⟩⟩⟩⟩) (ygf295 hB _ _ _ _ c5 c3 c7) (fun v2 m2 cv2 => ?_)
      refine xS_of (pc' := 81) (L' := []) (st' := [xj v2]) (m' := m2) (fun ex ns r q => ?_) ?_
      · refine xw_i2l rfl (w32_cg cv2) ?_
        exact q
      exact xS_ret (v := v2) rfl rfl rfl (w64_32 cv2)
theorem ygl325_30 {B : Nat} (hB : B ≤ 512) {xs : Nat → Int32} {SL d : Nat} : ∀ n x3 x5 x7 x8 m, w32 x3 = x3 → w32 x5 = x5 → w32 x7 = x7 → w32 x8 = x8 → xS B xs SL (d + 2) 325 (14, (some .long), [], 13) 2 30 [(0, xa 536), (3, xi x3), (5, xi x5), (7, xi x7), (8, xi x8)] [] m (xl4 (yl325_30 B) n x3 x5 x7 x8 m) := by
  intro n
  induction n with
  | zero => intro x3 x5 x7 x8 m c3 c5 c7 c8; exact xS_none
  | succ n ih => exact ysl325_30 hB ih
theorem ysl325_170 {B : Nat} (hB : B ≤ 512) {xs : Nat → Int32} {SL d : Nat} {r170 : Int → Int → Int → Int → Int → xw_M → xP} (hr170 : ∀ x1 x7 x8 x9 x11 m, w32 x1 = x1 → w32 x7 = x7 → w32 x8 = x8 → w64 x9 = x9 → w32 x11 = x11 → xS B xs SL (d + 2) 325 (14, (some .long), [], 13) 2 170 [(0, xa 536), (1, xi x1), (7, xi x7), (8, xi x8), (9, xj x9), (11, xi x11)] [] m (r170 x1 x7 x8 x9 x11 m)) : ∀ x1 x7 x8 x9 x11 m, w32 x1 = x1 → w32 x7 = x7 → w32 x8 = x8 → w64 x9 = x9 → w32 x11 = x11 → xS B xs SL (d + 2) 325 (14, (some .long), [], 13) 2 170 [(0, xa 536), (1, xi x1), (7, xi x7), (8, xi x8), (9, xj x9), (11, xi x11)] [] m (yl325_170 B r170 x1 x7 x8 x9 x11 m) := by
  intro x1 x7 x8 x9 x11 m c1 c7 c8 c9 c11
  unfold yl325_170
  refine xS_g (fun g0 => ?_)
  refine xS_of (pc' := 180) (L' := [(0, xa 536), (1, xi x1), (7, xi x7), (8, xi x8), (9, xj x9), (11, xi x11)]) (st' := [xi (xR m 592 (x1 + 1)), xi x11]) (m' := m) (fun ex ns r q => ?_) ?_
  · refine xw_iload rfl rfl ?_
    refine xw_aload_n rfl rfl rfl ?_
    refine xw_gfR (n := 592) (e := 592) rfl (xw_obd (by decide +kernel)) (by decide +kernel) (by decide +kernel) rfl ?_
    refine xw_iload_n rfl rfl ?_
    refine xw_iconst rfl ?_
    refine xw_iadd rfl ?_
    refine xw_ialdc (n := 20001) (v := (m 592 (x1 + 1))) (v' := (xR m 592 (x1 + 1))) rfl hB (xw_obd (by decide +kernel)) rfl g0 rfl rfl ?_
    exact q
  refine xS_if (fun h1 => ?_) (fun h1 => ?_)
  · refine xS_g (fun g2 => ?_)
    refine xS_g (fun g3 => ?_)
    refine xS_g (fun g4 => ?_)
    refine xS_of (pc' := 205) (L' := [(12, xj (xJ m 576 ((8 * (xR m (m 536 59) x11)) + x7))), (0, xa 536), (1, xi x1), (7, xi x7), (8, xi x8), (9, xj x9), (11, xi x11)]) (st' := [xi x8]) (m' := m) (fun ex ns r q => ?_) ?_
    · refine xw_ic_geF rfl (w32_cg c11) (w32_cg (w32_xR _ _ _)) (Int.not_le.mpr h1) ?_
      refine xw_aload_n rfl rfl rfl ?_
      refine xw_gfR (n := 576) (e := 576) rfl (xw_obd (by decide +kernel)) (by decide +kernel) (by decide +kernel) rfl ?_
      refine xw_bipush (e := 8) rfl (by decide +kernel) ?_
      refine xw_aload_n rfl rfl rfl ?_
      refine xw_gfM (v := (m 536 59)) rfl (xw_obd (by decide +kernel)) xk12_59 (qi := 59) rfl rfl ?_
      refine xw_iload rfl rfl ?_
      refine xw_ialdc (n := (xw_le B (m 536 59))) (v := (m (m 536 59) x11)) (v' := (xR m (m 536 59) x11)) rfl hB (xw_obd g3) rfl g2 rfl rfl ?_
      refine xw_imul rfl ?_
      refine xw_iload rfl rfl ?_
      refine xw_iadd rfl ?_
      refine xw_laldc (n := 160000) (v := (m 576 ((8 * (xR m (m 536 59) x11)) + x7))) (v' := (xJ m 576 ((8 * (xR m (m 536 59) x11)) + x7))) rfl hB (xw_obd (by decide +kernel)) rfl g4 rfl rfl ?_
      refine xw_lstore (L' := [(12, xj (xJ m 576 ((8 * (xR m (m 536 59) x11)) + x7))), (0, xa 536), (1, xi x1), (7, xi x7), (8, xi x8), (9, xj x9), (11, xi x11)]) rfl (by decide) rfl ?_
      refine xw_iload rfl rfl ?_
      exact q
    refine xS_if (fun h5 => ?_) (fun h5 => ?_)
    · refine xS_of (pc' := 170) (L' := [(0, xa 536), (1, xi x1), (7, xi x7), (8, xi x8), (9, xj (w64 (x9 + (xJ m 576 ((8 * (xR m (m 536 59) x11)) + x7))))), (11, xi (w32 (x11 + 1)))]) (st' := []) (m' := m) (fun ex ns r q => ?_) ?_
      · refine xw_if_neF rfl (w32_cg c8) h5 ?_
        refine xw_lload rfl rfl ?_
        refine xw_lload rfl rfl ?_
        refine xw_ladd rfl ?_
        refine xw_goto rfl ?_
        refine xw_cst (st' := [xj (w64 (x9 + (xJ m 576 ((8 * (xR m (m 536 59) x11)) + x7))))]) (xw_sc (xj_c rfl) rfl) ?_
        refine xw_lstore (L' := [(9, xj (w64 (x9 + (xJ m 576 ((8 * (xR m (m 536 59) x11)) + x7))))), (12, xj (xJ m 576 ((8 * (xR m (m 536 59) x11)) + x7))), (0, xa 536), (1, xi x1), (7, xi x7), (8, xi x8), (11, xi x11)]) rfl (by decide) rfl ?_
        refine xw_iincc (z := (w32 (x11 + 1))) (L' := [(11, xi (w32 (x11 + 1))), (9, xj (w64 (x9 + (xJ m 576 ((8 * (xR m (m 536 59) x11)) + x7))))), (12, xj (xJ m 576 ((8 * (xR m (m 536 59) x11)) + x7))), (0, xa 536), (1, xi x1), (7, xi x7), (8, xi x8)]) rfl rfl (by decide) rfl rfl ?_
        refine xw_goto rfl ?_
        refine xw_lo (L2 := [(0, xa 536), (1, xi x1), (7, xi x7), (8, xi x8), (9, xj (w64 (x9 + (xJ m 576 ((8 * (xR m (m 536 59) x11)) + x7))))), (11, xi (w32 (x11 + 1)))]) (List.forall_mem_cons.mpr ⟨rfl, List.forall_mem_cons.mpr ⟨rfl, List.forall_mem_cons.mpr ⟨rfl, List.forall_mem_cons.mpr ⟨rfl, List.forall_mem_cons.mpr ⟨rfl, List.forall_mem_cons.mpr ⟨rfl, fun _ h => absurd h List.not_mem_nil⟩⟩⟩⟩⟩⟩) ?_
        exact q
      exact hr170 _ _ _ _ _ _ c1 c7 c8 (w64_w _) (w32_w _)
    · refine xS_of (pc' := 219) (L' := [(12, xj (xJ m 576 ((8 * (xR m (m 536 59) x11)) + x7))), (0, xa 536), (1, xi x1), (7, xi x7), (8, xi x8), (9, xj x9), (11, xi x11)]) (st' := [xi 1, xi x8]) (m' := m) (fun ex ns r q => ?_) ?_
      · refine xw_if_neT rfl (w32_cg c8) h5 ?_
        refine xw_iload rfl rfl ?_
        refine xw_iconst rfl ?_
        exact q
      refine xS_if (fun h6 => ?_) (fun h6 => ?_)
      · refine xS_of (pc' := 170) (L' := [(0, xa 536), (1, xi x1), (7, xi x7), (8, xi x8), (9, xj (min x9 (xJ m 576 ((8 * (xR m (m 536 59) x11)) + x7)))), (11, xi (w32 (x11 + 1)))]) (st' := []) (m' := m) (fun ex ns r q => ?_) ?_
        · refine xw_ic_neF rfl (w32_cg c8) (w32_cg rfl) h6 ?_
          refine xw_lload rfl rfl ?_
          refine xw_lload rfl rfl ?_
          refine xw_minJ rfl rfl (w64_cg c9) (w64_cg (w64_xJ _ _ _)) rfl ?_
          refine xw_goto rfl ?_
          refine xw_lstore (L' := [(9, xj (min x9 (xJ m 576 ((8 * (xR m (m 536 59) x11)) + x7)))), (12, xj (xJ m 576 ((8 * (xR m (m 536 59) x11)) + x7))), (0, xa 536), (1, xi x1), (7, xi x7), (8, xi x8), (11, xi x11)]) rfl (by decide) rfl ?_
          refine xw_iincc (z := (w32 (x11 + 1))) (L' := [(11, xi (w32 (x11 + 1))), (9, xj (min x9 (xJ m 576 ((8 * (xR m (m 536 59) x11)) + x7)))), (12, xj (xJ m 576 ((8 * (xR m (m 536 59) x11)) + x7))), (0, xa 536), (1, xi x1), (7, xi x7), (8, xi x8)]) rfl rfl (by decide) rfl rfl ?_
          refine xw_goto rfl ?_
          refine xw_lo (L2 := [(0, xa 536), (1, xi x1), (7, xi x7), (8, xi x8), (9, xj (min x9 (xJ m 576 ((8 * (xR m (m 536 59) x11)) + x7)))), (11, xi (w32 (x11 + 1)))]) (List.forall_mem_cons.mpr ⟨rfl, List.forall_mem_cons.mpr ⟨rfl, List.forall_mem_cons.mpr ⟨rfl, List.forall_mem_cons.mpr ⟨rfl, List.forall_mem_cons.mpr ⟨rfl, List.forall_mem_cons.mpr ⟨rfl, fun _ h => absurd h List.not_mem_nil⟩⟩⟩⟩⟩⟩) ?_
          exact q
        exact hr170 _ _ _ _ _ _ c1 c7 c8 (w64_mn c9 (w64_xJ _ _ _)) (w32_w _)
      · refine xS_of (pc' := 170) (L' := [(0, xa 536), (1, xi x1), (7, xi x7), (8, xi x8), (9, xj (max x9 (xJ m 576 ((8 * (xR m (m 536 59) x11)) + x7)))), (11, xi (w32 (x11 + 1)))]) (st' := []) (m' := m) (fun ex ns r q => ?_) ?_
        · refine xw_ic_neT rfl (w32_cg c8) (w32_cg rfl) h6 ?_
          refine xw_lload rfl rfl ?_
          refine xw_lload rfl rfl ?_
          refine xw_maxJ rfl rfl (w64_cg c9) (w64_cg (w64_xJ _ _ _)) rfl ?_
          refine xw_lstore (L' := [(9, xj (max x9 (xJ m 576 ((8 * (xR m (m 536 59) x11)) + x7)))), (12, xj (xJ m 576 ((8 * (xR m (m 536 59) x11)) + x7))), (0, xa 536), (1, xi x1), (7, xi x7), (8, xi x8), (11, xi x11)]) rfl (by decide) rfl ?_
          refine xw_iincc (z := (w32 (x11 + 1))) (L' := [(11, xi (w32 (x11 + 1))), (9, xj (max x9 (xJ m 576 ((8 * (xR m (m 536 59) x11)) + x7)))), (12, xj (xJ m 576 ((8 * (xR m (m 536 59) x11)) + x7))), (0, xa 536), (1, xi x1), (7, xi x7), (8, xi x8)]) rfl rfl (by decide) rfl rfl ?_
          refine xw_goto rfl ?_
          refine xw_lo (L2 := [(0, xa 536), (1, xi x1), (7, xi x7), (8, xi x8), (9, xj (max x9 (xJ m 576 ((8 * (xR m (m 536 59) x11)) + x7)))), (11, xi (w32 (x11 + 1)))]) (List.forall_mem_cons.mpr ⟨rfl, List.forall_mem_cons.mpr ⟨rfl, List.forall_mem_cons.mpr ⟨rfl, List.forall_mem_cons.mpr ⟨rfl, List.forall_mem_cons.mpr ⟨rfl, List.forall_mem_cons.mpr ⟨rfl, fun _ h => absurd h List.not_mem_nil⟩⟩⟩⟩⟩⟩) ?_
          exact q
        exact hr170 _ _ _ _ _ _ c1 c7 c8 (w64_mx c9 (w64_xJ _ _ _)) (w32_w _)
  · refine xS_of (pc' := 249) (L' := [(0, xa 536), (1, xi x1), (7, xi x7), (8, xi x8), (9, xj x9), (11, xi x11)]) (st' := [xj x9]) (m' := m) (fun ex ns r q => ?_) ?_
    · refine xw_ic_geT rfl (w32_cg c11) (w32_cg (w32_xR _ _ _)) (Int.not_lt.mp h1) ?_
      refine xw_lload rfl rfl ?_
      exact q
    exact xS_ret (v := x9) rfl rfl rfl c9
theorem ygl325_170 {B : Nat} (hB : B ≤ 512) {xs : Nat → Int32} {SL d : Nat} : ∀ n x1 x7 x8 x9 x11 m, w32 x1 = x1 → w32 x7 = x7 → w32 x8 = x8 → w64 x9 = x9 → w32 x11 = x11 → xS B xs SL (d + 2) 325 (14, (some .long), [], 13) 2 170 [(0, xa 536), (1, xi x1), (7, xi x7), (8, xi x8), (9, xj x9), (11, xi x11)] [] m (xl5 (yl325_170 B) n x1 x7 x8 x9 x11 m) := by
  intro n
  induction n with
  | zero => intro x1 x7 x8 x9 x11 m c1 c7 c8 c9 c11; exact xS_none
  | succ n ih => exact ysl325_170 hB ih
theorem ygf325 {B : Nat} (hB : B ≤ 512) {xs : Nat → Int32} {SL d : Nat} : ∀ p0 p1 p2 p3 m, w32 p0 = p0 → w32 p1 = p1 → w32 p2 = p2 → w32 p3 = p3 → xS B xs SL (d + 2) 325 (14, (some .long), [], 13) 2 0 [(0, xa 536), (1, xi p0), (2, xi p1), (3, xi p2), (4, xi p3)] [] m (yf325 B p0 p1 p2 p3 m) := by
  intro p0 p1 p2 p3 m cp0 cp1 cp2 cp3
  unfold yf325
  refine xS_g (fun g0 => ?_)
  refine xS_g (fun g1 => ?_)
  refine xS_g (fun g2 => ?_)
  refine xS_of (pc' := 21) (L' := [(6, xi (w32 (p1 - p3))), (5, xi (xR m (m 536 59) (xR m 592 p0))), (0, xa 536), (1, xi p0), (2, xi p1), (3, xi p2), (4, xi p3)]) (st' := [xi (w32 (p1 - p3))]) (m' := m) (fun ex ns r q => ?_) ?_
  · refine xw_aload_n rfl rfl rfl ?_
    refine xw_gfM (v := (m 536 59)) rfl (xw_obd (by decide +kernel)) xk12_59 (qi := 59) rfl rfl ?_
    refine xw_aload_n rfl rfl rfl ?_
    refine xw_gfR (n := 592) (e := 592) rfl (xw_obd (by decide +kernel)) (by decide +kernel) (by decide +kernel) rfl ?_
    refine xw_iload_n rfl rfl ?_
    refine xw_ialdc (n := 20001) (v := (m 592 p0)) (v' := (xR m 592 p0)) rfl hB (xw_obd (by decide +kernel)) rfl g0 rfl rfl ?_
    refine xw_ialdc (n := (xw_le B (m 536 59))) (v := (m (m 536 59) (xR m 592 p0))) (v' := (xR m (m 536 59) (xR m 592 p0))) rfl hB (xw_obd g2) rfl g1 rfl rfl ?_
    refine xw_istore (L' := [(5, xi (xR m (m 536 59) (xR m 592 p0))), (0, xa 536), (1, xi p0), (2, xi p1), (3, xi p2), (4, xi p3)]) rfl (by decide) rfl ?_
    refine xw_iload_n rfl rfl ?_
    refine xw_iload rfl rfl ?_
    refine xw_isub rfl ?_
    refine xw_cst (st' := [xi (w32 (p1 - p3))]) (xw_sc (xi_c rfl) rfl) ?_
    refine xw_istore (L' := [(6, xi (w32 (p1 - p3))), (5, xi (xR m (m 536 59) (xR m 592 p0))), (0, xa 536), (1, xi p0), (2, xi p1), (3, xi p2), (4, xi p3)]) rfl (by decide) rfl ?_
    refine xw_iload rfl rfl ?_
    exact q
  refine xS_if (fun h3 => ?_) (fun h3 => ?_)
  · refine xS_of (pc' := 30) (L' := [(0, xa 536), (3, xi p2), (5, xi (xR m (m 536 59) (xR m 592 p0))), (7, xi 0), (8, xi p1)]) (st' := []) (m' := m) (fun ex ns r q => ?_) ?_
    · refine xw_if_geF rfl (w32_cg (w32_w _)) (Int.not_le.mpr h3) ?_
      refine xw_iconst rfl ?_
      refine xw_istore (L' := [(7, xi 0), (6, xi (w32 (p1 - p3))), (5, xi (xR m (m 536 59) (xR m 592 p0))), (0, xa 536), (1, xi p0), (2, xi p1), (3, xi p2), (4, xi p3)]) rfl (by decide) rfl ?_
      refine xw_iload_n rfl rfl ?_
      refine xw_istore (L' := [(8, xi p1), (7, xi 0), (6, xi (w32 (p1 - p3))), (5, xi (xR m (m 536 59) (xR m 592 p0))), (0, xa 536), (1, xi p0), (2, xi p1), (3, xi p2), (4, xi p3)]) rfl (by decide) rfl ?_
      refine xw_lo (L2 := [(0, xa 536), (3, xi p2), (5, xi (xR m (m 536 59) (xR m 592 p0))), (7, xi 0), (8, xi p1)]) (List.forall_mem_cons.mpr ⟨rfl, List.forall_mem_cons.mpr ⟨rfl, List.forall_mem_cons.mpr ⟨rfl, List.forall_mem_cons.mpr ⟨rfl, List.forall_mem_cons.mpr ⟨rfl, fun _ h => absurd h List.not_mem_nil⟩⟩⟩⟩⟩) ?_
      exact q
    exact ygl325_30 hB 1000000 _ _ _ _ _ cp2 (w32_xR _ _ _) rfl cp1
  · refine xS_of (pc' := 83) (L' := [(6, xi (w32 (p1 - p3))), (5, xi (xR m (m 536 59) (xR m 592 p0))), (0, xa 536), (1, xi p0), (2, xi p1), (3, xi p2), (4, xi p3)]) (st' := [xi p2]) (m' := m) (fun ex ns r q => ?_) ?_
    · refine xw_if_geT rfl (w32_cg (w32_w _)) (Int.not_lt.mp h3) ?_
      refine xw_iload_n rfl rfl ?_
      exact q
    refine xS_if (fun h4 => ?_) (fun h4 => ?_)
    · refine xS_g (fun g5 => ?_)
      refine xS_of (pc' := 99) (L' := [(6, xi (w32 (p1 - p3))), (5, xi (xR m (m 536 59) (xR m 592 p0))), (0, xa 536), (1, xi p0), (2, xi p1), (3, xi p2), (4, xi p3)]) (st' := [xj (xJ m 576 ((8 * (xR m (m 536 59) (xR m 592 p0))) + (w32 (p1 - p3))))]) (m' := m) (fun ex ns r q => ?_) ?_
      · refine xw_if_geF rfl (w32_cg cp2) (Int.not_le.mpr h4) ?_
        refine xw_aload_n rfl rfl rfl ?_
        refine xw_gfR (n := 576) (e := 576) rfl (xw_obd (by decide +kernel)) (by decide +kernel) (by decide +kernel) rfl ?_
        refine xw_bipush (e := 8) rfl (by decide +kernel) ?_
        refine xw_iload rfl rfl ?_
        refine xw_imul rfl ?_
        refine xw_iload rfl rfl ?_
        refine xw_iadd rfl ?_
        refine xw_laldc (n := 160000) (v := (m 576 ((8 * (xR m (m 536 59) (xR m 592 p0))) + (w32 (p1 - p3))))) (v' := (xJ m 576 ((8 * (xR m (m 536 59) (xR m 592 p0))) + (w32 (p1 - p3))))) rfl hB (xw_obd (by decide +kernel)) rfl g5 rfl rfl ?_
        exact q
      exact xS_ret (v := (xJ m 576 ((8 * (xR m (m 536 59) (xR m 592 p0))) + (w32 (p1 - p3))))) rfl rfl rfl (w64_xJ _ _ _)
    · refine xS_of (pc' := 102) (L' := [(6, xi (w32 (p1 - p3))), (5, xi (xR m (m 536 59) (xR m 592 p0))), (0, xa 536), (1, xi p0), (2, xi p1), (3, xi p2), (4, xi p3)]) (st' := [xi (w32 (p1 - p3))]) (m' := m) (fun ex ns r q => ?_) ?_
      · refine xw_if_geT rfl (w32_cg cp2) (Int.not_lt.mp h4) ?_
        refine xw_iload rfl rfl ?_
        exact q
      refine xS_if (fun h5 => ?_) (fun h5 => ?_)
      · refine xS_g (fun g6 => ?_)
        refine xS_of (pc' := 121) (L' := [(6, xi (w32 (p1 - p3))), (5, xi (xR m (m 536 59) (xR m 592 p0))), (0, xa 536), (1, xi p0), (2, xi p1), (3, xi p2), (4, xi p3)]) (st' := [xj (w32 ((xR m 592 (p0 + 1)) - (xR m 592 p0)))]) (m' := m) (fun ex ns r q => ?_) ?_
        · refine xw_if_neF rfl (w32_cg (w32_w _)) h5 ?_
          refine xw_aload_n rfl rfl rfl ?_
          refine xw_gfR (n := 592) (e := 592) rfl (xw_obd (by decide +kernel)) (by decide +kernel) (by decide +kernel) rfl ?_
          refine xw_iload_n rfl rfl ?_
          refine xw_iconst rfl ?_
          refine xw_iadd rfl ?_
          refine xw_ialdc (n := 20001) (v := (m 592 (p0 + 1))) (v' := (xR m 592 (p0 + 1))) rfl hB (xw_obd (by decide +kernel)) rfl g6 rfl rfl ?_
          refine xw_aload_n rfl rfl rfl ?_
          refine xw_gfR (n := 592) (e := 592) rfl (xw_obd (by decide +kernel)) (by decide +kernel) (by decide +kernel) rfl ?_
          refine xw_iload_n rfl rfl ?_
          refine xw_ialdc (n := 20001) (v := (m 592 p0)) (v' := (xR m 592 p0)) rfl hB (xw_obd (by decide +kernel)) rfl g0 rfl rfl ?_
          refine xw_isub rfl ?_
          refine xw_cst (st' := [xi (w32 ((xR m 592 (p0 + 1)) - (xR m 592 p0)))]) (xw_sc (xi_c rfl) rfl) ?_
          refine xw_i2l rfl (w32_cg (w32_w _)) ?_
          exact q
        exact xS_ret (v := (w32 ((xR m 592 (p0 + 1)) - (xR m 592 p0)))) rfl rfl rfl (w64_32 (w32_w _))
      · refine xS_g (fun g6 => ?_)
        refine xS_of (pc' := 140) (L' := [(8, xi ((w32 ((w32 (p1 - p3)) - 1)) % 3)), (7, xi ((w32 ((w32 (p1 - p3)) - 1)) / 3)), (6, xi (w32 (p1 - p3))), (5, xi (xR m (m 536 59) (xR m 592 p0))), (0, xa 536), (1, xi p0), (2, xi p1), (3, xi p2), (4, xi p3)]) (st' := [xi ((w32 ((w32 (p1 - p3)) - 1)) % 3)]) (m' := m) (fun ex ns r q => ?_) ?_
        · refine xw_if_neT rfl (w32_cg (w32_w _)) h5 ?_
          refine xw_iload rfl rfl ?_
          refine xw_iconst rfl ?_
          refine xw_isub rfl ?_
          refine xw_iconst rfl ?_
          refine xw_cst (st' := [xi 3, xi (w32 ((w32 (p1 - p3)) - 1))]) (xw_sc rfl (xw_sc (xi_c rfl) rfl)) ?_
          refine xw_idiv (z := ((w32 ((w32 (p1 - p3)) - 1)) / 3)) rfl (xw_idivn ⟨(by decide), (w32_cg rfl).2⟩) (xw_idive ⟨g6, (w32_cg (w32_w _)).2⟩ ⟨(by decide), (w32_cg rfl).2⟩) ?_
          refine xw_istore (L' := [(7, xi ((w32 ((w32 (p1 - p3)) - 1)) / 3)), (6, xi (w32 (p1 - p3))), (5, xi (xR m (m 536 59) (xR m 592 p0))), (0, xa 536), (1, xi p0), (2, xi p1), (3, xi p2), (4, xi p3)]) rfl (by decide) rfl ?_
          refine xw_iload rfl rfl ?_
          refine xw_iconst rfl ?_
          refine xw_isub rfl ?_
          refine xw_iconst rfl ?_
          refine xw_cst (st' := [xi 3, xi (w32 ((w32 (p1 - p3)) - 1))]) (xw_sc rfl (xw_sc (xi_c rfl) rfl)) ?_
          refine xw_irem (z := ((w32 ((w32 (p1 - p3)) - 1)) % 3)) rfl (xw_iremn ⟨(by decide), (w32_cg rfl).2⟩) (xw_ireme ⟨g6, (w32_cg (w32_w _)).2⟩ ⟨(by decide), (w32_cg rfl).2⟩) ?_
          refine xw_istore (L' := [(8, xi ((w32 ((w32 (p1 - p3)) - 1)) % 3)), (7, xi ((w32 ((w32 (p1 - p3)) - 1)) / 3)), (6, xi (w32 (p1 - p3))), (5, xi (xR m (m 536 59) (xR m 592 p0))), (0, xa 536), (1, xi p0), (2, xi p1), (3, xi p2), (4, xi p3)]) rfl (by decide) rfl ?_
          refine xw_iload rfl rfl ?_
          exact q
        refine xS_if (fun h7 => ?_) (fun h7 => ?_)
        · refine xS_of (pc' := 170) (L' := [(0, xa 536), (1, xi p0), (7, xi ((w32 ((w32 (p1 - p3)) - 1)) / 3)), (8, xi ((w32 ((w32 (p1 - p3)) - 1)) % 3)), (9, xj 0), (11, xi (xR m 592 p0))]) (st' := []) (m' := m) (fun ex ns r q => ?_) ?_
          · refine xw_if_neF rfl (w32_cg (w32_md rfl ⟨g6, (by decide)⟩)) h7 ?_
            refine xw_lconst (e := 0) rfl rfl ?_
            refine xw_goto rfl ?_
            refine xw_lstore (L' := [(9, xj 0), (8, xi ((w32 ((w32 (p1 - p3)) - 1)) % 3)), (7, xi ((w32 ((w32 (p1 - p3)) - 1)) / 3)), (6, xi (w32 (p1 - p3))), (5, xi (xR m (m 536 59) (xR m 592 p0))), (0, xa 536), (1, xi p0), (2, xi p1), (3, xi p2), (4, xi p3)]) rfl (by decide) rfl ?_
            refine xw_aload_n rfl rfl rfl ?_
            refine xw_gfR (n := 592) (e := 592) rfl (xw_obd (by decide +kernel)) (by decide +kernel) (by decide +kernel) rfl ?_
            refine xw_iload_n rfl rfl ?_
            refine xw_ialdc (n := 20001) (v := (m 592 p0)) (v' := (xR m 592 p0)) rfl hB (xw_obd (by decide +kernel)) rfl g0 rfl rfl ?_
            refine xw_istore (L' := [(11, xi (xR m 592 p0)), (9, xj 0), (8, xi ((w32 ((w32 (p1 - p3)) - 1)) % 3)), (7, xi ((w32 ((w32 (p1 - p3)) - 1)) / 3)), (6, xi (w32 (p1 - p3))), (5, xi (xR m (m 536 59) (xR m 592 p0))), (0, xa 536), (1, xi p0), (2, xi p1), (3, xi p2), (4, xi p3)]) rfl (by decide) rfl ?_
            refine xw_lo (L2 := [(0, xa 536), (1, xi p0), (7, xi ((w32 ((w32 (p1 - p3)) - 1)) / 3)), (8, xi ((w32 ((w32 (p1 - p3)) - 1)) % 3)), (9, xj 0), (11, xi (xR m 592 p0))]) (List.forall_mem_cons.mpr ⟨rfl, List.forall_mem_cons.mpr ⟨rfl, List.forall_mem_cons.mpr ⟨rfl, List.forall_mem_cons.mpr ⟨rfl, List.forall_mem_cons.mpr ⟨rfl, List.forall_mem_cons.mpr ⟨rfl, fun _ h => absurd h List.not_mem_nil⟩⟩⟩⟩⟩⟩) ?_
            exact q
          exact ygl325_170 hB 1000000 _ _ _ _ _ _ cp0 (w32_dv (w32_w _) ⟨g6, (by decide)⟩) (w32_md rfl ⟨g6, (by decide)⟩) rfl (w32_xR _ _ _)
        · refine xS_g (fun g8 => ?_)
          refine xS_of (pc' := 170) (L' := [(0, xa 536), (1, xi p0), (7, xi ((w32 ((w32 (p1 - p3)) - 1)) / 3)), (8, xi ((w32 ((w32 (p1 - p3)) - 1)) % 3)), (9, xj (xJ m 576 ((8 * (xR m (m 536 59) (xR m 592 p0))) + ((w32 ((w32 (p1 - p3)) - 1)) / 3)))), (11, xi (xR m 592 p0))]) (st' := []) (m' := m) (fun ex ns r q => ?_) ?_
          · refine xw_if_neT rfl (w32_cg (w32_md rfl ⟨g6, (by decide)⟩)) h7 ?_
            refine xw_aload_n rfl rfl rfl ?_
            refine xw_gfR (n := 576) (e := 576) rfl (xw_obd (by decide +kernel)) (by decide +kernel) (by decide +kernel) rfl ?_
            refine xw_bipush (e := 8) rfl (by decide +kernel) ?_
            refine xw_iload rfl rfl ?_
            refine xw_imul rfl ?_
            refine xw_iload rfl rfl ?_
            refine xw_iadd rfl ?_
            refine xw_laldc (n := 160000) (v := (m 576 ((8 * (xR m (m 536 59) (xR m 592 p0))) + ((w32 ((w32 (p1 - p3)) - 1)) / 3)))) (v' := (xJ m 576 ((8 * (xR m (m 536 59) (xR m 592 p0))) + ((w32 ((w32 (p1 - p3)) - 1)) / 3)))) rfl hB (xw_obd (by decide +kernel)) rfl g8 rfl rfl ?_
            refine xw_lstore (L' := [(9, xj (xJ m 576 ((8 * (xR m (m 536 59) (xR m 592 p0))) + ((w32 ((w32 (p1 - p3)) - 1)) / 3)))), (8, xi ((w32 ((w32 (p1 - p3)) - 1)) % 3)), (7, xi ((w32 ((w32 (p1 - p3)) - 1)) / 3)), (6, xi (w32 (p1 - p3))), (5, xi (xR m (m 536 59) (xR m 592 p0))), (0, xa 536), (1, xi p0), (2, xi p1), (3, xi p2), (4, xi p3)]) rfl (by decide) rfl ?_
            refine xw_aload_n rfl rfl rfl ?_
            refine xw_gfR (n := 592) (e := 592) rfl (xw_obd (by decide +kernel)) (by decide +kernel) (by decide +kernel) rfl ?_
            refine xw_iload_n rfl rfl ?_
            refine xw_ialdc (n := 20001) (v := (m 592 p0)) (v' := (xR m 592 p0)) rfl hB (xw_obd (by decide +kernel)) rfl g0 rfl rfl ?_
            refine xw_istore (L' := [(11, xi (xR m 592 p0)), (9, xj (xJ m 576 ((8 * (xR m (m 536 59) (xR m 592 p0))) + ((w32 ((w32 (p1 - p3)) - 1)) / 3)))), (8, xi ((w32 ((w32 (p1 - p3)) - 1)) % 3)), (7, xi ((w32 ((w32 (p1 - p3)) - 1)) / 3)), (6, xi (w32 (p1 - p3))), (5, xi (xR m (m 536 59) (xR m 592 p0))), (0, xa 536), (1, xi p0), (2, xi p1), (3, xi p2), (4, xi p3)]) rfl (by decide) rfl ?_
            refine xw_lo (L2 := [(0, xa 536), (1, xi p0), (7, xi ((w32 ((w32 (p1 - p3)) - 1)) / 3)), (8, xi ((w32 ((w32 (p1 - p3)) - 1)) % 3)), (9, xj (xJ m 576 ((8 * (xR m (m 536 59) (xR m 592 p0))) + ((w32 ((w32 (p1 - p3)) - 1)) / 3)))), (11, xi (xR m 592 p0))]) (List.forall_mem_cons.mpr ⟨rfl, List.forall_mem_cons.mpr ⟨rfl, List.forall_mem_cons.mpr ⟨rfl, List.forall_mem_cons.mpr ⟨rfl, List.forall_mem_cons.mpr ⟨rfl, List.forall_mem_cons.mpr ⟨rfl, fun _ h => absurd h List.not_mem_nil⟩⟩⟩⟩⟩⟩) ?_
            exact q
          exact ygl325_170 hB 1000000 _ _ _ _ _ _ cp0 (w32_dv (w32_w _) ⟨g6, (by decide)⟩) (w32_md rfl ⟨g6, (by decide)⟩) (w64_xJ _ _ _) (w32_xR _ _ _)
theorem ygk327_97 {B : Nat} (hB : B ≤ 512) {xs : Nat → Int32} {SL d : Nat} {r29 : Int → Int → xw_M → xP} (hr29 : ∀ x1 x2 m, w32 x1 = x1 → w32 x2 = x2 → xS B xs SL (d + 0) 327 (7, (some .int), [], 13) 1 29 [(0, xa 536), (1, xi x1), (2, xi x2)] [] m (r29 x1 x2 m)) {r35 : Int → Int → Int → xw_M → xP} (hr35 : ∀ x1 x2 x3 m, w32 x1 = x1 → w32 x2 = x2 → w32 x3 = x3 → xS B xs SL (d + 0) 327 (7, (some .int), [], 13) 1 35 [(0, xa 536), (1, xi x1), (2, xi x2), (3, xi x3)] [] m (r35 x1 x2 x3 m)) : ∀ x1 x2 x3 x4 x6 m, w32 x1 = x1 → w32 x2 = x2 → w32 x3 = x3 → w64 x4 = x4 → w32 x6 = x6 → xS B xs SL (d + 0) 327 (7, (some .int), [], 13) 1 97 [(0, xa 536), (1, xi x1), (2, xi x2), (3, xi x3), (4, xj x4), (6, xi x6)] [] m (yk327_97 B r29 r35 x1 x2 x3 x4 x6 m) := by
  intro x1 x2 x3 x4 x6 m c1 c2 c3 c4 c6
  unfold yk327_97
  refine xS_g (fun g0 => ?_)
  refine xS_of (pc' := 35) (L' := [(0, xa 536), (1, xi x1), (2, xi x2), (3, xi (w32 (x3 + 1)))]) (st' := []) (m' := (xw_u m 594 x6 x4)) (fun ex ns r q => ?_) ?_
  · refine xw_aload_n rfl rfl rfl ?_
    refine xw_gfR (n := 594) (e := 594) rfl (xw_obd (by decide +kernel)) (by decide +kernel) (by decide +kernel) rfl ?_
    refine xw_iload rfl rfl ?_
    refine xw_lload rfl rfl ?_
    refine xw_last (n := 1024) rfl hB (xw_obd (by decide +kernel)) rfl g0 ?_
    refine xw_iincc (z := (w32 (x3 + 1))) (L' := [(3, xi (w32 (x3 + 1))), (0, xa 536), (1, xi x1), (2, xi x2), (4, xj x4), (6, xi x6)]) rfl rfl (by decide) rfl rfl ?_
    refine xw_goto rfl ?_
    refine xw_lo (L2 := [(0, xa 536), (1, xi x1), (2, xi x2), (3, xi (w32 (x3 + 1)))]) (List.forall_mem_cons.mpr ⟨rfl, List.forall_mem_cons.mpr ⟨rfl, List.forall_mem_cons.mpr ⟨rfl, List.forall_mem_cons.mpr ⟨rfl, fun _ h => absurd h List.not_mem_nil⟩⟩⟩⟩) ?_
    exact q
  exact hr35 _ _ _ _ c1 c2 (w32_w _)
theorem ysl327_51 {B : Nat} (hB : B ≤ 512) {xs : Nat → Int32} {SL d : Nat} {r29 : Int → Int → xw_M → xP} (hr29 : ∀ x1 x2 m, w32 x1 = x1 → w32 x2 = x2 → xS B xs SL (d + 0) 327 (7, (some .int), [], 13) 1 29 [(0, xa 536), (1, xi x1), (2, xi x2)] [] m (r29 x1 x2 m)) {r35 : Int → Int → Int → xw_M → xP} (hr35 : ∀ x1 x2 x3 m, w32 x1 = x1 → w32 x2 = x2 → w32 x3 = x3 → xS B xs SL (d + 0) 327 (7, (some .int), [], 13) 1 35 [(0, xa 536), (1, xi x1), (2, xi x2), (3, xi x3)] [] m (r35 x1 x2 x3 m)) {r51 : Int → Int → Int → Int → Int → xw_M → xP} (hr51 : ∀ x1 x2 x3 x4 x6 m, w32 x1 = x1 → w32 x2 = x2 → w32 x3 = x3 → w64 x4 = x4 → w32 x6 = x6 → xS B xs SL (d + 0) 327 (7, (some .int), [], 13) 1 51 [(0, xa 536), (1, xi x1), (2, xi x2), (3, xi x3), (4, xj x4), (6, xi x6)] [] m (r51 x1 x2 x3 x4 x6 m)) : ∀ x1 x2 x3 x4 x6 m, w32 x1 = x1 → w32 x2 = x2 → w32 x3 = x3 → w64 x4 = x4 → w32 x6 = x6 → xS B xs SL (d + 0) 327 (7, (some .int), [], 13) 1 51 [(0, xa 536), (1, xi x1), (2, xi x2), (3, xi x3), (4, xj x4), (6, xi x6)] [] m (yl327_51 B r29 r35 r51 x1 x2 x3 x4 x6 m) := by
  intro x1 x2 x3 x4 x6 m c1 c2 c3 c4 c6
  unfold yl327_51
  refine xS_of (pc' := 54) (L' := [(0, xa 536), (1, xi x1), (2, xi x2), (3, xi x3), (4, xj x4), (6, xi x6)]) (st' := [xi x2, xi x6]) (m' := m) (fun ex ns r q => ?_) ?_
  · refine xw_iload rfl rfl ?_
    refine xw_iload_n rfl rfl ?_
    exact q
  refine xS_if (fun h0 => ?_) (fun h0 => ?_)
  · refine xS_of (pc' := 97) (L' := [(0, xa 536), (1, xi x1), (2, xi x2), (3, xi x3), (4, xj x4), (6, xi x6)]) (st' := []) (m' := m) (fun ex ns r q => ?_) ?_
    · refine xw_ic_ltT rfl (w32_cg c6) (w32_cg c2) h0 ?_
      refine xw_lo (L2 := [(0, xa 536), (1, xi x1), (2, xi x2), (3, xi x3), (4, xj x4), (6, xi x6)]) (List.forall_mem_cons.mpr ⟨rfl, List.forall_mem_cons.mpr ⟨rfl, List.forall_mem_cons.mpr ⟨rfl, List.forall_mem_cons.mpr ⟨rfl, List.forall_mem_cons.mpr ⟨rfl, List.forall_mem_cons.mpr ⟨rfl, fun _ h => absurd h List.not_mem_nil⟩⟩⟩⟩⟩⟩) ?_
      exact q
    exact ygk327_97 hB hr29 hr35 _ _ _ _ _ _ c1 c2 c3 c4 c6
  · refine xS_g (fun g1 => ?_)
    refine xS_of (pc' := 68) (L' := [(0, xa 536), (1, xi x1), (2, xi x2), (3, xi x3), (4, xj x4), (6, xi x6)]) (st' := [xj x4, xj (xJ m 594 (x6 - x2))]) (m' := m) (fun ex ns r q => ?_) ?_
    · refine xw_ic_ltF rfl (w32_cg c6) (w32_cg c2) h0 ?_
      refine xw_aload_n rfl rfl rfl ?_
      refine xw_gfR (n := 594) (e := 594) rfl (xw_obd (by decide +kernel)) (by decide +kernel) (by decide +kernel) rfl ?_
      refine xw_iload rfl rfl ?_
      refine xw_iload_n rfl rfl ?_
      refine xw_isub rfl ?_
      refine xw_laldc (n := 1024) (v := (m 594 (x6 - x2))) (v' := (xJ m 594 (x6 - x2))) rfl hB (xw_obd (by decide +kernel)) rfl g1 rfl rfl ?_
      refine xw_lload rfl rfl ?_
      exact q
    refine xS_if (fun h2 => ?_) (fun h2 => ?_)
    · refine xS_g (fun g3 => ?_)
      refine xS_of (pc' := 51) (L' := [(0, xa 536), (1, xi x1), (2, xi x2), (3, xi x3), (4, xj x4), (6, xi (w32 (x6 - x2)))]) (st' := []) (m' := (xw_u m 594 x6 (xJ m 594 (x6 - x2)))) (fun ex ns r q => ?_) ?_
      · refine xw_jc_leF rfl rfl (w64_cg (w64_xJ _ _ _)) (w64_cg c4) (Int.not_le.mpr h2) ?_
        refine xw_aload_n rfl rfl rfl ?_
        refine xw_gfR (n := 594) (e := 594) rfl (xw_obd (by decide +kernel)) (by decide +kernel) (by decide +kernel) rfl ?_
        refine xw_iload rfl rfl ?_
        refine xw_aload_n rfl rfl rfl ?_
        refine xw_gfR (n := 594) (e := 594) rfl (xw_obd (by decide +kernel)) (by decide +kernel) (by decide +kernel) rfl ?_
        refine xw_iload rfl rfl ?_
        refine xw_iload_n rfl rfl ?_
        refine xw_isub rfl ?_
        refine xw_laldc (n := 1024) (v := (m 594 (x6 - x2))) (v' := (xJ m 594 (x6 - x2))) rfl hB (xw_obd (by decide +kernel)) rfl g1 rfl rfl ?_
        refine xw_last (n := 1024) rfl hB (xw_obd (by decide +kernel)) rfl g3 ?_
        refine xw_iload rfl rfl ?_
        refine xw_iload_n rfl rfl ?_
        refine xw_isub rfl ?_
        refine xw_cst (st' := [xi (w32 (x6 - x2))]) (xw_sc (xi_c rfl) rfl) ?_
        refine xw_istore (L' := [(6, xi (w32 (x6 - x2))), (0, xa 536), (1, xi x1), (2, xi x2), (3, xi x3), (4, xj x4)]) rfl (by decide) rfl ?_
        refine xw_goto rfl ?_
        refine xw_lo (L2 := [(0, xa 536), (1, xi x1), (2, xi x2), (3, xi x3), (4, xj x4), (6, xi (w32 (x6 - x2)))]) (List.forall_mem_cons.mpr ⟨rfl, List.forall_mem_cons.mpr ⟨rfl, List.forall_mem_cons.mpr ⟨rfl, List.forall_mem_cons.mpr ⟨rfl, List.forall_mem_cons.mpr ⟨rfl, List.forall_mem_cons.mpr ⟨rfl, fun _ h => absurd h List.not_mem_nil⟩⟩⟩⟩⟩⟩) ?_
        exact q
      exact hr51 _ _ _ _ _ _ c1 c2 c3 c4 (w32_w _)
    · refine xS_of (pc' := 97) (L' := [(0, xa 536), (1, xi x1), (2, xi x2), (3, xi x3), (4, xj x4), (6, xi x6)]) (st' := []) (m' := m) (fun ex ns r q => ?_) ?_
      · refine xw_jc_leT rfl rfl (w64_cg (w64_xJ _ _ _)) (w64_cg c4) (Int.not_lt.mp h2) ?_
        refine xw_lo (L2 := [(0, xa 536), (1, xi x1), (2, xi x2), (3, xi x3), (4, xj x4), (6, xi x6)]) (List.forall_mem_cons.mpr ⟨rfl, List.forall_mem_cons.mpr ⟨rfl, List.forall_mem_cons.mpr ⟨rfl, List.forall_mem_cons.mpr ⟨rfl, List.forall_mem_cons.mpr ⟨rfl, List.forall_mem_cons.mpr ⟨rfl, fun _ h => absurd h List.not_mem_nil⟩⟩⟩⟩⟩⟩) ?_
        exact q
      exact ygk327_97 hB hr29 hr35 _ _ _ _ _ _ c1 c2 c3 c4 c6
theorem ygl327_51 {B : Nat} (hB : B ≤ 512) {xs : Nat → Int32} {SL d : Nat} {r29 : Int → Int → xw_M → xP} (hr29 : ∀ x1 x2 m, w32 x1 = x1 → w32 x2 = x2 → xS B xs SL (d + 0) 327 (7, (some .int), [], 13) 1 29 [(0, xa 536), (1, xi x1), (2, xi x2)] [] m (r29 x1 x2 m)) {r35 : Int → Int → Int → xw_M → xP} (hr35 : ∀ x1 x2 x3 m, w32 x1 = x1 → w32 x2 = x2 → w32 x3 = x3 → xS B xs SL (d + 0) 327 (7, (some .int), [], 13) 1 35 [(0, xa 536), (1, xi x1), (2, xi x2), (3, xi x3)] [] m (r35 x1 x2 x3 m)) : ∀ n x1 x2 x3 x4 x6 m, w32 x1 = x1 → w32 x2 = x2 → w32 x3 = x3 → w64 x4 = x4 → w32 x6 = x6 → xS B xs SL (d + 0) 327 (7, (some .int), [], 13) 1 51 [(0, xa 536), (1, xi x1), (2, xi x2), (3, xi x3), (4, xj x4), (6, xi x6)] [] m (xl5 (yl327_51 B r29 r35) n x1 x2 x3 x4 x6 m) := by
  intro n
  induction n with
  | zero => intro x1 x2 x3 x4 x6 m c1 c2 c3 c4 c6; exact xS_none
  | succ n ih => exact ysl327_51 hB hr29 hr35 ih
theorem ysl327_35 {B : Nat} (hB : B ≤ 512) {xs : Nat → Int32} {SL d : Nat} {r29 : Int → Int → xw_M → xP} (hr29 : ∀ x1 x2 m, w32 x1 = x1 → w32 x2 = x2 → xS B xs SL (d + 0) 327 (7, (some .int), [], 13) 1 29 [(0, xa 536), (1, xi x1), (2, xi x2)] [] m (r29 x1 x2 m)) {r35 : Int → Int → Int → xw_M → xP} (hr35 : ∀ x1 x2 x3 m, w32 x1 = x1 → w32 x2 = x2 → w32 x3 = x3 → xS B xs SL (d + 0) 327 (7, (some .int), [], 13) 1 35 [(0, xa 536), (1, xi x1), (2, xi x2), (3, xi x3)] [] m (r35 x1 x2 x3 m)) : ∀ x1 x2 x3 m, w32 x1 = x1 → w32 x2 = x2 → w32 x3 = x3 → xS B xs SL (d + 0) 327 (7, (some .int), [], 13) 1 35 [(0, xa 536), (1, xi x1), (2, xi x2), (3, xi x3)] [] m (yl327_35 B r29 r35 x1 x2 x3 m) := by
  intro x1 x2 x3 m c1 c2 c3
  unfold yl327_35
  refine xS_of (pc' := 37) (L' := [(0, xa 536), (1, xi x1), (2, xi x2), (3, xi x3)]) (st' := [xi x1, xi x3]) (m' := m) (fun ex ns r q => ?_) ?_
  · refine xw_iload_n rfl rfl ?_
    refine xw_iload_n rfl rfl ?_
    exact q
  refine xS_if (fun h0 => ?_) (fun h0 => ?_)
  · refine xS_g (fun g1 => ?_)
    refine xS_of (pc' := 51) (L' := [(0, xa 536), (1, xi x1), (2, xi x2), (3, xi x3), (4, xj (xJ m 594 x3)), (6, xi x3)]) (st' := []) (m' := m) (fun ex ns r q => ?_) ?_
    · refine xw_ic_geF rfl (w32_cg c3) (w32_cg c1) (Int.not_le.mpr h0) ?_
      refine xw_aload_n rfl rfl rfl ?_
      refine xw_gfR (n := 594) (e := 594) rfl (xw_obd (by decide +kernel)) (by decide +kernel) (by decide +kernel) rfl ?_
      refine xw_iload_n rfl rfl ?_
      refine xw_laldc (n := 1024) (v := (m 594 x3)) (v' := (xJ m 594 x3)) rfl hB (xw_obd (by decide +kernel)) rfl g1 rfl rfl ?_
      refine xw_lstore (L' := [(4, xj (xJ m 594 x3)), (0, xa 536), (1, xi x1), (2, xi x2), (3, xi x3)]) rfl (by decide) rfl ?_
      refine xw_iload_n rfl rfl ?_
      refine xw_istore (L' := [(6, xi x3), (4, xj (xJ m 594 x3)), (0, xa 536), (1, xi x1), (2, xi x2), (3, xi x3)]) rfl (by decide) rfl ?_
      refine xw_lo (L2 := [(0, xa 536), (1, xi x1), (2, xi x2), (3, xi x3), (4, xj (xJ m 594 x3)), (6, xi x3)]) (List.forall_mem_cons.mpr ⟨rfl, List.forall_mem_cons.mpr ⟨rfl, List.forall_mem_cons.mpr ⟨rfl, List.forall_mem_cons.mpr ⟨rfl, List.forall_mem_cons.mpr ⟨rfl, List.forall_mem_cons.mpr ⟨rfl, fun _ h => absurd h List.not_mem_nil⟩⟩⟩⟩⟩⟩) ?_
      exact q
    exact ygl327_51 hB hr29 hr35 1000000 _ _ _ _ _ _ c1 c2 c3 (w64_xJ _ _ _) c3
  · refine xS_g (fun g1 => ?_)
    refine xS_of (pc' := 29) (L' := [(0, xa 536), (1, xi x1), (2, xi (x2 / 2))]) (st' := []) (m' := m) (fun ex ns r q => ?_) ?_
    · refine xw_ic_geT rfl (w32_cg c3) (w32_cg c1) (Int.not_lt.mp h0) ?_
      refine xw_iload_n rfl rfl ?_
      refine xw_iconst rfl ?_
      refine xw_idiv (z := (x2 / 2)) rfl (xw_idivn ⟨(by decide), (w32_cg rfl).2⟩) (xw_idive ⟨g1, (w32_cg c2).2⟩ ⟨(by decide), (w32_cg rfl).2⟩) ?_
      refine xw_istore_n (L' := [(2, xi (x2 / 2)), (0, xa 536), (1, xi x1), (3, xi x3)]) rfl (by decide) rfl ?_
      refine xw_goto rfl ?_
      refine xw_lo (L2 := [(0, xa 536), (1, xi x1), (2, xi (x2 / 2))]) (List.forall_mem_cons.mpr ⟨rfl, List.forall_mem_cons.mpr ⟨rfl, List.forall_mem_cons.mpr ⟨rfl, fun _ h => absurd h List.not_mem_nil⟩⟩⟩) ?_
      exact q
    exact hr29 _ _ _ c1 (w32_dv c2 ⟨g1, (by decide)⟩)
theorem ygl327_35 {B : Nat} (hB : B ≤ 512) {xs : Nat → Int32} {SL d : Nat} {r29 : Int → Int → xw_M → xP} (hr29 : ∀ x1 x2 m, w32 x1 = x1 → w32 x2 = x2 → xS B xs SL (d + 0) 327 (7, (some .int), [], 13) 1 29 [(0, xa 536), (1, xi x1), (2, xi x2)] [] m (r29 x1 x2 m)) : ∀ n x1 x2 x3 m, w32 x1 = x1 → w32 x2 = x2 → w32 x3 = x3 → xS B xs SL (d + 0) 327 (7, (some .int), [], 13) 1 35 [(0, xa 536), (1, xi x1), (2, xi x2), (3, xi x3)] [] m (xl3 (yl327_35 B r29) n x1 x2 x3 m) := by
  intro n
  induction n with
  | zero => intro x1 x2 x3 m c1 c2 c3; exact xS_none
  | succ n ih => exact ysl327_35 hB hr29 ih
theorem ysl327_123 {B : Nat} (hB : B ≤ 512) {xs : Nat → Int32} {SL d : Nat} {r123 : Int → Int → Int → xw_M → xP} (hr123 : ∀ x1 x2 x3 m, w32 x1 = x1 → w32 x2 = x2 → w32 x3 = x3 → xS B xs SL (d + 0) 327 (7, (some .int), [], 13) 1 123 [(0, xa 536), (1, xi x1), (2, xi x2), (3, xi x3)] [] m (r123 x1 x2 x3 m)) : ∀ x1 x2 x3 m, w32 x1 = x1 → w32 x2 = x2 → w32 x3 = x3 → xS B xs SL (d + 0) 327 (7, (some .int), [], 13) 1 123 [(0, xa 536), (1, xi x1), (2, xi x2), (3, xi x3)] [] m (yl327_123 B r123 x1 x2 x3 m) := by
  intro x1 x2 x3 m c1 c2 c3
  unfold yl327_123
  refine xS_of (pc' := 125) (L' := [(0, xa 536), (1, xi x1), (2, xi x2), (3, xi x3)]) (st' := [xi x1, xi x3]) (m' := m) (fun ex ns r q => ?_) ?_
  · refine xw_iload_n rfl rfl ?_
    refine xw_iload_n rfl rfl ?_
    exact q
  refine xS_if (fun h0 => ?_) (fun h0 => ?_)
  · refine xS_g (fun g1 => ?_)
    refine xS_g (fun g2 => ?_)
    refine xS_of (pc' := 143) (L' := [(0, xa 536), (1, xi x1), (2, xi x2), (3, xi x3)]) (st' := [xj (xJ m 594 (x3 - 1)), xj (xJ m 594 x3), xi x2]) (m' := m) (fun ex ns r q => ?_) ?_
    · refine xw_ic_geF rfl (w32_cg c3) (w32_cg c1) (Int.not_le.mpr h0) ?_
      refine xw_iload_n rfl rfl ?_
      refine xw_aload_n rfl rfl rfl ?_
      refine xw_gfR (n := 594) (e := 594) rfl (xw_obd (by decide +kernel)) (by decide +kernel) (by decide +kernel) rfl ?_
      refine xw_iload_n rfl rfl ?_
      refine xw_laldc (n := 1024) (v := (m 594 x3)) (v' := (xJ m 594 x3)) rfl hB (xw_obd (by decide +kernel)) rfl g1 rfl rfl ?_
      refine xw_aload_n rfl rfl rfl ?_
      refine xw_gfR (n := 594) (e := 594) rfl (xw_obd (by decide +kernel)) (by decide +kernel) (by decide +kernel) rfl ?_
      refine xw_iload_n rfl rfl ?_
      refine xw_iconst rfl ?_
      refine xw_isub rfl ?_
      refine xw_laldc (n := 1024) (v := (m 594 (x3 - 1))) (v' := (xJ m 594 (x3 - 1))) rfl hB (xw_obd (by decide +kernel)) rfl g2 rfl rfl ?_
      exact q
    refine xS_if (fun h3 => ?_) (fun h3 => ?_)
    · refine xS_of (pc' := 123) (L' := [(0, xa 536), (1, xi x1), (2, xi (w32 (x2 + 0))), (3, xi (w32 (x3 + 1)))]) (st' := []) (m' := m) (fun ex ns r q => ?_) ?_
      · refine xw_jc_eqT rfl rfl (w64_cg (w64_xJ _ _ _)) (w64_cg (w64_xJ _ _ _)) h3 ?_
        refine xw_iconst rfl ?_
        refine xw_iadd rfl ?_
        refine xw_cst (st' := [xi (w32 (x2 + 0))]) (xw_sc (xi_c rfl) rfl) ?_
        refine xw_istore_n (L' := [(2, xi (w32 (x2 + 0))), (0, xa 536), (1, xi x1), (3, xi x3)]) rfl (by decide) rfl ?_
        refine xw_iincc (z := (w32 (x3 + 1))) (L' := [(3, xi (w32 (x3 + 1))), (2, xi (w32 (x2 + 0))), (0, xa 536), (1, xi x1)]) rfl rfl (by decide) rfl rfl ?_
        refine xw_goto rfl ?_
        refine xw_lo (L2 := [(0, xa 536), (1, xi x1), (2, xi (w32 (x2 + 0))), (3, xi (w32 (x3 + 1)))]) (List.forall_mem_cons.mpr ⟨rfl, List.forall_mem_cons.mpr ⟨rfl, List.forall_mem_cons.mpr ⟨rfl, List.forall_mem_cons.mpr ⟨rfl, fun _ h => absurd h List.not_mem_nil⟩⟩⟩⟩) ?_
        exact q
      exact hr123 _ _ _ _ c1 (w32_w _) (w32_w _)
    · refine xS_of (pc' := 123) (L' := [(0, xa 536), (1, xi x1), (2, xi (w32 (x2 + 1))), (3, xi (w32 (x3 + 1)))]) (st' := []) (m' := m) (fun ex ns r q => ?_) ?_
      · refine xw_jc_eqF rfl rfl (w64_cg (w64_xJ _ _ _)) (w64_cg (w64_xJ _ _ _)) h3 ?_
        refine xw_iconst rfl ?_
        refine xw_goto rfl ?_
        refine xw_iadd rfl ?_
        refine xw_cst (st' := [xi (w32 (x2 + 1))]) (xw_sc (xi_c rfl) rfl) ?_
        refine xw_istore_n (L' := [(2, xi (w32 (x2 + 1))), (0, xa 536), (1, xi x1), (3, xi x3)]) rfl (by decide) rfl ?_
        refine xw_iincc (z := (w32 (x3 + 1))) (L' := [(3, xi (w32 (x3 + 1))), (2, xi (w32 (x2 + 1))), (0, xa 536), (1, xi x1)]) rfl rfl (by decide) rfl rfl ?_
        refine xw_goto rfl ?_
        refine xw_lo (L2 := [(0, xa 536), (1, xi x1), (2, xi (w32 (x2 + 1))), (3, xi (w32 (x3 + 1)))]) (List.forall_mem_cons.mpr ⟨rfl, List.forall_mem_cons.mpr ⟨rfl, List.forall_mem_cons.mpr ⟨rfl, List.forall_mem_cons.mpr ⟨rfl, fun _ h => absurd h List.not_mem_nil⟩⟩⟩⟩) ?_
        exact q
      exact hr123 _ _ _ _ c1 (w32_w _) (w32_w _)
  · refine xS_of (pc' := 161) (L' := [(0, xa 536), (1, xi x1), (2, xi x2), (3, xi x3)]) (st' := [xi x2]) (m' := m) (fun ex ns r q => ?_) ?_
    · refine xw_ic_geT rfl (w32_cg c3) (w32_cg c1) (Int.not_lt.mp h0) ?_
      refine xw_iload_n rfl rfl ?_
      exact q
    exact xS_ret (v := x2) rfl rfl xw_rtI c2
theorem ygl327_123 {B : Nat} (hB : B ≤ 512) {xs : Nat → Int32} {SL d : Nat} : ∀ n x1 x2 x3 m, w32 x1 = x1 → w32 x2 = x2 → w32 x3 = x3 → xS B xs SL (d + 0) 327 (7, (some .int), [], 13) 1 123 [(0, xa 536), (1, xi x1), (2, xi x2), (3, xi x3)] [] m (xl3 (yl327_123 B) n x1 x2 x3 m) := by
  intro n
  induction n with
  | zero => intro x1 x2 x3 m c1 c2 c3; exact xS_none
  | succ n ih => exact ysl327_123 hB ih
theorem ysl327_29 {B : Nat} (hB : B ≤ 512) {xs : Nat → Int32} {SL d : Nat} {r29 : Int → Int → xw_M → xP} (hr29 : ∀ x1 x2 m, w32 x1 = x1 → w32 x2 = x2 → xS B xs SL (d + 0) 327 (7, (some .int), [], 13) 1 29 [(0, xa 536), (1, xi x1), (2, xi x2)] [] m (r29 x1 x2 m)) : ∀ x1 x2 m, w32 x1 = x1 → w32 x2 = x2 → xS B xs SL (d + 0) 327 (7, (some .int), [], 13) 1 29 [(0, xa 536), (1, xi x1), (2, xi x2)] [] m (yl327_29 B r29 x1 x2 m) := by
  intro x1 x2 m c1 c2
  unfold yl327_29
  refine xS_of (pc' := 30) (L' := [(0, xa 536), (1, xi x1), (2, xi x2)]) (st' := [xi x2]) (m' := m) (fun ex ns r q => ?_) ?_
  · refine xw_iload_n rfl rfl ?_
    exact q
  refine xS_if (fun h0 => ?_) (fun h0 => ?_)
  · refine xS_of (pc' := 35) (L' := [(0, xa 536), (1, xi x1), (2, xi x2), (3, xi x2)]) (st' := []) (m' := m) (fun ex ns r q => ?_) ?_
    · refine xw_if_leF rfl (w32_cg c2) (Int.not_le.mpr h0) ?_
      refine xw_iload_n rfl rfl ?_
      refine xw_istore_n (L' := [(3, xi x2), (0, xa 536), (1, xi x1), (2, xi x2)]) rfl (by decide) rfl ?_
      refine xw_lo (L2 := [(0, xa 536), (1, xi x1), (2, xi x2), (3, xi x2)]) (List.forall_mem_cons.mpr ⟨rfl, List.forall_mem_cons.mpr ⟨rfl, List.forall_mem_cons.mpr ⟨rfl, List.forall_mem_cons.mpr ⟨rfl, fun _ h => absurd h List.not_mem_nil⟩⟩⟩⟩) ?_
      exact q
    exact ygl327_35 hB hr29 1000000 _ _ _ _ c1 c2 c2
  · refine xS_of (pc' := 123) (L' := [(0, xa 536), (1, xi x1), (2, xi 1), (3, xi 1)]) (st' := []) (m' := m) (fun ex ns r q => ?_) ?_
    · refine xw_if_leT rfl (w32_cg c2) (Int.not_lt.mp h0) ?_
      refine xw_iconst rfl ?_
      refine xw_istore_n (L' := [(2, xi 1), (0, xa 536), (1, xi x1)]) rfl (by decide) rfl ?_
      refine xw_iconst rfl ?_
      refine xw_istore_n (L' := [(3, xi 1), (2, xi 1), (0, xa 536), (1, xi x1)]) rfl (by decide) rfl ?_
      refine xw_lo (L2 := [(0, xa 536), (1, xi x1), (2, xi 1), (3, xi 1)]) (List.forall_mem_cons.mpr ⟨rfl, List.forall_mem_cons.mpr ⟨rfl, List.forall_mem_cons.mpr ⟨rfl, List.forall_mem_cons.mpr ⟨rfl, fun _ h => absurd h List.not_mem_nil⟩⟩⟩⟩) ?_
      exact q
    exact ygl327_123 hB 1000000 _ _ _ _ c1 rfl rfl
theorem ygl327_29 {B : Nat} (hB : B ≤ 512) {xs : Nat → Int32} {SL d : Nat} : ∀ n x1 x2 m, w32 x1 = x1 → w32 x2 = x2 → xS B xs SL (d + 0) 327 (7, (some .int), [], 13) 1 29 [(0, xa 536), (1, xi x1), (2, xi x2)] [] m (xl2 (yl327_29 B) n x1 x2 m) := by
  intro n
  induction n with
  | zero => intro x1 x2 m c1 c2; exact xS_none
  | succ n ih => exact ysl327_29 hB ih
theorem ysl327_2 {B : Nat} (hB : B ≤ 512) {xs : Nat → Int32} {SL d : Nat} {r2 : Int → Int → xw_M → xP} (hr2 : ∀ x1 x2 m, w32 x1 = x1 → w32 x2 = x2 → xS B xs SL (d + 0) 327 (7, (some .int), [], 13) 1 2 [(0, xa 536), (1, xi x1), (2, xi x2)] [] m (r2 x1 x2 m)) : ∀ x1 x2 m, w32 x1 = x1 → w32 x2 = x2 → xS B xs SL (d + 0) 327 (7, (some .int), [], 13) 1 2 [(0, xa 536), (1, xi x1), (2, xi x2)] [] m (yl327_2 B r2 x1 x2 m) := by
  intro x1 x2 m c1 c2
  unfold yl327_2
  refine xS_of (pc' := 4) (L' := [(0, xa 536), (1, xi x1), (2, xi x2)]) (st' := [xi x1, xi x2]) (m' := m) (fun ex ns r q => ?_) ?_
  · refine xw_iload_n rfl rfl ?_
    refine xw_iload_n rfl rfl ?_
    exact q
  refine xS_if (fun h0 => ?_) (fun h0 => ?_)
  · refine xS_g (fun g1 => ?_)
    refine xS_of (pc' := 2) (L' := [(0, xa 536), (1, xi x1), (2, xi (w32 (x2 + 1)))]) (st' := []) (m' := (xw_u m 594 x2 (xJ m 593 x2))) (fun ex ns r q => ?_) ?_
    · refine xw_ic_geF rfl (w32_cg c2) (w32_cg c1) (Int.not_le.mpr h0) ?_
      refine xw_aload_n rfl rfl rfl ?_
      refine xw_gfR (n := 594) (e := 594) rfl (xw_obd (by decide +kernel)) (by decide +kernel) (by decide +kernel) rfl ?_
      refine xw_iload_n rfl rfl ?_
      refine xw_aload_n rfl rfl rfl ?_
      refine xw_gfR (n := 593) (e := 593) rfl (xw_obd (by decide +kernel)) (by decide +kernel) (by decide +kernel) rfl ?_
      refine xw_iload_n rfl rfl ?_
      refine xw_laldc (n := 1024) (v := (m 593 x2)) (v' := (xJ m 593 x2)) rfl hB (xw_obd (by decide +kernel)) rfl g1 rfl rfl ?_
      refine xw_last (n := 1024) rfl hB (xw_obd (by decide +kernel)) rfl g1 ?_
      refine xw_iincc (z := (w32 (x2 + 1))) (L' := [(2, xi (w32 (x2 + 1))), (0, xa 536), (1, xi x1)]) rfl rfl (by decide) rfl rfl ?_
      refine xw_goto rfl ?_
      refine xw_lo (L2 := [(0, xa 536), (1, xi x1), (2, xi (w32 (x2 + 1)))]) (List.forall_mem_cons.mpr ⟨rfl, List.forall_mem_cons.mpr ⟨rfl, List.forall_mem_cons.mpr ⟨rfl, fun _ h => absurd h List.not_mem_nil⟩⟩⟩) ?_
      exact q
    exact hr2 _ _ _ c1 (w32_w _)
  · refine xS_g (fun g1 => ?_)
    refine xS_of (pc' := 29) (L' := [(0, xa 536), (1, xi x1), (2, xi (x1 / 2))]) (st' := []) (m' := m) (fun ex ns r q => ?_) ?_
    · refine xw_ic_geT rfl (w32_cg c2) (w32_cg c1) (Int.not_lt.mp h0) ?_
      refine xw_iload_n rfl rfl ?_
      refine xw_iconst rfl ?_
      refine xw_idiv (z := (x1 / 2)) rfl (xw_idivn ⟨(by decide), (w32_cg rfl).2⟩) (xw_idive ⟨g1, (w32_cg c1).2⟩ ⟨(by decide), (w32_cg rfl).2⟩) ?_
      refine xw_istore_n (L' := [(2, xi (x1 / 2)), (0, xa 536), (1, xi x1)]) rfl (by decide) rfl ?_
      refine xw_lo (L2 := [(0, xa 536), (1, xi x1), (2, xi (x1 / 2))]) (List.forall_mem_cons.mpr ⟨rfl, List.forall_mem_cons.mpr ⟨rfl, List.forall_mem_cons.mpr ⟨rfl, fun _ h => absurd h List.not_mem_nil⟩⟩⟩) ?_
      exact q
    exact ygl327_29 hB 1000000 _ _ _ c1 (w32_dv c1 ⟨g1, (by decide)⟩)
theorem ygl327_2 {B : Nat} (hB : B ≤ 512) {xs : Nat → Int32} {SL d : Nat} : ∀ n x1 x2 m, w32 x1 = x1 → w32 x2 = x2 → xS B xs SL (d + 0) 327 (7, (some .int), [], 13) 1 2 [(0, xa 536), (1, xi x1), (2, xi x2)] [] m (xl2 (yl327_2 B) n x1 x2 m) := by
  intro n
  induction n with
  | zero => intro x1 x2 m c1 c2; exact xS_none
  | succ n ih => exact ysl327_2 hB ih
theorem ygf327 {B : Nat} (hB : B ≤ 512) {xs : Nat → Int32} {SL d : Nat} : ∀ p0 m, w32 p0 = p0 → xS B xs SL (d + 0) 327 (7, (some .int), [], 13) 1 0 [(0, xa 536), (1, xi p0)] [] m (yf327 B p0 m) := by
  intro p0 m cp0
  unfold yf327
  refine xS_of (pc' := 2) (L' := [(0, xa 536), (1, xi p0), (2, xi 0)]) (st' := []) (m' := m) (fun ex ns r q => ?_) ?_
  · refine xw_iconst rfl ?_
    refine xw_istore_n (L' := [(2, xi 0), (0, xa 536), (1, xi p0)]) rfl (by decide) rfl ?_
    refine xw_lo (L2 := [(0, xa 536), (1, xi p0), (2, xi 0)]) (List.forall_mem_cons.mpr ⟨rfl, List.forall_mem_cons.mpr ⟨rfl, List.forall_mem_cons.mpr ⟨rfl, fun _ h => absurd h List.not_mem_nil⟩⟩⟩) ?_
    exact q
  exact ygl327_2 hB 1000000 _ _ _ cp0 rfl
theorem ysl328_4 {B : Nat} (hB : B ≤ 512) {xs : Nat → Int32} {SL d : Nat} {r4 : Int → Int → xw_M → xP} (hr4 : ∀ x2 x3 m, w32 x2 = x2 → w64 x3 = x3 → xS B xs SL (d + 0) 328 (5, (some .int), [], 0) 1 4 [(2, xi x2), (3, xj x3)] [] m (r4 x2 x3 m)) : ∀ x2 x3 m, w32 x2 = x2 → w64 x3 = x3 → xS B xs SL (d + 0) 328 (5, (some .int), [], 0) 1 4 [(2, xi x2), (3, xj x3)] [] m (yl328_4 B r4 x2 x3 m) := by
  intro x2 x3 m c2 c3
  unfold yl328_4
  refine xS_of (pc' := 6) (L' := [(2, xi x2), (3, xj x3)]) (st' := [xj 0, xj x3]) (m' := m) (fun ex ns r q => ?_) ?_
  · refine xw_lload_n rfl rfl ?_
    refine xw_lconst (e := 0) rfl rfl ?_
    exact q
  refine xS_if (fun h0 => ?_) (fun h0 => ?_)
  · refine xS_of (pc' := 21) (L' := [(2, xi x2), (3, xj x3)]) (st' := [xi x2]) (m' := m) (fun ex ns r q => ?_) ?_
    · refine xw_jc_eqT rfl rfl (w64_cg c3) (w64_cg rfl) h0 ?_
      refine xw_iload_n rfl rfl ?_
      exact q
    exact xS_ret (v := x2) rfl rfl xw_rtI c2
  · refine xS_of (pc' := 4) (L' := [(2, xi (w32 (x2 + 1))), (3, xj (xw_lushrf x3 1))]) (st' := []) (m' := m) (fun ex ns r q => ?_) ?_
    · refine xw_jc_eqF rfl rfl (w64_cg c3) (w64_cg rfl) h0 ?_
      refine xw_iincc (z := (w32 (x2 + 1))) (L' := [(2, xi (w32 (x2 + 1))), (3, xj x3)]) rfl rfl (by decide) rfl rfl ?_
      refine xw_lload_n rfl rfl ?_
      refine xw_iconst rfl ?_
      refine xw_lushr (z := (xw_lushrf x3 1)) rfl (xw_lushre _ _) ?_
      refine xw_lstore_n (L' := [(3, xj (xw_lushrf x3 1)), (2, xi (w32 (x2 + 1)))]) rfl (by decide) rfl ?_
      refine xw_goto rfl ?_
      refine xw_lo (L2 := [(2, xi (w32 (x2 + 1))), (3, xj (xw_lushrf x3 1))]) (List.forall_mem_cons.mpr ⟨rfl, List.forall_mem_cons.mpr ⟨rfl, fun _ h => absurd h List.not_mem_nil⟩⟩) ?_
      exact q
    exact hr4 _ _ _ (w32_w _) (w64_ti _)
theorem ygl328_4 {B : Nat} (hB : B ≤ 512) {xs : Nat → Int32} {SL d : Nat} : ∀ n x2 x3 m, w32 x2 = x2 → w64 x3 = x3 → xS B xs SL (d + 0) 328 (5, (some .int), [], 0) 1 4 [(2, xi x2), (3, xj x3)] [] m (xl2 (yl328_4 B) n x2 x3 m) := by
  intro n
  induction n with
  | zero => intro x2 x3 m c2 c3; exact xS_none
  | succ n ih => exact ysl328_4 hB ih
theorem ygf328 {B : Nat} (hB : B ≤ 512) {xs : Nat → Int32} {SL d : Nat} : ∀ p0 m, w64 p0 = p0 → xS B xs SL (d + 0) 328 (5, (some .int), [], 0) 1 0 [(0, xj p0)] [] m (yf328 B p0 m) := by
  intro p0 m cp0
  unfold yf328
  refine xS_of (pc' := 4) (L' := [(2, xi 0), (3, xj p0)]) (st' := []) (m' := m) (fun ex ns r q => ?_) ?_
  · refine xw_iconst rfl ?_
    refine xw_istore_n (L' := [(2, xi 0), (0, xj p0)]) rfl (by decide) rfl ?_
    refine xw_lload_n rfl rfl ?_
    refine xw_lstore_n (L' := [(3, xj p0), (2, xi 0), (0, xj p0)]) rfl (by decide) rfl ?_
    refine xw_lo (L2 := [(2, xi 0), (3, xj p0)]) (List.forall_mem_cons.mpr ⟨rfl, List.forall_mem_cons.mpr ⟨rfl, fun _ h => absurd h List.not_mem_nil⟩⟩) ?_
    exact q
  exact ygl328_4 hB 1000000 _ _ _ rfl cp0
theorem ygf329 {B : Nat} (hB : B ≤ 512) {xs : Nat → Int32} {SL d : Nat} : ∀ p0 m, w32 p0 = p0 → xS B xs SL (d + 0) 329 (1, (some .int), [], 0) 1 0 [(0, xi p0)] [] m (yf329 B p0 m) := by
  intro p0 m cp0
  unfold yf329
  refine xS_g (fun g0 => ?_)
  refine xS_of (pc' := 7) (L' := [(0, xi p0)]) (st' := [xi ((w32 (p0 + 7)) / 8)]) (m' := m) (fun ex ns r q => ?_) ?_
  · refine xw_iload_n rfl rfl ?_
    refine xw_bipush (e := 7) rfl (by decide +kernel) ?_
    refine xw_iadd rfl ?_
    refine xw_bipush (e := 8) rfl (by decide +kernel) ?_
    refine xw_cst (st' := [xi 8, xi (w32 (p0 + 7))]) (xw_sc rfl (xw_sc (xi_c rfl) rfl)) ?_
    refine xw_idiv (z := ((w32 (p0 + 7)) / 8)) rfl (xw_idivn ⟨(by decide), (w32_cg rfl).2⟩) (xw_idive ⟨g0, (w32_cg (w32_w _)).2⟩ ⟨(by decide), (w32_cg rfl).2⟩) ?_
    exact q
  exact xS_ret (v := ((w32 (p0 + 7)) / 8)) rfl rfl xw_rtI (w32_dv (w32_w _) ⟨g0, (by decide)⟩)
theorem ysl326_49 {B : Nat} (hB : B ≤ 512) {xs : Nat → Int32} {SL d : Nat} {r49 : Int → Int → Int → Int → Int → Int → Int → xw_M → xP} (hr49 : ∀ x1 x2 x4 x6 x8 x10 x11 m, w32 x1 = x1 → w64 x2 = x2 → w64 x4 = x4 → w64 x6 = x6 → w64 x8 = x8 → w32 x10 = x10 → w32 x11 = x11 → xS B xs SL (d + 1) 326 (14, (some .int), [], 13) 1 49 [(0, xa 536), (1, xi x1), (2, xj x2), (4, xj x4), (6, xj x6), (8, xj x8), (10, xi x10), (11, xi x11)] [] m (r49 x1 x2 x4 x6 x8 x10 x11 m)) : ∀ x1 x2 x4 x6 x8 x10 x11 m, w32 x1 = x1 → w64 x2 = x2 → w64 x4 = x4 → w64 x6 = x6 → w64 x8 = x8 → w32 x10 = x10 → w32 x11 = x11 → xS B xs SL (d + 1) 326 (14, (some .int), [], 13) 1 49 [(0, xa 536), (1, xi x1), (2, xj x2), (4, xj x4), (6, xj x6), (8, xj x8), (10, xi x10), (11, xi x11)] [] m (yl326_49 B r49 x1 x2 x4 x6 x8 x10 x11 m) := by
  intro x1 x2 x4 x6 x8 x10 x11 m c1 c2 c4 c6 c8 c10 c11
  unfold yl326_49
  refine xS_of (pc' := 52) (L' := [(0, xa 536), (1, xi x1), (2, xj x2), (4, xj x4), (6, xj x6), (8, xj x8), (10, xi x10), (11, xi x11)]) (st' := [xi x1, xi x11]) (m' := m) (fun ex ns r q => ?_) ?_
  · refine xw_iload rfl rfl ?_
    refine xw_iload_n rfl rfl ?_
    exact q
  refine xS_if (fun h0 => ?_) (fun h0 => ?_)
  · refine xS_g (fun g1 => ?_)
    refine xS_g (fun g2 => ?_)
    refine xS_of (pc' := 123) (L' := [(8, xj (max x8 (w64 ((xJ m 593 x11) - (xJ m 593 (x11 - 1)))))), (6, xj (min x6 (w64 ((xJ m 593 x11) - (xJ m 593 (x11 - 1)))))), (4, xj (max x4 (xJ m 593 x11))), (2, xj (min x2 (xJ m 593 x11))), (12, xj (w64 ((xJ m 593 x11) - (xJ m 593 (x11 - 1))))), (0, xa 536), (1, xi x1), (10, xi x10), (11, xi x11)]) (st' := [xj 0, xj (w64 ((xJ m 593 x11) - (xJ m 593 (x11 - 1)))), xi x10]) (m' := m) (fun ex ns r q => ?_) ?_
    · refine xw_ic_geF rfl (w32_cg c11) (w32_cg c1) (Int.not_le.mpr h0) ?_
      refine xw_aload_n rfl rfl rfl ?_
      refine xw_gfR (n := 593) (e := 593) rfl (xw_obd (by decide +kernel)) (by decide +kernel) (by decide +kernel) rfl ?_
      refine xw_iload rfl rfl ?_
      refine xw_laldc (n := 1024) (v := (m 593 x11)) (v' := (xJ m 593 x11)) rfl hB (xw_obd (by decide +kernel)) rfl g1 rfl rfl ?_
      refine xw_aload_n rfl rfl rfl ?_
      refine xw_gfR (n := 593) (e := 593) rfl (xw_obd (by decide +kernel)) (by decide +kernel) (by decide +kernel) rfl ?_
      refine xw_iload rfl rfl ?_
      refine xw_iconst rfl ?_
      refine xw_isub rfl ?_
      refine xw_laldc (n := 1024) (v := (m 593 (x11 - 1))) (v' := (xJ m 593 (x11 - 1))) rfl hB (xw_obd (by decide +kernel)) rfl g2 rfl rfl ?_
      refine xw_lsub rfl ?_
      refine xw_cst (st' := [xj (w64 ((xJ m 593 x11) - (xJ m 593 (x11 - 1))))]) (xw_sc (xj_c rfl) rfl) ?_
      refine xw_lstore (L' := [(12, xj (w64 ((xJ m 593 x11) - (xJ m 593 (x11 - 1))))), (0, xa 536), (1, xi x1), (2, xj x2), (4, xj x4), (6, xj x6), (8, xj x8), (10, xi x10), (11, xi x11)]) rfl (by decide) rfl ?_
      refine xw_lload_n rfl rfl ?_
      refine xw_aload_n rfl rfl rfl ?_
      refine xw_gfR (n := 593) (e := 593) rfl (xw_obd (by decide +kernel)) (by decide +kernel) (by decide +kernel) rfl ?_
      refine xw_iload rfl rfl ?_
      refine xw_laldc (n := 1024) (v := (m 593 x11)) (v' := (xJ m 593 x11)) rfl hB (xw_obd (by decide +kernel)) rfl g1 rfl rfl ?_
      refine xw_minJ rfl rfl (w64_cg c2) (w64_cg (w64_xJ _ _ _)) rfl ?_
      refine xw_lstore_n (L' := [(2, xj (min x2 (xJ m 593 x11))), (12, xj (w64 ((xJ m 593 x11) - (xJ m 593 (x11 - 1))))), (0, xa 536), (1, xi x1), (4, xj x4), (6, xj x6), (8, xj x8), (10, xi x10), (11, xi x11)]) rfl (by decide) rfl ?_
      refine xw_lload rfl rfl ?_
      refine xw_aload_n rfl rfl rfl ?_
      refine xw_gfR (n := 593) (e := 593) rfl (xw_obd (by decide +kernel)) (by decide +kernel) (by decide +kernel) rfl ?_
      refine xw_iload rfl rfl ?_
      refine xw_laldc (n := 1024) (v := (m 593 x11)) (v' := (xJ m 593 x11)) rfl hB (xw_obd (by decide +kernel)) rfl g1 rfl rfl ?_
      refine xw_maxJ rfl rfl (w64_cg c4) (w64_cg (w64_xJ _ _ _)) rfl ?_
      refine xw_lstore (L' := [(4, xj (max x4 (xJ m 593 x11))), (2, xj (min x2 (xJ m 593 x11))), (12, xj (w64 ((xJ m 593 x11) - (xJ m 593 (x11 - 1))))), (0, xa 536), (1, xi x1), (6, xj x6), (8, xj x8), (10, xi x10), (11, xi x11)]) rfl (by decide) rfl ?_
      refine xw_lload rfl rfl ?_
      refine xw_lload rfl rfl ?_
      refine xw_minJ rfl rfl (w64_cg c6) (w64_cg (w64_w _)) rfl ?_
      refine xw_lstore (L' := [(6, xj (min x6 (w64 ((xJ m 593 x11) - (xJ m 593 (x11 - 1)))))), (4, xj (max x4 (xJ m 593 x11))), (2, xj (min x2 (xJ m 593 x11))), (12, xj (w64 ((xJ m 593 x11) - (xJ m 593 (x11 - 1))))), (0, xa 536), (1, xi x1), (8, xj x8), (10, xi x10), (11, xi x11)]) rfl (by decide) rfl ?_
      refine xw_lload rfl rfl ?_
      refine xw_lload rfl rfl ?_
      refine xw_maxJ rfl rfl (w64_cg c8) (w64_cg (w64_w _)) rfl ?_
      refine xw_lstore (L' := [(8, xj (max x8 (w64 ((xJ m 593 x11) - (xJ m 593 (x11 - 1)))))), (6, xj (min x6 (w64 ((xJ m 593 x11) - (xJ m 593 (x11 - 1)))))), (4, xj (max x4 (xJ m 593 x11))), (2, xj (min x2 (xJ m 593 x11))), (12, xj (w64 ((xJ m 593 x11) - (xJ m 593 (x11 - 1))))), (0, xa 536), (1, xi x1), (10, xi x10), (11, xi x11)]) rfl (by decide) rfl ?_
      refine xw_iload rfl rfl ?_
      refine xw_lload rfl rfl ?_
      refine xw_lconst (e := 0) rfl rfl ?_
      exact q
    refine xS_if (fun h3 => ?_) (fun h3 => ?_)
    · refine xS_of (pc' := 49) (L' := [(0, xa 536), (1, xi x1), (2, xj (min x2 (xJ m 593 x11))), (4, xj (max x4 (xJ m 593 x11))), (6, xj (min x6 (w64 ((xJ m 593 x11) - (xJ m 593 (x11 - 1)))))), (8, xj (max x8 (w64 ((xJ m 593 x11) - (xJ m 593 (x11 - 1)))))), (10, xi (w32 (x10 + 0))), (11, xi (w32 (x11 + 1)))]) (st' := []) (m' := m) (fun ex ns r q => ?_) ?_
      · refine xw_jc_eqT rfl rfl (w64_cg (w64_w _)) (w64_cg rfl) h3 ?_
        refine xw_iconst rfl ?_
        refine xw_iadd rfl ?_
        refine xw_cst (st' := [xi (w32 (x10 + 0))]) (xw_sc (xi_c rfl) rfl) ?_
        refine xw_istore (L' := [(10, xi (w32 (x10 + 0))), (8, xj (max x8 (w64 ((xJ m 593 x11) - (xJ m 593 (x11 - 1)))))), (6, xj (min x6 (w64 ((xJ m 593 x11) - (xJ m 593 (x11 - 1)))))), (4, xj (max x4 (xJ m 593 x11))), (2, xj (min x2 (xJ m 593 x11))), (12, xj (w64 ((xJ m 593 x11) - (xJ m 593 (x11 - 1))))), (0, xa 536), (1, xi x1), (11, xi x11)]) rfl (by decide) rfl ?_
        refine xw_iincc (z := (w32 (x11 + 1))) (L' := [(11, xi (w32 (x11 + 1))), (10, xi (w32 (x10 + 0))), (8, xj (max x8 (w64 ((xJ m 593 x11) - (xJ m 593 (x11 - 1)))))), (6, xj (min x6 (w64 ((xJ m 593 x11) - (xJ m 593 (x11 - 1)))))), (4, xj (max x4 (xJ m 593 x11))), (2, xj (min x2 (xJ m 593 x11))), (12, xj (w64 ((xJ m 593 x11) - (xJ m 593 (x11 - 1))))), (0, xa 536), (1, xi x1)]) rfl rfl (by decide) rfl rfl ?_
        refine xw_goto rfl ?_
        refine xw_lo (L2 := [(0, xa 536), (1, xi x1), (2, xj (min x2 (xJ m 593 x11))), (4, xj (max x4 (xJ m 593 x11))), (6, xj (min x6 (w64 ((xJ m 593 x11) - (xJ m 593 (x11 - 1)))))), (8, xj (max x8 (w64 ((xJ m 593 x11) - (xJ m 593 (x11 - 1)))))), (10, xi (w32 (x10 + 0))), (11, xi (w32 (x11 + 1)))]) (List.forall_mem_cons.mpr ⟨rfl, List.forall_mem_cons.mpr ⟨rfl, List.forall_mem_cons.mpr ⟨rfl, List.forall_mem_cons.mpr ⟨rfl, List.forall_mem_cons.mpr ⟨rfl, List.forall_mem_cons.mpr ⟨rfl, List.forall_mem_cons.mpr ⟨rfl, List.forall_mem_cons.mpr ⟨rfl, fun _ h => absurd h List.not_mem_nil⟩⟩⟩⟩⟩⟩⟩⟩) ?_
        exact q
      exact hr49 _ _ _ _ _ _ _ _ c1 (w64_mn c2 (w64_xJ _ _ _)) (w64_mx c4 (w64_xJ _ _ _)) (w64_mn c6 (w64_w _)) (w64_mx c8 (w64_w _)) (w32_w _) (w32_w _)
    · refine xS_of (pc' := 49) (L' := [(0, xa 536), (1, xi x1), (2, xj (min x2 (xJ m 593 x11))), (4, xj (max x4 (xJ m 593 x11))), (6, xj (min x6 (w64 ((xJ m 593 x11) - (xJ m 593 (x11 - 1)))))), (8, xj (max x8 (w64 ((xJ m 593 x11) - (xJ m 593 (x11 - 1)))))), (10, xi (w32 (x10 + 1))), (11, xi (w32 (x11 + 1)))]) (st' := []) (m' := m) (fun ex ns r q => ?_) ?_
      · refine xw_jc_eqF rfl rfl (w64_cg (w64_w _)) (w64_cg rfl) h3 ?_
        refine xw_iconst rfl ?_
        refine xw_goto rfl ?_
        refine xw_iadd rfl ?_
        refine xw_cst (st' := [xi (w32 (x10 + 1))]) (xw_sc (xi_c rfl) rfl) ?_
        refine xw_istore (L' := [(10, xi (w32 (x10 + 1))), (8, xj (max x8 (w64 ((xJ m 593 x11) - (xJ m 593 (x11 - 1)))))), (6, xj (min x6 (w64 ((xJ m 593 x11) - (xJ m 593 (x11 - 1)))))), (4, xj (max x4 (xJ m 593 x11))), (2, xj (min x2 (xJ m 593 x11))), (12, xj (w64 ((xJ m 593 x11) - (xJ m 593 (x11 - 1))))), (0, xa 536), (1, xi x1), (11, xi x11)]) rfl (by decide) rfl ?_
        refine xw_iincc (z := (w32 (x11 + 1))) (L' := [(11, xi (w32 (x11 + 1))), (10, xi (w32 (x10 + 1))), (8, xj (max x8 (w64 ((xJ m 593 x11) - (xJ m 593 (x11 - 1)))))), (6, xj (min x6 (w64 ((xJ m 593 x11) - (xJ m 593 (x11 - 1)))))), (4, xj (max x4 (xJ m 593 x11))), (2, xj (min x2 (xJ m 593 x11))), (12, xj (w64 ((xJ m 593 x11) - (xJ m 593 (x11 - 1))))), (0, xa 536), (1, xi x1)]) rfl rfl (by decide) rfl rfl ?_
        refine xw_goto rfl ?_
        refine xw_lo (L2 := [(0, xa 536), (1, xi x1), (2, xj (min x2 (xJ m 593 x11))), (4, xj (max x4 (xJ m 593 x11))), (6, xj (min x6 (w64 ((xJ m 593 x11) - (xJ m 593 (x11 - 1)))))), (8, xj (max x8 (w64 ((xJ m 593 x11) - (xJ m 593 (x11 - 1)))))), (10, xi (w32 (x10 + 1))), (11, xi (w32 (x11 + 1)))]) (List.forall_mem_cons.mpr ⟨rfl, List.forall_mem_cons.mpr ⟨rfl, List.forall_mem_cons.mpr ⟨rfl, List.forall_mem_cons.mpr ⟨rfl, List.forall_mem_cons.mpr ⟨rfl, List.forall_mem_cons.mpr ⟨rfl, List.forall_mem_cons.mpr ⟨rfl, List.forall_mem_cons.mpr ⟨rfl, fun _ h => absurd h List.not_mem_nil⟩⟩⟩⟩⟩⟩⟩⟩) ?_
        exact q
      exact hr49 _ _ _ _ _ _ _ _ c1 (w64_mn c2 (w64_xJ _ _ _)) (w64_mx c4 (w64_xJ _ _ _)) (w64_mn c6 (w64_w _)) (w64_mx c8 (w64_w _)) (w32_w _) (w32_w _)
  · refine xS_of (pc' := 143) (L' := [(1, xi x1), (2, xj x2), (4, xj x4), (6, xj x6), (8, xj x8), (10, xi x10)]) (st' := [xi x1, xa 536]) (m' := m) (fun ex ns r q => ?_) ?_
    · refine xw_ic_geT rfl (w32_cg c11) (w32_cg c1) (Int.not_lt.mp h0) ?_
      refine xw_aload_n rfl rfl rfl ?_
      refine xw_iload_n rfl rfl ?_
      refine xw_lo (L2 := [(1, xi x1), (2, xj x2), (4, xj x4), (6, xj x6), (8, xj x8), (10, xi x10)]) (List.forall_mem_cons.mpr ⟨rfl, List.forall_mem_cons.mpr ⟨rfl, List.forall_mem_cons.mpr ⟨rfl, List.forall_mem_cons.mpr ⟨rfl, List.forall_mem_cons.mpr ⟨rfl, List.forall_mem_cons.mpr ⟨rfl, fun _ h => absurd h List.not_mem_nil⟩⟩⟩⟩⟩⟩) ?_
      exact q
    refine xS_call (q := 327) (n := 2) (kq := 1) (as := [xa 536, xi x1]) (st1 := []) rfl rfl rfl rfl rfl rfl rfl rfl rfl rfl (fun _ => xw_rcv1 (t := 12) (xw_obd (by decide +kernel)) rfl) rfl (List.forall_mem_cons.mpr ⟨rfl, List.forall_mem_cons.mpr ⟨rfl, fun _ h => absurd h List.not_mem_nil⟩⟩) (ygf327 hB _ _ c1) (fun v1 m1 cv1 => ?_)
    refine xS_of (pc' := 159) (L' := [(1, xi x1), (6, xj x6), (8, xj x8), (10, xi x10), (11, xi v1)]) (st' := [xj (w64 (x4 - x2)), xi x1, xi 9, xi (8 * x1)]) (m' := m1) (fun ex ns r q => ?_) ?_
    · refine xw_istore (L' := [(11, xi v1), (1, xi x1), (2, xj x2), (4, xj x4), (6, xj x6), (8, xj x8), (10, xi x10)]) rfl (by decide) rfl ?_
      refine xw_bipush (e := 8) rfl (by decide +kernel) ?_
      refine xw_iload_n rfl rfl ?_
      refine xw_imul rfl ?_
      refine xw_bipush (e := 9) rfl (by decide +kernel) ?_
      refine xw_iload_n rfl rfl ?_
      refine xw_lload rfl rfl ?_
      refine xw_lload_n rfl rfl ?_
      refine xw_lsub rfl ?_
      refine xw_cst (st' := [xj (w64 (x4 - x2)), xi x1, xi 9, xi (8 * x1)]) (xw_sc (xj_c rfl) rfl) ?_
      refine xw_lo (L2 := [(1, xi x1), (6, xj x6), (8, xj x8), (10, xi x10), (11, xi v1)]) (List.forall_mem_cons.mpr ⟨rfl, List.forall_mem_cons.mpr ⟨rfl, List.forall_mem_cons.mpr ⟨rfl, List.forall_mem_cons.mpr ⟨rfl, List.forall_mem_cons.mpr ⟨rfl, fun _ h => absurd h List.not_mem_nil⟩⟩⟩⟩⟩) ?_
      exact q
    refine xS_call (q := 328) (n := 1) (kq := 1) (as := [xj (w64 (x4 - x2))]) (st1 := [xi x1, xi 9, xi (8 * x1)]) rfl rfl rfl rfl rfl rfl rfl rfl rfl rfl (fun _ => xw_rcv0 rfl) rfl (List.forall_mem_cons.mpr ⟨rfl, fun _ h => absurd h List.not_mem_nil⟩) (ygf328 hB _ _ (w64_w _)) (fun v2 m2 cv2 => ?_)
    refine xS_of (pc' := 163) (L' := [(1, xi x1), (6, xj x6), (8, xj x8), (10, xi x10), (11, xi v1)]) (st' := [xi (w32 (x1 * v2)), xi 9, xi (8 * x1)]) (m' := m2) (fun ex ns r q => ?_) ?_
    · refine xw_imul rfl ?_
      refine xw_cst (st' := [xi (w32 (x1 * v2)), xi 9, xi (8 * x1)]) (xw_sc (xi_c rfl) rfl) ?_
      refine xw_lo (L2 := [(1, xi x1), (6, xj x6), (8, xj x8), (10, xi x10), (11, xi v1)]) (List.forall_mem_cons.mpr ⟨rfl, List.forall_mem_cons.mpr ⟨rfl, List.forall_mem_cons.mpr ⟨rfl, List.forall_mem_cons.mpr ⟨rfl, List.forall_mem_cons.mpr ⟨rfl, fun _ h => absurd h List.not_mem_nil⟩⟩⟩⟩⟩) ?_
      exact q
    refine xS_call (q := 329) (n := 1) (kq := 1) (as := [xi (w32 (x1 * v2))]) (st1 := [xi 9, xi (8 * x1)]) rfl rfl rfl rfl rfl rfl rfl rfl rfl rfl (fun _ => xw_rcv0 rfl) rfl (List.forall_mem_cons.mpr ⟨rfl, fun _ h => absurd h List.not_mem_nil⟩) (ygf329 hB _ _ (w32_w _)) (fun v3 m3 cv3 => ?_)
    refine xS_of (pc' := 187) (L' := [(1, xi x1), (6, xj x6), (8, xj x8), (10, xi x10)]) (st' := [xj (w32 (v1 - 1)), xi x1, xi (2 + (8 * v1)), xi (min (w32 (8 * x1)) (w32 (9 + v3)))]) (m' := m3) (fun ex ns r q => ?_) ?_
    · refine xw_iadd rfl ?_
      refine xw_cst (st' := [xi (w32 (9 + v3)), xi (w32 (8 * x1))]) (xw_sc (xi_c rfl) (xw_sc (xi_c rfl) rfl)) ?_
      refine xw_minI rfl rfl (w32_cg (w32_w _)) (w32_cg (w32_w _)) rfl ?_
      refine xw_istore (L' := [(12, xi (min (w32 (8 * x1)) (w32 (9 + v3)))), (1, xi x1), (6, xj x6), (8, xj x8), (10, xi x10), (11, xi v1)]) rfl (by decide) rfl ?_
      refine xw_iload rfl rfl ?_
      refine xw_iconst rfl ?_
      refine xw_bipush (e := 8) rfl (by decide +kernel) ?_
      refine xw_iload rfl rfl ?_
      refine xw_imul rfl ?_
      refine xw_iadd rfl ?_
      refine xw_iload_n rfl rfl ?_
      refine xw_iload rfl rfl ?_
      refine xw_iconst rfl ?_
      refine xw_isub rfl ?_
      refine xw_cst (st' := [xi (w32 (v1 - 1)), xi x1, xi (2 + (8 * v1)), xi (min (w32 (8 * x1)) (w32 (9 + v3)))]) (xw_sc (xi_c rfl) rfl) ?_
      refine xw_i2l rfl (w32_cg (w32_w _)) ?_
      refine xw_lo (L2 := [(1, xi x1), (6, xj x6), (8, xj x8), (10, xi x10)]) (List.forall_mem_cons.mpr ⟨rfl, List.forall_mem_cons.mpr ⟨rfl, List.forall_mem_cons.mpr ⟨rfl, List.forall_mem_cons.mpr ⟨rfl, fun _ h => absurd h List.not_mem_nil⟩⟩⟩⟩) ?_
      exact q
    refine xS_call (q := 328) (n := 1) (kq := 1) (as := [xj (w32 (v1 - 1))]) (st1 := [xi x1, xi (2 + (8 * v1)), xi (min (w32 (8 * x1)) (w32 (9 + v3)))]) rfl rfl rfl rfl rfl rfl rfl rfl rfl rfl (fun _ => xw_rcv0 rfl) rfl (List.forall_mem_cons.mpr ⟨rfl, fun _ h => absurd h List.not_mem_nil⟩) (ygf328 hB _ _ (w64_32 (w32_w _))) (fun v4 m4 cv4 => ?_)
    refine xS_of (pc' := 191) (L' := [(1, xi x1), (6, xj x6), (8, xj x8), (10, xi x10)]) (st' := [xi (w32 (x1 * v4)), xi (2 + (8 * v1)), xi (min (w32 (8 * x1)) (w32 (9 + v3)))]) (m' := m4) (fun ex ns r q => ?_) ?_
    · refine xw_imul rfl ?_
      refine xw_cst (st' := [xi (w32 (x1 * v4)), xi (2 + (8 * v1)), xi (min (w32 (8 * x1)) (w32 (9 + v3)))]) (xw_sc (xi_c rfl) rfl) ?_
      refine xw_lo (L2 := [(1, xi x1), (6, xj x6), (8, xj x8), (10, xi x10)]) (List.forall_mem_cons.mpr ⟨rfl, List.forall_mem_cons.mpr ⟨rfl, List.forall_mem_cons.mpr ⟨rfl, List.forall_mem_cons.mpr ⟨rfl, fun _ h => absurd h List.not_mem_nil⟩⟩⟩⟩) ?_
      exact q
    refine xS_call (q := 329) (n := 1) (kq := 1) (as := [xi (w32 (x1 * v4))]) (st1 := [xi (2 + (8 * v1)), xi (min (w32 (8 * x1)) (w32 (9 + v3)))]) rfl rfl rfl rfl rfl rfl rfl rfl rfl rfl (fun _ => xw_rcv0 rfl) rfl (List.forall_mem_cons.mpr ⟨rfl, fun _ h => absurd h List.not_mem_nil⟩) (ygf329 hB _ _ (w32_w _)) (fun v5 m5 cv5 => ?_)
    refine xS_of (pc' := 226) (L' := []) (st' := [xj (w64 (x8 - x6)), xi (x1 - 1), xi 17, xi (min (min (min (w32 (8 * x1)) (w32 (9 + v3))) (w32 ((2 + (8 * v1)) + v5))) (w32 (2 + (10 * x10))))]) (m' := m5) (fun ex ns r q => ?_) ?_
    · refine xw_iadd rfl ?_
      refine xw_cst (st' := [xi (w32 ((2 + (8 * v1)) + v5)), xi (min (w32 (8 * x1)) (w32 (9 + v3)))]) (xw_sc (xi_c rfl) (xw_sc rfl rfl)) ?_
      refine xw_minI rfl rfl (w32_cg (w32_mn (w32_w _) (w32_w _))) (w32_cg (w32_w _)) rfl ?_
      refine xw_istore (L' := [(12, xi (min (min (w32 (8 * x1)) (w32 (9 + v3))) (w32 ((2 + (8 * v1)) + v5)))), (1, xi x1), (6, xj x6), (8, xj x8), (10, xi x10)]) rfl (by decide) rfl ?_
      refine xw_iload rfl rfl ?_
      refine xw_iconst rfl ?_
      refine xw_bipush (e := 10) rfl (by decide +kernel) ?_
      refine xw_iload rfl rfl ?_
      refine xw_imul rfl ?_
      refine xw_iadd rfl ?_
      refine xw_cst (st' := [xi (w32 (2 + (10 * x10))), xi (min (min (w32 (8 * x1)) (w32 (9 + v3))) (w32 ((2 + (8 * v1)) + v5)))]) (xw_sc (xi_c rfl) (xw_sc rfl rfl)) ?_
      refine xw_minI rfl rfl (w32_cg (w32_mn (w32_mn (w32_w _) (w32_w _)) (w32_w _))) (w32_cg (w32_w _)) rfl ?_
      refine xw_istore (L' := [(12, xi (min (min (min (w32 (8 * x1)) (w32 (9 + v3))) (w32 ((2 + (8 * v1)) + v5))) (w32 (2 + (10 * x10))))), (1, xi x1), (6, xj x6), (8, xj x8), (10, xi x10)]) rfl (by decide) rfl ?_
      refine xw_iload rfl rfl ?_
      refine xw_bipush (e := 17) rfl (by decide +kernel) ?_
      refine xw_iload_n rfl rfl ?_
      refine xw_iconst rfl ?_
      refine xw_isub rfl ?_
      refine xw_lload rfl rfl ?_
      refine xw_lload rfl rfl ?_
      refine xw_lsub rfl ?_
      refine xw_cst (st' := [xj (w64 (x8 - x6)), xi (x1 - 1), xi 17, xi (min (min (min (w32 (8 * x1)) (w32 (9 + v3))) (w32 ((2 + (8 * v1)) + v5))) (w32 (2 + (10 * x10))))]) (xw_sc (xj_c rfl) rfl) ?_
      refine xw_lo (L2 := []) (fun _ h => absurd h List.not_mem_nil) ?_
      exact q
    refine xS_call (q := 328) (n := 1) (kq := 1) (as := [xj (w64 (x8 - x6))]) (st1 := [xi (x1 - 1), xi 17, xi (min (min (min (w32 (8 * x1)) (w32 (9 + v3))) (w32 ((2 + (8 * v1)) + v5))) (w32 (2 + (10 * x10))))]) rfl rfl rfl rfl rfl rfl rfl rfl rfl rfl (fun _ => xw_rcv0 rfl) rfl (List.forall_mem_cons.mpr ⟨rfl, fun _ h => absurd h List.not_mem_nil⟩) (ygf328 hB _ _ (w64_w _)) (fun v6 m6 cv6 => ?_)
    refine xS_of (pc' := 230) (L' := []) (st' := [xi (w32 ((x1 - 1) * v6)), xi 17, xi (min (min (min (w32 (8 * x1)) (w32 (9 + v3))) (w32 ((2 + (8 * v1)) + v5))) (w32 (2 + (10 * x10))))]) (m' := m6) (fun ex ns r q => ?_) ?_
    · refine xw_imul rfl ?_
      refine xw_cst (st' := [xi (w32 ((x1 - 1) * v6)), xi 17, xi (min (min (min (w32 (8 * x1)) (w32 (9 + v3))) (w32 ((2 + (8 * v1)) + v5))) (w32 (2 + (10 * x10))))]) (xw_sc (xi_c rfl) rfl) ?_
      refine xw_lo (L2 := []) (fun _ h => absurd h List.not_mem_nil) ?_
      exact q
    refine xS_call (q := 329) (n := 1) (kq := 1) (as := [xi (w32 ((x1 - 1) * v6))]) (st1 := [xi 17, xi (min (min (min (w32 (8 * x1)) (w32 (9 + v3))) (w32 ((2 + (8 * v1)) + v5))) (w32 (2 + (10 * x10))))]) rfl rfl rfl rfl rfl rfl rfl rfl rfl rfl (fun _ => xw_rcv0 rfl) rfl (List.forall_mem_cons.mpr ⟨rfl, fun _ h => absurd h List.not_mem_nil⟩) (ygf329 hB _ _ (w32_w _)) (fun v7 m7 cv7 => ?_)
    refine xS_of (pc' := 237) (L' := []) (st' := [xi (min (min (min (min (w32 (8 * x1)) (w32 (9 + v3))) (w32 ((2 + (8 * v1)) + v5))) (w32 (2 + (10 * x10)))) (w32 (17 + v7)))]) (m' := m7) (fun ex ns r q => ?_) ?_
    · refine xw_iadd rfl ?_
      refine xw_cst (st' := [xi (w32 (17 + v7)), xi (min (min (min (w32 (8 * x1)) (w32 (9 + v3))) (w32 ((2 + (8 * v1)) + v5))) (w32 (2 + (10 * x10))))]) (xw_sc (xi_c rfl) (xw_sc rfl rfl)) ?_
      refine xw_minI rfl rfl (w32_cg (w32_mn (w32_mn (w32_mn (w32_w _) (w32_w _)) (w32_w _)) (w32_w _))) (w32_cg (w32_w _)) rfl ?_
      exact q
    exact xS_ret (v := (min (min (min (min (w32 (8 * x1)) (w32 (9 + v3))) (w32 ((2 + (8 * v1)) + v5))) (w32 (2 + (10 * x10)))) (w32 (17 + v7)))) rfl rfl xw_rtI (w32_mn (w32_mn (w32_mn (w32_mn (w32_w _) (w32_w _)) (w32_w _)) (w32_w _)) (w32_w _))
theorem ygl326_49 {B : Nat} (hB : B ≤ 512) {xs : Nat → Int32} {SL d : Nat} : ∀ n x1 x2 x4 x6 x8 x10 x11 m, w32 x1 = x1 → w64 x2 = x2 → w64 x4 = x4 → w64 x6 = x6 → w64 x8 = x8 → w32 x10 = x10 → w32 x11 = x11 → xS B xs SL (d + 1) 326 (14, (some .int), [], 13) 1 49 [(0, xa 536), (1, xi x1), (2, xj x2), (4, xj x4), (6, xj x6), (8, xj x8), (10, xi x10), (11, xi x11)] [] m (xl7 (yl326_49 B) n x1 x2 x4 x6 x8 x10 x11 m) := by
  intro n
  induction n with
  | zero => intro x1 x2 x4 x6 x8 x10 x11 m c1 c2 c4 c6 c8 c10 c11; exact xS_none
  | succ n ih => exact ysl326_49 hB ih
theorem ygf326 {B : Nat} (hB : B ≤ 512) {xs : Nat → Int32} {SL d : Nat} : ∀ p0 m, w32 p0 = p0 → xS B xs SL (d + 1) 326 (14, (some .int), [], 13) 1 0 [(0, xa 536), (1, xi p0)] [] m (yf326 B p0 m) := by
  intro p0 m cp0
  unfold yf326
  refine xS_of (pc' := 17) (L' := [(4, xj (xJ m 593 0)), (2, xj (xJ m 593 0)), (0, xa 536), (1, xi p0)]) (st' := [xi 1, xi p0]) (m' := m) (fun ex ns r q => ?_) ?_
  · refine xw_aload_n rfl rfl rfl ?_
    refine xw_gfR (n := 593) (e := 593) rfl (xw_obd (by decide +kernel)) (by decide +kernel) (by decide +kernel) rfl ?_
    refine xw_iconst rfl ?_
    refine xw_laldc (n := 1024) (v := (m 593 0)) (v' := (xJ m 593 0)) rfl hB (xw_obd (by decide +kernel)) rfl ⟨by decide, by decide⟩ rfl rfl ?_
    refine xw_lstore_n (L' := [(2, xj (xJ m 593 0)), (0, xa 536), (1, xi p0)]) rfl (by decide) rfl ?_
    refine xw_aload_n rfl rfl rfl ?_
    refine xw_gfR (n := 593) (e := 593) rfl (xw_obd (by decide +kernel)) (by decide +kernel) (by decide +kernel) rfl ?_
    refine xw_iconst rfl ?_
    refine xw_laldc (n := 1024) (v := (m 593 0)) (v' := (xJ m 593 0)) rfl hB (xw_obd (by decide +kernel)) rfl ⟨by decide, by decide⟩ rfl rfl ?_
    refine xw_lstore (L' := [(4, xj (xJ m 593 0)), (2, xj (xJ m 593 0)), (0, xa 536), (1, xi p0)]) rfl (by decide) rfl ?_
    refine xw_iload_n rfl rfl ?_
    refine xw_iconst rfl ?_
    exact q
  refine xS_if (fun h0 => ?_) (fun h0 => ?_)
  · refine xS_of (pc' := 49) (L' := [(0, xa 536), (1, xi p0), (2, xj (xJ m 593 0)), (4, xj (xJ m 593 0)), (6, xj (w64 ((xJ m 593 1) - (xJ m 593 0)))), (8, xj (w64 ((xJ m 593 1) - (xJ m 593 0)))), (10, xi 1), (11, xi 1)]) (st' := []) (m' := m) (fun ex ns r q => ?_) ?_
    · refine xw_ic_leF rfl (w32_cg cp0) (w32_cg rfl) (Int.not_le.mpr h0) ?_
      refine xw_aload_n rfl rfl rfl ?_
      refine xw_gfR (n := 593) (e := 593) rfl (xw_obd (by decide +kernel)) (by decide +kernel) (by decide +kernel) rfl ?_
      refine xw_iconst rfl ?_
      refine xw_laldc (n := 1024) (v := (m 593 1)) (v' := (xJ m 593 1)) rfl hB (xw_obd (by decide +kernel)) rfl ⟨by decide, by decide⟩ rfl rfl ?_
      refine xw_aload_n rfl rfl rfl ?_
      refine xw_gfR (n := 593) (e := 593) rfl (xw_obd (by decide +kernel)) (by decide +kernel) (by decide +kernel) rfl ?_
      refine xw_iconst rfl ?_
      refine xw_laldc (n := 1024) (v := (m 593 0)) (v' := (xJ m 593 0)) rfl hB (xw_obd (by decide +kernel)) rfl ⟨by decide, by decide⟩ rfl rfl ?_
      refine xw_lsub rfl ?_
      refine xw_goto rfl ?_
      refine xw_cst (st' := [xj (w64 ((xJ m 593 1) - (xJ m 593 0)))]) (xw_sc (xj_c rfl) rfl) ?_
      refine xw_lstore (L' := [(6, xj (w64 ((xJ m 593 1) - (xJ m 593 0)))), (4, xj (xJ m 593 0)), (2, xj (xJ m 593 0)), (0, xa 536), (1, xi p0)]) rfl (by decide) rfl ?_
      refine xw_lload rfl rfl ?_
      refine xw_lstore (L' := [(8, xj (w64 ((xJ m 593 1) - (xJ m 593 0)))), (6, xj (w64 ((xJ m 593 1) - (xJ m 593 0)))), (4, xj (xJ m 593 0)), (2, xj (xJ m 593 0)), (0, xa 536), (1, xi p0)]) rfl (by decide) rfl ?_
      refine xw_iconst rfl ?_
      refine xw_istore (L' := [(10, xi 1), (8, xj (w64 ((xJ m 593 1) - (xJ m 593 0)))), (6, xj (w64 ((xJ m 593 1) - (xJ m 593 0)))), (4, xj (xJ m 593 0)), (2, xj (xJ m 593 0)), (0, xa 536), (1, xi p0)]) rfl (by decide) rfl ?_
      refine xw_iconst rfl ?_
      refine xw_istore (L' := [(11, xi 1), (10, xi 1), (8, xj (w64 ((xJ m 593 1) - (xJ m 593 0)))), (6, xj (w64 ((xJ m 593 1) - (xJ m 593 0)))), (4, xj (xJ m 593 0)), (2, xj (xJ m 593 0)), (0, xa 536), (1, xi p0)]) rfl (by decide) rfl ?_
      refine xw_lo (L2 := [(0, xa 536), (1, xi p0), (2, xj (xJ m 593 0)), (4, xj (xJ m 593 0)), (6, xj (w64 ((xJ m 593 1) - (xJ m 593 0)))), (8, xj (w64 ((xJ m 593 1) - (xJ m 593 0)))), (10, xi 1), (11, xi 1)]) (List.forall_mem_cons.mpr ⟨rfl, List.forall_mem_cons.mpr ⟨rfl, List.forall_mem_cons.mpr ⟨rfl, List.forall_mem_cons.mpr ⟨rfl, List.forall_mem_cons.mpr ⟨rfl, List.forall_mem_cons.mpr ⟨rfl, List.forall_mem_cons.mpr ⟨rfl, List.forall_mem_cons.mpr ⟨rfl, fun _ h => absurd h List.not_mem_nil⟩⟩⟩⟩⟩⟩⟩⟩) ?_
      exact q
    exact ygl326_49 hB 1000000 _ _ _ _ _ _ _ _ cp0 (w64_xJ _ _ _) (w64_xJ _ _ _) (w64_w _) (w64_w _) rfl rfl
  · refine xS_of (pc' := 49) (L' := [(0, xa 536), (1, xi p0), (2, xj (xJ m 593 0)), (4, xj (xJ m 593 0)), (6, xj 0), (8, xj 0), (10, xi 1), (11, xi 1)]) (st' := []) (m' := m) (fun ex ns r q => ?_) ?_
    · refine xw_ic_leT rfl (w32_cg cp0) (w32_cg rfl) (Int.not_lt.mp h0) ?_
      refine xw_lconst (e := 0) rfl rfl ?_
      refine xw_lstore (L' := [(6, xj 0), (4, xj (xJ m 593 0)), (2, xj (xJ m 593 0)), (0, xa 536), (1, xi p0)]) rfl (by decide) rfl ?_
      refine xw_lload rfl rfl ?_
      refine xw_lstore (L' := [(8, xj 0), (6, xj 0), (4, xj (xJ m 593 0)), (2, xj (xJ m 593 0)), (0, xa 536), (1, xi p0)]) rfl (by decide) rfl ?_
      refine xw_iconst rfl ?_
      refine xw_istore (L' := [(10, xi 1), (8, xj 0), (6, xj 0), (4, xj (xJ m 593 0)), (2, xj (xJ m 593 0)), (0, xa 536), (1, xi p0)]) rfl (by decide) rfl ?_
      refine xw_iconst rfl ?_
      refine xw_istore (L' := [(11, xi 1), (10, xi 1), (8, xj 0), (6, xj 0), (4, xj (xJ m 593 0)), (2, xj (xJ m 593 0)), (0, xa 536), (1, xi p0)]) rfl (by decide) rfl ?_
      refine xw_lo (L2 := [(0, xa 536), (1, xi p0), (2, xj (xJ m 593 0)), (4, xj (xJ m 593 0)), (6, xj 0), (8, xj 0), (10, xi 1), (11, xi 1)]) (List.forall_mem_cons.mpr ⟨rfl, List.forall_mem_cons.mpr ⟨rfl, List.forall_mem_cons.mpr ⟨rfl, List.forall_mem_cons.mpr ⟨rfl, List.forall_mem_cons.mpr ⟨rfl, List.forall_mem_cons.mpr ⟨rfl, List.forall_mem_cons.mpr ⟨rfl, List.forall_mem_cons.mpr ⟨rfl, fun _ h => absurd h List.not_mem_nil⟩⟩⟩⟩⟩⟩⟩⟩) ?_
      exact q
    exact ygl326_49 hB 1000000 _ _ _ _ _ _ _ _ cp0 (w64_xJ _ _ _) (w64_xJ _ _ _) rfl rfl rfl rfl
theorem ysl324_152 {B : Nat} (hB : B ≤ 512) {xs : Nat → Int32} {SL d : Nat} {r112 : Int → Int → Int → Int → Int → xw_M → xP} (hr112 : ∀ x3 x4 x5 x6 x7 m, w32 x3 = x3 → w32 x4 = x4 → w32 x5 = x5 → w32 x6 = x6 → w32 x7 = x7 → xS B xs SL (d + 5) 324 (11, (some .int), [], 13) 1 112 [(0, xa 536), (3, xi x3), (4, xi x4), (5, xi x5), (6, xi x6), (7, xi x7)] [] m (r112 x3 x4 x5 x6 x7 m)) {r142 : Int → Int → Int → Int → Int → Int → Int → xw_M → xP} (hr142 : ∀ x3 x4 x5 x6 x7 x8 x9 m, w32 x3 = x3 → w32 x4 = x4 → w32 x5 = x5 → w32 x6 = x6 → w32 x7 = x7 → w32 x8 = x8 → w32 x9 = x9 → xS B xs SL (d + 5) 324 (11, (some .int), [], 13) 1 142 [(0, xa 536), (3, xi x3), (4, xi x4), (5, xi x5), (6, xi x6), (7, xi x7), (8, xi x8), (9, xi x9)] [] m (r142 x3 x4 x5 x6 x7 x8 x9 m)) {r152 : Int → Int → Int → Int → Int → Int → Int → Int → xw_M → xP} (hr152 : ∀ x3 x4 x5 x6 x7 x8 x9 x10 m, w32 x3 = x3 → w32 x4 = x4 → w32 x5 = x5 → w32 x6 = x6 → w32 x7 = x7 → w32 x8 = x8 → w32 x9 = x9 → w32 x10 = x10 → xS B xs SL (d + 5) 324 (11, (some .int), [], 13) 1 152 [(0, xa 536), (3, xi x3), (4, xi x4), (5, xi x5), (6, xi x6), (7, xi x7), (8, xi x8), (9, xi x9), (10, xi x10)] [] m (r152 x3 x4 x5 x6 x7 x8 x9 x10 m)) : ∀ x3 x4 x5 x6 x7 x8 x9 x10 m, w32 x3 = x3 → w32 x4 = x4 → w32 x5 = x5 → w32 x6 = x6 → w32 x7 = x7 → w32 x8 = x8 → w32 x9 = x9 → w32 x10 = x10 → xS B xs SL (d + 5) 324 (11, (some .int), [], 13) 1 152 [(0, xa 536), (3, xi x3), (4, xi x4), (5, xi x5), (6, xi x6), (7, xi x7), (8, xi x8), (9, xi x9), (10, xi x10)] [] m (yl324_152 B r112 r142 r152 x3 x4 x5 x6 x7 x8 x9 x10 m) := by
  intro x3 x4 x5 x6 x7 x8 x9 x10 m c3 c4 c5 c6 c7 c8 c9 c10
  unfold yl324_152
  refine xS_of (pc' := 156) (L' := [(0, xa 536), (3, xi x3), (4, xi x4), (5, xi x5), (6, xi x6), (7, xi x7), (8, xi x8), (9, xi x9), (10, xi x10)]) (st' := [xi x8, xi x10]) (m' := m) (fun ex ns r q => ?_) ?_
  · refine xw_iload rfl rfl ?_
    refine xw_iload rfl rfl ?_
    exact q
  refine xS_if (fun h0 => ?_) (fun h0 => ?_)
  · refine xS_of (pc' := 176) (L' := [(0, xa 536), (3, xi x3), (4, xi x4), (5, xi x5), (6, xi x6), (7, xi x7), (8, xi x8), (9, xi x9), (10, xi x10)]) (st' := [xi x4, xi x3, xi x9, xi (w32 (x7 + x10)), xa 536, xi x10, xa 593]) (m' := m) (fun ex ns r q => ?_) ?_
    · refine xw_ic_geF rfl (w32_cg c10) (w32_cg c8) (Int.not_le.mpr h0) ?_
      refine xw_aload_n rfl rfl rfl ?_
      refine xw_gfR (n := 593) (e := 593) rfl (xw_obd (by decide +kernel)) (by decide +kernel) (by decide +kernel) rfl ?_
      refine xw_iload rfl rfl ?_
      refine xw_aload_n rfl rfl rfl ?_
      refine xw_iload rfl rfl ?_
      refine xw_iload rfl rfl ?_
      refine xw_iadd rfl ?_
      refine xw_iload rfl rfl ?_
      refine xw_iload_n rfl rfl ?_
      refine xw_iload rfl rfl ?_
      refine xw_cst (st' := [xi x4, xi x3, xi x9, xi (w32 (x7 + x10)), xa 536, xi x10, xa 593]) (xw_sc rfl (xw_sc rfl (xw_sc rfl (xw_sc (xi_c rfl) (xw_sc rfl rfl))))) ?_
      refine xw_lo (L2 := [(0, xa 536), (3, xi x3), (4, xi x4), (5, xi x5), (6, xi x6), (7, xi x7), (8, xi x8), (9, xi x9), (10, xi x10)]) (List.forall_mem_cons.mpr ⟨rfl, List.forall_mem_cons.mpr ⟨rfl, List.forall_mem_cons.mpr ⟨rfl, List.forall_mem_cons.mpr ⟨rfl, List.forall_mem_cons.mpr ⟨rfl, List.forall_mem_cons.mpr ⟨rfl, List.forall_mem_cons.mpr ⟨rfl, List.forall_mem_cons.mpr ⟨rfl, List.forall_mem_cons.mpr ⟨rfl, fun _ h => absurd h List.not_mem_nil⟩⟩⟩⟩⟩⟩⟩⟩⟩) ?_
      exact q
    refine xS_call (q := 325) (n := 5) (kq := 2) (as := [xa 536, xi (w32 (x7 + x10)), xi x9, xi x3, xi x4]) (st1 := [xi x10, xa 593]) rfl rfl rfl rfl rfl rfl rfl rfl rfl rfl (fun _ => xw_rcv1 (t := 12) (xw_obd (by decide +kernel)) rfl) rfl (List.forall_mem_cons.mpr ⟨rfl, List.forall_mem_cons.mpr ⟨rfl, List.forall_mem_cons.mpr ⟨rfl, List.forall_mem_cons.mpr ⟨rfl, List.forall_mem_cons.mpr ⟨rfl, fun _ h => absurd h List.not_mem_nil⟩⟩⟩⟩⟩) (ygf325 hB _ _ _ _ _ (w32_w _) c9 c3 c4) (fun v1 m1 cv1 => ?_)
    refine xS_g (fun g1 => ?_)
    refine xS_of (pc' := 152) (L' := [(0, xa 536), (3, xi x3), (4, xi x4), (5, xi x5), (6, xi x6), (7, xi x7), (8, xi x8), (9, xi x9), (10, xi (w32 (x10 + 1)))]) (st' := []) (m' := (xw_u m1 593 x10 v1)) (fun ex ns r q => ?_) ?_
    · refine xw_last (n := 1024) rfl hB (xw_obd (by decide +kernel)) rfl g1 ?_
      refine xw_iincc (z := (w32 (x10 + 1))) (L' := [(10, xi (w32 (x10 + 1))), (0, xa 536), (3, xi x3), (4, xi x4), (5, xi x5), (6, xi x6), (7, xi x7), (8, xi x8), (9, xi x9)]) rfl rfl (by decide) rfl rfl ?_
      refine xw_goto rfl ?_
      refine xw_lo (L2 := [(0, xa 536), (3, xi x3), (4, xi x4), (5, xi x5), (6, xi x6), (7, xi x7), (8, xi x8), (9, xi x9), (10, xi (w32 (x10 + 1)))]) (List.forall_mem_cons.mpr ⟨rfl, List.forall_mem_cons.mpr ⟨rfl, List.forall_mem_cons.mpr ⟨rfl, List.forall_mem_cons.mpr ⟨rfl, List.forall_mem_cons.mpr ⟨rfl, List.forall_mem_cons.mpr ⟨rfl, List.forall_mem_cons.mpr ⟨rfl, List.forall_mem_cons.mpr ⟨rfl, List.forall_mem_cons.mpr ⟨rfl, fun _ h => absurd h List.not_mem_nil⟩⟩⟩⟩⟩⟩⟩⟩⟩) ?_
      exact q
    exact hr152 _ _ _ _ _ _ _ _ _ c3 c4 c5 c6 c7 c8 c9 (w32_w _)
  · refine xS_of (pc' := 193) (L' := [(0, xa 536), (3, xi x3), (4, xi x4), (5, xi x5), (7, xi x7), (8, xi x8), (9, xi x9)]) (st' := [xi x8, xa 536, xi 20, xi x6]) (m' := m) (fun ex ns r q => ?_) ?_
    · refine xw_ic_geT rfl (w32_cg c10) (w32_cg c8) (Int.not_lt.mp h0) ?_
      refine xw_iload rfl rfl ?_
      refine xw_bipush (e := 20) rfl (by decide +kernel) ?_
      refine xw_aload_n rfl rfl rfl ?_
      refine xw_iload rfl rfl ?_
      refine xw_lo (L2 := [(0, xa 536), (3, xi x3), (4, xi x4), (5, xi x5), (7, xi x7), (8, xi x8), (9, xi x9)]) (List.forall_mem_cons.mpr ⟨rfl, List.forall_mem_cons.mpr ⟨rfl, List.forall_mem_cons.mpr ⟨rfl, List.forall_mem_cons.mpr ⟨rfl, List.forall_mem_cons.mpr ⟨rfl, List.forall_mem_cons.mpr ⟨rfl, List.forall_mem_cons.mpr ⟨rfl, fun _ h => absurd h List.not_mem_nil⟩⟩⟩⟩⟩⟩⟩) ?_
      exact q
    refine xS_call (q := 326) (n := 2) (kq := 1) (as := [xa 536, xi x8]) (st1 := [xi 20, xi x6]) rfl rfl rfl rfl rfl rfl rfl rfl rfl rfl (fun _ => xw_rcv1 (t := 12) (xw_obd (by decide +kernel)) rfl) rfl (List.forall_mem_cons.mpr ⟨rfl, List.forall_mem_cons.mpr ⟨rfl, fun _ h => absurd h List.not_mem_nil⟩⟩) (ygf326 hB _ _ c8) (fun v2 m2 cv2 => ?_)
    refine xS_of (pc' := 142) (L' := [(0, xa 536), (3, xi x3), (4, xi x4), (5, xi x5), (6, xi (w32 (x6 + (20 + v2)))), (7, xi x7), (8, xi x8), (9, xi (w32 (x9 + 1)))]) (st' := []) (m' := m2) (fun ex ns r q => ?_) ?_
    · refine xw_iadd rfl ?_
      refine xw_iadd rfl ?_
      refine xw_cst (st' := [xi (w32 (x6 + (20 + v2)))]) (xw_sc (xi_c rfl) rfl) ?_
      refine xw_istore (L' := [(6, xi (w32 (x6 + (20 + v2)))), (0, xa 536), (3, xi x3), (4, xi x4), (5, xi x5), (7, xi x7), (8, xi x8), (9, xi x9)]) rfl (by decide) rfl ?_
      refine xw_iincc (z := (w32 (x9 + 1))) (L' := [(9, xi (w32 (x9 + 1))), (6, xi (w32 (x6 + (20 + v2)))), (0, xa 536), (3, xi x3), (4, xi x4), (5, xi x5), (7, xi x7), (8, xi x8)]) rfl rfl (by decide) rfl rfl ?_
      refine xw_goto rfl ?_
      refine xw_lo (L2 := [(0, xa 536), (3, xi x3), (4, xi x4), (5, xi x5), (6, xi (w32 (x6 + (20 + v2)))), (7, xi x7), (8, xi x8), (9, xi (w32 (x9 + 1)))]) (List.forall_mem_cons.mpr ⟨rfl, List.forall_mem_cons.mpr ⟨rfl, List.forall_mem_cons.mpr ⟨rfl, List.forall_mem_cons.mpr ⟨rfl, List.forall_mem_cons.mpr ⟨rfl, List.forall_mem_cons.mpr ⟨rfl, List.forall_mem_cons.mpr ⟨rfl, List.forall_mem_cons.mpr ⟨rfl, fun _ h => absurd h List.not_mem_nil⟩⟩⟩⟩⟩⟩⟩⟩) ?_
      exact q
    exact hr142 _ _ _ _ _ _ _ _ c3 c4 c5 (w32_w _) c7 c8 (w32_w _)
theorem ygl324_152 {B : Nat} (hB : B ≤ 512) {xs : Nat → Int32} {SL d : Nat} {r112 : Int → Int → Int → Int → Int → xw_M → xP} (hr112 : ∀ x3 x4 x5 x6 x7 m, w32 x3 = x3 → w32 x4 = x4 → w32 x5 = x5 → w32 x6 = x6 → w32 x7 = x7 → xS B xs SL (d + 5) 324 (11, (some .int), [], 13) 1 112 [(0, xa 536), (3, xi x3), (4, xi x4), (5, xi x5), (6, xi x6), (7, xi x7)] [] m (r112 x3 x4 x5 x6 x7 m)) {r142 : Int → Int → Int → Int → Int → Int → Int → xw_M → xP} (hr142 : ∀ x3 x4 x5 x6 x7 x8 x9 m, w32 x3 = x3 → w32 x4 = x4 → w32 x5 = x5 → w32 x6 = x6 → w32 x7 = x7 → w32 x8 = x8 → w32 x9 = x9 → xS B xs SL (d + 5) 324 (11, (some .int), [], 13) 1 142 [(0, xa 536), (3, xi x3), (4, xi x4), (5, xi x5), (6, xi x6), (7, xi x7), (8, xi x8), (9, xi x9)] [] m (r142 x3 x4 x5 x6 x7 x8 x9 m)) : ∀ n x3 x4 x5 x6 x7 x8 x9 x10 m, w32 x3 = x3 → w32 x4 = x4 → w32 x5 = x5 → w32 x6 = x6 → w32 x7 = x7 → w32 x8 = x8 → w32 x9 = x9 → w32 x10 = x10 → xS B xs SL (d + 5) 324 (11, (some .int), [], 13) 1 152 [(0, xa 536), (3, xi x3), (4, xi x4), (5, xi x5), (6, xi x6), (7, xi x7), (8, xi x8), (9, xi x9), (10, xi x10)] [] m (xl8 (yl324_152 B r112 r142) n x3 x4 x5 x6 x7 x8 x9 x10 m) := by
  intro n
  induction n with
  | zero => intro x3 x4 x5 x6 x7 x8 x9 x10 m c3 c4 c5 c6 c7 c8 c9 c10; exact xS_none
  | succ n ih => exact ysl324_152 hB hr112 hr142 ih
theorem ysl324_142 {B : Nat} (hB : B ≤ 512) {xs : Nat → Int32} {SL d : Nat} {r112 : Int → Int → Int → Int → Int → xw_M → xP} (hr112 : ∀ x3 x4 x5 x6 x7 m, w32 x3 = x3 → w32 x4 = x4 → w32 x5 = x5 → w32 x6 = x6 → w32 x7 = x7 → xS B xs SL (d + 5) 324 (11, (some .int), [], 13) 1 112 [(0, xa 536), (3, xi x3), (4, xi x4), (5, xi x5), (6, xi x6), (7, xi x7)] [] m (r112 x3 x4 x5 x6 x7 m)) {r142 : Int → Int → Int → Int → Int → Int → Int → xw_M → xP} (hr142 : ∀ x3 x4 x5 x6 x7 x8 x9 m, w32 x3 = x3 → w32 x4 = x4 → w32 x5 = x5 → w32 x6 = x6 → w32 x7 = x7 → w32 x8 = x8 → w32 x9 = x9 → xS B xs SL (d + 5) 324 (11, (some .int), [], 13) 1 142 [(0, xa 536), (3, xi x3), (4, xi x4), (5, xi x5), (6, xi x6), (7, xi x7), (8, xi x8), (9, xi x9)] [] m (r142 x3 x4 x5 x6 x7 x8 x9 m)) : ∀ x3 x4 x5 x6 x7 x8 x9 m, w32 x3 = x3 → w32 x4 = x4 → w32 x5 = x5 → w32 x6 = x6 → w32 x7 = x7 → w32 x8 = x8 → w32 x9 = x9 → xS B xs SL (d + 5) 324 (11, (some .int), [], 13) 1 142 [(0, xa 536), (3, xi x3), (4, xi x4), (5, xi x5), (6, xi x6), (7, xi x7), (8, xi x8), (9, xi x9)] [] m (yl324_142 B r112 r142 x3 x4 x5 x6 x7 x8 x9 m) := by
  intro x3 x4 x5 x6 x7 x8 x9 m c3 c4 c5 c6 c7 c8 c9
  unfold yl324_142
  refine xS_of (pc' := 146) (L' := [(0, xa 536), (3, xi x3), (4, xi x4), (5, xi x5), (6, xi x6), (7, xi x7), (8, xi x8), (9, xi x9)]) (st' := [xi x5, xi x9]) (m' := m) (fun ex ns r q => ?_) ?_
  · refine xw_iload rfl rfl ?_
    refine xw_iload rfl rfl ?_
    exact q
  refine xS_if (fun h0 => ?_) (fun h0 => ?_)
  · refine xS_of (pc' := 152) (L' := [(0, xa 536), (3, xi x3), (4, xi x4), (5, xi x5), (6, xi x6), (7, xi x7), (8, xi x8), (9, xi x9), (10, xi 0)]) (st' := []) (m' := m) (fun ex ns r q => ?_) ?_
    · refine xw_ic_geF rfl (w32_cg c9) (w32_cg c5) (Int.not_le.mpr h0) ?_
      refine xw_iconst rfl ?_
      refine xw_istore (L' := [(10, xi 0), (0, xa 536), (3, xi x3), (4, xi x4), (5, xi x5), (6, xi x6), (7, xi x7), (8, xi x8), (9, xi x9)]) rfl (by decide) rfl ?_
      refine xw_lo (L2 := [(0, xa 536), (3, xi x3), (4, xi x4), (5, xi x5), (6, xi x6), (7, xi x7), (8, xi x8), (9, xi x9), (10, xi 0)]) (List.forall_mem_cons.mpr ⟨rfl, List.forall_mem_cons.mpr ⟨rfl, List.forall_mem_cons.mpr ⟨rfl, List.forall_mem_cons.mpr ⟨rfl, List.forall_mem_cons.mpr ⟨rfl, List.forall_mem_cons.mpr ⟨rfl, List.forall_mem_cons.mpr ⟨rfl, List.forall_mem_cons.mpr ⟨rfl, List.forall_mem_cons.mpr ⟨rfl, fun _ h => absurd h List.not_mem_nil⟩⟩⟩⟩⟩⟩⟩⟩⟩) ?_
      exact q
    exact ygl324_152 hB hr112 hr142 1000000 _ _ _ _ _ _ _ _ _ c3 c4 c5 c6 c7 c8 c9 rfl
  · refine xS_of (pc' := 112) (L' := [(0, xa 536), (3, xi x3), (4, xi x4), (5, xi x5), (6, xi x6), (7, xi (w32 (x7 + 1024)))]) (st' := []) (m' := m) (fun ex ns r q => ?_) ?_
    · refine xw_ic_geT rfl (w32_cg c9) (w32_cg c5) (Int.not_lt.mp h0) ?_
      refine xw_iincc (z := (w32 (x7 + 1024))) (L' := [(7, xi (w32 (x7 + 1024))), (0, xa 536), (3, xi x3), (4, xi x4), (5, xi x5), (6, xi x6), (8, xi x8), (9, xi x9)]) rfl rfl (by decide) rfl rfl ?_
      refine xw_goto rfl ?_
      refine xw_lo (L2 := [(0, xa 536), (3, xi x3), (4, xi x4), (5, xi x5), (6, xi x6), (7, xi (w32 (x7 + 1024)))]) (List.forall_mem_cons.mpr ⟨rfl, List.forall_mem_cons.mpr ⟨rfl, List.forall_mem_cons.mpr ⟨rfl, List.forall_mem_cons.mpr ⟨rfl, List.forall_mem_cons.mpr ⟨rfl, List.forall_mem_cons.mpr ⟨rfl, fun _ h => absurd h List.not_mem_nil⟩⟩⟩⟩⟩⟩) ?_
      exact q
    exact hr112 _ _ _ _ _ _ c3 c4 c5 c6 (w32_w _)
theorem ygl324_142 {B : Nat} (hB : B ≤ 512) {xs : Nat → Int32} {SL d : Nat} {r112 : Int → Int → Int → Int → Int → xw_M → xP} (hr112 : ∀ x3 x4 x5 x6 x7 m, w32 x3 = x3 → w32 x4 = x4 → w32 x5 = x5 → w32 x6 = x6 → w32 x7 = x7 → xS B xs SL (d + 5) 324 (11, (some .int), [], 13) 1 112 [(0, xa 536), (3, xi x3), (4, xi x4), (5, xi x5), (6, xi x6), (7, xi x7)] [] m (r112 x3 x4 x5 x6 x7 m)) : ∀ n x3 x4 x5 x6 x7 x8 x9 m, w32 x3 = x3 → w32 x4 = x4 → w32 x5 = x5 → w32 x6 = x6 → w32 x7 = x7 → w32 x8 = x8 → w32 x9 = x9 → xS B xs SL (d + 5) 324 (11, (some .int), [], 13) 1 142 [(0, xa 536), (3, xi x3), (4, xi x4), (5, xi x5), (6, xi x6), (7, xi x7), (8, xi x8), (9, xi x9)] [] m (xl7 (yl324_142 B r112) n x3 x4 x5 x6 x7 x8 x9 m) := by
  intro n
  induction n with
  | zero => intro x3 x4 x5 x6 x7 x8 x9 m c3 c4 c5 c6 c7 c8 c9; exact xS_none
  | succ n ih => exact ysl324_142 hB hr112 ih
theorem ysl324_112 {B : Nat} (hB : B ≤ 512) {xs : Nat → Int32} {SL d : Nat} {r112 : Int → Int → Int → Int → Int → xw_M → xP} (hr112 : ∀ x3 x4 x5 x6 x7 m, w32 x3 = x3 → w32 x4 = x4 → w32 x5 = x5 → w32 x6 = x6 → w32 x7 = x7 → xS B xs SL (d + 5) 324 (11, (some .int), [], 13) 1 112 [(0, xa 536), (3, xi x3), (4, xi x4), (5, xi x5), (6, xi x6), (7, xi x7)] [] m (r112 x3 x4 x5 x6 x7 m)) : ∀ x3 x4 x5 x6 x7 m, w32 x3 = x3 → w32 x4 = x4 → w32 x5 = x5 → w32 x6 = x6 → w32 x7 = x7 → xS B xs SL (d + 5) 324 (11, (some .int), [], 13) 1 112 [(0, xa 536), (3, xi x3), (4, xi x4), (5, xi x5), (6, xi x6), (7, xi x7)] [] m (yl324_112 B r112 x3 x4 x5 x6 x7 m) := by
  intro x3 x4 x5 x6 x7 m c3 c4 c5 c6 c7
  unfold yl324_112
  refine xS_of (pc' := 118) (L' := [(0, xa 536), (3, xi x3), (4, xi x4), (5, xi x5), (6, xi x6), (7, xi x7)]) (st' := [xi (xR m 536 61), xi x7]) (m' := m) (fun ex ns r q => ?_) ?_
  · refine xw_iload rfl rfl ?_
    refine xw_aload_n rfl rfl rfl ?_
    refine xw_gfIc (v := (m 536 61)) (v' := (xR m 536 61)) rfl (xw_obd (by decide +kernel)) xk12_61 (qi := 61) rfl rfl rfl ?_
    exact q
  refine xS_if (fun h0 => ?_) (fun h0 => ?_)
  · refine xS_of (pc' := 142) (L' := [(0, xa 536), (3, xi x3), (4, xi x4), (5, xi x5), (6, xi (w32 (x6 + 2))), (7, xi x7), (8, xi (min 1024 (w32 ((xR m 536 61) - x7)))), (9, xi 0)]) (st' := []) (m' := m) (fun ex ns r q => ?_) ?_
    · refine xw_ic_geF rfl (w32_cg c7) (w32_cg (w32_xR _ _ _)) (Int.not_le.mpr h0) ?_
      refine xw_sipush (e := 1024) rfl (by decide +kernel) ?_
      refine xw_aload_n rfl rfl rfl ?_
      refine xw_gfIc (v := (m 536 61)) (v' := (xR m 536 61)) rfl (xw_obd (by decide +kernel)) xk12_61 (qi := 61) rfl rfl rfl ?_
      refine xw_iload rfl rfl ?_
      refine xw_isub rfl ?_
      refine xw_cst (st' := [xi (w32 ((xR m 536 61) - x7)), xi 1024]) (xw_sc (xi_c rfl) (xw_sc rfl rfl)) ?_
      refine xw_minI rfl rfl (w32_cg rfl) (w32_cg (w32_w _)) rfl ?_
      refine xw_istore (L' := [(8, xi (min 1024 (w32 ((xR m 536 61) - x7)))), (0, xa 536), (3, xi x3), (4, xi x4), (5, xi x5), (6, xi x6), (7, xi x7)]) rfl (by decide) rfl ?_
      refine xw_iincc (z := (w32 (x6 + 2))) (L' := [(6, xi (w32 (x6 + 2))), (8, xi (min 1024 (w32 ((xR m 536 61) - x7)))), (0, xa 536), (3, xi x3), (4, xi x4), (5, xi x5), (7, xi x7)]) rfl rfl (by decide) rfl rfl ?_
      refine xw_iconst rfl ?_
      refine xw_istore (L' := [(9, xi 0), (6, xi (w32 (x6 + 2))), (8, xi (min 1024 (w32 ((xR m 536 61) - x7)))), (0, xa 536), (3, xi x3), (4, xi x4), (5, xi x5), (7, xi x7)]) rfl (by decide) rfl ?_
      refine xw_lo (L2 := [(0, xa 536), (3, xi x3), (4, xi x4), (5, xi x5), (6, xi (w32 (x6 + 2))), (7, xi x7), (8, xi (min 1024 (w32 ((xR m 536 61) - x7)))), (9, xi 0)]) (List.forall_mem_cons.mpr ⟨rfl, List.forall_mem_cons.mpr ⟨rfl, List.forall_mem_cons.mpr ⟨rfl, List.forall_mem_cons.mpr ⟨rfl, List.forall_mem_cons.mpr ⟨rfl, List.forall_mem_cons.mpr ⟨rfl, List.forall_mem_cons.mpr ⟨rfl, List.forall_mem_cons.mpr ⟨rfl, fun _ h => absurd h List.not_mem_nil⟩⟩⟩⟩⟩⟩⟩⟩) ?_
      exact q
    exact ygl324_142 hB hr112 1000000 _ _ _ _ _ _ _ _ c3 c4 c5 (w32_w _) c7 (w32_mn rfl (w32_w _)) rfl
  · refine xS_of (pc' := 217) (L' := [(0, xa 536), (3, xi x3), (4, xi x4), (5, xi x5), (6, xi x6), (7, xi x7)]) (st' := [xi x6]) (m' := m) (fun ex ns r q => ?_) ?_
    · refine xw_ic_geT rfl (w32_cg c7) (w32_cg (w32_xR _ _ _)) (Int.not_lt.mp h0) ?_
      refine xw_iload rfl rfl ?_
      exact q
    exact xS_ret (v := x6) rfl rfl xw_rtI c6
theorem ygl324_112 {B : Nat} (hB : B ≤ 512) {xs : Nat → Int32} {SL d : Nat} : ∀ n x3 x4 x5 x6 x7 m, w32 x3 = x3 → w32 x4 = x4 → w32 x5 = x5 → w32 x6 = x6 → w32 x7 = x7 → xS B xs SL (d + 5) 324 (11, (some .int), [], 13) 1 112 [(0, xa 536), (3, xi x3), (4, xi x4), (5, xi x5), (6, xi x6), (7, xi x7)] [] m (xl5 (yl324_112 B) n x3 x4 x5 x6 x7 m) := by
  intro n
  induction n with
  | zero => intro x3 x4 x5 x6 x7 m c3 c4 c5 c6 c7; exact xS_none
  | succ n ih => exact ysl324_112 hB ih
theorem ysl324_47 {B : Nat} (hB : B ≤ 512) {xs : Nat → Int32} {SL d : Nat} {r47 : Int → Int → Int → xw_M → xP} (hr47 : ∀ x3 x4 x5 m, w32 x3 = x3 → w32 x4 = x4 → w32 x5 = x5 → xS B xs SL (d + 5) 324 (11, (some .int), [], 13) 1 47 [(0, xa 536), (3, xi x3), (4, xi x4), (5, xi x5)] [] m (r47 x3 x4 x5 m)) : ∀ x3 x4 x5 m, w32 x3 = x3 → w32 x4 = x4 → w32 x5 = x5 → xS B xs SL (d + 5) 324 (11, (some .int), [], 13) 1 47 [(0, xa 536), (3, xi x3), (4, xi x4), (5, xi x5)] [] m (yl324_47 B r47 x3 x4 x5 m) := by
  intro x3 x4 x5 m c3 c4 c5
  unfold yl324_47
  refine xS_of (pc' := 53) (L' := [(0, xa 536), (3, xi x3), (4, xi x4), (5, xi x5)]) (st' := [xi (xR m 536 14), xi x5]) (m' := m) (fun ex ns r q => ?_) ?_
  · refine xw_iload rfl rfl ?_
    refine xw_aload_n rfl rfl rfl ?_
    refine xw_gfIc (v := (m 536 14)) (v' := (xR m 536 14)) rfl (xw_obd (by decide +kernel)) xk12_14 (qi := 14) rfl rfl rfl ?_
    exact q
  refine xS_if (fun h0 => ?_) (fun h0 => ?_)
  · refine xS_of (pc' := 62) (L' := [(0, xa 536), (3, xi x3), (5, xi x5)]) (st' := [xi x5, xi x3, xa 536, xi x4]) (m' := m) (fun ex ns r q => ?_) ?_
    · refine xw_ic_geF rfl (w32_cg c5) (w32_cg (w32_xR _ _ _)) (Int.not_le.mpr h0) ?_
      refine xw_iload rfl rfl ?_
      refine xw_aload_n rfl rfl rfl ?_
      refine xw_iload_n rfl rfl ?_
      refine xw_iload rfl rfl ?_
      refine xw_lo (L2 := [(0, xa 536), (3, xi x3), (5, xi x5)]) (List.forall_mem_cons.mpr ⟨rfl, List.forall_mem_cons.mpr ⟨rfl, List.forall_mem_cons.mpr ⟨rfl, fun _ h => absurd h List.not_mem_nil⟩⟩⟩) ?_
      exact q
    refine xS_call (q := 294) (n := 3) (kq := 4) (as := [xa 536, xi x3, xi x5]) (st1 := [xi x4]) rfl rfl rfl rfl rfl rfl rfl rfl rfl rfl (fun _ => xw_rcv1 (t := 12) (xw_obd (by decide +kernel)) rfl) rfl (List.forall_mem_cons.mpr ⟨rfl, List.forall_mem_cons.mpr ⟨rfl, List.forall_mem_cons.mpr ⟨rfl, fun _ h => absurd h List.not_mem_nil⟩⟩⟩) (ygf294 hB _ _ _ c3 c5) (fun v1 m1 cv1 => ?_)
    refine xS_if (fun h1 => ?_) (fun h1 => ?_)
    · refine xS_of (pc' := 47) (L' := [(0, xa 536), (3, xi x3), (4, xi (w32 (x4 + 0))), (5, xi (w32 (x5 + 1)))]) (st' := []) (m' := m1) (fun ex ns r q => ?_) ?_
      · refine xw_if_eqT rfl (w32_cg (w32_of (xw_zr cv1))) h1 ?_
        refine xw_iconst rfl ?_
        refine xw_iadd rfl ?_
        refine xw_cst (st' := [xi (w32 (x4 + 0))]) (xw_sc (xi_c rfl) rfl) ?_
        refine xw_istore (L' := [(4, xi (w32 (x4 + 0))), (0, xa 536), (3, xi x3), (5, xi x5)]) rfl (by decide) rfl ?_
        refine xw_iincc (z := (w32 (x5 + 1))) (L' := [(5, xi (w32 (x5 + 1))), (4, xi (w32 (x4 + 0))), (0, xa 536), (3, xi x3)]) rfl rfl (by decide) rfl rfl ?_
        refine xw_goto rfl ?_
        refine xw_lo (L2 := [(0, xa 536), (3, xi x3), (4, xi (w32 (x4 + 0))), (5, xi (w32 (x5 + 1)))]) (List.forall_mem_cons.mpr ⟨rfl, List.forall_mem_cons.mpr ⟨rfl, List.forall_mem_cons.mpr ⟨rfl, List.forall_mem_cons.mpr ⟨rfl, fun _ h => absurd h List.not_mem_nil⟩⟩⟩⟩) ?_
        exact q
      exact hr47 _ _ _ _ c3 (w32_w _) (w32_w _)
    · refine xS_of (pc' := 47) (L' := [(0, xa 536), (3, xi x3), (4, xi (w32 (x4 + 1))), (5, xi (w32 (x5 + 1)))]) (st' := []) (m' := m1) (fun ex ns r q => ?_) ?_
      · refine xw_if_eqF rfl (w32_cg (w32_of (xw_zr cv1))) h1 ?_
        refine xw_iconst rfl ?_
        refine xw_goto rfl ?_
        refine xw_iadd rfl ?_
        refine xw_cst (st' := [xi (w32 (x4 + 1))]) (xw_sc (xi_c rfl) rfl) ?_
        refine xw_istore (L' := [(4, xi (w32 (x4 + 1))), (0, xa 536), (3, xi x3), (5, xi x5)]) rfl (by decide) rfl ?_
        refine xw_iincc (z := (w32 (x5 + 1))) (L' := [(5, xi (w32 (x5 + 1))), (4, xi (w32 (x4 + 1))), (0, xa 536), (3, xi x3)]) rfl rfl (by decide) rfl rfl ?_
        refine xw_goto rfl ?_
        refine xw_lo (L2 := [(0, xa 536), (3, xi x3), (4, xi (w32 (x4 + 1))), (5, xi (w32 (x5 + 1)))]) (List.forall_mem_cons.mpr ⟨rfl, List.forall_mem_cons.mpr ⟨rfl, List.forall_mem_cons.mpr ⟨rfl, List.forall_mem_cons.mpr ⟨rfl, fun _ h => absurd h List.not_mem_nil⟩⟩⟩⟩) ?_
        exact q
      exact hr47 _ _ _ _ c3 (w32_w _) (w32_w _)
  · refine xS_of (pc' := 85) (L' := [(0, xa 536), (3, xi x3), (4, xi x4), (5, xi x5)]) (st' := [xi x3, xi x4]) (m' := m) (fun ex ns r q => ?_) ?_
    · refine xw_ic_geT rfl (w32_cg c5) (w32_cg (w32_xR _ _ _)) (Int.not_lt.mp h0) ?_
      refine xw_iload rfl rfl ?_
      refine xw_iload_n rfl rfl ?_
      exact q
    refine xS_if (fun h1 => ?_) (fun h1 => ?_)
    · refine xS_of (pc' := 112) (L' := [(0, xa 536), (3, xi x3), (4, xi x4), (5, xi (w32 (x4 + (xR m 536 19)))), (6, xi 4), (7, xi 0)]) (st' := []) (m' := m) (fun ex ns r q => ?_) ?_
      · refine xw_if_geF rfl (w32_cg c3) (Int.not_le.mpr h1) ?_
        refine xw_aload_n rfl rfl rfl ?_
        refine xw_gfIc (v := (m 536 19)) (v' := (xR m 536 19)) rfl (xw_obd (by decide +kernel)) xk12_19 (qi := 19) rfl rfl rfl ?_
        refine xw_goto rfl ?_
        refine xw_iadd rfl ?_
        refine xw_cst (st' := [xi (w32 (x4 + (xR m 536 19)))]) (xw_sc (xi_c rfl) rfl) ?_
        refine xw_istore (L' := [(5, xi (w32 (x4 + (xR m 536 19)))), (0, xa 536), (3, xi x3), (4, xi x4)]) rfl (by decide) rfl ?_
        refine xw_iconst rfl ?_
        refine xw_istore (L' := [(6, xi 4), (5, xi (w32 (x4 + (xR m 536 19)))), (0, xa 536), (3, xi x3), (4, xi x4)]) rfl (by decide) rfl ?_
        refine xw_iconst rfl ?_
        refine xw_istore (L' := [(7, xi 0), (6, xi 4), (5, xi (w32 (x4 + (xR m 536 19)))), (0, xa 536), (3, xi x3), (4, xi x4)]) rfl (by decide) rfl ?_
        refine xw_lo (L2 := [(0, xa 536), (3, xi x3), (4, xi x4), (5, xi (w32 (x4 + (xR m 536 19)))), (6, xi 4), (7, xi 0)]) (List.forall_mem_cons.mpr ⟨rfl, List.forall_mem_cons.mpr ⟨rfl, List.forall_mem_cons.mpr ⟨rfl, List.forall_mem_cons.mpr ⟨rfl, List.forall_mem_cons.mpr ⟨rfl, List.forall_mem_cons.mpr ⟨rfl, fun _ h => absurd h List.not_mem_nil⟩⟩⟩⟩⟩⟩) ?_
        exact q
      exact ygl324_112 hB 1000000 _ _ _ _ _ _ c3 c4 (w32_w _) rfl rfl
    · refine xS_of (pc' := 112) (L' := [(0, xa 536), (3, xi x3), (4, xi x4), (5, xi (w32 (x4 + (1 + (3 * (xR m 536 19)))))), (6, xi 4), (7, xi 0)]) (st' := []) (m' := m) (fun ex ns r q => ?_) ?_
      · refine xw_if_geT rfl (w32_cg c3) (Int.not_lt.mp h1) ?_
        refine xw_iconst rfl ?_
        refine xw_iconst rfl ?_
        refine xw_aload_n rfl rfl rfl ?_
        refine xw_gfIc (v := (m 536 19)) (v' := (xR m 536 19)) rfl (xw_obd (by decide +kernel)) xk12_19 (qi := 19) rfl rfl rfl ?_
        refine xw_imul rfl ?_
        refine xw_iadd rfl ?_
        refine xw_iadd rfl ?_
        refine xw_cst (st' := [xi (w32 (x4 + (1 + (3 * (xR m 536 19)))))]) (xw_sc (xi_c rfl) rfl) ?_
        refine xw_istore (L' := [(5, xi (w32 (x4 + (1 + (3 * (xR m 536 19)))))), (0, xa 536), (3, xi x3), (4, xi x4)]) rfl (by decide) rfl ?_
        refine xw_iconst rfl ?_
        refine xw_istore (L' := [(6, xi 4), (5, xi (w32 (x4 + (1 + (3 * (xR m 536 19)))))), (0, xa 536), (3, xi x3), (4, xi x4)]) rfl (by decide) rfl ?_
        refine xw_iconst rfl ?_
        refine xw_istore (L' := [(7, xi 0), (6, xi 4), (5, xi (w32 (x4 + (1 + (3 * (xR m 536 19)))))), (0, xa 536), (3, xi x3), (4, xi x4)]) rfl (by decide) rfl ?_
        refine xw_lo (L2 := [(0, xa 536), (3, xi x3), (4, xi x4), (5, xi (w32 (x4 + (1 + (3 * (xR m 536 19)))))), (6, xi 4), (7, xi 0)]) (List.forall_mem_cons.mpr ⟨rfl, List.forall_mem_cons.mpr ⟨rfl, List.forall_mem_cons.mpr ⟨rfl, List.forall_mem_cons.mpr ⟨rfl, List.forall_mem_cons.mpr ⟨rfl, List.forall_mem_cons.mpr ⟨rfl, fun _ h => absurd h List.not_mem_nil⟩⟩⟩⟩⟩⟩) ?_
        exact q
      exact ygl324_112 hB 1000000 _ _ _ _ _ _ c3 c4 (w32_w _) rfl rfl
theorem ygl324_47 {B : Nat} (hB : B ≤ 512) {xs : Nat → Int32} {SL d : Nat} : ∀ n x3 x4 x5 m, w32 x3 = x3 → w32 x4 = x4 → w32 x5 = x5 → xS B xs SL (d + 5) 324 (11, (some .int), [], 13) 1 47 [(0, xa 536), (3, xi x3), (4, xi x4), (5, xi x5)] [] m (xl3 (yl324_47 B) n x3 x4 x5 m) := by
  intro n
  induction n with
  | zero => intro x3 x4 x5 m c3 c4 c5; exact xS_none
  | succ n ih => exact ysl324_47 hB ih
theorem ysl324_10 {B : Nat} (hB : B ≤ 512) {xs : Nat → Int32} {SL d : Nat} {r10 : Int → Int → Int → xw_M → xP} (hr10 : ∀ x1 x3 x4 m, w32 x1 = x1 → w32 x3 = x3 → w32 x4 = x4 → xS B xs SL (d + 5) 324 (11, (some .int), [], 13) 1 10 [(0, xa 536), (1, xi x1), (3, xi x3), (4, xi x4)] [] m (r10 x1 x3 x4 m)) : ∀ x1 x3 x4 m, w32 x1 = x1 → w32 x3 = x3 → w32 x4 = x4 → xS B xs SL (d + 5) 324 (11, (some .int), [], 13) 1 10 [(0, xa 536), (1, xi x1), (3, xi x3), (4, xi x4)] [] m (yl324_10 B r10 x1 x3 x4 m) := by
  intro x1 x3 x4 m c1 c3 c4
  unfold yl324_10
  refine xS_of (pc' := 16) (L' := [(0, xa 536), (1, xi x1), (3, xi x3), (4, xi x4)]) (st' := [xi (xR m 536 58), xi x4]) (m' := m) (fun ex ns r q => ?_) ?_
  · refine xw_iload rfl rfl ?_
    refine xw_aload_n rfl rfl rfl ?_
    refine xw_gfIc (v := (m 536 58)) (v' := (xR m 536 58)) rfl (xw_obd (by decide +kernel)) xk12_58 (qi := 58) rfl rfl rfl ?_
    exact q
  refine xS_if (fun h0 => ?_) (fun h0 => ?_)
  · refine xS_g (fun g1 => ?_)
    refine xS_g (fun g2 => ?_)
    refine xS_of (pc' := 10) (L' := [(0, xa 536), (1, xi x1), (3, xi x3), (4, xi (w32 (x4 + 1)))]) (st' := []) (m' := (xw_u m (m 536 59) x4 (x1 + x4))) (fun ex ns r q => ?_) ?_
    · refine xw_ic_geF rfl (w32_cg c4) (w32_cg (w32_xR _ _ _)) (Int.not_le.mpr h0) ?_
      refine xw_aload_n rfl rfl rfl ?_
      refine xw_gfM (v := (m 536 59)) rfl (xw_obd (by decide +kernel)) xk12_59 (qi := 59) rfl rfl ?_
      refine xw_iload rfl rfl ?_
      refine xw_iload_n rfl rfl ?_
      refine xw_iload rfl rfl ?_
      refine xw_iadd rfl ?_
      refine xw_iast (n := (xw_le B (m 536 59))) rfl hB (xw_obd g2) rfl g1 ?_
      refine xw_iincc (z := (w32 (x4 + 1))) (L' := [(4, xi (w32 (x4 + 1))), (0, xa 536), (1, xi x1), (3, xi x3)]) rfl rfl (by decide) rfl rfl ?_
      refine xw_goto rfl ?_
      refine xw_lo (L2 := [(0, xa 536), (1, xi x1), (3, xi x3), (4, xi (w32 (x4 + 1)))]) (List.forall_mem_cons.mpr ⟨rfl, List.forall_mem_cons.mpr ⟨rfl, List.forall_mem_cons.mpr ⟨rfl, List.forall_mem_cons.mpr ⟨rfl, fun _ h => absurd h List.not_mem_nil⟩⟩⟩⟩) ?_
      exact q
    exact hr10 _ _ _ _ c1 c3 (w32_w _)
  · refine xS_of (pc' := 38) (L' := [(0, xa 536), (3, xi x3)]) (st' := [xi x3, xa 536]) (m' := m) (fun ex ns r q => ?_) ?_
    · refine xw_ic_geT rfl (w32_cg c4) (w32_cg (w32_xR _ _ _)) (Int.not_lt.mp h0) ?_
      refine xw_aload_n rfl rfl rfl ?_
      refine xw_iload_n rfl rfl ?_
      refine xw_lo (L2 := [(0, xa 536), (3, xi x3)]) (List.forall_mem_cons.mpr ⟨rfl, List.forall_mem_cons.mpr ⟨rfl, fun _ h => absurd h List.not_mem_nil⟩⟩) ?_
      exact q
    refine xS_call (q := 290) (n := 2) (kq := 0) (as := [xa 536, xi x3]) (st1 := []) rfl rfl rfl rfl rfl rfl rfl rfl rfl rfl (fun _ => xw_rcv1 (t := 12) (xw_obd (by decide +kernel)) rfl) rfl (List.forall_mem_cons.mpr ⟨rfl, List.forall_mem_cons.mpr ⟨rfl, fun _ h => absurd h List.not_mem_nil⟩⟩) (ygf290 hB _ _ c3) (fun v1 m1 cv1 => ?_)
    refine xS_of (pc' := 47) (L' := [(0, xa 536), (3, xi x3), (4, xi 0), (5, xi 0)]) (st' := []) (m' := m1) (fun ex ns r q => ?_) ?_
    · refine xw_iconst rfl ?_
      refine xw_istore (L' := [(4, xi 0), (0, xa 536), (3, xi x3)]) rfl (by decide) rfl ?_
      refine xw_iconst rfl ?_
      refine xw_istore (L' := [(5, xi 0), (4, xi 0), (0, xa 536), (3, xi x3)]) rfl (by decide) rfl ?_
      refine xw_lo (L2 := [(0, xa 536), (3, xi x3), (4, xi 0), (5, xi 0)]) (List.forall_mem_cons.mpr ⟨rfl, List.forall_mem_cons.mpr ⟨rfl, List.forall_mem_cons.mpr ⟨rfl, List.forall_mem_cons.mpr ⟨rfl, fun _ h => absurd h List.not_mem_nil⟩⟩⟩⟩) ?_
      exact q
    exact ygl324_47 hB 1000000 _ _ _ _ c3 rfl rfl
theorem ygl324_10 {B : Nat} (hB : B ≤ 512) {xs : Nat → Int32} {SL d : Nat} : ∀ n x1 x3 x4 m, w32 x1 = x1 → w32 x3 = x3 → w32 x4 = x4 → xS B xs SL (d + 5) 324 (11, (some .int), [], 13) 1 10 [(0, xa 536), (1, xi x1), (3, xi x3), (4, xi x4)] [] m (xl3 (yl324_10 B) n x1 x3 x4 m) := by
  intro n
  induction n with
  | zero => intro x1 x3 x4 m c1 c3 c4; exact xS_none
  | succ n ih => exact ysl324_10 hB ih
theorem ygf324 {B : Nat} (hB : B ≤ 512) {xs : Nat → Int32} {SL d : Nat} : ∀ p0 p1 p2 m, w32 p0 = p0 → w32 p1 = p1 → w32 p2 = p2 → xS B xs SL (d + 5) 324 (11, (some .int), [], 13) 1 0 [(0, xa 536), (1, xi p0), (2, xi p1), (3, xi p2)] [] m (yf324 B p0 p1 p2 m) := by
  intro p0 p1 p2 m cp0 cp1 cp2
  unfold yf324
  refine xS_of (pc' := 10) (L' := [(0, xa 536), (1, xi p0), (3, xi p2), (4, xi 0)]) (st' := []) (m' := (xw_u m 536 58 (p1 - p0))) (fun ex ns r q => ?_) ?_
  · refine xw_aload_n rfl rfl rfl ?_
    refine xw_iload_n rfl rfl ?_
    refine xw_iload_n rfl rfl ?_
    refine xw_isub rfl ?_
    refine xw_pfI rfl (xw_obd (by decide +kernel)) xk12_58 (qi := 58) rfl (xw_okI rfl) ?_
    refine xw_iconst rfl ?_
    refine xw_istore (L' := [(4, xi 0), (0, xa 536), (1, xi p0), (2, xi p1), (3, xi p2)]) rfl (by decide) rfl ?_
    refine xw_lo (L2 := [(0, xa 536), (1, xi p0), (3, xi p2), (4, xi 0)]) (List.forall_mem_cons.mpr ⟨rfl, List.forall_mem_cons.mpr ⟨rfl, List.forall_mem_cons.mpr ⟨rfl, List.forall_mem_cons.mpr ⟨rfl, fun _ h => absurd h List.not_mem_nil⟩⟩⟩⟩) ?_
    exact q
  exact ygl324_10 hB 1000000 _ _ _ _ cp0 cp2 rfl
theorem ygk323_185 {B : Nat} (hB : B ≤ 512) {xs : Nat → Int32} {SL d : Nat} : ∀ x2 m, w32 x2 = x2 → xS B xs SL (d + 6) 323 (4, (some .int), [], 13) 1 185 [(0, xa 536), (2, xi x2)] [] m (yk323_185 B x2 m) := by
  intro x2 m c2
  unfold yk323_185
  refine xS_of (pc' := 194) (L' := [(0, xa 536), (2, xi x2)]) (st' := [xi (-3), xi x2, xa 536]) (m' := (xw_u m 536 32 0)) (fun ex ns r q => ?_) ?_
  · refine xw_aload_n rfl rfl rfl ?_
    refine xw_iconst rfl ?_
    refine xw_pfI rfl (xw_obd (by decide +kernel)) xk12_32 (qi := 32) rfl (xw_okI rfl) ?_
    refine xw_aload_n rfl rfl rfl ?_
    refine xw_iload_n rfl rfl ?_
    refine xw_bipush (e := (-3)) rfl (by decide +kernel) ?_
    exact q
  refine xS_if (fun h0 => ?_) (fun h0 => ?_)
  · refine xS_of (pc' := 206) (L' := []) (st' := [xi (-3), xa 536]) (m' := (xw_u m 536 32 0)) (fun ex ns r q => ?_) ?_
    · refine xw_ic_neF rfl (w32_cg c2) (w32_cg rfl) h0 ?_
      refine xw_bipush (e := (-3)) rfl (by decide +kernel) ?_
      refine xw_goto rfl ?_
      refine xw_lo (L2 := []) (fun _ h => absurd h List.not_mem_nil) ?_
      exact q
    refine xS_call (q := 312) (n := 2) (kq := 1) (as := [xa 536, xi (-3)]) (st1 := []) rfl rfl rfl rfl rfl rfl rfl rfl rfl rfl (fun _ => xw_rcv1 (t := 12) (xw_obd (by decide +kernel)) rfl) rfl (List.forall_mem_cons.mpr ⟨rfl, List.forall_mem_cons.mpr ⟨rfl, fun _ h => absurd h List.not_mem_nil⟩⟩) (ygf312 hB _ _ rfl) (fun v1 m1 cv1 => ?_)
    exact xS_ret (v := v1) rfl rfl xw_rtI cv1
  · refine xS_of (pc' := 206) (L' := []) (st' := [xi (xR m 536 38), xa 536]) (m' := (xw_u m 536 32 0)) (fun ex ns r q => ?_) ?_
    · refine xw_ic_neT rfl (w32_cg c2) (w32_cg rfl) h0 ?_
      refine xw_aload_n rfl rfl rfl ?_
      refine xw_gfIc (v := (m 536 38)) (v' := (xR m 536 38)) rfl (xw_obd (by decide +kernel)) xk12_38 (qi := 38) rfl (xw_un (fun e => absurd e.2 (by decide)) rfl) rfl ?_
      refine xw_lo (L2 := []) (fun _ h => absurd h List.not_mem_nil) ?_
      exact q
    refine xS_call (q := 312) (n := 2) (kq := 1) (as := [xa 536, xi (xR m 536 38)]) (st1 := []) rfl rfl rfl rfl rfl rfl rfl rfl rfl rfl (fun _ => xw_rcv1 (t := 12) (xw_obd (by decide +kernel)) rfl) rfl (List.forall_mem_cons.mpr ⟨rfl, List.forall_mem_cons.mpr ⟨rfl, fun _ h => absurd h List.not_mem_nil⟩⟩) (ygf312 hB _ _ (w32_xR _ _ _)) (fun v2 m2 cv2 => ?_)
    exact xS_ret (v := v2) rfl rfl xw_rtI cv2
theorem ysl323_156 {B : Nat} (hB : B ≤ 512) {xs : Nat → Int32} {SL d : Nat} {r156 : Int → Int → xw_M → xP} (hr156 : ∀ x2 x3 m, w32 x2 = x2 → w32 x3 = x3 → xS B xs SL (d + 6) 323 (4, (some .int), [], 13) 1 156 [(0, xa 536), (2, xi x2), (3, xi x3)] [] m (r156 x2 x3 m)) : ∀ x2 x3 m, w32 x2 = x2 → w32 x3 = x3 → xS B xs SL (d + 6) 323 (4, (some .int), [], 13) 1 156 [(0, xa 536), (2, xi x2), (3, xi x3)] [] m (yl323_156 B r156 x2 x3 m) := by
  intro x2 x3 m c2 c3
  unfold yl323_156
  refine xS_of (pc' := 161) (L' := [(0, xa 536), (2, xi x2), (3, xi x3)]) (st' := [xi (xR m 536 40), xi x3]) (m' := m) (fun ex ns r q => ?_) ?_
  · refine xw_iload_n rfl rfl ?_
    refine xw_aload_n rfl rfl rfl ?_
    refine xw_gfIc (v := (m 536 40)) (v' := (xR m 536 40)) rfl (xw_obd (by decide +kernel)) xk12_40 (qi := 40) rfl rfl rfl ?_
    exact q
  refine xS_if (fun h0 => ?_) (fun h0 => ?_)
  · refine xS_g (fun g1 => ?_)
    refine xS_of (pc' := 156) (L' := [(0, xa 536), (2, xi x2), (3, xi (w32 (x3 + 1)))]) (st' := []) (m' := (xw_u m 580 x3 ((xR m 580 x3) + (xR m 582 x3)))) (fun ex ns r q => ?_) ?_
    · refine xw_ic_geF rfl (w32_cg c3) (w32_cg (w32_xR _ _ _)) (Int.not_le.mpr h0) ?_
      refine xw_aload_n rfl rfl rfl ?_
      refine xw_gfR (n := 580) (e := 580) rfl (xw_obd (by decide +kernel)) (by decide +kernel) (by decide +kernel) rfl ?_
      refine xw_iload_n rfl rfl ?_
      refine xw_dup2 rfl rfl rfl ?_
      refine xw_ialdc (n := 16) (v := (m 580 x3)) (v' := (xR m 580 x3)) rfl hB (xw_obd (by decide +kernel)) rfl g1 rfl rfl ?_
      refine xw_aload_n rfl rfl rfl ?_
      refine xw_gfR (n := 582) (e := 582) rfl (xw_obd (by decide +kernel)) (by decide +kernel) (by decide +kernel) rfl ?_
      refine xw_iload_n rfl rfl ?_
      refine xw_ialdc (n := 16) (v := (m 582 x3)) (v' := (xR m 582 x3)) rfl hB (xw_obd (by decide +kernel)) rfl g1 rfl rfl ?_
      refine xw_iadd rfl ?_
      refine xw_iast (n := 16) rfl hB (xw_obd (by decide +kernel)) rfl g1 ?_
      refine xw_iincc (z := (w32 (x3 + 1))) (L' := [(3, xi (w32 (x3 + 1))), (0, xa 536), (2, xi x2)]) rfl rfl (by decide) rfl rfl ?_
      refine xw_goto rfl ?_
      refine xw_lo (L2 := [(0, xa 536), (2, xi x2), (3, xi (w32 (x3 + 1)))]) (List.forall_mem_cons.mpr ⟨rfl, List.forall_mem_cons.mpr ⟨rfl, List.forall_mem_cons.mpr ⟨rfl, fun _ h => absurd h List.not_mem_nil⟩⟩⟩) ?_
      exact q
    exact hr156 _ _ _ c2 (w32_w _)
  · refine xS_of (pc' := 185) (L' := [(0, xa 536), (2, xi x2)]) (st' := []) (m' := m) (fun ex ns r q => ?_) ?_
    · refine xw_ic_geT rfl (w32_cg c3) (w32_cg (w32_xR _ _ _)) (Int.not_lt.mp h0) ?_
      refine xw_lo (L2 := [(0, xa 536), (2, xi x2)]) (List.forall_mem_cons.mpr ⟨rfl, List.forall_mem_cons.mpr ⟨rfl, fun _ h => absurd h List.not_mem_nil⟩⟩) ?_
      exact q
    exact ygk323_185 hB _ _ c2
theorem ygl323_156 {B : Nat} (hB : B ≤ 512) {xs : Nat → Int32} {SL d : Nat} : ∀ n x2 x3 m, w32 x2 = x2 → w32 x3 = x3 → xS B xs SL (d + 6) 323 (4, (some .int), [], 13) 1 156 [(0, xa 536), (2, xi x2), (3, xi x3)] [] m (xl2 (yl323_156 B) n x2 x3 m) := by
  intro n
  induction n with
  | zero => intro x2 x3 m c2 c3; exact xS_none
  | succ n ih => exact ysl323_156 hB ih
theorem ysl323_56 {B : Nat} (hB : B ≤ 512) {xs : Nat → Int32} {SL d : Nat} {r56 : Int → Int → xw_M → xP} (hr56 : ∀ x1 x2 m, w32 x1 = x1 → w32 x2 = x2 → xS B xs SL (d + 6) 323 (4, (some .int), [], 13) 1 56 [(0, xa 536), (1, xi x1), (2, xi x2)] [] m (r56 x1 x2 m)) : ∀ x1 x2 m, w32 x1 = x1 → w32 x2 = x2 → xS B xs SL (d + 6) 323 (4, (some .int), [], 13) 1 56 [(0, xa 536), (1, xi x1), (2, xi x2)] [] m (yl323_56 B r56 x1 x2 m) := by
  intro x1 x2 m c1 c2
  unfold yl323_56
  refine xS_of (pc' := 61) (L' := [(0, xa 536), (1, xi x1), (2, xi x2)]) (st' := [xi (xR m 536 40), xi x2]) (m' := m) (fun ex ns r q => ?_) ?_
  · refine xw_iload_n rfl rfl ?_
    refine xw_aload_n rfl rfl rfl ?_
    refine xw_gfIc (v := (m 536 40)) (v' := (xR m 536 40)) rfl (xw_obd (by decide +kernel)) xk12_40 (qi := 40) rfl rfl rfl ?_
    exact q
  refine xS_if (fun h0 => ?_) (fun h0 => ?_)
  · refine xS_g (fun g1 => ?_)
    refine xS_of (pc' := 85) (L' := [(0, xa 536), (2, xi x2)]) (st' := [xi (xR m 579 x2), xi (w32 ((xR m 536 31) + (xR m 536 32))), xi (xR m 536 31), xa 536, xi x1]) (m' := m) (fun ex ns r q => ?_) ?_
    · refine xw_ic_geF rfl (w32_cg c2) (w32_cg (w32_xR _ _ _)) (Int.not_le.mpr h0) ?_
      refine xw_iload_n rfl rfl ?_
      refine xw_aload_n rfl rfl rfl ?_
      refine xw_aload_n rfl rfl rfl ?_
      refine xw_gfIc (v := (m 536 31)) (v' := (xR m 536 31)) rfl (xw_obd (by decide +kernel)) xk12_31 (qi := 31) rfl rfl rfl ?_
      refine xw_aload_n rfl rfl rfl ?_
      refine xw_gfIc (v := (m 536 31)) (v' := (xR m 536 31)) rfl (xw_obd (by decide +kernel)) xk12_31 (qi := 31) rfl rfl rfl ?_
      refine xw_aload_n rfl rfl rfl ?_
      refine xw_gfIc (v := (m 536 32)) (v' := (xR m 536 32)) rfl (xw_obd (by decide +kernel)) xk12_32 (qi := 32) rfl rfl rfl ?_
      refine xw_iadd rfl ?_
      refine xw_aload_n rfl rfl rfl ?_
      refine xw_gfR (n := 579) (e := 579) rfl (xw_obd (by decide +kernel)) (by decide +kernel) (by decide +kernel) rfl ?_
      refine xw_iload_n rfl rfl ?_
      refine xw_ialdc (n := 16) (v := (m 579 x2)) (v' := (xR m 579 x2)) rfl hB (xw_obd (by decide +kernel)) rfl g1 rfl rfl ?_
      refine xw_cst (st' := [xi (xR m 579 x2), xi (w32 ((xR m 536 31) + (xR m 536 32))), xi (xR m 536 31), xa 536, xi x1]) (xw_sc rfl (xw_sc (xi_c rfl) (xw_sc rfl (xw_sc rfl rfl)))) ?_
      refine xw_lo (L2 := [(0, xa 536), (2, xi x2)]) (List.forall_mem_cons.mpr ⟨rfl, List.forall_mem_cons.mpr ⟨rfl, fun _ h => absurd h List.not_mem_nil⟩⟩) ?_
      exact q
    refine xS_call (q := 324) (n := 4) (kq := 1) (as := [xa 536, xi (xR m 536 31), xi (w32 ((xR m 536 31) + (xR m 536 32))), xi (xR m 579 x2)]) (st1 := [xi x1]) rfl rfl rfl rfl rfl rfl rfl rfl rfl rfl (fun _ => xw_rcv1 (t := 12) (xw_obd (by decide +kernel)) rfl) rfl (List.forall_mem_cons.mpr ⟨rfl, List.forall_mem_cons.mpr ⟨rfl, List.forall_mem_cons.mpr ⟨rfl, List.forall_mem_cons.mpr ⟨rfl, fun _ h => absurd h List.not_mem_nil⟩⟩⟩⟩) (ygf324 hB _ _ _ _ (w32_xR _ _ _) (w32_w _) (w32_xR _ _ _)) (fun v1 m1 cv1 => ?_)
    refine xS_of (pc' := 56) (L' := [(0, xa 536), (1, xi (w32 (x1 + v1))), (2, xi (w32 (x2 + 1)))]) (st' := []) (m' := (xw_u m1 582 x2 (xR m1 536 61))) (fun ex ns r q => ?_) ?_
    · refine xw_iadd rfl ?_
      refine xw_cst (st' := [xi (w32 (x1 + v1))]) (xw_sc (xi_c rfl) rfl) ?_
      refine xw_istore_n (L' := [(1, xi (w32 (x1 + v1))), (0, xa 536), (2, xi x2)]) rfl (by decide) rfl ?_
      refine xw_aload_n rfl rfl rfl ?_
      refine xw_gfR (n := 582) (e := 582) rfl (xw_obd (by decide +kernel)) (by decide +kernel) (by decide +kernel) rfl ?_
      refine xw_iload_n rfl rfl ?_
      refine xw_aload_n rfl rfl rfl ?_
      refine xw_gfIc (v := (m1 536 61)) (v' := (xR m1 536 61)) rfl (xw_obd (by decide +kernel)) xk12_61 (qi := 61) rfl rfl rfl ?_
      refine xw_iast (n := 16) rfl hB (xw_obd (by decide +kernel)) rfl g1 ?_
      refine xw_iincc (z := (w32 (x2 + 1))) (L' := [(2, xi (w32 (x2 + 1))), (1, xi (w32 (x1 + v1))), (0, xa 536)]) rfl rfl (by decide) rfl rfl ?_
      refine xw_goto rfl ?_
      refine xw_lo (L2 := [(0, xa 536), (1, xi (w32 (x1 + v1))), (2, xi (w32 (x2 + 1)))]) (List.forall_mem_cons.mpr ⟨rfl, List.forall_mem_cons.mpr ⟨rfl, List.forall_mem_cons.mpr ⟨rfl, fun _ h => absurd h List.not_mem_nil⟩⟩⟩) ?_
      exact q
    exact hr56 _ _ _ (w32_w _) (w32_w _)
  · refine xS_of (pc' := 111) (L' := [(0, xa 536)]) (st' := [xi 0, xi 0, xi 1, xi x1, xa 536]) (m' := m) (fun ex ns r q => ?_) ?_
    · refine xw_ic_geT rfl (w32_cg c2) (w32_cg (w32_xR _ _ _)) (Int.not_lt.mp h0) ?_
      refine xw_aload_n rfl rfl rfl ?_
      refine xw_iload_n rfl rfl ?_
      refine xw_iconst rfl ?_
      refine xw_iconst rfl ?_
      refine xw_iconst rfl ?_
      refine xw_lo (L2 := [(0, xa 536)]) (List.forall_mem_cons.mpr ⟨rfl, fun _ h => absurd h List.not_mem_nil⟩) ?_
      exact q
    refine xS_call (q := 305) (n := 5) (kq := 1) (as := [xa 536, xi x1, xi 1, xi 0, xi 0]) (st1 := []) rfl rfl rfl rfl rfl rfl rfl rfl rfl rfl (fun _ => xw_rcv1 (t := 12) (xw_obd (by decide +kernel)) rfl) rfl (List.forall_mem_cons.mpr ⟨rfl, List.forall_mem_cons.mpr ⟨rfl, List.forall_mem_cons.mpr ⟨rfl, List.forall_mem_cons.mpr ⟨rfl, List.forall_mem_cons.mpr ⟨rfl, fun _ h => absurd h List.not_mem_nil⟩⟩⟩⟩⟩) (ygf305 hB _ _ _ _ _ c1 rfl rfl rfl) (fun v2 m2 cv2 => ?_)
    refine xS_of (pc' := 118) (L' := [(2, xi v2), (0, xa 536)]) (st' := [xi (-2), xi v2]) (m' := m2) (fun ex ns r q => ?_) ?_
    · refine xw_istore_n (L' := [(2, xi v2), (0, xa 536)]) rfl (by decide) rfl ?_
      refine xw_iload_n rfl rfl ?_
      refine xw_bipush (e := (-2)) rfl (by decide +kernel) ?_
      exact q
    refine xS_if (fun h1 => ?_) (fun h1 => ?_)
    · refine xS_of (pc' := 123) (L' := [(2, xi v2), (0, xa 536)]) (st' := [xi (-2)]) (m' := m2) (fun ex ns r q => ?_) ?_
      · refine xw_ic_neF rfl (w32_cg cv2) (w32_cg rfl) h1 ?_
        refine xw_bipush (e := (-2)) rfl (by decide +kernel) ?_
        exact q
      exact xS_ret (v := (-2)) rfl rfl xw_rtI rfl
    · refine xS_of (pc' := 128) (L' := [(2, xi v2), (0, xa 536)]) (st' := [xi (xR m2 536 57)]) (m' := m2) (fun ex ns r q => ?_) ?_
      · refine xw_ic_neT rfl (w32_cg cv2) (w32_cg rfl) h1 ?_
        refine xw_aload_n rfl rfl rfl ?_
        refine xw_gfIc (v := (m2 536 57)) (v' := (xR m2 536 57)) rfl (xw_obd (by decide +kernel)) xk12_57 (qi := 57) rfl rfl rfl ?_
        exact q
      refine xS_if (fun h2 => ?_) (fun h2 => ?_)
      · refine xS_of (pc' := 185) (L' := [(0, xa 536), (2, xi v2)]) (st' := []) (m' := m2) (fun ex ns r q => ?_) ?_
        · refine xw_if_eqT rfl (w32_cg (w32_xR _ _ _)) h2 ?_
          refine xw_lo (L2 := [(0, xa 536), (2, xi v2)]) (List.forall_mem_cons.mpr ⟨rfl, List.forall_mem_cons.mpr ⟨rfl, fun _ h => absurd h List.not_mem_nil⟩⟩) ?_
          exact q
        exact ygk323_185 hB _ _ cv2
      · refine xS_of (pc' := 156) (L' := [(0, xa 536), (2, xi v2), (3, xi 0)]) (st' := []) (m' := (xw_u (xw_u m2 536 31 ((xR m2 536 31) + (xR m2 536 32))) 536 38 ((xR m2 536 38) + 1))) (fun ex ns r q => ?_) ?_
        · refine xw_if_eqF rfl (w32_cg (w32_xR _ _ _)) h2 ?_
          refine xw_aload_n rfl rfl rfl ?_
          refine xw_dup rfl rfl ?_
          refine xw_gfIc (v := (m2 536 31)) (v' := (xR m2 536 31)) rfl (xw_obd (by decide +kernel)) xk12_31 (qi := 31) rfl rfl rfl ?_
          refine xw_aload_n rfl rfl rfl ?_
          refine xw_gfIc (v := (m2 536 32)) (v' := (xR m2 536 32)) rfl (xw_obd (by decide +kernel)) xk12_32 (qi := 32) rfl rfl rfl ?_
          refine xw_iadd rfl ?_
          refine xw_pfI rfl (xw_obd (by decide +kernel)) xk12_31 (qi := 31) rfl (xw_okI rfl) ?_
          refine xw_aload_n rfl rfl rfl ?_
          refine xw_dup rfl rfl ?_
          refine xw_gfIc (v := (m2 536 38)) (v' := (xR m2 536 38)) rfl (xw_obd (by decide +kernel)) xk12_38 (qi := 38) rfl (xw_un (fun e => absurd e.2 (by decide)) rfl) rfl ?_
          refine xw_iconst rfl ?_
          refine xw_iadd rfl ?_
          refine xw_pfI rfl (xw_obd (by decide +kernel)) xk12_38 (qi := 38) rfl (xw_okI rfl) ?_
          refine xw_iconst rfl ?_
          refine xw_istore_n (L' := [(3, xi 0), (2, xi v2), (0, xa 536)]) rfl (by decide) rfl ?_
          refine xw_lo (L2 := [(0, xa 536), (2, xi v2), (3, xi 0)]) (List.forall_mem_cons.mpr ⟨rfl, List.forall_mem_cons.mpr ⟨rfl, List.forall_mem_cons.mpr ⟨rfl, fun _ h => absurd h List.not_mem_nil⟩⟩⟩) ?_
          exact q
        exact ygl323_156 hB 1000000 _ _ _ cv2 rfl
theorem ygl323_56 {B : Nat} (hB : B ≤ 512) {xs : Nat → Int32} {SL d : Nat} : ∀ n x1 x2 m, w32 x1 = x1 → w32 x2 = x2 → xS B xs SL (d + 6) 323 (4, (some .int), [], 13) 1 56 [(0, xa 536), (1, xi x1), (2, xi x2)] [] m (xl2 (yl323_56 B) n x1 x2 m) := by
  intro n
  induction n with
  | zero => intro x1 x2 m c1 c2; exact xS_none
  | succ n ih => exact ysl323_56 hB ih
theorem ygf323 {B : Nat} (hB : B ≤ 512) {xs : Nat → Int32} {SL d : Nat} : ∀ m, xS B xs SL (d + 6) 323 (4, (some .int), [], 13) 1 0 [(0, xa 536)] [] m (yf323 B m) := by
  intro m
  unfold yf323
  refine xS_of (pc' := 2) (L' := [(0, xa 536)]) (st' := [xa 536, xa 536]) (m' := m) (fun ex ns r q => ?_) ?_
  · refine xw_aload_n rfl rfl rfl ?_
    refine xw_aload_n rfl rfl rfl ?_
    refine xw_lo (L2 := [(0, xa 536)]) (List.forall_mem_cons.mpr ⟨rfl, fun _ h => absurd h List.not_mem_nil⟩) ?_
    exact q
  refine xS_call (q := 320) (n := 1) (kq := 4) (as := [xa 536]) (st1 := [xa 536]) rfl rfl rfl rfl rfl rfl rfl rfl rfl rfl (fun _ => xw_rcv1 (t := 12) (xw_obd (by decide +kernel)) rfl) rfl (List.forall_mem_cons.mpr ⟨rfl, fun _ h => absurd h List.not_mem_nil⟩) (ygf320 hB _) (fun v1 m1 cv1 => ?_)
  refine xS_if (fun h0 => ?_) (fun h0 => ?_)
  · refine xS_of (pc' := 31) (L' := [(0, xa 536)]) (st' := [xi 0]) (m' := (xw_u m1 536 1 1)) (fun ex ns r q => ?_) ?_
    · refine xw_if_eqT rfl (w32_cg (w32_of (xw_zr cv1))) h0 ?_
      refine xw_iconst rfl ?_
      refine xw_pfI rfl (xw_obd (by decide +kernel)) xk12_1 (qi := 1) rfl (xw_okI rfl) ?_
      refine xw_aload_n rfl rfl rfl ?_
      refine xw_gfIc (v := 1) (v' := 1) rfl (xw_obd (by decide +kernel)) xk12_1 (qi := 1) rfl xw_us rfl ?_
      refine xw_if_leF rfl (w32_cg rfl) (Int.not_le.mpr (by decide)) ?_
      refine xw_iconst rfl ?_
      exact q
    exact xS_ret (v := 0) rfl rfl xw_rtI rfl
  · refine xS_of (pc' := 12) (L' := [(0, xa 536)]) (st' := [xi (xR m1 536 32), xa 536]) (m' := m1) (fun ex ns r q => ?_) ?_
    · refine xw_if_eqF rfl (w32_cg (w32_of (xw_zr cv1))) h0 ?_
      refine xw_aload_n rfl rfl rfl ?_
      refine xw_gfIc (v := (m1 536 32)) (v' := (xR m1 536 32)) rfl (xw_obd (by decide +kernel)) xk12_32 (qi := 32) rfl rfl rfl ?_
      exact q
    refine xS_if (fun h1 => ?_) (fun h1 => ?_)
    · refine xS_of (pc' := 49) (L' := [(0, xa 536)]) (st' := [xi (-1), xi (w32 ((xR m1 536 31) + (xR m1 536 32))), xi (xR m1 536 31), xa 536, xi 8]) (m' := (xw_u m1 536 1 0)) (fun ex ns r q => ?_) ?_
      · refine xw_if_leF rfl (w32_cg (w32_xR _ _ _)) (Int.not_le.mpr h1) ?_
        refine xw_iconst rfl ?_
        refine xw_goto rfl ?_
        refine xw_pfI rfl (xw_obd (by decide +kernel)) xk12_1 (qi := 1) rfl (xw_okI rfl) ?_
        refine xw_aload_n rfl rfl rfl ?_
        refine xw_gfIc (v := 0) (v' := 0) rfl (xw_obd (by decide +kernel)) xk12_1 (qi := 1) rfl xw_us rfl ?_
        refine xw_if_leT rfl (w32_cg rfl) (Int.not_lt.mp (by decide)) ?_
        refine xw_bipush (e := 8) rfl (by decide +kernel) ?_
        refine xw_aload_n rfl rfl rfl ?_
        refine xw_aload_n rfl rfl rfl ?_
        refine xw_gfIc (v := (m1 536 31)) (v' := (xR m1 536 31)) rfl (xw_obd (by decide +kernel)) xk12_31 (qi := 31) rfl (xw_un (fun e => absurd e.2 (by decide)) rfl) rfl ?_
        refine xw_aload_n rfl rfl rfl ?_
        refine xw_gfIc (v := (m1 536 31)) (v' := (xR m1 536 31)) rfl (xw_obd (by decide +kernel)) xk12_31 (qi := 31) rfl (xw_un (fun e => absurd e.2 (by decide)) rfl) rfl ?_
        refine xw_aload_n rfl rfl rfl ?_
        refine xw_gfIc (v := (m1 536 32)) (v' := (xR m1 536 32)) rfl (xw_obd (by decide +kernel)) xk12_32 (qi := 32) rfl (xw_un (fun e => absurd e.2 (by decide)) rfl) rfl ?_
        refine xw_iadd rfl ?_
        refine xw_iconst rfl ?_
        refine xw_cst (st' := [xi (-1), xi (w32 ((xR m1 536 31) + (xR m1 536 32))), xi (xR m1 536 31), xa 536, xi 8]) (xw_sc rfl (xw_sc (xi_c rfl) (xw_sc rfl (xw_sc rfl rfl)))) ?_
        refine xw_lo (L2 := [(0, xa 536)]) (List.forall_mem_cons.mpr ⟨rfl, fun _ h => absurd h List.not_mem_nil⟩) ?_
        exact q
      refine xS_call (q := 324) (n := 4) (kq := 1) (as := [xa 536, xi (xR m1 536 31), xi (w32 ((xR m1 536 31) + (xR m1 536 32))), xi (-1)]) (st1 := [xi 8]) rfl rfl rfl rfl rfl rfl rfl rfl rfl rfl (fun _ => xw_rcv1 (t := 12) (xw_obd (by decide +kernel)) rfl) rfl (List.forall_mem_cons.mpr ⟨rfl, List.forall_mem_cons.mpr ⟨rfl, List.forall_mem_cons.mpr ⟨rfl, List.forall_mem_cons.mpr ⟨rfl, fun _ h => absurd h List.not_mem_nil⟩⟩⟩⟩) (ygf324 hB _ _ _ _ (w32_xR _ _ _) (w32_w _) rfl) (fun v2 m2 cv2 => ?_)
      refine xS_of (pc' := 56) (L' := [(0, xa 536), (1, xi (w32 (8 + v2))), (2, xi 0)]) (st' := []) (m' := m2) (fun ex ns r q => ?_) ?_
      · refine xw_iadd rfl ?_
        refine xw_cst (st' := [xi (w32 (8 + v2))]) (xw_sc (xi_c rfl) rfl) ?_
        refine xw_istore_n (L' := [(1, xi (w32 (8 + v2))), (0, xa 536)]) rfl (by decide) rfl ?_
        refine xw_iconst rfl ?_
        refine xw_istore_n (L' := [(2, xi 0), (1, xi (w32 (8 + v2))), (0, xa 536)]) rfl (by decide) rfl ?_
        refine xw_lo (L2 := [(0, xa 536), (1, xi (w32 (8 + v2))), (2, xi 0)]) (List.forall_mem_cons.mpr ⟨rfl, List.forall_mem_cons.mpr ⟨rfl, List.forall_mem_cons.mpr ⟨rfl, fun _ h => absurd h List.not_mem_nil⟩⟩⟩) ?_
        exact q
      exact ygl323_56 hB 1000000 _ _ _ (w32_w _) rfl
    · refine xS_of (pc' := 31) (L' := [(0, xa 536)]) (st' := [xi 0]) (m' := (xw_u m1 536 1 1)) (fun ex ns r q => ?_) ?_
      · refine xw_if_leT rfl (w32_cg (w32_xR _ _ _)) (Int.not_lt.mp h1) ?_
        refine xw_iconst rfl ?_
        refine xw_pfI rfl (xw_obd (by decide +kernel)) xk12_1 (qi := 1) rfl (xw_okI rfl) ?_
        refine xw_aload_n rfl rfl rfl ?_
        refine xw_gfIc (v := 1) (v' := 1) rfl (xw_obd (by decide +kernel)) xk12_1 (qi := 1) rfl xw_us rfl ?_
        refine xw_if_leF rfl (w32_cg rfl) (Int.not_le.mpr (by decide)) ?_
        refine xw_iconst rfl ?_
        exact q
      exact xS_ret (v := 0) rfl rfl xw_rtI rfl
theorem ysl331_4 {B : Nat} (hB : B ≤ 512) {xs : Nat → Int32} {SL d : Nat} {r4 : Int → Int → xw_M → xP} (hr4 : ∀ x1 x2 m, w32 x1 = x1 → w32 x2 = x2 → xS B xs SL (d + 0) 331 (3, (some .int), [], 13) 1 4 [(0, xa 536), (1, xi x1), (2, xi x2)] [] m (r4 x1 x2 m)) : ∀ x1 x2 m, w32 x1 = x1 → w32 x2 = x2 → xS B xs SL (d + 0) 331 (3, (some .int), [], 13) 1 4 [(0, xa 536), (1, xi x1), (2, xi x2)] [] m (yl331_4 B r4 x1 x2 m) := by
  intro x1 x2 m c1 c2
  unfold yl331_4
  refine xS_of (pc' := 9) (L' := [(0, xa 536), (1, xi x1), (2, xi x2)]) (st' := [xi (xR m 536 14), xi x2]) (m' := m) (fun ex ns r q => ?_) ?_
  · refine xw_iload_n rfl rfl ?_
    refine xw_aload_n rfl rfl rfl ?_
    refine xw_gfIc (v := (m 536 14)) (v' := (xR m 536 14)) rfl (xw_obd (by decide +kernel)) xk12_14 (qi := 14) rfl rfl rfl ?_
    exact q
  refine xS_if (fun h0 => ?_) (fun h0 => ?_)
  · refine xS_g (fun g1 => ?_)
    refine xS_of (pc' := 4) (L' := [(0, xa 536), (1, xi (w32 (x1 * ((xR m 538 x2) + 1)))), (2, xi (w32 (x2 + 1)))]) (st' := []) (m' := m) (fun ex ns r q => ?_) ?_
    · refine xw_ic_geF rfl (w32_cg c2) (w32_cg (w32_xR _ _ _)) (Int.not_le.mpr h0) ?_
      refine xw_iload_n rfl rfl ?_
      refine xw_aload_n rfl rfl rfl ?_
      refine xw_gfR (n := 538) (e := 538) rfl (xw_obd (by decide +kernel)) (by decide +kernel) (by decide +kernel) rfl ?_
      refine xw_iload_n rfl rfl ?_
      refine xw_ialdc (n := 8) (v := (m 538 x2)) (v' := (xR m 538 x2)) rfl hB (xw_obd (by decide +kernel)) rfl g1 rfl rfl ?_
      refine xw_iconst rfl ?_
      refine xw_iadd rfl ?_
      refine xw_imul rfl ?_
      refine xw_cst (st' := [xi (w32 (x1 * ((xR m 538 x2) + 1)))]) (xw_sc (xi_c rfl) rfl) ?_
      refine xw_istore_n (L' := [(1, xi (w32 (x1 * ((xR m 538 x2) + 1)))), (0, xa 536), (2, xi x2)]) rfl (by decide) rfl ?_
      refine xw_iincc (z := (w32 (x2 + 1))) (L' := [(2, xi (w32 (x2 + 1))), (1, xi (w32 (x1 * ((xR m 538 x2) + 1)))), (0, xa 536)]) rfl rfl (by decide) rfl rfl ?_
      refine xw_goto rfl ?_
      refine xw_lo (L2 := [(0, xa 536), (1, xi (w32 (x1 * ((xR m 538 x2) + 1)))), (2, xi (w32 (x2 + 1)))]) (List.forall_mem_cons.mpr ⟨rfl, List.forall_mem_cons.mpr ⟨rfl, List.forall_mem_cons.mpr ⟨rfl, fun _ h => absurd h List.not_mem_nil⟩⟩⟩) ?_
      exact q
    exact hr4 _ _ _ (w32_w _) (w32_w _)
  · refine xS_of (pc' := 30) (L' := [(0, xa 536), (1, xi x1), (2, xi x2)]) (st' := [xi x1]) (m' := m) (fun ex ns r q => ?_) ?_
    · refine xw_ic_geT rfl (w32_cg c2) (w32_cg (w32_xR _ _ _)) (Int.not_lt.mp h0) ?_
      refine xw_iload_n rfl rfl ?_
      exact q
    exact xS_ret (v := x1) rfl rfl xw_rtI c1
theorem ygl331_4 {B : Nat} (hB : B ≤ 512) {xs : Nat → Int32} {SL d : Nat} : ∀ n x1 x2 m, w32 x1 = x1 → w32 x2 = x2 → xS B xs SL (d + 0) 331 (3, (some .int), [], 13) 1 4 [(0, xa 536), (1, xi x1), (2, xi x2)] [] m (xl2 (yl331_4 B) n x1 x2 m) := by
  intro n
  induction n with
  | zero => intro x1 x2 m c1 c2; exact xS_none
  | succ n ih => exact ysl331_4 hB ih
theorem ygf331 {B : Nat} (hB : B ≤ 512) {xs : Nat → Int32} {SL d : Nat} : ∀ m, xS B xs SL (d + 0) 331 (3, (some .int), [], 13) 1 0 [(0, xa 536)] [] m (yf331 B m) := by
  intro m
  unfold yf331
  refine xS_of (pc' := 4) (L' := [(0, xa 536), (1, xi 1), (2, xi 0)]) (st' := []) (m' := m) (fun ex ns r q => ?_) ?_
  · refine xw_iconst rfl ?_
    refine xw_istore_n (L' := [(1, xi 1), (0, xa 536)]) rfl (by decide) rfl ?_
    refine xw_iconst rfl ?_
    refine xw_istore_n (L' := [(2, xi 0), (1, xi 1), (0, xa 536)]) rfl (by decide) rfl ?_
    refine xw_lo (L2 := [(0, xa 536), (1, xi 1), (2, xi 0)]) (List.forall_mem_cons.mpr ⟨rfl, List.forall_mem_cons.mpr ⟨rfl, List.forall_mem_cons.mpr ⟨rfl, fun _ h => absurd h List.not_mem_nil⟩⟩⟩) ?_
    exact q
  exact ygl331_4 hB 1000000 _ _ _ rfl rfl
theorem ysl333_12 {B : Nat} (hB : B ≤ 512) {xs : Nat → Int32} {SL d : Nat} {r2 : Int → Int → xw_M → xP} (hr2 : ∀ x1 x2 m, w32 x1 = x1 → w32 x2 = x2 → xS B xs SL (d + 1) 333 (7, none, [], 13) 0 2 [(0, xa 536), (1, xi x1), (2, xi x2)] [] m (r2 x1 x2 m)) {r12 : Int → Int → Int → Int → xw_M → xP} (hr12 : ∀ x1 x2 x3 x5 m, w32 x1 = x1 → w32 x2 = x2 → w64 x3 = x3 → w32 x5 = x5 → xS B xs SL (d + 1) 333 (7, none, [], 13) 0 12 [(0, xa 536), (1, xi x1), (2, xi x2), (3, xj x3), (5, xi x5)] [] m (r12 x1 x2 x3 x5 m)) : ∀ x1 x2 x3 x5 m, w32 x1 = x1 → w32 x2 = x2 → w64 x3 = x3 → w32 x5 = x5 → xS B xs SL (d + 1) 333 (7, none, [], 13) 0 12 [(0, xa 536), (1, xi x1), (2, xi x2), (3, xj x3), (5, xi x5)] [] m (yl333_12 B r2 r12 x1 x2 x3 x5 m) := by
  intro x1 x2 x3 x5 m c1 c2 c3 c5
  unfold yl333_12
  refine xS_of (pc' := 18) (L' := [(0, xa 536), (1, xi x1), (2, xi x2), (3, xj x3), (5, xi x5)]) (st' := [xi (xR m 536 14), xi x5]) (m' := m) (fun ex ns r q => ?_) ?_
  · refine xw_iload rfl rfl ?_
    refine xw_aload_n rfl rfl rfl ?_
    refine xw_gfIc (v := (m 536 14)) (v' := (xR m 536 14)) rfl (xw_obd (by decide +kernel)) xk12_14 (qi := 14) rfl rfl rfl ?_
    exact q
  refine xS_if (fun h0 => ?_) (fun h0 => ?_)
  · refine xS_of (pc' := 25) (L' := [(0, xa 536), (1, xi x1), (2, xi x2), (3, xj x3), (5, xi x5)]) (st' := [xi x5, xi x2, xa 536]) (m' := m) (fun ex ns r q => ?_) ?_
    · refine xw_ic_geF rfl (w32_cg c5) (w32_cg (w32_xR _ _ _)) (Int.not_le.mpr h0) ?_
      refine xw_aload_n rfl rfl rfl ?_
      refine xw_iload_n rfl rfl ?_
      refine xw_iload rfl rfl ?_
      refine xw_lo (L2 := [(0, xa 536), (1, xi x1), (2, xi x2), (3, xj x3), (5, xi x5)]) (List.forall_mem_cons.mpr ⟨rfl, List.forall_mem_cons.mpr ⟨rfl, List.forall_mem_cons.mpr ⟨rfl, List.forall_mem_cons.mpr ⟨rfl, List.forall_mem_cons.mpr ⟨rfl, fun _ h => absurd h List.not_mem_nil⟩⟩⟩⟩⟩) ?_
      exact q
    refine xS_call (q := 291) (n := 3) (kq := 1) (as := [xa 536, xi x2, xi x5]) (st1 := []) rfl rfl rfl rfl rfl rfl rfl rfl rfl rfl (fun _ => xw_rcv1 (t := 12) (xw_obd (by decide +kernel)) rfl) rfl (List.forall_mem_cons.mpr ⟨rfl, List.forall_mem_cons.mpr ⟨rfl, List.forall_mem_cons.mpr ⟨rfl, fun _ h => absurd h List.not_mem_nil⟩⟩⟩) (ygf291 hB _ _ _ c2 c5) (fun v1 m1 cv1 => ?_)
    refine xS_g (fun g1 => ?_)
    refine xS_g (fun g2 => ?_)
    refine xS_of (pc' := 54) (L' := [(6, xi v1), (0, xa 536), (1, xi x1), (2, xi x2), (3, xj x3), (5, xi x5)]) (st' := [xi (xR m1 538 x5), xi v1]) (m' := (xw_u m1 584 ((8 * x2) + x5) (w8 (w8 v1)))) (fun ex ns r q => ?_) ?_
    · refine xw_istore (L' := [(6, xi v1), (0, xa 536), (1, xi x1), (2, xi x2), (3, xj x3), (5, xi x5)]) rfl (by decide) rfl ?_
      refine xw_aload_n rfl rfl rfl ?_
      refine xw_gfR (n := 584) (e := 584) rfl (xw_obd (by decide +kernel)) (by decide +kernel) (by decide +kernel) rfl ?_
      refine xw_bipush (e := 8) rfl (by decide +kernel) ?_
      refine xw_iload_n rfl rfl ?_
      refine xw_imul rfl ?_
      refine xw_iload rfl rfl ?_
      refine xw_iadd rfl ?_
      refine xw_iload rfl rfl ?_
      refine xw_i2bc rfl ?_
      refine xw_bastc (n := 4096) rfl hB (xw_obd (by decide +kernel)) rfl g1 ?_
      refine xw_iload rfl rfl ?_
      refine xw_aload_n rfl rfl rfl ?_
      refine xw_gfR (n := 538) (e := 538) rfl (xw_obd (by decide +kernel)) (by decide +kernel) (by decide +kernel) rfl ?_
      refine xw_iload rfl rfl ?_
      refine xw_ialdc (n := 8) (v := (m1 538 x5)) (v' := (xR m1 538 x5)) rfl hB (xw_obd (by decide +kernel)) rfl g2 (xw_un (fun e => absurd e.1 (by decide)) rfl) rfl ?_
      exact q
    refine xS_if (fun h3 => ?_) (fun h3 => ?_)
    · refine xS_of (pc' := 12) (L' := [(0, xa 536), (1, xi x1), (2, xi x2), (3, xj x3), (5, xi (w32 (x5 + 1)))]) (st' := []) (m' := (xw_u m1 584 ((8 * x2) + x5) (w8 (w8 v1)))) (fun ex ns r q => ?_) ?_
      · refine xw_ic_neF rfl (w32_cg cv1) (w32_cg (w32_xR _ _ _)) h3 ?_
        refine xw_lload_n rfl rfl ?_
        refine xw_goto rfl ?_
        refine xw_lstore_n (L' := [(3, xj x3), (6, xi v1), (0, xa 536), (1, xi x1), (2, xi x2), (5, xi x5)]) rfl (by decide) rfl ?_
        refine xw_iincc (z := (w32 (x5 + 1))) (L' := [(5, xi (w32 (x5 + 1))), (3, xj x3), (6, xi v1), (0, xa 536), (1, xi x1), (2, xi x2)]) rfl rfl (by decide) rfl rfl ?_
        refine xw_goto rfl ?_
        refine xw_lo (L2 := [(0, xa 536), (1, xi x1), (2, xi x2), (3, xj x3), (5, xi (w32 (x5 + 1)))]) (List.forall_mem_cons.mpr ⟨rfl, List.forall_mem_cons.mpr ⟨rfl, List.forall_mem_cons.mpr ⟨rfl, List.forall_mem_cons.mpr ⟨rfl, List.forall_mem_cons.mpr ⟨rfl, fun _ h => absurd h List.not_mem_nil⟩⟩⟩⟩⟩) ?_
        exact q
      exact hr12 _ _ _ _ _ c1 c2 c3 (w32_w _)
    · refine xS_g (fun g4 => ?_)
      refine xS_of (pc' := 12) (L' := [(0, xa 536), (1, xi x1), (2, xi x2), (3, xj (w64 ((min x3 1000000) * (xR m1 574 ((4 * x5) + v1))))), (5, xi (w32 (x5 + 1)))]) (st' := []) (m' := (xw_u m1 584 ((8 * x2) + x5) (w8 (w8 v1)))) (fun ex ns r q => ?_) ?_
      · refine xw_ic_neT rfl (w32_cg cv1) (w32_cg (w32_xR _ _ _)) h3 ?_
        refine xw_lload_n rfl rfl ?_
        refine xw_ldc2 (e := 1000000) rfl (by decide +kernel) ?_
        refine xw_minJ rfl rfl (w64_cg c3) (w64_cg rfl) rfl ?_
        refine xw_aload_n rfl rfl rfl ?_
        refine xw_gfR (n := 574) (e := 574) rfl (xw_obd (by decide +kernel)) (by decide +kernel) (by decide +kernel) rfl ?_
        refine xw_iconst rfl ?_
        refine xw_iload rfl rfl ?_
        refine xw_imul rfl ?_
        refine xw_iload rfl rfl ?_
        refine xw_iadd rfl ?_
        refine xw_ialdc (n := 32) (v := (m1 574 ((4 * x5) + v1))) (v' := (xR m1 574 ((4 * x5) + v1))) rfl hB (xw_obd (by decide +kernel)) rfl g4 (xw_un (fun e => absurd e.1 (by decide)) rfl) rfl ?_
        refine xw_i2l rfl (w32_cg (w32_xR _ _ _)) ?_
        refine xw_lmul rfl ?_
        refine xw_cst (st' := [xj (w64 ((min x3 1000000) * (xR m1 574 ((4 * x5) + v1))))]) (xw_sc (xj_c rfl) rfl) ?_
        refine xw_lstore_n (L' := [(3, xj (w64 ((min x3 1000000) * (xR m1 574 ((4 * x5) + v1))))), (6, xi v1), (0, xa 536), (1, xi x1), (2, xi x2), (5, xi x5)]) rfl (by decide) rfl ?_
        refine xw_iincc (z := (w32 (x5 + 1))) (L' := [(5, xi (w32 (x5 + 1))), (3, xj (w64 ((min x3 1000000) * (xR m1 574 ((4 * x5) + v1))))), (6, xi v1), (0, xa 536), (1, xi x1), (2, xi x2)]) rfl rfl (by decide) rfl rfl ?_
        refine xw_goto rfl ?_
        refine xw_lo (L2 := [(0, xa 536), (1, xi x1), (2, xi x2), (3, xj (w64 ((min x3 1000000) * (xR m1 574 ((4 * x5) + v1))))), (5, xi (w32 (x5 + 1)))]) (List.forall_mem_cons.mpr ⟨rfl, List.forall_mem_cons.mpr ⟨rfl, List.forall_mem_cons.mpr ⟨rfl, List.forall_mem_cons.mpr ⟨rfl, List.forall_mem_cons.mpr ⟨rfl, fun _ h => absurd h List.not_mem_nil⟩⟩⟩⟩⟩) ?_
        exact q
      exact hr12 _ _ _ _ _ c1 c2 (w64_w _) (w32_w _)
  · refine xS_g (fun g1 => ?_)
    refine xS_of (pc' := 2) (L' := [(0, xa 536), (1, xi x1), (2, xi (w32 (x2 + 1)))]) (st' := []) (m' := (xw_u (xw_u m 583 x2 (min x3 (xR m 536 31))) 585 x2 (xR m 536 31))) (fun ex ns r q => ?_) ?_
    · refine xw_ic_geT rfl (w32_cg c5) (w32_cg (w32_xR _ _ _)) (Int.not_lt.mp h0) ?_
      refine xw_aload_n rfl rfl rfl ?_
      refine xw_gfR (n := 583) (e := 583) rfl (xw_obd (by decide +kernel)) (by decide +kernel) (by decide +kernel) rfl ?_
      refine xw_iload_n rfl rfl ?_
      refine xw_lload_n rfl rfl ?_
      refine xw_aload_n rfl rfl rfl ?_
      refine xw_gfIc (v := (m 536 31)) (v' := (xR m 536 31)) rfl (xw_obd (by decide +kernel)) xk12_31 (qi := 31) rfl rfl rfl ?_
      refine xw_i2l rfl (w32_cg (w32_xR _ _ _)) ?_
      refine xw_minJ rfl rfl (w64_cg c3) (w64_cg (w64_32 (w32_xR _ _ _))) rfl ?_
      refine xw_last (n := 512) rfl hB (xw_obd (by decide +kernel)) rfl g1 ?_
      refine xw_aload_n rfl rfl rfl ?_
      refine xw_gfR (n := 585) (e := 585) rfl (xw_obd (by decide +kernel)) (by decide +kernel) (by decide +kernel) rfl ?_
      refine xw_iload_n rfl rfl ?_
      refine xw_aload_n rfl rfl rfl ?_
      refine xw_gfIc (v := (m 536 31)) (v' := (xR m 536 31)) rfl (xw_obd (by decide +kernel)) xk12_31 (qi := 31) rfl (xw_un (fun e => absurd e.1 (by decide)) rfl) rfl ?_
      refine xw_i2l rfl (w32_cg (w32_xR _ _ _)) ?_
      refine xw_last (n := 512) rfl hB (xw_obd (by decide +kernel)) rfl g1 ?_
      refine xw_iincc (z := (w32 (x2 + 1))) (L' := [(2, xi (w32 (x2 + 1))), (0, xa 536), (1, xi x1), (3, xj x3), (5, xi x5)]) rfl rfl (by decide) rfl rfl ?_
      refine xw_goto rfl ?_
      refine xw_lo (L2 := [(0, xa 536), (1, xi x1), (2, xi (w32 (x2 + 1)))]) (List.forall_mem_cons.mpr ⟨rfl, List.forall_mem_cons.mpr ⟨rfl, List.forall_mem_cons.mpr ⟨rfl, fun _ h => absurd h List.not_mem_nil⟩⟩⟩) ?_
      exact q
    exact hr2 _ _ _ c1 (w32_w _)
theorem ygl333_12 {B : Nat} (hB : B ≤ 512) {xs : Nat → Int32} {SL d : Nat} {r2 : Int → Int → xw_M → xP} (hr2 : ∀ x1 x2 m, w32 x1 = x1 → w32 x2 = x2 → xS B xs SL (d + 1) 333 (7, none, [], 13) 0 2 [(0, xa 536), (1, xi x1), (2, xi x2)] [] m (r2 x1 x2 m)) : ∀ n x1 x2 x3 x5 m, w32 x1 = x1 → w32 x2 = x2 → w64 x3 = x3 → w32 x5 = x5 → xS B xs SL (d + 1) 333 (7, none, [], 13) 0 12 [(0, xa 536), (1, xi x1), (2, xi x2), (3, xj x3), (5, xi x5)] [] m (xl4 (yl333_12 B r2) n x1 x2 x3 x5 m) := by
  intro n
  induction n with
  | zero => intro x1 x2 x3 x5 m c1 c2 c3 c5; exact xS_none
  | succ n ih => exact ysl333_12 hB hr2 ih
theorem ysl333_2 {B : Nat} (hB : B ≤ 512) {xs : Nat → Int32} {SL d : Nat} {r2 : Int → Int → xw_M → xP} (hr2 : ∀ x1 x2 m, w32 x1 = x1 → w32 x2 = x2 → xS B xs SL (d + 1) 333 (7, none, [], 13) 0 2 [(0, xa 536), (1, xi x1), (2, xi x2)] [] m (r2 x1 x2 m)) : ∀ x1 x2 m, w32 x1 = x1 → w32 x2 = x2 → xS B xs SL (d + 1) 333 (7, none, [], 13) 0 2 [(0, xa 536), (1, xi x1), (2, xi x2)] [] m (yl333_2 B r2 x1 x2 m) := by
  intro x1 x2 m c1 c2
  unfold yl333_2
  refine xS_of (pc' := 4) (L' := [(0, xa 536), (1, xi x1), (2, xi x2)]) (st' := [xi x1, xi x2]) (m' := m) (fun ex ns r q => ?_) ?_
  · refine xw_iload_n rfl rfl ?_
    refine xw_iload_n rfl rfl ?_
    exact q
  refine xS_if (fun h0 => ?_) (fun h0 => ?_)
  · refine xS_of (pc' := 12) (L' := [(0, xa 536), (1, xi x1), (2, xi x2), (3, xj 1), (5, xi 0)]) (st' := []) (m' := m) (fun ex ns r q => ?_) ?_
    · refine xw_ic_geF rfl (w32_cg c2) (w32_cg c1) (Int.not_le.mpr h0) ?_
      refine xw_lconst (e := 1) rfl rfl ?_
      refine xw_lstore_n (L' := [(3, xj 1), (0, xa 536), (1, xi x1), (2, xi x2)]) rfl (by decide) rfl ?_
      refine xw_iconst rfl ?_
      refine xw_istore (L' := [(5, xi 0), (3, xj 1), (0, xa 536), (1, xi x1), (2, xi x2)]) rfl (by decide) rfl ?_
      refine xw_lo (L2 := [(0, xa 536), (1, xi x1), (2, xi x2), (3, xj 1), (5, xi 0)]) (List.forall_mem_cons.mpr ⟨rfl, List.forall_mem_cons.mpr ⟨rfl, List.forall_mem_cons.mpr ⟨rfl, List.forall_mem_cons.mpr ⟨rfl, List.forall_mem_cons.mpr ⟨rfl, fun _ h => absurd h List.not_mem_nil⟩⟩⟩⟩⟩) ?_
      exact q
    exact ygl333_12 hB hr2 1000000 _ _ _ _ _ c1 c2 rfl rfl
  · refine xS_of (pc' := 121) (L' := [(0, xa 536), (1, xi x1), (2, xi x2)]) (st' := []) (m' := m) (fun ex ns r q => ?_) ?_
    · refine xw_ic_geT rfl (w32_cg c2) (w32_cg c1) (Int.not_lt.mp h0) ?_
      exact q
    exact xS_ret (v := 0) rfl rfl rfl rfl
theorem ygl333_2 {B : Nat} (hB : B ≤ 512) {xs : Nat → Int32} {SL d : Nat} : ∀ n x1 x2 m, w32 x1 = x1 → w32 x2 = x2 → xS B xs SL (d + 1) 333 (7, none, [], 13) 0 2 [(0, xa 536), (1, xi x1), (2, xi x2)] [] m (xl2 (yl333_2 B) n x1 x2 m) := by
  intro n
  induction n with
  | zero => intro x1 x2 m c1 c2; exact xS_none
  | succ n ih => exact ysl333_2 hB ih
theorem ygf333 {B : Nat} (hB : B ≤ 512) {xs : Nat → Int32} {SL d : Nat} : ∀ p0 m, w32 p0 = p0 → xS B xs SL (d + 1) 333 (7, none, [], 13) 0 0 [(0, xa 536), (1, xi p0)] [] m (yf333 B p0 m) := by
  intro p0 m cp0
  unfold yf333
  refine xS_of (pc' := 2) (L' := [(0, xa 536), (1, xi p0), (2, xi 0)]) (st' := []) (m' := m) (fun ex ns r q => ?_) ?_
  · refine xw_iconst rfl ?_
    refine xw_istore_n (L' := [(2, xi 0), (0, xa 536), (1, xi p0)]) rfl (by decide) rfl ?_
    refine xw_lo (L2 := [(0, xa 536), (1, xi p0), (2, xi 0)]) (List.forall_mem_cons.mpr ⟨rfl, List.forall_mem_cons.mpr ⟨rfl, List.forall_mem_cons.mpr ⟨rfl, fun _ h => absurd h List.not_mem_nil⟩⟩⟩) ?_
    exact q
  exact ygl333_2 hB 1000000 _ _ _ cp0 rfl
