/-! the machine does what the functions say, 8 -/
theorem ysl263_26 {B : Nat} (hB : B ≤ 512) {xs : Nat → Int32} {SL d : Nat} {r26 : Int → Int → Int → xw_M → xP} (hr26 : ∀ x1 x2 x3 m, w32 x1 = x1 → w32 x2 = x2 → w32 x3 = x3 → xS B xs SL (d + 0) 263 (4, (some .boolean), [], 13) 4 26 [(0, xa 536), (1, xi x1), (2, xi x2), (3, xi x3)] [] m (r26 x1 x2 x3 m)) : ∀ x1 x2 x3 m, w32 x1 = x1 → w32 x2 = x2 → w32 x3 = x3 → xS B xs SL (d + 0) 263 (4, (some .boolean), [], 13) 4 26 [(0, xa 536), (1, xi x1), (2, xi x2), (3, xi x3)] [] m (yl263_26 B r26 x1 x2 x3 m) := by
  intro x1 x2 x3 m c1 c2 c3
  unfold yl263_26
  refine xS_g (fun g0 => ?_)
  refine xS_of (pc' := 33) (L' := [(0, xa 536), (1, xi x1), (2, xi x2), (3, xi x3)]) (st' := [xi (xR m 543 x1), xi x3]) (m' := m) (fun ex ns r q => ?_) ?_
  · refine xw_iload_n rfl rfl ?_
    refine xw_aload_n rfl rfl rfl ?_
    refine xw_gfR (n := 543) (e := 543) rfl (xw_obd (by decide +kernel)) (by decide +kernel) (by decide +kernel) rfl ?_
    refine xw_iload_n rfl rfl ?_
    refine xw_ialdc (n := 48) (v := (m 543 x1)) (v' := (xR m 543 x1)) rfl hB (xw_obd (by decide +kernel)) rfl g0 rfl rfl ?_
    exact q
  refine xS_if (fun h1 => ?_) (fun h1 => ?_)
  · refine xS_of (pc' := 37) (L' := [(0, xa 536), (1, xi x1), (2, xi x2), (3, xi x3)]) (st' := [xi x2]) (m' := m) (fun ex ns r q => ?_) ?_
    · refine xw_ic_geF rfl (w32_cg c3) (w32_cg (w32_xR _ _ _)) (Int.not_le.mpr h1) ?_
      refine xw_iload_n rfl rfl ?_
      exact q
    refine xS_if (fun h2 => ?_) (fun h2 => ?_)
    · refine xS_g (fun g3 => ?_)
      refine xS_of (pc' := 78) (L' := [(0, xa 536), (1, xi x1), (2, xi x2), (3, xi x3)]) (st' := [xi x2]) (m' := m) (fun ex ns r q => ?_) ?_
      · refine xw_if_eqT rfl (w32_cg c2) h2 ?_
        refine xw_iload_n rfl rfl ?_
        exact q
      exact xS_ret (v := x2) rfl rfl (xw_rtZ g3) g3
    · refine xS_g (fun g3 => ?_)
      refine xS_g (fun g4 => ?_)
      refine xS_of (pc' := 62) (L' := [(0, xa 536), (1, xi x1), (2, xi x2), (3, xi x3)]) (st' := [xi (xR m 537 ((xR m 536 9) + x3)), xi (xR m 542 ((40 * x1) + x3))]) (m' := m) (fun ex ns r q => ?_) ?_
      · refine xw_if_eqF rfl (w32_cg c2) h2 ?_
        refine xw_aload_n rfl rfl rfl ?_
        refine xw_gfR (n := 542) (e := 542) rfl (xw_obd (by decide +kernel)) (by decide +kernel) (by decide +kernel) rfl ?_
        refine xw_bipush (e := 40) rfl (by decide +kernel) ?_
        refine xw_iload_n rfl rfl ?_
        refine xw_imul rfl ?_
        refine xw_iload_n rfl rfl ?_
        refine xw_iadd rfl ?_
        refine xw_baldc (n := 1920) (v := (m 542 ((40 * x1) + x3))) (v' := (xR m 542 ((40 * x1) + x3))) rfl hB (xw_obd (by decide +kernel)) rfl g3 rfl rfl ?_
        refine xw_aload_n rfl rfl rfl ?_
        refine xw_gfR (n := 537) (e := 537) rfl (xw_obd (by decide +kernel)) (by decide +kernel) (by decide +kernel) rfl ?_
        refine xw_aload_n rfl rfl rfl ?_
        refine xw_gfIc (v := (m 536 9)) (v' := (xR m 536 9)) rfl (xw_obd (by decide +kernel)) xk12_9 (qi := 9) rfl rfl rfl ?_
        refine xw_iload_n rfl rfl ?_
        refine xw_iadd rfl ?_
        refine xw_baldc (n := 65536) (v := (m 537 ((xR m 536 9) + x3))) (v' := (xR m 537 ((xR m 536 9) + x3))) rfl hB (xw_obd (by decide +kernel)) rfl g4 rfl rfl ?_
        exact q
      refine xS_if (fun h5 => ?_) (fun h5 => ?_)
      · refine xS_of (pc' := 26) (L' := [(0, xa 536), (1, xi x1), (2, xi 1), (3, xi (w32 (x3 + 1)))]) (st' := []) (m' := m) (fun ex ns r q => ?_) ?_
        · refine xw_ic_neF rfl (w32_cg (w32_xR _ _ _)) (w32_cg (w32_xR _ _ _)) h5 ?_
          refine xw_iconst rfl ?_
          refine xw_goto rfl ?_
          refine xw_istore_n (L' := [(2, xi 1), (0, xa 536), (1, xi x1), (3, xi x3)]) rfl (by decide) rfl ?_
          refine xw_iincc (z := (w32 (x3 + 1))) (L' := [(3, xi (w32 (x3 + 1))), (2, xi 1), (0, xa 536), (1, xi x1)]) rfl rfl (by decide) rfl rfl ?_
          refine xw_goto rfl ?_
          refine xw_lo (L2 := [(0, xa 536), (1, xi x1), (2, xi 1), (3, xi (w32 (x3 + 1)))]) (List.forall_mem_cons.mpr ⟨rfl, List.forall_mem_cons.mpr ⟨rfl, List.forall_mem_cons.mpr ⟨rfl, List.forall_mem_cons.mpr ⟨rfl, fun _ h => absurd h List.not_mem_nil⟩⟩⟩⟩) ?_
          exact q
        exact hr26 _ _ _ _ c1 rfl (w32_w _)
      · refine xS_of (pc' := 26) (L' := [(0, xa 536), (1, xi x1), (2, xi 0), (3, xi (w32 (x3 + 1)))]) (st' := []) (m' := m) (fun ex ns r q => ?_) ?_
        · refine xw_ic_neT rfl (w32_cg (w32_xR _ _ _)) (w32_cg (w32_xR _ _ _)) h5 ?_
          refine xw_iconst rfl ?_
          refine xw_istore_n (L' := [(2, xi 0), (0, xa 536), (1, xi x1), (3, xi x3)]) rfl (by decide) rfl ?_
          refine xw_iincc (z := (w32 (x3 + 1))) (L' := [(3, xi (w32 (x3 + 1))), (2, xi 0), (0, xa 536), (1, xi x1)]) rfl rfl (by decide) rfl rfl ?_
          refine xw_goto rfl ?_
          refine xw_lo (L2 := [(0, xa 536), (1, xi x1), (2, xi 0), (3, xi (w32 (x3 + 1)))]) (List.forall_mem_cons.mpr ⟨rfl, List.forall_mem_cons.mpr ⟨rfl, List.forall_mem_cons.mpr ⟨rfl, List.forall_mem_cons.mpr ⟨rfl, fun _ h => absurd h List.not_mem_nil⟩⟩⟩⟩) ?_
          exact q
        exact hr26 _ _ _ _ c1 rfl (w32_w _)
  · refine xS_g (fun g2 => ?_)
    refine xS_of (pc' := 78) (L' := [(0, xa 536), (1, xi x1), (2, xi x2), (3, xi x3)]) (st' := [xi x2]) (m' := m) (fun ex ns r q => ?_) ?_
    · refine xw_ic_geT rfl (w32_cg c3) (w32_cg (w32_xR _ _ _)) (Int.not_lt.mp h1) ?_
      refine xw_iload_n rfl rfl ?_
      exact q
    exact xS_ret (v := x2) rfl rfl (xw_rtZ g2) g2
theorem ygl263_26 {B : Nat} (hB : B ≤ 512) {xs : Nat → Int32} {SL d : Nat} : ∀ n x1 x2 x3 m, w32 x1 = x1 → w32 x2 = x2 → w32 x3 = x3 → xS B xs SL (d + 0) 263 (4, (some .boolean), [], 13) 4 26 [(0, xa 536), (1, xi x1), (2, xi x2), (3, xi x3)] [] m (xl3 (yl263_26 B) n x1 x2 x3 m) := by
  intro n
  induction n with
  | zero => intro x1 x2 x3 m c1 c2 c3; exact xS_none
  | succ n ih => exact ysl263_26 hB ih
theorem ygf263 {B : Nat} (hB : B ≤ 512) {xs : Nat → Int32} {SL d : Nat} : ∀ p0 m, w32 p0 = p0 → xS B xs SL (d + 0) 263 (4, (some .boolean), [], 13) 4 0 [(0, xa 536), (1, xi p0)] [] m (yf263 B p0 m) := by
  intro p0 m cp0
  unfold yf263
  refine xS_g (fun g0 => ?_)
  refine xS_of (pc' := 15) (L' := [(0, xa 536), (1, xi p0)]) (st' := [xi (w32 ((xR m 536 8) - (xR m 536 9))), xi (xR m 543 p0)]) (m' := m) (fun ex ns r q => ?_) ?_
  · refine xw_aload_n rfl rfl rfl ?_
    refine xw_gfR (n := 543) (e := 543) rfl (xw_obd (by decide +kernel)) (by decide +kernel) (by decide +kernel) rfl ?_
    refine xw_iload_n rfl rfl ?_
    refine xw_ialdc (n := 48) (v := (m 543 p0)) (v' := (xR m 543 p0)) rfl hB (xw_obd (by decide +kernel)) rfl g0 rfl rfl ?_
    refine xw_aload_n rfl rfl rfl ?_
    refine xw_gfIc (v := (m 536 8)) (v' := (xR m 536 8)) rfl (xw_obd (by decide +kernel)) xk12_8 (qi := 8) rfl rfl rfl ?_
    refine xw_aload_n rfl rfl rfl ?_
    refine xw_gfIc (v := (m 536 9)) (v' := (xR m 536 9)) rfl (xw_obd (by decide +kernel)) xk12_9 (qi := 9) rfl rfl rfl ?_
    refine xw_isub rfl ?_
    refine xw_cst (st' := [xi (w32 ((xR m 536 8) - (xR m 536 9))), xi (xR m 543 p0)]) (xw_sc (xi_c rfl) (xw_sc rfl rfl)) ?_
    exact q
  refine xS_if (fun h1 => ?_) (fun h1 => ?_)
  · refine xS_of (pc' := 26) (L' := [(0, xa 536), (1, xi p0), (2, xi 1), (3, xi 0)]) (st' := []) (m' := m) (fun ex ns r q => ?_) ?_
    · refine xw_ic_neF rfl (w32_cg (w32_xR _ _ _)) (w32_cg (w32_w _)) h1 ?_
      refine xw_iconst rfl ?_
      refine xw_goto rfl ?_
      refine xw_istore_n (L' := [(2, xi 1), (0, xa 536), (1, xi p0)]) rfl (by decide) rfl ?_
      refine xw_iconst rfl ?_
      refine xw_istore_n (L' := [(3, xi 0), (2, xi 1), (0, xa 536), (1, xi p0)]) rfl (by decide) rfl ?_
      refine xw_lo (L2 := [(0, xa 536), (1, xi p0), (2, xi 1), (3, xi 0)]) (List.forall_mem_cons.mpr ⟨rfl, List.forall_mem_cons.mpr ⟨rfl, List.forall_mem_cons.mpr ⟨rfl, List.forall_mem_cons.mpr ⟨rfl, fun _ h => absurd h List.not_mem_nil⟩⟩⟩⟩) ?_
      exact q
    exact ygl263_26 hB 1000000 _ _ _ _ cp0 rfl rfl
  · refine xS_of (pc' := 26) (L' := [(0, xa 536), (1, xi p0), (2, xi 0), (3, xi 0)]) (st' := []) (m' := m) (fun ex ns r q => ?_) ?_
    · refine xw_ic_neT rfl (w32_cg (w32_xR _ _ _)) (w32_cg (w32_w _)) h1 ?_
      refine xw_iconst rfl ?_
      refine xw_istore_n (L' := [(2, xi 0), (0, xa 536), (1, xi p0)]) rfl (by decide) rfl ?_
      refine xw_iconst rfl ?_
      refine xw_istore_n (L' := [(3, xi 0), (2, xi 0), (0, xa 536), (1, xi p0)]) rfl (by decide) rfl ?_
      refine xw_lo (L2 := [(0, xa 536), (1, xi p0), (2, xi 0), (3, xi 0)]) (List.forall_mem_cons.mpr ⟨rfl, List.forall_mem_cons.mpr ⟨rfl, List.forall_mem_cons.mpr ⟨rfl, List.forall_mem_cons.mpr ⟨rfl, fun _ h => absurd h List.not_mem_nil⟩⟩⟩⟩) ?_
      exact q
    exact ygl263_26 hB 1000000 _ _ _ _ cp0 rfl rfl
theorem ysl262_2 {B : Nat} (hB : B ≤ 512) {xs : Nat → Int32} {SL d : Nat} {r2 : Int → Int → Int → xw_M → xP} (hr2 : ∀ x1 x2 x3 m, w32 x1 = x1 → w32 x2 = x2 → w32 x3 = x3 → xS B xs SL (d + 1) 262 (4, (some .int), [], 13) 1 2 [(0, xa 536), (1, xi x1), (2, xi x2), (3, xi x3)] [] m (r2 x1 x2 x3 m)) : ∀ x1 x2 x3 m, w32 x1 = x1 → w32 x2 = x2 → w32 x3 = x3 → xS B xs SL (d + 1) 262 (4, (some .int), [], 13) 1 2 [(0, xa 536), (1, xi x1), (2, xi x2), (3, xi x3)] [] m (yl262_2 B r2 x1 x2 x3 m) := by
  intro x1 x2 x3 m c1 c2 c3
  unfold yl262_2
  refine xS_of (pc' := 4) (L' := [(0, xa 536), (1, xi x1), (2, xi x2), (3, xi x3)]) (st' := [xi x2, xi x3]) (m' := m) (fun ex ns r q => ?_) ?_
  · refine xw_iload_n rfl rfl ?_
    refine xw_iload_n rfl rfl ?_
    exact q
  refine xS_if (fun h0 => ?_) (fun h0 => ?_)
  · refine xS_of (pc' := 11) (L' := [(0, xa 536), (1, xi x1), (2, xi x2), (3, xi x3)]) (st' := [xi (w32 (x1 + x3)), xa 536]) (m' := m) (fun ex ns r q => ?_) ?_
    · refine xw_ic_geF rfl (w32_cg c3) (w32_cg c2) (Int.not_le.mpr h0) ?_
      refine xw_aload_n rfl rfl rfl ?_
      refine xw_iload_n rfl rfl ?_
      refine xw_iload_n rfl rfl ?_
      refine xw_iadd rfl ?_
      refine xw_cst (st' := [xi (w32 (x1 + x3)), xa 536]) (xw_sc (xi_c rfl) (xw_sc rfl rfl)) ?_
      refine xw_lo (L2 := [(0, xa 536), (1, xi x1), (2, xi x2), (3, xi x3)]) (List.forall_mem_cons.mpr ⟨rfl, List.forall_mem_cons.mpr ⟨rfl, List.forall_mem_cons.mpr ⟨rfl, List.forall_mem_cons.mpr ⟨rfl, fun _ h => absurd h List.not_mem_nil⟩⟩⟩⟩) ?_
      exact q
    refine xS_call (q := 263) (n := 2) (kq := 4) (as := [xa 536, xi (w32 (x1 + x3))]) (st1 := []) rfl rfl rfl rfl rfl rfl rfl rfl rfl rfl (fun _ => xw_rcv1 (t := 12) (xw_obd (by decide +kernel)) rfl) rfl (List.forall_mem_cons.mpr ⟨rfl, List.forall_mem_cons.mpr ⟨rfl, fun _ h => absurd h List.not_mem_nil⟩⟩) (ygf263 hB _ _ (w32_w _)) (fun v1 m1 cv1 => ?_)
    refine xS_if (fun h1 => ?_) (fun h1 => ?_)
    · refine xS_of (pc' := 2) (L' := [(0, xa 536), (1, xi x1), (2, xi x2), (3, xi (w32 (x3 + 1)))]) (st' := []) (m' := m1) (fun ex ns r q => ?_) ?_
      · refine xw_if_eqT rfl (w32_cg (w32_of (xw_zr cv1))) h1 ?_
        refine xw_iincc (z := (w32 (x3 + 1))) (L' := [(3, xi (w32 (x3 + 1))), (0, xa 536), (1, xi x1), (2, xi x2)]) rfl rfl (by decide) rfl rfl ?_
        refine xw_goto rfl ?_
        refine xw_lo (L2 := [(0, xa 536), (1, xi x1), (2, xi x2), (3, xi (w32 (x3 + 1)))]) (List.forall_mem_cons.mpr ⟨rfl, List.forall_mem_cons.mpr ⟨rfl, List.forall_mem_cons.mpr ⟨rfl, List.forall_mem_cons.mpr ⟨rfl, fun _ h => absurd h List.not_mem_nil⟩⟩⟩⟩) ?_
        exact q
      exact hr2 _ _ _ _ c1 c2 (w32_w _)
    · refine xS_of (pc' := 18) (L' := [(0, xa 536), (1, xi x1), (2, xi x2), (3, xi x3)]) (st' := [xi x3]) (m' := m1) (fun ex ns r q => ?_) ?_
      · refine xw_if_eqF rfl (w32_cg (w32_of (xw_zr cv1))) h1 ?_
        refine xw_iload_n rfl rfl ?_
        exact q
      exact xS_ret (v := x3) rfl rfl xw_rtI c3
  · refine xS_of (pc' := 26) (L' := [(0, xa 536), (1, xi x1), (2, xi x2), (3, xi x3)]) (st' := [xi (-1)]) (m' := m) (fun ex ns r q => ?_) ?_
    · refine xw_ic_geT rfl (w32_cg c3) (w32_cg c2) (Int.not_lt.mp h0) ?_
      refine xw_iconst rfl ?_
      exact q
    exact xS_ret (v := (-1)) rfl rfl xw_rtI rfl
theorem ygl262_2 {B : Nat} (hB : B ≤ 512) {xs : Nat → Int32} {SL d : Nat} : ∀ n x1 x2 x3 m, w32 x1 = x1 → w32 x2 = x2 → w32 x3 = x3 → xS B xs SL (d + 1) 262 (4, (some .int), [], 13) 1 2 [(0, xa 536), (1, xi x1), (2, xi x2), (3, xi x3)] [] m (xl3 (yl262_2 B) n x1 x2 x3 m) := by
  intro n
  induction n with
  | zero => intro x1 x2 x3 m c1 c2 c3; exact xS_none
  | succ n ih => exact ysl262_2 hB ih
theorem ygf262 {B : Nat} (hB : B ≤ 512) {xs : Nat → Int32} {SL d : Nat} : ∀ p0 p1 m, w32 p0 = p0 → w32 p1 = p1 → xS B xs SL (d + 1) 262 (4, (some .int), [], 13) 1 0 [(0, xa 536), (1, xi p0), (2, xi p1)] [] m (yf262 B p0 p1 m) := by
  intro p0 p1 m cp0 cp1
  unfold yf262
  refine xS_of (pc' := 2) (L' := [(0, xa 536), (1, xi p0), (2, xi p1), (3, xi 0)]) (st' := []) (m' := m) (fun ex ns r q => ?_) ?_
  · refine xw_iconst rfl ?_
    refine xw_istore_n (L' := [(3, xi 0), (0, xa 536), (1, xi p0), (2, xi p1)]) rfl (by decide) rfl ?_
    refine xw_lo (L2 := [(0, xa 536), (1, xi p0), (2, xi p1), (3, xi 0)]) (List.forall_mem_cons.mpr ⟨rfl, List.forall_mem_cons.mpr ⟨rfl, List.forall_mem_cons.mpr ⟨rfl, List.forall_mem_cons.mpr ⟨rfl, fun _ h => absurd h List.not_mem_nil⟩⟩⟩⟩) ?_
    exact q
  exact ygl262_2 hB 1000000 _ _ _ _ cp0 cp1 rfl
theorem ygf260 {B : Nat} (hB : B ≤ 512) {xs : Nat → Int32} {SL d : Nat} : ∀ m, xS B xs SL (d + 3) 260 (1, (some .boolean), [], 13) 4 0 [(0, xa 536)] [] m (yf260 B m) := by
  intro m
  unfold yf260
  refine xS_of (pc' := 1) (L' := [(0, xa 536)]) (st' := [xa 536]) (m' := m) (fun ex ns r q => ?_) ?_
  · refine xw_aload_n rfl rfl rfl ?_
    refine xw_lo (L2 := [(0, xa 536)]) (List.forall_mem_cons.mpr ⟨rfl, fun _ h => absurd h List.not_mem_nil⟩) ?_
    exact q
  refine xS_call (q := 248) (n := 1) (kq := 0) (as := [xa 536]) (st1 := []) rfl rfl rfl rfl rfl rfl rfl rfl rfl rfl (fun _ => xw_rcv1 (t := 12) (xw_obd (by decide +kernel)) rfl) rfl (List.forall_mem_cons.mpr ⟨rfl, fun _ h => absurd h List.not_mem_nil⟩) (ygf248 hB _) (fun v1 m1 cv1 => ?_)
  refine xS_of (pc' := 5) (L' := [(0, xa 536)]) (st' := [xa 536]) (m' := m1) (fun ex ns r q => ?_) ?_
  · refine xw_aload_n rfl rfl rfl ?_
    refine xw_lo (L2 := [(0, xa 536)]) (List.forall_mem_cons.mpr ⟨rfl, fun _ h => absurd h List.not_mem_nil⟩) ?_
    exact q
  refine xS_call (q := 261) (n := 1) (kq := 4) (as := [xa 536]) (st1 := []) rfl rfl rfl rfl rfl rfl rfl rfl rfl rfl (fun _ => xw_rcv1 (t := 12) (xw_obd (by decide +kernel)) rfl) rfl (List.forall_mem_cons.mpr ⟨rfl, fun _ h => absurd h List.not_mem_nil⟩) (ygf261 hB _) (fun v2 m2 cv2 => ?_)
  refine xS_if (fun h0 => ?_) (fun h0 => ?_)
  · refine xS_of (pc' := 59) (L' := [(0, xa 536)]) (st' := [xi 0]) (m' := m2) (fun ex ns r q => ?_) ?_
    · refine xw_if_eqT rfl (w32_cg (w32_of (xw_zr cv2))) h0 ?_
      refine xw_iconst rfl ?_
      exact q
    exact xS_ret (v := 0) rfl rfl (xw_rtZ (Or.inl rfl)) (Or.inl rfl)
  · refine xS_of (pc' := 18) (L' := [(0, xa 536)]) (st' := [xi (xR m2 536 14), xi 0, xa 536, xa 536]) (m' := m2) (fun ex ns r q => ?_) ?_
    · refine xw_if_eqF rfl (w32_cg (w32_of (xw_zr cv2))) h0 ?_
      refine xw_aload_n rfl rfl rfl ?_
      refine xw_aload_n rfl rfl rfl ?_
      refine xw_iconst rfl ?_
      refine xw_aload_n rfl rfl rfl ?_
      refine xw_gfIc (v := (m2 536 14)) (v' := (xR m2 536 14)) rfl (xw_obd (by decide +kernel)) xk12_14 (qi := 14) rfl rfl rfl ?_
      refine xw_lo (L2 := [(0, xa 536)]) (List.forall_mem_cons.mpr ⟨rfl, fun _ h => absurd h List.not_mem_nil⟩) ?_
      exact q
    refine xS_call (q := 262) (n := 3) (kq := 1) (as := [xa 536, xi 0, xi (xR m2 536 14)]) (st1 := [xa 536]) rfl rfl rfl rfl rfl rfl rfl rfl rfl rfl (fun _ => xw_rcv1 (t := 12) (xw_obd (by decide +kernel)) rfl) rfl (List.forall_mem_cons.mpr ⟨rfl, List.forall_mem_cons.mpr ⟨rfl, List.forall_mem_cons.mpr ⟨rfl, fun _ h => absurd h List.not_mem_nil⟩⟩⟩) (ygf262 hB _ _ _ rfl (w32_xR _ _ _)) (fun v3 m3 cv3 => ?_)
    refine xS_if (fun h1 => ?_) (fun h1 => ?_)
    · refine xS_of (pc' := 31) (L' := [(0, xa 536)]) (st' := [xi (xR m3 536 19), xi 40, xa 536, xa 536]) (m' := m3) (fun ex ns r q => ?_) ?_
      · refine xw_if_geF rfl (w32_cg cv3) (Int.not_le.mpr h1) ?_
        refine xw_aload_n rfl rfl rfl ?_
        refine xw_bipush (e := 40) rfl (by decide +kernel) ?_
        refine xw_aload_n rfl rfl rfl ?_
        refine xw_gfIc (v := (m3 536 19)) (v' := (xR m3 536 19)) rfl (xw_obd (by decide +kernel)) xk12_19 (qi := 19) rfl rfl rfl ?_
        refine xw_lo (L2 := [(0, xa 536)]) (List.forall_mem_cons.mpr ⟨rfl, fun _ h => absurd h List.not_mem_nil⟩) ?_
        exact q
      refine xS_call (q := 262) (n := 3) (kq := 1) (as := [xa 536, xi 40, xi (xR m3 536 19)]) (st1 := [xa 536]) rfl rfl rfl rfl rfl rfl rfl rfl rfl rfl (fun _ => xw_rcv1 (t := 12) (xw_obd (by decide +kernel)) rfl) rfl (List.forall_mem_cons.mpr ⟨rfl, List.forall_mem_cons.mpr ⟨rfl, List.forall_mem_cons.mpr ⟨rfl, fun _ h => absurd h List.not_mem_nil⟩⟩⟩) (ygf262 hB _ _ _ rfl (w32_xR _ _ _)) (fun v4 m4 cv4 => ?_)
      refine xS_if (fun h2 => ?_) (fun h2 => ?_)
      · refine xS_of (pc' := 48) (L' := []) (st' := [xi (xR m4 536 9), xi 6, xi 1, xa 536]) (m' := m4) (fun ex ns r q => ?_) ?_
        · refine xw_if_geF rfl (w32_cg cv4) (Int.not_le.mpr h2) ?_
          refine xw_iconst rfl ?_
          refine xw_goto rfl ?_
          refine xw_bipush (e := 6) rfl (by decide +kernel) ?_
          refine xw_aload_n rfl rfl rfl ?_
          refine xw_gfIc (v := (m4 536 9)) (v' := (xR m4 536 9)) rfl (xw_obd (by decide +kernel)) xk12_9 (qi := 9) rfl rfl rfl ?_
          refine xw_lo (L2 := []) (fun _ h => absurd h List.not_mem_nil) ?_
          exact q
        refine xS_call (q := 254) (n := 4) (kq := 4) (as := [xa 536, xi 1, xi 6, xi (xR m4 536 9)]) (st1 := []) rfl rfl rfl rfl rfl rfl rfl rfl rfl rfl (fun _ => xw_rcv1 (t := 12) (xw_obd (by decide +kernel)) rfl) rfl (List.forall_mem_cons.mpr ⟨rfl, List.forall_mem_cons.mpr ⟨rfl, List.forall_mem_cons.mpr ⟨rfl, List.forall_mem_cons.mpr ⟨rfl, fun _ h => absurd h List.not_mem_nil⟩⟩⟩⟩) (ygf254 hB _ _ _ _ rfl rfl (w32_xR _ _ _)) (fun v5 m5 cv5 => ?_)
        refine xS_if (fun h3 => ?_) (fun h3 => ?_)
        · refine xS_of (pc' := 59) (L' := []) (st' := [xi 0]) (m' := m5) (fun ex ns r q => ?_) ?_
          · refine xw_if_eqT rfl (w32_cg (w32_of (xw_zr cv5))) h3 ?_
            refine xw_iconst rfl ?_
            exact q
          exact xS_ret (v := 0) rfl rfl (xw_rtZ (Or.inl rfl)) (Or.inl rfl)
        · refine xS_of (pc' := 59) (L' := []) (st' := [xi 1]) (m' := m5) (fun ex ns r q => ?_) ?_
          · refine xw_if_eqF rfl (w32_cg (w32_of (xw_zr cv5))) h3 ?_
            refine xw_iconst rfl ?_
            refine xw_goto rfl ?_
            exact q
          exact xS_ret (v := 1) rfl rfl (xw_rtZ (Or.inr rfl)) (Or.inr rfl)
      · refine xS_of (pc' := 48) (L' := []) (st' := [xi (xR m4 536 9), xi 6, xi 0, xa 536]) (m' := m4) (fun ex ns r q => ?_) ?_
        · refine xw_if_geT rfl (w32_cg cv4) (Int.not_lt.mp h2) ?_
          refine xw_iconst rfl ?_
          refine xw_bipush (e := 6) rfl (by decide +kernel) ?_
          refine xw_aload_n rfl rfl rfl ?_
          refine xw_gfIc (v := (m4 536 9)) (v' := (xR m4 536 9)) rfl (xw_obd (by decide +kernel)) xk12_9 (qi := 9) rfl rfl rfl ?_
          refine xw_lo (L2 := []) (fun _ h => absurd h List.not_mem_nil) ?_
          exact q
        refine xS_call (q := 254) (n := 4) (kq := 4) (as := [xa 536, xi 0, xi 6, xi (xR m4 536 9)]) (st1 := []) rfl rfl rfl rfl rfl rfl rfl rfl rfl rfl (fun _ => xw_rcv1 (t := 12) (xw_obd (by decide +kernel)) rfl) rfl (List.forall_mem_cons.mpr ⟨rfl, List.forall_mem_cons.mpr ⟨rfl, List.forall_mem_cons.mpr ⟨rfl, List.forall_mem_cons.mpr ⟨rfl, fun _ h => absurd h List.not_mem_nil⟩⟩⟩⟩) (ygf254 hB _ _ _ _ rfl rfl (w32_xR _ _ _)) (fun v6 m6 cv6 => ?_)
        refine xS_if (fun h3 => ?_) (fun h3 => ?_)
        · refine xS_of (pc' := 59) (L' := []) (st' := [xi 0]) (m' := m6) (fun ex ns r q => ?_) ?_
          · refine xw_if_eqT rfl (w32_cg (w32_of (xw_zr cv6))) h3 ?_
            refine xw_iconst rfl ?_
            exact q
          exact xS_ret (v := 0) rfl rfl (xw_rtZ (Or.inl rfl)) (Or.inl rfl)
        · refine xS_of (pc' := 59) (L' := []) (st' := [xi 1]) (m' := m6) (fun ex ns r q => ?_) ?_
          · refine xw_if_eqF rfl (w32_cg (w32_of (xw_zr cv6))) h3 ?_
            refine xw_iconst rfl ?_
            refine xw_goto rfl ?_
            exact q
          exact xS_ret (v := 1) rfl rfl (xw_rtZ (Or.inr rfl)) (Or.inr rfl)
    · refine xS_of (pc' := 48) (L' := []) (st' := [xi (xR m3 536 9), xi 6, xi 0, xa 536]) (m' := m3) (fun ex ns r q => ?_) ?_
      · refine xw_if_geT rfl (w32_cg cv3) (Int.not_lt.mp h1) ?_
        refine xw_iconst rfl ?_
        refine xw_bipush (e := 6) rfl (by decide +kernel) ?_
        refine xw_aload_n rfl rfl rfl ?_
        refine xw_gfIc (v := (m3 536 9)) (v' := (xR m3 536 9)) rfl (xw_obd (by decide +kernel)) xk12_9 (qi := 9) rfl rfl rfl ?_
        refine xw_lo (L2 := []) (fun _ h => absurd h List.not_mem_nil) ?_
        exact q
      refine xS_call (q := 254) (n := 4) (kq := 4) (as := [xa 536, xi 0, xi 6, xi (xR m3 536 9)]) (st1 := []) rfl rfl rfl rfl rfl rfl rfl rfl rfl rfl (fun _ => xw_rcv1 (t := 12) (xw_obd (by decide +kernel)) rfl) rfl (List.forall_mem_cons.mpr ⟨rfl, List.forall_mem_cons.mpr ⟨rfl, List.forall_mem_cons.mpr ⟨rfl, List.forall_mem_cons.mpr ⟨rfl, fun _ h => absurd h List.not_mem_nil⟩⟩⟩⟩) (ygf254 hB _ _ _ _ rfl rfl (w32_xR _ _ _)) (fun v7 m7 cv7 => ?_)
      refine xS_if (fun h2 => ?_) (fun h2 => ?_)
      · refine xS_of (pc' := 59) (L' := []) (st' := [xi 0]) (m' := m7) (fun ex ns r q => ?_) ?_
        · refine xw_if_eqT rfl (w32_cg (w32_of (xw_zr cv7))) h2 ?_
          refine xw_iconst rfl ?_
          exact q
        exact xS_ret (v := 0) rfl rfl (xw_rtZ (Or.inl rfl)) (Or.inl rfl)
      · refine xS_of (pc' := 59) (L' := []) (st' := [xi 1]) (m' := m7) (fun ex ns r q => ?_) ?_
        · refine xw_if_eqF rfl (w32_cg (w32_of (xw_zr cv7))) h2 ?_
          refine xw_iconst rfl ?_
          refine xw_goto rfl ?_
          exact q
        exact xS_ret (v := 1) rfl rfl (xw_rtZ (Or.inr rfl)) (Or.inr rfl)
theorem ysl264_17 {B : Nat} (hB : B ≤ 512) {xs : Nat → Int32} {SL d : Nat} {r17 : Int → Int → xw_M → xP} (hr17 : ∀ x1 x2 m, w32 x1 = x1 → w32 x2 = x2 → xS B xs SL (d + 0) 264 (3, none, [], 13) 0 17 [(0, xa 536), (1, xi x1), (2, xi x2)] [] m (r17 x1 x2 m)) : ∀ x1 x2 m, w32 x1 = x1 → w32 x2 = x2 → xS B xs SL (d + 0) 264 (3, none, [], 13) 0 17 [(0, xa 536), (1, xi x1), (2, xi x2)] [] m (yl264_17 B r17 x1 x2 m) := by
  intro x1 x2 m c1 c2
  unfold yl264_17
  refine xS_g (fun g0 => ?_)
  refine xS_of (pc' := 24) (L' := [(0, xa 536), (1, xi x1), (2, xi x2)]) (st' := [xi (xR m 543 x1), xi x2]) (m' := m) (fun ex ns r q => ?_) ?_
  · refine xw_iload_n rfl rfl ?_
    refine xw_aload_n rfl rfl rfl ?_
    refine xw_gfR (n := 543) (e := 543) rfl (xw_obd (by decide +kernel)) (by decide +kernel) (by decide +kernel) rfl ?_
    refine xw_iload_n rfl rfl ?_
    refine xw_ialdc (n := 48) (v := (m 543 x1)) (v' := (xR m 543 x1)) rfl hB (xw_obd (by decide +kernel)) rfl g0 rfl rfl ?_
    exact q
  refine xS_if (fun h1 => ?_) (fun h1 => ?_)
  · refine xS_g (fun g2 => ?_)
    refine xS_g (fun g3 => ?_)
    refine xS_of (pc' := 17) (L' := [(0, xa 536), (1, xi x1), (2, xi (w32 (x2 + 1)))]) (st' := []) (m' := (xw_u m 542 ((40 * x1) + x2) (w8 (xR m 537 ((xR m 536 9) + x2))))) (fun ex ns r q => ?_) ?_
    · refine xw_ic_geF rfl (w32_cg c2) (w32_cg (w32_xR _ _ _)) (Int.not_le.mpr h1) ?_
      refine xw_aload_n rfl rfl rfl ?_
      refine xw_gfR (n := 542) (e := 542) rfl (xw_obd (by decide +kernel)) (by decide +kernel) (by decide +kernel) rfl ?_
      refine xw_bipush (e := 40) rfl (by decide +kernel) ?_
      refine xw_iload_n rfl rfl ?_
      refine xw_imul rfl ?_
      refine xw_iload_n rfl rfl ?_
      refine xw_iadd rfl ?_
      refine xw_aload_n rfl rfl rfl ?_
      refine xw_gfR (n := 537) (e := 537) rfl (xw_obd (by decide +kernel)) (by decide +kernel) (by decide +kernel) rfl ?_
      refine xw_aload_n rfl rfl rfl ?_
      refine xw_gfIc (v := (m 536 9)) (v' := (xR m 536 9)) rfl (xw_obd (by decide +kernel)) xk12_9 (qi := 9) rfl rfl rfl ?_
      refine xw_iload_n rfl rfl ?_
      refine xw_iadd rfl ?_
      refine xw_baldc (n := 65536) (v := (m 537 ((xR m 536 9) + x2))) (v' := (xR m 537 ((xR m 536 9) + x2))) rfl hB (xw_obd (by decide +kernel)) rfl g2 rfl rfl ?_
      refine xw_bastc (n := 1920) rfl hB (xw_obd (by decide +kernel)) rfl g3 ?_
      refine xw_iincc (z := (w32 (x2 + 1))) (L' := [(2, xi (w32 (x2 + 1))), (0, xa 536), (1, xi x1)]) rfl rfl (by decide) rfl rfl ?_
      refine xw_goto rfl ?_
      refine xw_lo (L2 := [(0, xa 536), (1, xi x1), (2, xi (w32 (x2 + 1)))]) (List.forall_mem_cons.mpr ⟨rfl, List.forall_mem_cons.mpr ⟨rfl, List.forall_mem_cons.mpr ⟨rfl, fun _ h => absurd h List.not_mem_nil⟩⟩⟩) ?_
      exact q
    exact hr17 _ _ _ c1 (w32_w _)
  · refine xS_of (pc' := 55) (L' := [(0, xa 536), (1, xi x1), (2, xi x2)]) (st' := []) (m' := m) (fun ex ns r q => ?_) ?_
    · refine xw_ic_geT rfl (w32_cg c2) (w32_cg (w32_xR _ _ _)) (Int.not_lt.mp h1) ?_
      exact q
    exact xS_ret (v := 0) rfl rfl rfl rfl
theorem ygl264_17 {B : Nat} (hB : B ≤ 512) {xs : Nat → Int32} {SL d : Nat} : ∀ n x1 x2 m, w32 x1 = x1 → w32 x2 = x2 → xS B xs SL (d + 0) 264 (3, none, [], 13) 0 17 [(0, xa 536), (1, xi x1), (2, xi x2)] [] m (xl2 (yl264_17 B) n x1 x2 m) := by
  intro n
  induction n with
  | zero => intro x1 x2 m c1 c2; exact xS_none
  | succ n ih => exact ysl264_17 hB ih
theorem ygf264 {B : Nat} (hB : B ≤ 512) {xs : Nat → Int32} {SL d : Nat} : ∀ p0 m, w32 p0 = p0 → xS B xs SL (d + 0) 264 (3, none, [], 13) 0 0 [(0, xa 536), (1, xi p0)] [] m (yf264 B p0 m) := by
  intro p0 m cp0
  unfold yf264
  refine xS_g (fun g0 => ?_)
  refine xS_of (pc' := 17) (L' := [(0, xa 536), (1, xi p0), (2, xi 0)]) (st' := []) (m' := (xw_u m 543 p0 ((xR m 536 8) - (xR m 536 9)))) (fun ex ns r q => ?_) ?_
  · refine xw_aload_n rfl rfl rfl ?_
    refine xw_gfR (n := 543) (e := 543) rfl (xw_obd (by decide +kernel)) (by decide +kernel) (by decide +kernel) rfl ?_
    refine xw_iload_n rfl rfl ?_
    refine xw_aload_n rfl rfl rfl ?_
    refine xw_gfIc (v := (m 536 8)) (v' := (xR m 536 8)) rfl (xw_obd (by decide +kernel)) xk12_8 (qi := 8) rfl rfl rfl ?_
    refine xw_aload_n rfl rfl rfl ?_
    refine xw_gfIc (v := (m 536 9)) (v' := (xR m 536 9)) rfl (xw_obd (by decide +kernel)) xk12_9 (qi := 9) rfl rfl rfl ?_
    refine xw_isub rfl ?_
    refine xw_iast (n := 48) rfl hB (xw_obd (by decide +kernel)) rfl g0 ?_
    refine xw_iconst rfl ?_
    refine xw_istore_n (L' := [(2, xi 0), (0, xa 536), (1, xi p0)]) rfl (by decide) rfl ?_
    refine xw_lo (L2 := [(0, xa 536), (1, xi p0), (2, xi 0)]) (List.forall_mem_cons.mpr ⟨rfl, List.forall_mem_cons.mpr ⟨rfl, List.forall_mem_cons.mpr ⟨rfl, fun _ h => absurd h List.not_mem_nil⟩⟩⟩) ?_
    exact q
  exact ygl264_17 hB 1000000 _ _ _ cp0 rfl
theorem ygf266 {B : Nat} (hB : B ≤ 512) {xs : Nat → Int32} {SL d : Nat} : ∀ p0 m, w32 p0 = p0 → xS B xs SL (d + 0) 266 (2, (some .boolean), [], 13) 4 0 [(0, xa 536), (1, xi p0)] [] m (yf266 B p0 m) := by
  intro p0 m cp0
  unfold yf266
  refine xS_of (pc' := 5) (L' := [(0, xa 536), (1, xi p0)]) (st' := [xi 3, xi (xR m 536 10)]) (m' := m) (fun ex ns r q => ?_) ?_
  · refine xw_aload_n rfl rfl rfl ?_
    refine xw_gfIc (v := (m 536 10)) (v' := (xR m 536 10)) rfl (xw_obd (by decide +kernel)) xk12_10 (qi := 10) rfl rfl rfl ?_
    refine xw_iconst rfl ?_
    exact q
  refine xS_if (fun h0 => ?_) (fun h0 => ?_)
  · refine xS_of (pc' := 13) (L' := [(0, xa 536), (1, xi p0)]) (st' := [xi p0, xi (xR m 536 13)]) (m' := m) (fun ex ns r q => ?_) ?_
    · refine xw_ic_neF rfl (w32_cg (w32_xR _ _ _)) (w32_cg rfl) h0 ?_
      refine xw_aload_n rfl rfl rfl ?_
      refine xw_gfIc (v := (m 536 13)) (v' := (xR m 536 13)) rfl (xw_obd (by decide +kernel)) xk12_13 (qi := 13) rfl rfl rfl ?_
      refine xw_iload_n rfl rfl ?_
      exact q
    refine xS_if (fun h1 => ?_) (fun h1 => ?_)
    · refine xS_of (pc' := 21) (L' := [(0, xa 536), (1, xi p0)]) (st' := [xi 1]) (m' := m) (fun ex ns r q => ?_) ?_
      · refine xw_ic_neF rfl (w32_cg (w32_xR _ _ _)) (w32_cg cp0) h1 ?_
        refine xw_iconst rfl ?_
        refine xw_goto rfl ?_
        exact q
      exact xS_ret (v := 1) rfl rfl (xw_rtZ (Or.inr rfl)) (Or.inr rfl)
    · refine xS_of (pc' := 21) (L' := [(0, xa 536), (1, xi p0)]) (st' := [xi 0]) (m' := m) (fun ex ns r q => ?_) ?_
      · refine xw_ic_neT rfl (w32_cg (w32_xR _ _ _)) (w32_cg cp0) h1 ?_
        refine xw_iconst rfl ?_
        exact q
      exact xS_ret (v := 0) rfl rfl (xw_rtZ (Or.inl rfl)) (Or.inl rfl)
  · refine xS_of (pc' := 21) (L' := [(0, xa 536), (1, xi p0)]) (st' := [xi 0]) (m' := m) (fun ex ns r q => ?_) ?_
    · refine xw_ic_neT rfl (w32_cg (w32_xR _ _ _)) (w32_cg rfl) h0 ?_
      refine xw_iconst rfl ?_
      exact q
    exact xS_ret (v := 0) rfl rfl (xw_rtZ (Or.inl rfl)) (Or.inl rfl)
theorem ygf265 {B : Nat} (hB : B ≤ 512) {xs : Nat → Int32} {SL d : Nat} : ∀ p0 m, w32 p0 = p0 → xS B xs SL (d + 3) 265 (2, (some .boolean), [], 13) 4 0 [(0, xa 536), (1, xi p0)] [] m (yf265 B p0 m) := by
  intro p0 m cp0
  unfold yf265
  refine xS_of (pc' := 1) (L' := [(0, xa 536), (1, xi p0)]) (st' := [xa 536]) (m' := m) (fun ex ns r q => ?_) ?_
  · refine xw_aload_n rfl rfl rfl ?_
    refine xw_lo (L2 := [(0, xa 536), (1, xi p0)]) (List.forall_mem_cons.mpr ⟨rfl, List.forall_mem_cons.mpr ⟨rfl, fun _ h => absurd h List.not_mem_nil⟩⟩) ?_
    exact q
  refine xS_call (q := 248) (n := 1) (kq := 0) (as := [xa 536]) (st1 := []) rfl rfl rfl rfl rfl rfl rfl rfl rfl rfl (fun _ => xw_rcv1 (t := 12) (xw_obd (by decide +kernel)) rfl) rfl (List.forall_mem_cons.mpr ⟨rfl, fun _ h => absurd h List.not_mem_nil⟩) (ygf248 hB _) (fun v1 m1 cv1 => ?_)
  refine xS_of (pc' := 7) (L' := []) (st' := [xi p0, xa 536, xa 536]) (m' := m1) (fun ex ns r q => ?_) ?_
  · refine xw_aload_n rfl rfl rfl ?_
    refine xw_aload_n rfl rfl rfl ?_
    refine xw_iload_n rfl rfl ?_
    refine xw_lo (L2 := []) (fun _ h => absurd h List.not_mem_nil) ?_
    exact q
  refine xS_call (q := 266) (n := 2) (kq := 4) (as := [xa 536, xi p0]) (st1 := [xa 536]) rfl rfl rfl rfl rfl rfl rfl rfl rfl rfl (fun _ => xw_rcv1 (t := 12) (xw_obd (by decide +kernel)) rfl) rfl (List.forall_mem_cons.mpr ⟨rfl, List.forall_mem_cons.mpr ⟨rfl, fun _ h => absurd h List.not_mem_nil⟩⟩) (ygf266 hB _ _ cp0) (fun v2 m2 cv2 => ?_)
  refine xS_of (pc' := 10) (L' := []) (st' := [xi v2, xa 536]) (m' := m2) (fun ex ns r q => ?_) ?_
  · refine xw_lo (L2 := []) (fun _ h => absurd h List.not_mem_nil) ?_
    exact q
  refine xS_call (q := 258) (n := 2) (kq := 4) (as := [xa 536, xi v2]) (st1 := []) rfl rfl rfl rfl rfl rfl rfl rfl rfl rfl (fun _ => xw_rcv1 (t := 12) (xw_obd (by decide +kernel)) rfl) rfl (List.forall_mem_cons.mpr ⟨rfl, List.forall_mem_cons.mpr ⟨rfl, fun _ h => absurd h List.not_mem_nil⟩⟩) (ygf258 hB _ _ (w32_of (xw_zr cv2))) (fun v3 m3 cv3 => ?_)
  exact xS_ret (v := v3) rfl rfl (xw_rtZ cv3) cv3
theorem ygk259_144 {B : Nat} (hB : B ≤ 512) {xs : Nat → Int32} {SL d : Nat} {r53 : Int → Int → xw_M → xP} (hr53 : ∀ x2 x3 m, w32 x2 = x2 → w32 x3 = x3 → xS B xs SL (d + 4) 259 (4, none, [], 13) 0 53 [(0, xa 536), (2, xi x2), (3, xi x3)] [] m (r53 x2 x3 m)) : ∀ x2 m, w32 x2 = x2 → xS B xs SL (d + 4) 259 (4, none, [], 13) 0 144 [(0, xa 536), (2, xi x2)] [] m (yk259_144 B r53 x2 m) := by
  intro x2 m c2
  unfold yk259_144
  refine xS_of (pc' := 145) (L' := [(0, xa 536), (2, xi x2)]) (st' := [xa 536]) (m' := m) (fun ex ns r q => ?_) ?_
  · refine xw_aload_n rfl rfl rfl ?_
    refine xw_lo (L2 := [(0, xa 536), (2, xi x2)]) (List.forall_mem_cons.mpr ⟨rfl, List.forall_mem_cons.mpr ⟨rfl, fun _ h => absurd h List.not_mem_nil⟩⟩) ?_
    exact q
  refine xS_call (q := 248) (n := 1) (kq := 0) (as := [xa 536]) (st1 := []) rfl rfl rfl rfl rfl rfl rfl rfl rfl rfl (fun _ => xw_rcv1 (t := 12) (xw_obd (by decide +kernel)) rfl) rfl (List.forall_mem_cons.mpr ⟨rfl, fun _ h => absurd h List.not_mem_nil⟩) (ygf248 hB _) (fun v1 m1 cv1 => ?_)
  refine xS_of (pc' := 152) (L' := [(0, xa 536), (2, xi x2)]) (st' := [xi 44, xa 536, xa 536]) (m' := m1) (fun ex ns r q => ?_) ?_
  · refine xw_aload_n rfl rfl rfl ?_
    refine xw_aload_n rfl rfl rfl ?_
    refine xw_bipush (e := 44) rfl (by decide +kernel) ?_
    refine xw_lo (L2 := [(0, xa 536), (2, xi x2)]) (List.forall_mem_cons.mpr ⟨rfl, List.forall_mem_cons.mpr ⟨rfl, fun _ h => absurd h List.not_mem_nil⟩⟩) ?_
    exact q
  refine xS_call (q := 266) (n := 2) (kq := 4) (as := [xa 536, xi 44]) (st1 := [xa 536]) rfl rfl rfl rfl rfl rfl rfl rfl rfl rfl (fun _ => xw_rcv1 (t := 12) (xw_obd (by decide +kernel)) rfl) rfl (List.forall_mem_cons.mpr ⟨rfl, List.forall_mem_cons.mpr ⟨rfl, fun _ h => absurd h List.not_mem_nil⟩⟩) (ygf266 hB _ _ rfl) (fun v2 m2 cv2 => ?_)
  refine xS_if (fun h0 => ?_) (fun h0 => ?_)
  · refine xS_of (pc' := 161) (L' := [(0, xa 536), (2, xi x2)]) (st' := [xi 41, xa 536, xa 536]) (m' := m2) (fun ex ns r q => ?_) ?_
    · refine xw_if_neF rfl (w32_cg (w32_of (xw_zr cv2))) h0 ?_
      refine xw_aload_n rfl rfl rfl ?_
      refine xw_bipush (e := 41) rfl (by decide +kernel) ?_
      refine xw_lo (L2 := [(0, xa 536), (2, xi x2)]) (List.forall_mem_cons.mpr ⟨rfl, List.forall_mem_cons.mpr ⟨rfl, fun _ h => absurd h List.not_mem_nil⟩⟩) ?_
      exact q
    refine xS_call (q := 266) (n := 2) (kq := 4) (as := [xa 536, xi 41]) (st1 := [xa 536]) rfl rfl rfl rfl rfl rfl rfl rfl rfl rfl (fun _ => xw_rcv1 (t := 12) (xw_obd (by decide +kernel)) rfl) rfl (List.forall_mem_cons.mpr ⟨rfl, List.forall_mem_cons.mpr ⟨rfl, fun _ h => absurd h List.not_mem_nil⟩⟩) (ygf266 hB _ _ rfl) (fun v3 m3 cv3 => ?_)
    refine xS_if (fun h1 => ?_) (fun h1 => ?_)
    · refine xS_of (pc' := 172) (L' := [(0, xa 536), (2, xi x2)]) (st' := [xi 0, xa 536]) (m' := m3) (fun ex ns r q => ?_) ?_
      · refine xw_if_eqT rfl (w32_cg (w32_of (xw_zr cv3))) h1 ?_
        refine xw_iconst rfl ?_
        refine xw_lo (L2 := [(0, xa 536), (2, xi x2)]) (List.forall_mem_cons.mpr ⟨rfl, List.forall_mem_cons.mpr ⟨rfl, fun _ h => absurd h List.not_mem_nil⟩⟩) ?_
        exact q
      refine xS_call (q := 258) (n := 2) (kq := 4) (as := [xa 536, xi 0]) (st1 := []) rfl rfl rfl rfl rfl rfl rfl rfl rfl rfl (fun _ => xw_rcv1 (t := 12) (xw_obd (by decide +kernel)) rfl) rfl (List.forall_mem_cons.mpr ⟨rfl, List.forall_mem_cons.mpr ⟨rfl, fun _ h => absurd h List.not_mem_nil⟩⟩) (ygf258 hB _ _ rfl) (fun v4 m4 cv4 => ?_)
      refine xS_if (fun h2 => ?_) (fun h2 => ?_)
      · refine xS_of (pc' := 53) (L' := [(0, xa 536), (2, xi x2), (3, xi 0)]) (st' := []) (m' := m4) (fun ex ns r q => ?_) ?_
        · refine xw_if_eqT rfl (w32_cg (w32_of (xw_zr cv4))) h2 ?_
          refine xw_iconst rfl ?_
          refine xw_istore_n (L' := [(3, xi 0), (0, xa 536), (2, xi x2)]) rfl (by decide) rfl ?_
          refine xw_goto rfl ?_
          refine xw_lo (L2 := [(0, xa 536), (2, xi x2), (3, xi 0)]) (List.forall_mem_cons.mpr ⟨rfl, List.forall_mem_cons.mpr ⟨rfl, List.forall_mem_cons.mpr ⟨rfl, fun _ h => absurd h List.not_mem_nil⟩⟩⟩) ?_
          exact q
        exact hr53 _ _ _ c2 rfl
      · refine xS_of (pc' := 181) (L' := [(0, xa 536), (2, xi x2)]) (st' := [xi 44, xa 536]) (m' := m4) (fun ex ns r q => ?_) ?_
        · refine xw_if_eqF rfl (w32_cg (w32_of (xw_zr cv4))) h2 ?_
          refine xw_aload_n rfl rfl rfl ?_
          refine xw_bipush (e := 44) rfl (by decide +kernel) ?_
          refine xw_lo (L2 := [(0, xa 536), (2, xi x2)]) (List.forall_mem_cons.mpr ⟨rfl, List.forall_mem_cons.mpr ⟨rfl, fun _ h => absurd h List.not_mem_nil⟩⟩) ?_
          exact q
        refine xS_call (q := 266) (n := 2) (kq := 4) (as := [xa 536, xi 44]) (st1 := []) rfl rfl rfl rfl rfl rfl rfl rfl rfl rfl (fun _ => xw_rcv1 (t := 12) (xw_obd (by decide +kernel)) rfl) rfl (List.forall_mem_cons.mpr ⟨rfl, List.forall_mem_cons.mpr ⟨rfl, fun _ h => absurd h List.not_mem_nil⟩⟩) (ygf266 hB _ _ rfl) (fun v5 m5 cv5 => ?_)
        refine xS_if (fun h3 => ?_) (fun h3 => ?_)
        · refine xS_of (pc' := 53) (L' := [(0, xa 536), (2, xi x2), (3, xi 0)]) (st' := []) (m' := m5) (fun ex ns r q => ?_) ?_
          · refine xw_if_eqT rfl (w32_cg (w32_of (xw_zr cv5))) h3 ?_
            refine xw_iconst rfl ?_
            refine xw_istore_n (L' := [(3, xi 0), (0, xa 536), (2, xi x2)]) rfl (by decide) rfl ?_
            refine xw_goto rfl ?_
            refine xw_lo (L2 := [(0, xa 536), (2, xi x2), (3, xi 0)]) (List.forall_mem_cons.mpr ⟨rfl, List.forall_mem_cons.mpr ⟨rfl, List.forall_mem_cons.mpr ⟨rfl, fun _ h => absurd h List.not_mem_nil⟩⟩⟩) ?_
            exact q
          exact hr53 _ _ _ c2 rfl
        · refine xS_of (pc' := 53) (L' := [(0, xa 536), (2, xi x2), (3, xi 1)]) (st' := []) (m' := m5) (fun ex ns r q => ?_) ?_
          · refine xw_if_eqF rfl (w32_cg (w32_of (xw_zr cv5))) h3 ?_
            refine xw_iconst rfl ?_
            refine xw_goto rfl ?_
            refine xw_istore_n (L' := [(3, xi 1), (0, xa 536), (2, xi x2)]) rfl (by decide) rfl ?_
            refine xw_goto rfl ?_
            refine xw_lo (L2 := [(0, xa 536), (2, xi x2), (3, xi 1)]) (List.forall_mem_cons.mpr ⟨rfl, List.forall_mem_cons.mpr ⟨rfl, List.forall_mem_cons.mpr ⟨rfl, fun _ h => absurd h List.not_mem_nil⟩⟩⟩) ?_
            exact q
          exact hr53 _ _ _ c2 rfl
    · refine xS_of (pc' := 172) (L' := [(0, xa 536), (2, xi x2)]) (st' := [xi 1, xa 536]) (m' := m3) (fun ex ns r q => ?_) ?_
      · refine xw_if_eqF rfl (w32_cg (w32_of (xw_zr cv3))) h1 ?_
        refine xw_iconst rfl ?_
        refine xw_goto rfl ?_
        refine xw_lo (L2 := [(0, xa 536), (2, xi x2)]) (List.forall_mem_cons.mpr ⟨rfl, List.forall_mem_cons.mpr ⟨rfl, fun _ h => absurd h List.not_mem_nil⟩⟩) ?_
        exact q
      refine xS_call (q := 258) (n := 2) (kq := 4) (as := [xa 536, xi 1]) (st1 := []) rfl rfl rfl rfl rfl rfl rfl rfl rfl rfl (fun _ => xw_rcv1 (t := 12) (xw_obd (by decide +kernel)) rfl) rfl (List.forall_mem_cons.mpr ⟨rfl, List.forall_mem_cons.mpr ⟨rfl, fun _ h => absurd h List.not_mem_nil⟩⟩) (ygf258 hB _ _ rfl) (fun v6 m6 cv6 => ?_)
      refine xS_if (fun h2 => ?_) (fun h2 => ?_)
      · refine xS_of (pc' := 53) (L' := [(0, xa 536), (2, xi x2), (3, xi 0)]) (st' := []) (m' := m6) (fun ex ns r q => ?_) ?_
        · refine xw_if_eqT rfl (w32_cg (w32_of (xw_zr cv6))) h2 ?_
          refine xw_iconst rfl ?_
          refine xw_istore_n (L' := [(3, xi 0), (0, xa 536), (2, xi x2)]) rfl (by decide) rfl ?_
          refine xw_goto rfl ?_
          refine xw_lo (L2 := [(0, xa 536), (2, xi x2), (3, xi 0)]) (List.forall_mem_cons.mpr ⟨rfl, List.forall_mem_cons.mpr ⟨rfl, List.forall_mem_cons.mpr ⟨rfl, fun _ h => absurd h List.not_mem_nil⟩⟩⟩) ?_
          exact q
        exact hr53 _ _ _ c2 rfl
      · refine xS_of (pc' := 181) (L' := [(0, xa 536), (2, xi x2)]) (st' := [xi 44, xa 536]) (m' := m6) (fun ex ns r q => ?_) ?_
        · refine xw_if_eqF rfl (w32_cg (w32_of (xw_zr cv6))) h2 ?_
          refine xw_aload_n rfl rfl rfl ?_
          refine xw_bipush (e := 44) rfl (by decide +kernel) ?_
          refine xw_lo (L2 := [(0, xa 536), (2, xi x2)]) (List.forall_mem_cons.mpr ⟨rfl, List.forall_mem_cons.mpr ⟨rfl, fun _ h => absurd h List.not_mem_nil⟩⟩) ?_
          exact q
        refine xS_call (q := 266) (n := 2) (kq := 4) (as := [xa 536, xi 44]) (st1 := []) rfl rfl rfl rfl rfl rfl rfl rfl rfl rfl (fun _ => xw_rcv1 (t := 12) (xw_obd (by decide +kernel)) rfl) rfl (List.forall_mem_cons.mpr ⟨rfl, List.forall_mem_cons.mpr ⟨rfl, fun _ h => absurd h List.not_mem_nil⟩⟩) (ygf266 hB _ _ rfl) (fun v7 m7 cv7 => ?_)
        refine xS_if (fun h3 => ?_) (fun h3 => ?_)
        · refine xS_of (pc' := 53) (L' := [(0, xa 536), (2, xi x2), (3, xi 0)]) (st' := []) (m' := m7) (fun ex ns r q => ?_) ?_
          · refine xw_if_eqT rfl (w32_cg (w32_of (xw_zr cv7))) h3 ?_
            refine xw_iconst rfl ?_
            refine xw_istore_n (L' := [(3, xi 0), (0, xa 536), (2, xi x2)]) rfl (by decide) rfl ?_
            refine xw_goto rfl ?_
            refine xw_lo (L2 := [(0, xa 536), (2, xi x2), (3, xi 0)]) (List.forall_mem_cons.mpr ⟨rfl, List.forall_mem_cons.mpr ⟨rfl, List.forall_mem_cons.mpr ⟨rfl, fun _ h => absurd h List.not_mem_nil⟩⟩⟩) ?_
            exact q
          exact hr53 _ _ _ c2 rfl
        · refine xS_of (pc' := 53) (L' := [(0, xa 536), (2, xi x2), (3, xi 1)]) (st' := []) (m' := m7) (fun ex ns r q => ?_) ?_
          · refine xw_if_eqF rfl (w32_cg (w32_of (xw_zr cv7))) h3 ?_
            refine xw_iconst rfl ?_
            refine xw_goto rfl ?_
            refine xw_istore_n (L' := [(3, xi 1), (0, xa 536), (2, xi x2)]) rfl (by decide) rfl ?_
            refine xw_goto rfl ?_
            refine xw_lo (L2 := [(0, xa 536), (2, xi x2), (3, xi 1)]) (List.forall_mem_cons.mpr ⟨rfl, List.forall_mem_cons.mpr ⟨rfl, List.forall_mem_cons.mpr ⟨rfl, fun _ h => absurd h List.not_mem_nil⟩⟩⟩) ?_
            exact q
          exact hr53 _ _ _ c2 rfl
  · refine xS_of (pc' := 172) (L' := [(0, xa 536), (2, xi x2)]) (st' := [xi 1, xa 536]) (m' := m2) (fun ex ns r q => ?_) ?_
    · refine xw_if_neT rfl (w32_cg (w32_of (xw_zr cv2))) h0 ?_
      refine xw_iconst rfl ?_
      refine xw_goto rfl ?_
      refine xw_lo (L2 := [(0, xa 536), (2, xi x2)]) (List.forall_mem_cons.mpr ⟨rfl, List.forall_mem_cons.mpr ⟨rfl, fun _ h => absurd h List.not_mem_nil⟩⟩) ?_
      exact q
    refine xS_call (q := 258) (n := 2) (kq := 4) (as := [xa 536, xi 1]) (st1 := []) rfl rfl rfl rfl rfl rfl rfl rfl rfl rfl (fun _ => xw_rcv1 (t := 12) (xw_obd (by decide +kernel)) rfl) rfl (List.forall_mem_cons.mpr ⟨rfl, List.forall_mem_cons.mpr ⟨rfl, fun _ h => absurd h List.not_mem_nil⟩⟩) (ygf258 hB _ _ rfl) (fun v8 m8 cv8 => ?_)
    refine xS_if (fun h1 => ?_) (fun h1 => ?_)
    · refine xS_of (pc' := 53) (L' := [(0, xa 536), (2, xi x2), (3, xi 0)]) (st' := []) (m' := m8) (fun ex ns r q => ?_) ?_
      · refine xw_if_eqT rfl (w32_cg (w32_of (xw_zr cv8))) h1 ?_
        refine xw_iconst rfl ?_
        refine xw_istore_n (L' := [(3, xi 0), (0, xa 536), (2, xi x2)]) rfl (by decide) rfl ?_
        refine xw_goto rfl ?_
        refine xw_lo (L2 := [(0, xa 536), (2, xi x2), (3, xi 0)]) (List.forall_mem_cons.mpr ⟨rfl, List.forall_mem_cons.mpr ⟨rfl, List.forall_mem_cons.mpr ⟨rfl, fun _ h => absurd h List.not_mem_nil⟩⟩⟩) ?_
        exact q
      exact hr53 _ _ _ c2 rfl
    · refine xS_of (pc' := 181) (L' := [(0, xa 536), (2, xi x2)]) (st' := [xi 44, xa 536]) (m' := m8) (fun ex ns r q => ?_) ?_
      · refine xw_if_eqF rfl (w32_cg (w32_of (xw_zr cv8))) h1 ?_
        refine xw_aload_n rfl rfl rfl ?_
        refine xw_bipush (e := 44) rfl (by decide +kernel) ?_
        refine xw_lo (L2 := [(0, xa 536), (2, xi x2)]) (List.forall_mem_cons.mpr ⟨rfl, List.forall_mem_cons.mpr ⟨rfl, fun _ h => absurd h List.not_mem_nil⟩⟩) ?_
        exact q
      refine xS_call (q := 266) (n := 2) (kq := 4) (as := [xa 536, xi 44]) (st1 := []) rfl rfl rfl rfl rfl rfl rfl rfl rfl rfl (fun _ => xw_rcv1 (t := 12) (xw_obd (by decide +kernel)) rfl) rfl (List.forall_mem_cons.mpr ⟨rfl, List.forall_mem_cons.mpr ⟨rfl, fun _ h => absurd h List.not_mem_nil⟩⟩) (ygf266 hB _ _ rfl) (fun v9 m9 cv9 => ?_)
      refine xS_if (fun h2 => ?_) (fun h2 => ?_)
      · refine xS_of (pc' := 53) (L' := [(0, xa 536), (2, xi x2), (3, xi 0)]) (st' := []) (m' := m9) (fun ex ns r q => ?_) ?_
        · refine xw_if_eqT rfl (w32_cg (w32_of (xw_zr cv9))) h2 ?_
          refine xw_iconst rfl ?_
          refine xw_istore_n (L' := [(3, xi 0), (0, xa 536), (2, xi x2)]) rfl (by decide) rfl ?_
          refine xw_goto rfl ?_
          refine xw_lo (L2 := [(0, xa 536), (2, xi x2), (3, xi 0)]) (List.forall_mem_cons.mpr ⟨rfl, List.forall_mem_cons.mpr ⟨rfl, List.forall_mem_cons.mpr ⟨rfl, fun _ h => absurd h List.not_mem_nil⟩⟩⟩) ?_
          exact q
        exact hr53 _ _ _ c2 rfl
      · refine xS_of (pc' := 53) (L' := [(0, xa 536), (2, xi x2), (3, xi 1)]) (st' := []) (m' := m9) (fun ex ns r q => ?_) ?_
        · refine xw_if_eqF rfl (w32_cg (w32_of (xw_zr cv9))) h2 ?_
          refine xw_iconst rfl ?_
          refine xw_goto rfl ?_
          refine xw_istore_n (L' := [(3, xi 1), (0, xa 536), (2, xi x2)]) rfl (by decide) rfl ?_
          refine xw_goto rfl ?_
          refine xw_lo (L2 := [(0, xa 536), (2, xi x2), (3, xi 1)]) (List.forall_mem_cons.mpr ⟨rfl, List.forall_mem_cons.mpr ⟨rfl, List.forall_mem_cons.mpr ⟨rfl, fun _ h => absurd h List.not_mem_nil⟩⟩⟩) ?_
          exact q
        exact hr53 _ _ _ c2 rfl
theorem ysl259_53 {B : Nat} (hB : B ≤ 512) {xs : Nat → Int32} {SL d : Nat} {r53 : Int → Int → xw_M → xP} (hr53 : ∀ x2 x3 m, w32 x2 = x2 → w32 x3 = x3 → xS B xs SL (d + 4) 259 (4, none, [], 13) 0 53 [(0, xa 536), (2, xi x2), (3, xi x3)] [] m (r53 x2 x3 m)) : ∀ x2 x3 m, w32 x2 = x2 → w32 x3 = x3 → xS B xs SL (d + 4) 259 (4, none, [], 13) 0 53 [(0, xa 536), (2, xi x2), (3, xi x3)] [] m (yl259_53 B r53 x2 x3 m) := by
  intro x2 x3 m c2 c3
  unfold yl259_53
  refine xS_of (pc' := 54) (L' := [(0, xa 536), (2, xi x2), (3, xi x3)]) (st' := [xi x3]) (m' := m) (fun ex ns r q => ?_) ?_
  · refine xw_iload_n rfl rfl ?_
    exact q
  refine xS_if (fun h0 => ?_) (fun h0 => ?_)
  · refine xS_of (pc' := 199) (L' := [(0, xa 536), (2, xi x2)]) (st' := [xi 59, xa 536]) (m' := m) (fun ex ns r q => ?_) ?_
    · refine xw_if_eqT rfl (w32_cg c3) h0 ?_
      refine xw_aload_n rfl rfl rfl ?_
      refine xw_bipush (e := 59) rfl (by decide +kernel) ?_
      refine xw_lo (L2 := [(0, xa 536), (2, xi x2)]) (List.forall_mem_cons.mpr ⟨rfl, List.forall_mem_cons.mpr ⟨rfl, fun _ h => absurd h List.not_mem_nil⟩⟩) ?_
      exact q
    refine xS_call (q := 265) (n := 2) (kq := 4) (as := [xa 536, xi 59]) (st1 := []) rfl rfl rfl rfl rfl rfl rfl rfl rfl rfl (fun _ => xw_rcv1 (t := 12) (xw_obd (by decide +kernel)) rfl) rfl (List.forall_mem_cons.mpr ⟨rfl, List.forall_mem_cons.mpr ⟨rfl, fun _ h => absurd h List.not_mem_nil⟩⟩) (ygf265 hB _ _ rfl) (fun v1 m1 cv1 => ?_)
    refine xS_if (fun h1 => ?_) (fun h1 => ?_)
    · refine xS_of (pc' := 242) (L' := [(0, xa 536), (2, xi x2)]) (st' := []) (m' := m1) (fun ex ns r q => ?_) ?_
      · refine xw_if_eqT rfl (w32_cg (w32_of (xw_zr cv1))) h1 ?_
        exact q
      exact xS_ret (v := 0) rfl rfl rfl rfl
    · refine xS_of (pc' := 209) (L' := [(0, xa 536), (2, xi x2)]) (st' := [xi (xR m1 536 6)]) (m' := m1) (fun ex ns r q => ?_) ?_
      · refine xw_if_eqF rfl (w32_cg (w32_of (xw_zr cv1))) h1 ?_
        refine xw_aload_n rfl rfl rfl ?_
        refine xw_gfIc (v := (m1 536 6)) (v' := (xR m1 536 6)) rfl (xw_obd (by decide +kernel)) xk12_6 (qi := 6) rfl rfl rfl ?_
        exact q
      refine xS_if (fun h2 => ?_) (fun h2 => ?_)
      · refine xS_g (fun g3 => ?_)
        refine xS_of (pc' := 242) (L' := [(0, xa 536), (2, xi x2)]) (st' := []) (m' := (xw_u (xw_u (xw_u m1 538 (xR m1 536 14) x2) 539 (xR m1 536 14) 0) 536 14 ((xR m1 536 14) + 1))) (fun ex ns r q => ?_) ?_
        · refine xw_if_neF rfl (w32_cg (w32_xR _ _ _)) h2 ?_
          refine xw_aload_n rfl rfl rfl ?_
          refine xw_gfR (n := 538) (e := 538) rfl (xw_obd (by decide +kernel)) (by decide +kernel) (by decide +kernel) rfl ?_
          refine xw_aload_n rfl rfl rfl ?_
          refine xw_gfIc (v := (m1 536 14)) (v' := (xR m1 536 14)) rfl (xw_obd (by decide +kernel)) xk12_14 (qi := 14) rfl rfl rfl ?_
          refine xw_iload_n rfl rfl ?_
          refine xw_iast (n := 8) rfl hB (xw_obd (by decide +kernel)) rfl g3 ?_
          refine xw_aload_n rfl rfl rfl ?_
          refine xw_gfR (n := 539) (e := 539) rfl (xw_obd (by decide +kernel)) (by decide +kernel) (by decide +kernel) rfl ?_
          refine xw_aload_n rfl rfl rfl ?_
          refine xw_gfIc (v := (m1 536 14)) (v' := (xR m1 536 14)) rfl (xw_obd (by decide +kernel)) xk12_14 (qi := 14) rfl (xw_un (fun e => absurd e.1 (by decide)) rfl) rfl ?_
          refine xw_iconst rfl ?_
          refine xw_iast (n := 8) rfl hB (xw_obd (by decide +kernel)) rfl g3 ?_
          refine xw_aload_n rfl rfl rfl ?_
          refine xw_dup rfl rfl ?_
          refine xw_gfIc (v := (m1 536 14)) (v' := (xR m1 536 14)) rfl (xw_obd (by decide +kernel)) xk12_14 (qi := 14) rfl (xw_un (fun e => absurd e.1 (by decide)) (xw_un (fun e => absurd e.1 (by decide)) rfl)) rfl ?_
          refine xw_iconst rfl ?_
          refine xw_iadd rfl ?_
          refine xw_pfI rfl (xw_obd (by decide +kernel)) xk12_14 (qi := 14) rfl (xw_okI rfl) ?_
          exact q
        exact xS_ret (v := 0) rfl rfl rfl rfl
      · refine xS_of (pc' := 242) (L' := [(0, xa 536), (2, xi x2)]) (st' := []) (m' := m1) (fun ex ns r q => ?_) ?_
        · refine xw_if_neT rfl (w32_cg (w32_xR _ _ _)) h2 ?_
          exact q
        exact xS_ret (v := 0) rfl rfl rfl rfl
  · refine xS_of (pc' := 58) (L' := [(0, xa 536), (2, xi x2)]) (st' := [xa 536]) (m' := m) (fun ex ns r q => ?_) ?_
    · refine xw_if_eqF rfl (w32_cg c3) h0 ?_
      refine xw_aload_n rfl rfl rfl ?_
      refine xw_lo (L2 := [(0, xa 536), (2, xi x2)]) (List.forall_mem_cons.mpr ⟨rfl, List.forall_mem_cons.mpr ⟨rfl, fun _ h => absurd h List.not_mem_nil⟩⟩) ?_
      exact q
    refine xS_call (q := 248) (n := 1) (kq := 0) (as := [xa 536]) (st1 := []) rfl rfl rfl rfl rfl rfl rfl rfl rfl rfl (fun _ => xw_rcv1 (t := 12) (xw_obd (by decide +kernel)) rfl) rfl (List.forall_mem_cons.mpr ⟨rfl, fun _ h => absurd h List.not_mem_nil⟩) (ygf248 hB _) (fun v2 m2 cv2 => ?_)
    refine xS_of (pc' := 62) (L' := [(0, xa 536), (2, xi x2)]) (st' := [xa 536]) (m' := m2) (fun ex ns r q => ?_) ?_
    · refine xw_aload_n rfl rfl rfl ?_
      refine xw_lo (L2 := [(0, xa 536), (2, xi x2)]) (List.forall_mem_cons.mpr ⟨rfl, List.forall_mem_cons.mpr ⟨rfl, fun _ h => absurd h List.not_mem_nil⟩⟩) ?_
      exact q
    refine xS_call (q := 261) (n := 1) (kq := 4) (as := [xa 536]) (st1 := []) rfl rfl rfl rfl rfl rfl rfl rfl rfl rfl (fun _ => xw_rcv1 (t := 12) (xw_obd (by decide +kernel)) rfl) rfl (List.forall_mem_cons.mpr ⟨rfl, fun _ h => absurd h List.not_mem_nil⟩) (ygf261 hB _) (fun v3 m3 cv3 => ?_)
    refine xS_if (fun h1 => ?_) (fun h1 => ?_)
    · refine xS_of (pc' := 144) (L' := [(0, xa 536), (2, xi x2)]) (st' := []) (m' := m3) (fun ex ns r q => ?_) ?_
      · refine xw_if_eqT rfl (w32_cg (w32_of (xw_zr cv3))) h1 ?_
        refine xw_lo (L2 := [(0, xa 536), (2, xi x2)]) (List.forall_mem_cons.mpr ⟨rfl, List.forall_mem_cons.mpr ⟨rfl, fun _ h => absurd h List.not_mem_nil⟩⟩) ?_
        exact q
      exact ygk259_144 hB hr53 _ _ c2
    · refine xS_of (pc' := 80) (L' := [(0, xa 536), (2, xi x2)]) (st' := [xi x2, xi (w32 (8 + (4 * (xR m3 536 14)))), xa 536, xa 536]) (m' := m3) (fun ex ns r q => ?_) ?_
      · refine xw_if_eqF rfl (w32_cg (w32_of (xw_zr cv3))) h1 ?_
        refine xw_aload_n rfl rfl rfl ?_
        refine xw_aload_n rfl rfl rfl ?_
        refine xw_bipush (e := 8) rfl (by decide +kernel) ?_
        refine xw_iconst rfl ?_
        refine xw_aload_n rfl rfl rfl ?_
        refine xw_gfIc (v := (m3 536 14)) (v' := (xR m3 536 14)) rfl (xw_obd (by decide +kernel)) xk12_14 (qi := 14) rfl rfl rfl ?_
        refine xw_imul rfl ?_
        refine xw_iadd rfl ?_
        refine xw_iload_n rfl rfl ?_
        refine xw_cst (st' := [xi x2, xi (w32 (8 + (4 * (xR m3 536 14)))), xa 536, xa 536]) (xw_sc rfl (xw_sc (xi_c rfl) (xw_sc rfl rfl))) ?_
        refine xw_lo (L2 := [(0, xa 536), (2, xi x2)]) (List.forall_mem_cons.mpr ⟨rfl, List.forall_mem_cons.mpr ⟨rfl, fun _ h => absurd h List.not_mem_nil⟩⟩) ?_
        exact q
      refine xS_call (q := 262) (n := 3) (kq := 1) (as := [xa 536, xi (w32 (8 + (4 * (xR m3 536 14)))), xi x2]) (st1 := [xa 536]) rfl rfl rfl rfl rfl rfl rfl rfl rfl rfl (fun _ => xw_rcv1 (t := 12) (xw_obd (by decide +kernel)) rfl) rfl (List.forall_mem_cons.mpr ⟨rfl, List.forall_mem_cons.mpr ⟨rfl, List.forall_mem_cons.mpr ⟨rfl, fun _ h => absurd h List.not_mem_nil⟩⟩⟩) (ygf262 hB _ _ _ (w32_w _) c2) (fun v4 m4 cv4 => ?_)
      refine xS_if (fun h2 => ?_) (fun h2 => ?_)
      · refine xS_of (pc' := 97) (L' := [(0, xa 536), (2, xi x2)]) (st' := [xi (xR m4 536 9), xi 6, xi 1, xa 536]) (m' := m4) (fun ex ns r q => ?_) ?_
        · refine xw_if_geF rfl (w32_cg cv4) (Int.not_le.mpr h2) ?_
          refine xw_iconst rfl ?_
          refine xw_goto rfl ?_
          refine xw_bipush (e := 6) rfl (by decide +kernel) ?_
          refine xw_aload_n rfl rfl rfl ?_
          refine xw_gfIc (v := (m4 536 9)) (v' := (xR m4 536 9)) rfl (xw_obd (by decide +kernel)) xk12_9 (qi := 9) rfl rfl rfl ?_
          refine xw_lo (L2 := [(0, xa 536), (2, xi x2)]) (List.forall_mem_cons.mpr ⟨rfl, List.forall_mem_cons.mpr ⟨rfl, fun _ h => absurd h List.not_mem_nil⟩⟩) ?_
          exact q
        refine xS_call (q := 254) (n := 4) (kq := 4) (as := [xa 536, xi 1, xi 6, xi (xR m4 536 9)]) (st1 := []) rfl rfl rfl rfl rfl rfl rfl rfl rfl rfl (fun _ => xw_rcv1 (t := 12) (xw_obd (by decide +kernel)) rfl) rfl (List.forall_mem_cons.mpr ⟨rfl, List.forall_mem_cons.mpr ⟨rfl, List.forall_mem_cons.mpr ⟨rfl, List.forall_mem_cons.mpr ⟨rfl, fun _ h => absurd h List.not_mem_nil⟩⟩⟩⟩) (ygf254 hB _ _ _ _ rfl rfl (w32_xR _ _ _)) (fun v5 m5 cv5 => ?_)
        refine xS_if (fun h3 => ?_) (fun h3 => ?_)
        · refine xS_of (pc' := 144) (L' := [(0, xa 536), (2, xi x2)]) (st' := []) (m' := m5) (fun ex ns r q => ?_) ?_
          · refine xw_if_eqT rfl (w32_cg (w32_of (xw_zr cv5))) h3 ?_
            refine xw_lo (L2 := [(0, xa 536), (2, xi x2)]) (List.forall_mem_cons.mpr ⟨rfl, List.forall_mem_cons.mpr ⟨rfl, fun _ h => absurd h List.not_mem_nil⟩⟩) ?_
            exact q
          exact ygk259_144 hB hr53 _ _ c2
        · refine xS_of (pc' := 106) (L' := [(0, xa 536), (2, xi x2)]) (st' := [xi 4, xi x2, xa 536]) (m' := m5) (fun ex ns r q => ?_) ?_
          · refine xw_if_eqF rfl (w32_cg (w32_of (xw_zr cv5))) h3 ?_
            refine xw_aload_n rfl rfl rfl ?_
            refine xw_iload_n rfl rfl ?_
            refine xw_iconst rfl ?_
            exact q
          refine xS_if (fun h4 => ?_) (fun h4 => ?_)
          · refine xS_of (pc' := 120) (L' := [(0, xa 536), (2, xi x2)]) (st' := [xi (xR m5 536 9), xi 7, xi 1, xa 536]) (m' := m5) (fun ex ns r q => ?_) ?_
            · refine xw_ic_geF rfl (w32_cg c2) (w32_cg rfl) (Int.not_le.mpr h4) ?_
              refine xw_iconst rfl ?_
              refine xw_goto rfl ?_
              refine xw_bipush (e := 7) rfl (by decide +kernel) ?_
              refine xw_aload_n rfl rfl rfl ?_
              refine xw_gfIc (v := (m5 536 9)) (v' := (xR m5 536 9)) rfl (xw_obd (by decide +kernel)) xk12_9 (qi := 9) rfl rfl rfl ?_
              refine xw_lo (L2 := [(0, xa 536), (2, xi x2)]) (List.forall_mem_cons.mpr ⟨rfl, List.forall_mem_cons.mpr ⟨rfl, fun _ h => absurd h List.not_mem_nil⟩⟩) ?_
              exact q
            refine xS_call (q := 254) (n := 4) (kq := 4) (as := [xa 536, xi 1, xi 7, xi (xR m5 536 9)]) (st1 := []) rfl rfl rfl rfl rfl rfl rfl rfl rfl rfl (fun _ => xw_rcv1 (t := 12) (xw_obd (by decide +kernel)) rfl) rfl (List.forall_mem_cons.mpr ⟨rfl, List.forall_mem_cons.mpr ⟨rfl, List.forall_mem_cons.mpr ⟨rfl, List.forall_mem_cons.mpr ⟨rfl, fun _ h => absurd h List.not_mem_nil⟩⟩⟩⟩) (ygf254 hB _ _ _ _ rfl rfl (w32_xR _ _ _)) (fun v6 m6 cv6 => ?_)
            refine xS_if (fun h5 => ?_) (fun h5 => ?_)
            · refine xS_of (pc' := 144) (L' := [(0, xa 536), (2, xi x2)]) (st' := []) (m' := m6) (fun ex ns r q => ?_) ?_
              · refine xw_if_eqT rfl (w32_cg (w32_of (xw_zr cv6))) h5 ?_
                refine xw_lo (L2 := [(0, xa 536), (2, xi x2)]) (List.forall_mem_cons.mpr ⟨rfl, List.forall_mem_cons.mpr ⟨rfl, fun _ h => absurd h List.not_mem_nil⟩⟩) ?_
                exact q
              exact ygk259_144 hB hr53 _ _ c2
            · refine xS_of (pc' := 138) (L' := [(0, xa 536), (2, xi x2)]) (st' := [xi (w32 ((8 + (4 * (xR m6 536 14))) + x2)), xa 536]) (m' := m6) (fun ex ns r q => ?_) ?_
              · refine xw_if_eqF rfl (w32_cg (w32_of (xw_zr cv6))) h5 ?_
                refine xw_aload_n rfl rfl rfl ?_
                refine xw_bipush (e := 8) rfl (by decide +kernel) ?_
                refine xw_iconst rfl ?_
                refine xw_aload_n rfl rfl rfl ?_
                refine xw_gfIc (v := (m6 536 14)) (v' := (xR m6 536 14)) rfl (xw_obd (by decide +kernel)) xk12_14 (qi := 14) rfl rfl rfl ?_
                refine xw_imul rfl ?_
                refine xw_iadd rfl ?_
                refine xw_iload_n rfl rfl ?_
                refine xw_iadd rfl ?_
                refine xw_cst (st' := [xi (w32 ((8 + (4 * (xR m6 536 14))) + x2)), xa 536]) (xw_sc (xi_c rfl) (xw_sc rfl rfl)) ?_
                refine xw_lo (L2 := [(0, xa 536), (2, xi x2)]) (List.forall_mem_cons.mpr ⟨rfl, List.forall_mem_cons.mpr ⟨rfl, fun _ h => absurd h List.not_mem_nil⟩⟩) ?_
                exact q
              refine xS_call (q := 264) (n := 2) (kq := 0) (as := [xa 536, xi (w32 ((8 + (4 * (xR m6 536 14))) + x2))]) (st1 := []) rfl rfl rfl rfl rfl rfl rfl rfl rfl rfl (fun _ => xw_rcv1 (t := 12) (xw_obd (by decide +kernel)) rfl) rfl (List.forall_mem_cons.mpr ⟨rfl, List.forall_mem_cons.mpr ⟨rfl, fun _ h => absurd h List.not_mem_nil⟩⟩) (ygf264 hB _ _ (w32_w _)) (fun v7 m7 cv7 => ?_)
              refine xS_of (pc' := 144) (L' := [(0, xa 536), (2, xi (w32 (x2 + 1)))]) (st' := []) (m' := m7) (fun ex ns r q => ?_) ?_
              · refine xw_iincc (z := (w32 (x2 + 1))) (L' := [(2, xi (w32 (x2 + 1))), (0, xa 536)]) rfl rfl (by decide) rfl rfl ?_
                refine xw_lo (L2 := [(0, xa 536), (2, xi (w32 (x2 + 1)))]) (List.forall_mem_cons.mpr ⟨rfl, List.forall_mem_cons.mpr ⟨rfl, fun _ h => absurd h List.not_mem_nil⟩⟩) ?_
                exact q
              exact ygk259_144 hB hr53 _ _ (w32_w _)
          · refine xS_of (pc' := 120) (L' := [(0, xa 536), (2, xi x2)]) (st' := [xi (xR m5 536 9), xi 7, xi 0, xa 536]) (m' := m5) (fun ex ns r q => ?_) ?_
            · refine xw_ic_geT rfl (w32_cg c2) (w32_cg rfl) (Int.not_lt.mp h4) ?_
              refine xw_iconst rfl ?_
              refine xw_bipush (e := 7) rfl (by decide +kernel) ?_
              refine xw_aload_n rfl rfl rfl ?_
              refine xw_gfIc (v := (m5 536 9)) (v' := (xR m5 536 9)) rfl (xw_obd (by decide +kernel)) xk12_9 (qi := 9) rfl rfl rfl ?_
              refine xw_lo (L2 := [(0, xa 536), (2, xi x2)]) (List.forall_mem_cons.mpr ⟨rfl, List.forall_mem_cons.mpr ⟨rfl, fun _ h => absurd h List.not_mem_nil⟩⟩) ?_
              exact q
            refine xS_call (q := 254) (n := 4) (kq := 4) (as := [xa 536, xi 0, xi 7, xi (xR m5 536 9)]) (st1 := []) rfl rfl rfl rfl rfl rfl rfl rfl rfl rfl (fun _ => xw_rcv1 (t := 12) (xw_obd (by decide +kernel)) rfl) rfl (List.forall_mem_cons.mpr ⟨rfl, List.forall_mem_cons.mpr ⟨rfl, List.forall_mem_cons.mpr ⟨rfl, List.forall_mem_cons.mpr ⟨rfl, fun _ h => absurd h List.not_mem_nil⟩⟩⟩⟩) (ygf254 hB _ _ _ _ rfl rfl (w32_xR _ _ _)) (fun v8 m8 cv8 => ?_)
            refine xS_if (fun h5 => ?_) (fun h5 => ?_)
            · refine xS_of (pc' := 144) (L' := [(0, xa 536), (2, xi x2)]) (st' := []) (m' := m8) (fun ex ns r q => ?_) ?_
              · refine xw_if_eqT rfl (w32_cg (w32_of (xw_zr cv8))) h5 ?_
                refine xw_lo (L2 := [(0, xa 536), (2, xi x2)]) (List.forall_mem_cons.mpr ⟨rfl, List.forall_mem_cons.mpr ⟨rfl, fun _ h => absurd h List.not_mem_nil⟩⟩) ?_
                exact q
              exact ygk259_144 hB hr53 _ _ c2
            · refine xS_of (pc' := 138) (L' := [(0, xa 536), (2, xi x2)]) (st' := [xi (w32 ((8 + (4 * (xR m8 536 14))) + x2)), xa 536]) (m' := m8) (fun ex ns r q => ?_) ?_
              · refine xw_if_eqF rfl (w32_cg (w32_of (xw_zr cv8))) h5 ?_
                refine xw_aload_n rfl rfl rfl ?_
                refine xw_bipush (e := 8) rfl (by decide +kernel) ?_
                refine xw_iconst rfl ?_
                refine xw_aload_n rfl rfl rfl ?_
                refine xw_gfIc (v := (m8 536 14)) (v' := (xR m8 536 14)) rfl (xw_obd (by decide +kernel)) xk12_14 (qi := 14) rfl rfl rfl ?_
                refine xw_imul rfl ?_
                refine xw_iadd rfl ?_
                refine xw_iload_n rfl rfl ?_
                refine xw_iadd rfl ?_
                refine xw_cst (st' := [xi (w32 ((8 + (4 * (xR m8 536 14))) + x2)), xa 536]) (xw_sc (xi_c rfl) (xw_sc rfl rfl)) ?_
                refine xw_lo (L2 := [(0, xa 536), (2, xi x2)]) (List.forall_mem_cons.mpr ⟨rfl, List.forall_mem_cons.mpr ⟨rfl, fun _ h => absurd h List.not_mem_nil⟩⟩) ?_
                exact q
              refine xS_call (q := 264) (n := 2) (kq := 0) (as := [xa 536, xi (w32 ((8 + (4 * (xR m8 536 14))) + x2))]) (st1 := []) rfl rfl rfl rfl rfl rfl rfl rfl rfl rfl (fun _ => xw_rcv1 (t := 12) (xw_obd (by decide +kernel)) rfl) rfl (List.forall_mem_cons.mpr ⟨rfl, List.forall_mem_cons.mpr ⟨rfl, fun _ h => absurd h List.not_mem_nil⟩⟩) (ygf264 hB _ _ (w32_w _)) (fun v9 m9 cv9 => ?_)
              refine xS_of (pc' := 144) (L' := [(0, xa 536), (2, xi (w32 (x2 + 1)))]) (st' := []) (m' := m9) (fun ex ns r q => ?_) ?_
              · refine xw_iincc (z := (w32 (x2 + 1))) (L' := [(2, xi (w32 (x2 + 1))), (0, xa 536)]) rfl rfl (by decide) rfl rfl ?_
                refine xw_lo (L2 := [(0, xa 536), (2, xi (w32 (x2 + 1)))]) (List.forall_mem_cons.mpr ⟨rfl, List.forall_mem_cons.mpr ⟨rfl, fun _ h => absurd h List.not_mem_nil⟩⟩) ?_
                exact q
              exact ygk259_144 hB hr53 _ _ (w32_w _)
      · refine xS_of (pc' := 97) (L' := [(0, xa 536), (2, xi x2)]) (st' := [xi (xR m4 536 9), xi 6, xi 0, xa 536]) (m' := m4) (fun ex ns r q => ?_) ?_
        · refine xw_if_geT rfl (w32_cg cv4) (Int.not_lt.mp h2) ?_
          refine xw_iconst rfl ?_
          refine xw_bipush (e := 6) rfl (by decide +kernel) ?_
          refine xw_aload_n rfl rfl rfl ?_
          refine xw_gfIc (v := (m4 536 9)) (v' := (xR m4 536 9)) rfl (xw_obd (by decide +kernel)) xk12_9 (qi := 9) rfl rfl rfl ?_
          refine xw_lo (L2 := [(0, xa 536), (2, xi x2)]) (List.forall_mem_cons.mpr ⟨rfl, List.forall_mem_cons.mpr ⟨rfl, fun _ h => absurd h List.not_mem_nil⟩⟩) ?_
          exact q
        refine xS_call (q := 254) (n := 4) (kq := 4) (as := [xa 536, xi 0, xi 6, xi (xR m4 536 9)]) (st1 := []) rfl rfl rfl rfl rfl rfl rfl rfl rfl rfl (fun _ => xw_rcv1 (t := 12) (xw_obd (by decide +kernel)) rfl) rfl (List.forall_mem_cons.mpr ⟨rfl, List.forall_mem_cons.mpr ⟨rfl, List.forall_mem_cons.mpr ⟨rfl, List.forall_mem_cons.mpr ⟨rfl, fun _ h => absurd h List.not_mem_nil⟩⟩⟩⟩) (ygf254 hB _ _ _ _ rfl rfl (w32_xR _ _ _)) (fun v10 m10 cv10 => ?_)
        refine xS_if (fun h3 => ?_) (fun h3 => ?_)
        · refine xS_of (pc' := 144) (L' := [(0, xa 536), (2, xi x2)]) (st' := []) (m' := m10) (fun ex ns r q => ?_) ?_
          · refine xw_if_eqT rfl (w32_cg (w32_of (xw_zr cv10))) h3 ?_
            refine xw_lo (L2 := [(0, xa 536), (2, xi x2)]) (List.forall_mem_cons.mpr ⟨rfl, List.forall_mem_cons.mpr ⟨rfl, fun _ h => absurd h List.not_mem_nil⟩⟩) ?_
            exact q
          exact ygk259_144 hB hr53 _ _ c2
        · refine xS_of (pc' := 106) (L' := [(0, xa 536), (2, xi x2)]) (st' := [xi 4, xi x2, xa 536]) (m' := m10) (fun ex ns r q => ?_) ?_
          · refine xw_if_eqF rfl (w32_cg (w32_of (xw_zr cv10))) h3 ?_
            refine xw_aload_n rfl rfl rfl ?_
            refine xw_iload_n rfl rfl ?_
            refine xw_iconst rfl ?_
            exact q
          refine xS_if (fun h4 => ?_) (fun h4 => ?_)
          · refine xS_of (pc' := 120) (L' := [(0, xa 536), (2, xi x2)]) (st' := [xi (xR m10 536 9), xi 7, xi 1, xa 536]) (m' := m10) (fun ex ns r q => ?_) ?_
            · refine xw_ic_geF rfl (w32_cg c2) (w32_cg rfl) (Int.not_le.mpr h4) ?_
              refine xw_iconst rfl ?_
              refine xw_goto rfl ?_
              refine xw_bipush (e := 7) rfl (by decide +kernel) ?_
              refine xw_aload_n rfl rfl rfl ?_
              refine xw_gfIc (v := (m10 536 9)) (v' := (xR m10 536 9)) rfl (xw_obd (by decide +kernel)) xk12_9 (qi := 9) rfl rfl rfl ?_
              refine xw_lo (L2 := [(0, xa 536), (2, xi x2)]) (List.forall_mem_cons.mpr ⟨rfl, List.forall_mem_cons.mpr ⟨rfl, fun _ h => absurd h List.not_mem_nil⟩⟩) ?_
              exact q
            refine xS_call (q := 254) (n := 4) (kq := 4) (as := [xa 536, xi 1, xi 7, xi (xR m10 536 9)]) (st1 := []) rfl rfl rfl rfl rfl rfl rfl rfl rfl rfl (fun _ => xw_rcv1 (t := 12) (xw_obd (by decide +kernel)) rfl) rfl (List.forall_mem_cons.mpr ⟨rfl, List.forall_mem_cons.mpr ⟨rfl, List.forall_mem_cons.mpr ⟨rfl, List.forall_mem_cons.mpr ⟨rfl, fun _ h => absurd h List.not_mem_nil⟩⟩⟩⟩) (ygf254 hB _ _ _ _ rfl rfl (w32_xR _ _ _)) (fun v11 m11 cv11 => ?_)
            refine xS_if (fun h5 => ?_) (fun h5 => ?_)
            · refine xS_of (pc' := 144) (L' := [(0, xa 536), (2, xi x2)]) (st' := []) (m' := m11) (fun ex ns r q => ?_) ?_
              · refine xw_if_eqT rfl (w32_cg (w32_of (xw_zr cv11))) h5 ?_
                refine xw_lo (L2 := [(0, xa 536), (2, xi x2)]) (List.forall_mem_cons.mpr ⟨rfl, List.forall_mem_cons.mpr ⟨rfl, fun _ h => absurd h List.not_mem_nil⟩⟩) ?_
                exact q
              exact ygk259_144 hB hr53 _ _ c2
            · refine xS_of (pc' := 138) (L' := [(0, xa 536), (2, xi x2)]) (st' := [xi (w32 ((8 + (4 * (xR m11 536 14))) + x2)), xa 536]) (m' := m11) (fun ex ns r q => ?_) ?_
              · refine xw_if_eqF rfl (w32_cg (w32_of (xw_zr cv11))) h5 ?_
                refine xw_aload_n rfl rfl rfl ?_
                refine xw_bipush (e := 8) rfl (by decide +kernel) ?_
                refine xw_iconst rfl ?_
                refine xw_aload_n rfl rfl rfl ?_
                refine xw_gfIc (v := (m11 536 14)) (v' := (xR m11 536 14)) rfl (xw_obd (by decide +kernel)) xk12_14 (qi := 14) rfl rfl rfl ?_
                refine xw_imul rfl ?_
                refine xw_iadd rfl ?_
                refine xw_iload_n rfl rfl ?_
                refine xw_iadd rfl ?_
                refine xw_cst (st' := [xi (w32 ((8 + (4 * (xR m11 536 14))) + x2)), xa 536]) (xw_sc (xi_c rfl) (xw_sc rfl rfl)) ?_
                refine xw_lo (L2 := [(0, xa 536), (2, xi x2)]) (List.forall_mem_cons.mpr ⟨rfl, List.forall_mem_cons.mpr ⟨rfl, fun _ h => absurd h List.not_mem_nil⟩⟩) ?_
                exact q
              refine xS_call (q := 264) (n := 2) (kq := 0) (as := [xa 536, xi (w32 ((8 + (4 * (xR m11 536 14))) + x2))]) (st1 := []) rfl rfl rfl rfl rfl rfl rfl rfl rfl rfl (fun _ => xw_rcv1 (t := 12) (xw_obd (by decide +kernel)) rfl) rfl (List.forall_mem_cons.mpr ⟨rfl, List.forall_mem_cons.mpr ⟨rfl, fun _ h => absurd h List.not_mem_nil⟩⟩) (ygf264 hB _ _ (w32_w _)) (fun v12 m12 cv12 => ?_)
              refine xS_of (pc' := 144) (L' := [(0, xa 536), (2, xi (w32 (x2 + 1)))]) (st' := []) (m' := m12) (fun ex ns r q => ?_) ?_
              · refine xw_iincc (z := (w32 (x2 + 1))) (L' := [(2, xi (w32 (x2 + 1))), (0, xa 536)]) rfl rfl (by decide) rfl rfl ?_
                refine xw_lo (L2 := [(0, xa 536), (2, xi (w32 (x2 + 1)))]) (List.forall_mem_cons.mpr ⟨rfl, List.forall_mem_cons.mpr ⟨rfl, fun _ h => absurd h List.not_mem_nil⟩⟩) ?_
                exact q
              exact ygk259_144 hB hr53 _ _ (w32_w _)
          · refine xS_of (pc' := 120) (L' := [(0, xa 536), (2, xi x2)]) (st' := [xi (xR m10 536 9), xi 7, xi 0, xa 536]) (m' := m10) (fun ex ns r q => ?_) ?_
            · refine xw_ic_geT rfl (w32_cg c2) (w32_cg rfl) (Int.not_lt.mp h4) ?_
              refine xw_iconst rfl ?_
              refine xw_bipush (e := 7) rfl (by decide +kernel) ?_
              refine xw_aload_n rfl rfl rfl ?_
              refine xw_gfIc (v := (m10 536 9)) (v' := (xR m10 536 9)) rfl (xw_obd (by decide +kernel)) xk12_9 (qi := 9) rfl rfl rfl ?_
              refine xw_lo (L2 := [(0, xa 536), (2, xi x2)]) (List.forall_mem_cons.mpr ⟨rfl, List.forall_mem_cons.mpr ⟨rfl, fun _ h => absurd h List.not_mem_nil⟩⟩) ?_
              exact q
            refine xS_call (q := 254) (n := 4) (kq := 4) (as := [xa 536, xi 0, xi 7, xi (xR m10 536 9)]) (st1 := []) rfl rfl rfl rfl rfl rfl rfl rfl rfl rfl (fun _ => xw_rcv1 (t := 12) (xw_obd (by decide +kernel)) rfl) rfl (List.forall_mem_cons.mpr ⟨rfl, List.forall_mem_cons.mpr ⟨rfl, List.forall_mem_cons.mpr ⟨rfl, List.forall_mem_cons.mpr ⟨rfl, fun _ h => absurd h List.not_mem_nil⟩⟩⟩⟩) (ygf254 hB _ _ _ _ rfl rfl (w32_xR _ _ _)) (fun v13 m13 cv13 => ?_)
            refine xS_if (fun h5 => ?_) (fun h5 => ?_)
            · refine xS_of (pc' := 144) (L' := [(0, xa 536), (2, xi x2)]) (st' := []) (m' := m13) (fun ex ns r q => ?_) ?_
              · refine xw_if_eqT rfl (w32_cg (w32_of (xw_zr cv13))) h5 ?_
                refine xw_lo (L2 := [(0, xa 536), (2, xi x2)]) (List.forall_mem_cons.mpr ⟨rfl, List.forall_mem_cons.mpr ⟨rfl, fun _ h => absurd h List.not_mem_nil⟩⟩) ?_
                exact q
              exact ygk259_144 hB hr53 _ _ c2
            · refine xS_of (pc' := 138) (L' := [(0, xa 536), (2, xi x2)]) (st' := [xi (w32 ((8 + (4 * (xR m13 536 14))) + x2)), xa 536]) (m' := m13) (fun ex ns r q => ?_) ?_
              · refine xw_if_eqF rfl (w32_cg (w32_of (xw_zr cv13))) h5 ?_
                refine xw_aload_n rfl rfl rfl ?_
                refine xw_bipush (e := 8) rfl (by decide +kernel) ?_
                refine xw_iconst rfl ?_
                refine xw_aload_n rfl rfl rfl ?_
                refine xw_gfIc (v := (m13 536 14)) (v' := (xR m13 536 14)) rfl (xw_obd (by decide +kernel)) xk12_14 (qi := 14) rfl rfl rfl ?_
                refine xw_imul rfl ?_
                refine xw_iadd rfl ?_
                refine xw_iload_n rfl rfl ?_
                refine xw_iadd rfl ?_
                refine xw_cst (st' := [xi (w32 ((8 + (4 * (xR m13 536 14))) + x2)), xa 536]) (xw_sc (xi_c rfl) (xw_sc rfl rfl)) ?_
                refine xw_lo (L2 := [(0, xa 536), (2, xi x2)]) (List.forall_mem_cons.mpr ⟨rfl, List.forall_mem_cons.mpr ⟨rfl, fun _ h => absurd h List.not_mem_nil⟩⟩) ?_
                exact q
              refine xS_call (q := 264) (n := 2) (kq := 0) (as := [xa 536, xi (w32 ((8 + (4 * (xR m13 536 14))) + x2))]) (st1 := []) rfl rfl rfl rfl rfl rfl rfl rfl rfl rfl (fun _ => xw_rcv1 (t := 12) (xw_obd (by decide +kernel)) rfl) rfl (List.forall_mem_cons.mpr ⟨rfl, List.forall_mem_cons.mpr ⟨rfl, fun _ h => absurd h List.not_mem_nil⟩⟩) (ygf264 hB _ _ (w32_w _)) (fun v14 m14 cv14 => ?_)
              refine xS_of (pc' := 144) (L' := [(0, xa 536), (2, xi (w32 (x2 + 1)))]) (st' := []) (m' := m14) (fun ex ns r q => ?_) ?_
              · refine xw_iincc (z := (w32 (x2 + 1))) (L' := [(2, xi (w32 (x2 + 1))), (0, xa 536)]) rfl rfl (by decide) rfl rfl ?_
                refine xw_lo (L2 := [(0, xa 536), (2, xi (w32 (x2 + 1)))]) (List.forall_mem_cons.mpr ⟨rfl, List.forall_mem_cons.mpr ⟨rfl, fun _ h => absurd h List.not_mem_nil⟩⟩) ?_
                exact q
              exact ygk259_144 hB hr53 _ _ (w32_w _)
theorem ygl259_53 {B : Nat} (hB : B ≤ 512) {xs : Nat → Int32} {SL d : Nat} : ∀ n x2 x3 m, w32 x2 = x2 → w32 x3 = x3 → xS B xs SL (d + 4) 259 (4, none, [], 13) 0 53 [(0, xa 536), (2, xi x2), (3, xi x3)] [] m (xl2 (yl259_53 B) n x2 x3 m) := by
  intro n
  induction n with
  | zero => intro x2 x3 m c2 c3; exact xS_none
  | succ n ih => exact ysl259_53 hB ih
theorem ygk259_42 {B : Nat} (hB : B ≤ 512) {xs : Nat → Int32} {SL d : Nat} : ∀ m, xS B xs SL (d + 4) 259 (4, none, [], 13) 0 42 [(0, xa 536)] [] m (yk259_42 B m) := by
  intro m
  unfold yk259_42
  refine xS_of (pc' := 45) (L' := [(0, xa 536)]) (st' := [xi 40, xa 536]) (m' := m) (fun ex ns r q => ?_) ?_
  · refine xw_aload_n rfl rfl rfl ?_
    refine xw_bipush (e := 40) rfl (by decide +kernel) ?_
    refine xw_lo (L2 := [(0, xa 536)]) (List.forall_mem_cons.mpr ⟨rfl, fun _ h => absurd h List.not_mem_nil⟩) ?_
    exact q
  refine xS_call (q := 265) (n := 2) (kq := 4) (as := [xa 536, xi 40]) (st1 := []) rfl rfl rfl rfl rfl rfl rfl rfl rfl rfl (fun _ => xw_rcv1 (t := 12) (xw_obd (by decide +kernel)) rfl) rfl (List.forall_mem_cons.mpr ⟨rfl, List.forall_mem_cons.mpr ⟨rfl, fun _ h => absurd h List.not_mem_nil⟩⟩) (ygf265 hB _ _ rfl) (fun v1 m1 cv1 => ?_)
  refine xS_of (pc' := 53) (L' := [(0, xa 536), (2, xi 0), (3, xi v1)]) (st' := []) (m' := m1) (fun ex ns r q => ?_) ?_
  · refine xw_istore_n (L' := [(1, xi v1), (0, xa 536)]) rfl (by decide) rfl ?_
    refine xw_iconst rfl ?_
    refine xw_istore_n (L' := [(2, xi 0), (1, xi v1), (0, xa 536)]) rfl (by decide) rfl ?_
    refine xw_iload_n rfl rfl ?_
    refine xw_istore_n (L' := [(3, xi v1), (2, xi 0), (1, xi v1), (0, xa 536)]) rfl (by decide) rfl ?_
    refine xw_lo (L2 := [(0, xa 536), (2, xi 0), (3, xi v1)]) (List.forall_mem_cons.mpr ⟨rfl, List.forall_mem_cons.mpr ⟨rfl, List.forall_mem_cons.mpr ⟨rfl, fun _ h => absurd h List.not_mem_nil⟩⟩⟩) ?_
    exact q
  exact ygl259_53 hB 1000000 _ _ _ rfl (w32_of (xw_zr cv1))
theorem ygf259 {B : Nat} (hB : B ≤ 512) {xs : Nat → Int32} {SL d : Nat} : ∀ m, xS B xs SL (d + 4) 259 (4, none, [], 13) 0 0 [(0, xa 536)] [] m (yf259 B m) := by
  intro m
  unfold yf259
  refine xS_of (pc' := 1) (L' := [(0, xa 536)]) (st' := [xa 536]) (m' := m) (fun ex ns r q => ?_) ?_
  · refine xw_aload_n rfl rfl rfl ?_
    refine xw_lo (L2 := [(0, xa 536)]) (List.forall_mem_cons.mpr ⟨rfl, fun _ h => absurd h List.not_mem_nil⟩) ?_
    exact q
  refine xS_call (q := 260) (n := 1) (kq := 4) (as := [xa 536]) (st1 := []) rfl rfl rfl rfl rfl rfl rfl rfl rfl rfl (fun _ => xw_rcv1 (t := 12) (xw_obd (by decide +kernel)) rfl) rfl (List.forall_mem_cons.mpr ⟨rfl, fun _ h => absurd h List.not_mem_nil⟩) (ygf260 hB _) (fun v1 m1 cv1 => ?_)
  refine xS_if (fun h0 => ?_) (fun h0 => ?_)
  · refine xS_of (pc' := 42) (L' := [(0, xa 536)]) (st' := []) (m' := m1) (fun ex ns r q => ?_) ?_
    · refine xw_if_eqT rfl (w32_cg (w32_of (xw_zr cv1))) h0 ?_
      refine xw_lo (L2 := [(0, xa 536)]) (List.forall_mem_cons.mpr ⟨rfl, fun _ h => absurd h List.not_mem_nil⟩) ?_
      exact q
    exact ygk259_42 hB _
  · refine xS_of (pc' := 14) (L' := [(0, xa 536)]) (st' := [xi 8, xi (xR m1 536 14), xa 536]) (m' := m1) (fun ex ns r q => ?_) ?_
    · refine xw_if_eqF rfl (w32_cg (w32_of (xw_zr cv1))) h0 ?_
      refine xw_aload_n rfl rfl rfl ?_
      refine xw_aload_n rfl rfl rfl ?_
      refine xw_gfIc (v := (m1 536 14)) (v' := (xR m1 536 14)) rfl (xw_obd (by decide +kernel)) xk12_14 (qi := 14) rfl rfl rfl ?_
      refine xw_bipush (e := 8) rfl (by decide +kernel) ?_
      exact q
    refine xS_if (fun h1 => ?_) (fun h1 => ?_)
    · refine xS_of (pc' := 28) (L' := [(0, xa 536)]) (st' := [xi (xR m1 536 9), xi 7, xi 1, xa 536]) (m' := m1) (fun ex ns r q => ?_) ?_
      · refine xw_ic_geF rfl (w32_cg (w32_xR _ _ _)) (w32_cg rfl) (Int.not_le.mpr h1) ?_
        refine xw_iconst rfl ?_
        refine xw_goto rfl ?_
        refine xw_bipush (e := 7) rfl (by decide +kernel) ?_
        refine xw_aload_n rfl rfl rfl ?_
        refine xw_gfIc (v := (m1 536 9)) (v' := (xR m1 536 9)) rfl (xw_obd (by decide +kernel)) xk12_9 (qi := 9) rfl rfl rfl ?_
        refine xw_lo (L2 := [(0, xa 536)]) (List.forall_mem_cons.mpr ⟨rfl, fun _ h => absurd h List.not_mem_nil⟩) ?_
        exact q
      refine xS_call (q := 254) (n := 4) (kq := 4) (as := [xa 536, xi 1, xi 7, xi (xR m1 536 9)]) (st1 := []) rfl rfl rfl rfl rfl rfl rfl rfl rfl rfl (fun _ => xw_rcv1 (t := 12) (xw_obd (by decide +kernel)) rfl) rfl (List.forall_mem_cons.mpr ⟨rfl, List.forall_mem_cons.mpr ⟨rfl, List.forall_mem_cons.mpr ⟨rfl, List.forall_mem_cons.mpr ⟨rfl, fun _ h => absurd h List.not_mem_nil⟩⟩⟩⟩) (ygf254 hB _ _ _ _ rfl rfl (w32_xR _ _ _)) (fun v2 m2 cv2 => ?_)
      refine xS_if (fun h2 => ?_) (fun h2 => ?_)
      · refine xS_of (pc' := 42) (L' := [(0, xa 536)]) (st' := []) (m' := m2) (fun ex ns r q => ?_) ?_
        · refine xw_if_eqT rfl (w32_cg (w32_of (xw_zr cv2))) h2 ?_
          refine xw_lo (L2 := [(0, xa 536)]) (List.forall_mem_cons.mpr ⟨rfl, fun _ h => absurd h List.not_mem_nil⟩) ?_
          exact q
        exact ygk259_42 hB _
      · refine xS_of (pc' := 39) (L' := [(0, xa 536)]) (st' := [xi (xR m2 536 14), xa 536]) (m' := m2) (fun ex ns r q => ?_) ?_
        · refine xw_if_eqF rfl (w32_cg (w32_of (xw_zr cv2))) h2 ?_
          refine xw_aload_n rfl rfl rfl ?_
          refine xw_aload_n rfl rfl rfl ?_
          refine xw_gfIc (v := (m2 536 14)) (v' := (xR m2 536 14)) rfl (xw_obd (by decide +kernel)) xk12_14 (qi := 14) rfl rfl rfl ?_
          refine xw_lo (L2 := [(0, xa 536)]) (List.forall_mem_cons.mpr ⟨rfl, fun _ h => absurd h List.not_mem_nil⟩) ?_
          exact q
        refine xS_call (q := 264) (n := 2) (kq := 0) (as := [xa 536, xi (xR m2 536 14)]) (st1 := []) rfl rfl rfl rfl rfl rfl rfl rfl rfl rfl (fun _ => xw_rcv1 (t := 12) (xw_obd (by decide +kernel)) rfl) rfl (List.forall_mem_cons.mpr ⟨rfl, List.forall_mem_cons.mpr ⟨rfl, fun _ h => absurd h List.not_mem_nil⟩⟩) (ygf264 hB _ _ (w32_xR _ _ _)) (fun v3 m3 cv3 => ?_)
        refine xS_of (pc' := 42) (L' := [(0, xa 536)]) (st' := []) (m' := m3) (fun ex ns r q => ?_) ?_
        · refine xw_lo (L2 := [(0, xa 536)]) (List.forall_mem_cons.mpr ⟨rfl, fun _ h => absurd h List.not_mem_nil⟩) ?_
          exact q
        exact ygk259_42 hB _
    · refine xS_of (pc' := 28) (L' := [(0, xa 536)]) (st' := [xi (xR m1 536 9), xi 7, xi 0, xa 536]) (m' := m1) (fun ex ns r q => ?_) ?_
      · refine xw_ic_geT rfl (w32_cg (w32_xR _ _ _)) (w32_cg rfl) (Int.not_lt.mp h1) ?_
        refine xw_iconst rfl ?_
        refine xw_bipush (e := 7) rfl (by decide +kernel) ?_
        refine xw_aload_n rfl rfl rfl ?_
        refine xw_gfIc (v := (m1 536 9)) (v' := (xR m1 536 9)) rfl (xw_obd (by decide +kernel)) xk12_9 (qi := 9) rfl rfl rfl ?_
        refine xw_lo (L2 := [(0, xa 536)]) (List.forall_mem_cons.mpr ⟨rfl, fun _ h => absurd h List.not_mem_nil⟩) ?_
        exact q
      refine xS_call (q := 254) (n := 4) (kq := 4) (as := [xa 536, xi 0, xi 7, xi (xR m1 536 9)]) (st1 := []) rfl rfl rfl rfl rfl rfl rfl rfl rfl rfl (fun _ => xw_rcv1 (t := 12) (xw_obd (by decide +kernel)) rfl) rfl (List.forall_mem_cons.mpr ⟨rfl, List.forall_mem_cons.mpr ⟨rfl, List.forall_mem_cons.mpr ⟨rfl, List.forall_mem_cons.mpr ⟨rfl, fun _ h => absurd h List.not_mem_nil⟩⟩⟩⟩) (ygf254 hB _ _ _ _ rfl rfl (w32_xR _ _ _)) (fun v4 m4 cv4 => ?_)
      refine xS_if (fun h2 => ?_) (fun h2 => ?_)
      · refine xS_of (pc' := 42) (L' := [(0, xa 536)]) (st' := []) (m' := m4) (fun ex ns r q => ?_) ?_
        · refine xw_if_eqT rfl (w32_cg (w32_of (xw_zr cv4))) h2 ?_
          refine xw_lo (L2 := [(0, xa 536)]) (List.forall_mem_cons.mpr ⟨rfl, fun _ h => absurd h List.not_mem_nil⟩) ?_
          exact q
        exact ygk259_42 hB _
      · refine xS_of (pc' := 39) (L' := [(0, xa 536)]) (st' := [xi (xR m4 536 14), xa 536]) (m' := m4) (fun ex ns r q => ?_) ?_
        · refine xw_if_eqF rfl (w32_cg (w32_of (xw_zr cv4))) h2 ?_
          refine xw_aload_n rfl rfl rfl ?_
          refine xw_aload_n rfl rfl rfl ?_
          refine xw_gfIc (v := (m4 536 14)) (v' := (xR m4 536 14)) rfl (xw_obd (by decide +kernel)) xk12_14 (qi := 14) rfl rfl rfl ?_
          refine xw_lo (L2 := [(0, xa 536)]) (List.forall_mem_cons.mpr ⟨rfl, fun _ h => absurd h List.not_mem_nil⟩) ?_
          exact q
        refine xS_call (q := 264) (n := 2) (kq := 0) (as := [xa 536, xi (xR m4 536 14)]) (st1 := []) rfl rfl rfl rfl rfl rfl rfl rfl rfl rfl (fun _ => xw_rcv1 (t := 12) (xw_obd (by decide +kernel)) rfl) rfl (List.forall_mem_cons.mpr ⟨rfl, List.forall_mem_cons.mpr ⟨rfl, fun _ h => absurd h List.not_mem_nil⟩⟩) (ygf264 hB _ _ (w32_xR _ _ _)) (fun v5 m5 cv5 => ?_)
        refine xS_of (pc' := 42) (L' := [(0, xa 536)]) (st' := []) (m' := m5) (fun ex ns r q => ?_) ?_
        · refine xw_lo (L2 := [(0, xa 536)]) (List.forall_mem_cons.mpr ⟨rfl, fun _ h => absurd h List.not_mem_nil⟩) ?_
          exact q
        exact ygk259_42 hB _
theorem ygk267_45 {B : Nat} (hB : B ≤ 512) {xs : Nat → Int32} {SL d : Nat} : ∀ m, xS B xs SL (d + 4) 267 (1, none, [], 13) 0 45 [(0, xa 536)] [] m (yk267_45 B m) := by
  intro m
  unfold yk267_45
  refine xS_of (pc' := 48) (L' := [(0, xa 536)]) (st' := [xi 59, xa 536]) (m' := m) (fun ex ns r q => ?_) ?_
  · refine xw_aload_n rfl rfl rfl ?_
    refine xw_bipush (e := 59) rfl (by decide +kernel) ?_
    refine xw_lo (L2 := [(0, xa 536)]) (List.forall_mem_cons.mpr ⟨rfl, fun _ h => absurd h List.not_mem_nil⟩) ?_
    exact q
  refine xS_call (q := 265) (n := 2) (kq := 4) (as := [xa 536, xi 59]) (st1 := []) rfl rfl rfl rfl rfl rfl rfl rfl rfl rfl (fun _ => xw_rcv1 (t := 12) (xw_obd (by decide +kernel)) rfl) rfl (List.forall_mem_cons.mpr ⟨rfl, List.forall_mem_cons.mpr ⟨rfl, fun _ h => absurd h List.not_mem_nil⟩⟩) (ygf265 hB _ _ rfl) (fun v1 m1 cv1 => ?_)
  refine xS_if (fun h0 => ?_) (fun h0 => ?_)
  · refine xS_of (pc' := 71) (L' := [(0, xa 536)]) (st' := []) (m' := m1) (fun ex ns r q => ?_) ?_
    · refine xw_if_eqT rfl (w32_cg (w32_of (xw_zr cv1))) h0 ?_
      exact q
    exact xS_ret (v := 0) rfl rfl rfl rfl
  · refine xS_of (pc' := 58) (L' := [(0, xa 536)]) (st' := [xi (xR m1 536 6)]) (m' := m1) (fun ex ns r q => ?_) ?_
    · refine xw_if_eqF rfl (w32_cg (w32_of (xw_zr cv1))) h0 ?_
      refine xw_aload_n rfl rfl rfl ?_
      refine xw_gfIc (v := (m1 536 6)) (v' := (xR m1 536 6)) rfl (xw_obd (by decide +kernel)) xk12_6 (qi := 6) rfl rfl rfl ?_
      exact q
    refine xS_if (fun h1 => ?_) (fun h1 => ?_)
    · refine xS_of (pc' := 71) (L' := [(0, xa 536)]) (st' := []) (m' := (xw_u m1 536 19 ((xR m1 536 19) + 1))) (fun ex ns r q => ?_) ?_
      · refine xw_if_neF rfl (w32_cg (w32_xR _ _ _)) h1 ?_
        refine xw_aload_n rfl rfl rfl ?_
        refine xw_dup rfl rfl ?_
        refine xw_gfIc (v := (m1 536 19)) (v' := (xR m1 536 19)) rfl (xw_obd (by decide +kernel)) xk12_19 (qi := 19) rfl rfl rfl ?_
        refine xw_iconst rfl ?_
        refine xw_iadd rfl ?_
        refine xw_pfI rfl (xw_obd (by decide +kernel)) xk12_19 (qi := 19) rfl (xw_okI rfl) ?_
        exact q
      exact xS_ret (v := 0) rfl rfl rfl rfl
    · refine xS_of (pc' := 71) (L' := [(0, xa 536)]) (st' := []) (m' := m1) (fun ex ns r q => ?_) ?_
      · refine xw_if_neT rfl (w32_cg (w32_xR _ _ _)) h1 ?_
        exact q
      exact xS_ret (v := 0) rfl rfl rfl rfl
theorem ygf267 {B : Nat} (hB : B ≤ 512) {xs : Nat → Int32} {SL d : Nat} : ∀ m, xS B xs SL (d + 4) 267 (1, none, [], 13) 0 0 [(0, xa 536)] [] m (yf267 B m) := by
  intro m
  unfold yf267
  refine xS_of (pc' := 1) (L' := [(0, xa 536)]) (st' := [xa 536]) (m' := m) (fun ex ns r q => ?_) ?_
  · refine xw_aload_n rfl rfl rfl ?_
    refine xw_lo (L2 := [(0, xa 536)]) (List.forall_mem_cons.mpr ⟨rfl, fun _ h => absurd h List.not_mem_nil⟩) ?_
    exact q
  refine xS_call (q := 260) (n := 1) (kq := 4) (as := [xa 536]) (st1 := []) rfl rfl rfl rfl rfl rfl rfl rfl rfl rfl (fun _ => xw_rcv1 (t := 12) (xw_obd (by decide +kernel)) rfl) rfl (List.forall_mem_cons.mpr ⟨rfl, fun _ h => absurd h List.not_mem_nil⟩) (ygf260 hB _) (fun v1 m1 cv1 => ?_)
  refine xS_if (fun h0 => ?_) (fun h0 => ?_)
  · refine xS_of (pc' := 45) (L' := [(0, xa 536)]) (st' := []) (m' := m1) (fun ex ns r q => ?_) ?_
    · refine xw_if_eqT rfl (w32_cg (w32_of (xw_zr cv1))) h0 ?_
      refine xw_lo (L2 := [(0, xa 536)]) (List.forall_mem_cons.mpr ⟨rfl, fun _ h => absurd h List.not_mem_nil⟩) ?_
      exact q
    exact ygk267_45 hB _
  · refine xS_of (pc' := 14) (L' := [(0, xa 536)]) (st' := [xi 8, xi (xR m1 536 19), xa 536]) (m' := m1) (fun ex ns r q => ?_) ?_
    · refine xw_if_eqF rfl (w32_cg (w32_of (xw_zr cv1))) h0 ?_
      refine xw_aload_n rfl rfl rfl ?_
      refine xw_aload_n rfl rfl rfl ?_
      refine xw_gfIc (v := (m1 536 19)) (v' := (xR m1 536 19)) rfl (xw_obd (by decide +kernel)) xk12_19 (qi := 19) rfl rfl rfl ?_
      refine xw_bipush (e := 8) rfl (by decide +kernel) ?_
      exact q
    refine xS_if (fun h1 => ?_) (fun h1 => ?_)
    · refine xS_of (pc' := 28) (L' := [(0, xa 536)]) (st' := [xi (xR m1 536 9), xi 7, xi 1, xa 536]) (m' := m1) (fun ex ns r q => ?_) ?_
      · refine xw_ic_geF rfl (w32_cg (w32_xR _ _ _)) (w32_cg rfl) (Int.not_le.mpr h1) ?_
        refine xw_iconst rfl ?_
        refine xw_goto rfl ?_
        refine xw_bipush (e := 7) rfl (by decide +kernel) ?_
        refine xw_aload_n rfl rfl rfl ?_
        refine xw_gfIc (v := (m1 536 9)) (v' := (xR m1 536 9)) rfl (xw_obd (by decide +kernel)) xk12_9 (qi := 9) rfl rfl rfl ?_
        refine xw_lo (L2 := [(0, xa 536)]) (List.forall_mem_cons.mpr ⟨rfl, fun _ h => absurd h List.not_mem_nil⟩) ?_
        exact q
      refine xS_call (q := 254) (n := 4) (kq := 4) (as := [xa 536, xi 1, xi 7, xi (xR m1 536 9)]) (st1 := []) rfl rfl rfl rfl rfl rfl rfl rfl rfl rfl (fun _ => xw_rcv1 (t := 12) (xw_obd (by decide +kernel)) rfl) rfl (List.forall_mem_cons.mpr ⟨rfl, List.forall_mem_cons.mpr ⟨rfl, List.forall_mem_cons.mpr ⟨rfl, List.forall_mem_cons.mpr ⟨rfl, fun _ h => absurd h List.not_mem_nil⟩⟩⟩⟩) (ygf254 hB _ _ _ _ rfl rfl (w32_xR _ _ _)) (fun v2 m2 cv2 => ?_)
      refine xS_if (fun h2 => ?_) (fun h2 => ?_)
      · refine xS_of (pc' := 45) (L' := [(0, xa 536)]) (st' := []) (m' := m2) (fun ex ns r q => ?_) ?_
        · refine xw_if_eqT rfl (w32_cg (w32_of (xw_zr cv2))) h2 ?_
          refine xw_lo (L2 := [(0, xa 536)]) (List.forall_mem_cons.mpr ⟨rfl, fun _ h => absurd h List.not_mem_nil⟩) ?_
          exact q
        exact ygk267_45 hB _
      · refine xS_of (pc' := 42) (L' := [(0, xa 536)]) (st' := [xi (w32 (40 + (xR m2 536 19))), xa 536]) (m' := m2) (fun ex ns r q => ?_) ?_
        · refine xw_if_eqF rfl (w32_cg (w32_of (xw_zr cv2))) h2 ?_
          refine xw_aload_n rfl rfl rfl ?_
          refine xw_bipush (e := 40) rfl (by decide +kernel) ?_
          refine xw_aload_n rfl rfl rfl ?_
          refine xw_gfIc (v := (m2 536 19)) (v' := (xR m2 536 19)) rfl (xw_obd (by decide +kernel)) xk12_19 (qi := 19) rfl rfl rfl ?_
          refine xw_iadd rfl ?_
          refine xw_cst (st' := [xi (w32 (40 + (xR m2 536 19))), xa 536]) (xw_sc (xi_c rfl) (xw_sc rfl rfl)) ?_
          refine xw_lo (L2 := [(0, xa 536)]) (List.forall_mem_cons.mpr ⟨rfl, fun _ h => absurd h List.not_mem_nil⟩) ?_
          exact q
        refine xS_call (q := 264) (n := 2) (kq := 0) (as := [xa 536, xi (w32 (40 + (xR m2 536 19)))]) (st1 := []) rfl rfl rfl rfl rfl rfl rfl rfl rfl rfl (fun _ => xw_rcv1 (t := 12) (xw_obd (by decide +kernel)) rfl) rfl (List.forall_mem_cons.mpr ⟨rfl, List.forall_mem_cons.mpr ⟨rfl, fun _ h => absurd h List.not_mem_nil⟩⟩) (ygf264 hB _ _ (w32_w _)) (fun v3 m3 cv3 => ?_)
        refine xS_of (pc' := 45) (L' := [(0, xa 536)]) (st' := []) (m' := m3) (fun ex ns r q => ?_) ?_
        · refine xw_lo (L2 := [(0, xa 536)]) (List.forall_mem_cons.mpr ⟨rfl, fun _ h => absurd h List.not_mem_nil⟩) ?_
          exact q
        exact ygk267_45 hB _
    · refine xS_of (pc' := 28) (L' := [(0, xa 536)]) (st' := [xi (xR m1 536 9), xi 7, xi 0, xa 536]) (m' := m1) (fun ex ns r q => ?_) ?_
      · refine xw_ic_geT rfl (w32_cg (w32_xR _ _ _)) (w32_cg rfl) (Int.not_lt.mp h1) ?_
        refine xw_iconst rfl ?_
        refine xw_bipush (e := 7) rfl (by decide +kernel) ?_
        refine xw_aload_n rfl rfl rfl ?_
        refine xw_gfIc (v := (m1 536 9)) (v' := (xR m1 536 9)) rfl (xw_obd (by decide +kernel)) xk12_9 (qi := 9) rfl rfl rfl ?_
        refine xw_lo (L2 := [(0, xa 536)]) (List.forall_mem_cons.mpr ⟨rfl, fun _ h => absurd h List.not_mem_nil⟩) ?_
        exact q
      refine xS_call (q := 254) (n := 4) (kq := 4) (as := [xa 536, xi 0, xi 7, xi (xR m1 536 9)]) (st1 := []) rfl rfl rfl rfl rfl rfl rfl rfl rfl rfl (fun _ => xw_rcv1 (t := 12) (xw_obd (by decide +kernel)) rfl) rfl (List.forall_mem_cons.mpr ⟨rfl, List.forall_mem_cons.mpr ⟨rfl, List.forall_mem_cons.mpr ⟨rfl, List.forall_mem_cons.mpr ⟨rfl, fun _ h => absurd h List.not_mem_nil⟩⟩⟩⟩) (ygf254 hB _ _ _ _ rfl rfl (w32_xR _ _ _)) (fun v4 m4 cv4 => ?_)
      refine xS_if (fun h2 => ?_) (fun h2 => ?_)
      · refine xS_of (pc' := 45) (L' := [(0, xa 536)]) (st' := []) (m' := m4) (fun ex ns r q => ?_) ?_
        · refine xw_if_eqT rfl (w32_cg (w32_of (xw_zr cv4))) h2 ?_
          refine xw_lo (L2 := [(0, xa 536)]) (List.forall_mem_cons.mpr ⟨rfl, fun _ h => absurd h List.not_mem_nil⟩) ?_
          exact q
        exact ygk267_45 hB _
      · refine xS_of (pc' := 42) (L' := [(0, xa 536)]) (st' := [xi (w32 (40 + (xR m4 536 19))), xa 536]) (m' := m4) (fun ex ns r q => ?_) ?_
        · refine xw_if_eqF rfl (w32_cg (w32_of (xw_zr cv4))) h2 ?_
          refine xw_aload_n rfl rfl rfl ?_
          refine xw_bipush (e := 40) rfl (by decide +kernel) ?_
          refine xw_aload_n rfl rfl rfl ?_
          refine xw_gfIc (v := (m4 536 19)) (v' := (xR m4 536 19)) rfl (xw_obd (by decide +kernel)) xk12_19 (qi := 19) rfl rfl rfl ?_
          refine xw_iadd rfl ?_
          refine xw_cst (st' := [xi (w32 (40 + (xR m4 536 19))), xa 536]) (xw_sc (xi_c rfl) (xw_sc rfl rfl)) ?_
          refine xw_lo (L2 := [(0, xa 536)]) (List.forall_mem_cons.mpr ⟨rfl, fun _ h => absurd h List.not_mem_nil⟩) ?_
          exact q
        refine xS_call (q := 264) (n := 2) (kq := 0) (as := [xa 536, xi (w32 (40 + (xR m4 536 19)))]) (st1 := []) rfl rfl rfl rfl rfl rfl rfl rfl rfl rfl (fun _ => xw_rcv1 (t := 12) (xw_obd (by decide +kernel)) rfl) rfl (List.forall_mem_cons.mpr ⟨rfl, List.forall_mem_cons.mpr ⟨rfl, fun _ h => absurd h List.not_mem_nil⟩⟩) (ygf264 hB _ _ (w32_w _)) (fun v5 m5 cv5 => ?_)
        refine xS_of (pc' := 45) (L' := [(0, xa 536)]) (st' := []) (m' := m5) (fun ex ns r q => ?_) ?_
        · refine xw_lo (L2 := [(0, xa 536)]) (List.forall_mem_cons.mpr ⟨rfl, fun _ h => absurd h List.not_mem_nil⟩) ?_
          exact q
        exact ygk267_45 hB _
theorem ygk269_95 {B : Nat} (hB : B ≤ 512) {xs : Nat → Int32} {SL d : Nat} {r13 : Int → Int → Int → Int → xw_M → xP} (hr13 : ∀ x1 x2 x3 x4 m, w32 x1 = x1 → w32 x2 = x2 → w32 x3 = x3 → w32 x4 = x4 → xS B xs SL (d + 0) 269 (8, (some .boolean), [], 13) 4 13 [(0, xa 536), (1, xi x1), (2, xi x2), (3, xi x3), (4, xi x4)] [] m (r13 x1 x2 x3 x4 m)) {r55 : Int → Int → Int → Int → Int → Int → Int → xw_M → xP} (hr55 : ∀ x1 x2 x3 x4 x5 x6 x7 m, w32 x1 = x1 → w32 x2 = x2 → w32 x3 = x3 → w32 x4 = x4 → w32 x5 = x5 → w32 x6 = x6 → w32 x7 = x7 → xS B xs SL (d + 0) 269 (8, (some .boolean), [], 13) 4 55 [(0, xa 536), (1, xi x1), (2, xi x2), (3, xi x3), (4, xi x4), (5, xi x5), (6, xi x6), (7, xi x7)] [] m (r55 x1 x2 x3 x4 x5 x6 x7 m)) : ∀ x1 x2 x3 x4 x5 x6 x7 m, w32 x1 = x1 → w32 x2 = x2 → w32 x3 = x3 → w32 x4 = x4 → w32 x5 = x5 → w32 x6 = x6 → w32 x7 = x7 → xS B xs SL (d + 0) 269 (8, (some .boolean), [], 13) 4 95 [(0, xa 536), (1, xi x1), (2, xi x2), (3, xi x3), (4, xi x4), (5, xi x5), (6, xi x6), (7, xi x7)] [] m (yk269_95 B r13 r55 x1 x2 x3 x4 x5 x6 x7 m) := by
  intro x1 x2 x3 x4 x5 x6 x7 m c1 c2 c3 c4 c5 c6 c7
  unfold yk269_95
  refine xS_of (pc' := 97) (L' := [(0, xa 536), (1, xi x1), (2, xi x2), (3, xi x3), (4, xi x4), (5, xi x5), (6, xi x6), (7, xi x7)]) (st' := [xi x6]) (m' := m) (fun ex ns r q => ?_) ?_
  · refine xw_iload rfl rfl ?_
    exact q
  refine xS_if (fun h0 => ?_) (fun h0 => ?_)
  · refine xS_g (fun g1 => ?_)
    refine xS_g (fun g2 => ?_)
    refine xS_of (pc' := 119) (L' := [(0, xa 536), (1, xi x1), (2, xi x2), (3, xi x3), (4, xi x4), (5, xi x5), (6, xi x6), (7, xi x7)]) (st' := [xi (xR m 540 (x3 + x7)), xi (xR m 540 (x5 + x7))]) (m' := m) (fun ex ns r q => ?_) ?_
    · refine xw_if_neF rfl (w32_cg c6) h0 ?_
      refine xw_aload_n rfl rfl rfl ?_
      refine xw_gfR (n := 540) (e := 540) rfl (xw_obd (by decide +kernel)) (by decide +kernel) (by decide +kernel) rfl ?_
      refine xw_iload rfl rfl ?_
      refine xw_iload rfl rfl ?_
      refine xw_iadd rfl ?_
      refine xw_ialdc (n := 32000) (v := (m 540 (x5 + x7))) (v' := (xR m 540 (x5 + x7))) rfl hB (xw_obd (by decide +kernel)) rfl g1 rfl rfl ?_
      refine xw_aload_n rfl rfl rfl ?_
      refine xw_gfR (n := 540) (e := 540) rfl (xw_obd (by decide +kernel)) (by decide +kernel) (by decide +kernel) rfl ?_
      refine xw_iload_n rfl rfl ?_
      refine xw_iload rfl rfl ?_
      refine xw_iadd rfl ?_
      refine xw_ialdc (n := 32000) (v := (m 540 (x3 + x7))) (v' := (xR m 540 (x3 + x7))) rfl hB (xw_obd (by decide +kernel)) rfl g2 rfl rfl ?_
      exact q
    refine xS_if (fun h3 => ?_) (fun h3 => ?_)
    · refine xS_of (pc' := 55) (L' := [(0, xa 536), (1, xi x1), (2, xi x2), (3, xi x3), (4, xi x4), (5, xi x5), (6, xi 1), (7, xi (w32 (x7 + 1)))]) (st' := []) (m' := m) (fun ex ns r q => ?_) ?_
      · refine xw_ic_neF rfl (w32_cg (w32_xR _ _ _)) (w32_cg (w32_xR _ _ _)) h3 ?_
        refine xw_iconst rfl ?_
        refine xw_goto rfl ?_
        refine xw_istore (L' := [(6, xi 1), (0, xa 536), (1, xi x1), (2, xi x2), (3, xi x3), (4, xi x4), (5, xi x5), (7, xi x7)]) rfl (by decide) rfl ?_
        refine xw_iincc (z := (w32 (x7 + 1))) (L' := [(7, xi (w32 (x7 + 1))), (6, xi 1), (0, xa 536), (1, xi x1), (2, xi x2), (3, xi x3), (4, xi x4), (5, xi x5)]) rfl rfl (by decide) rfl rfl ?_
        refine xw_goto rfl ?_
        refine xw_lo (L2 := [(0, xa 536), (1, xi x1), (2, xi x2), (3, xi x3), (4, xi x4), (5, xi x5), (6, xi 1), (7, xi (w32 (x7 + 1)))]) (List.forall_mem_cons.mpr ⟨rfl, List.forall_mem_cons.mpr ⟨rfl, List.forall_mem_cons.mpr ⟨rfl, List.forall_mem_cons.mpr ⟨rfl, List.forall_mem_cons.mpr ⟨rfl, List.forall_mem_cons.mpr ⟨rfl, List.forall_mem_cons.mpr ⟨rfl, List.forall_mem_cons.mpr ⟨rfl, fun _ h => absurd h List.not_mem_nil⟩⟩⟩⟩⟩⟩⟩⟩) ?_
        exact q
      exact hr55 _ _ _ _ _ _ _ _ c1 c2 c3 c4 c5 rfl (w32_w _)
    · refine xS_of (pc' := 55) (L' := [(0, xa 536), (1, xi x1), (2, xi x2), (3, xi x3), (4, xi x4), (5, xi x5), (6, xi 0), (7, xi (w32 (x7 + 1)))]) (st' := []) (m' := m) (fun ex ns r q => ?_) ?_
      · refine xw_ic_neT rfl (w32_cg (w32_xR _ _ _)) (w32_cg (w32_xR _ _ _)) h3 ?_
        refine xw_iconst rfl ?_
        refine xw_istore (L' := [(6, xi 0), (0, xa 536), (1, xi x1), (2, xi x2), (3, xi x3), (4, xi x4), (5, xi x5), (7, xi x7)]) rfl (by decide) rfl ?_
        refine xw_iincc (z := (w32 (x7 + 1))) (L' := [(7, xi (w32 (x7 + 1))), (6, xi 0), (0, xa 536), (1, xi x1), (2, xi x2), (3, xi x3), (4, xi x4), (5, xi x5)]) rfl rfl (by decide) rfl rfl ?_
        refine xw_goto rfl ?_
        refine xw_lo (L2 := [(0, xa 536), (1, xi x1), (2, xi x2), (3, xi x3), (4, xi x4), (5, xi x5), (6, xi 0), (7, xi (w32 (x7 + 1)))]) (List.forall_mem_cons.mpr ⟨rfl, List.forall_mem_cons.mpr ⟨rfl, List.forall_mem_cons.mpr ⟨rfl, List.forall_mem_cons.mpr ⟨rfl, List.forall_mem_cons.mpr ⟨rfl, List.forall_mem_cons.mpr ⟨rfl, List.forall_mem_cons.mpr ⟨rfl, List.forall_mem_cons.mpr ⟨rfl, fun _ h => absurd h List.not_mem_nil⟩⟩⟩⟩⟩⟩⟩⟩) ?_
        exact q
      exact hr55 _ _ _ _ _ _ _ _ c1 c2 c3 c4 c5 rfl (w32_w _)
  · refine xS_of (pc' := 55) (L' := [(0, xa 536), (1, xi x1), (2, xi x2), (3, xi x3), (4, xi x4), (5, xi x5), (6, xi 1), (7, xi (w32 (x7 + 1)))]) (st' := []) (m' := m) (fun ex ns r q => ?_) ?_
    · refine xw_if_neT rfl (w32_cg c6) h0 ?_
      refine xw_iconst rfl ?_
      refine xw_goto rfl ?_
      refine xw_istore (L' := [(6, xi 1), (0, xa 536), (1, xi x1), (2, xi x2), (3, xi x3), (4, xi x4), (5, xi x5), (7, xi x7)]) rfl (by decide) rfl ?_
      refine xw_iincc (z := (w32 (x7 + 1))) (L' := [(7, xi (w32 (x7 + 1))), (6, xi 1), (0, xa 536), (1, xi x1), (2, xi x2), (3, xi x3), (4, xi x4), (5, xi x5)]) rfl rfl (by decide) rfl rfl ?_
      refine xw_goto rfl ?_
      refine xw_lo (L2 := [(0, xa 536), (1, xi x1), (2, xi x2), (3, xi x3), (4, xi x4), (5, xi x5), (6, xi 1), (7, xi (w32 (x7 + 1)))]) (List.forall_mem_cons.mpr ⟨rfl, List.forall_mem_cons.mpr ⟨rfl, List.forall_mem_cons.mpr ⟨rfl, List.forall_mem_cons.mpr ⟨rfl, List.forall_mem_cons.mpr ⟨rfl, List.forall_mem_cons.mpr ⟨rfl, List.forall_mem_cons.mpr ⟨rfl, List.forall_mem_cons.mpr ⟨rfl, fun _ h => absurd h List.not_mem_nil⟩⟩⟩⟩⟩⟩⟩⟩) ?_
      exact q
    exact hr55 _ _ _ _ _ _ _ _ c1 c2 c3 c4 c5 rfl (w32_w _)
theorem ysl269_55 {B : Nat} (hB : B ≤ 512) {xs : Nat → Int32} {SL d : Nat} {r13 : Int → Int → Int → Int → xw_M → xP} (hr13 : ∀ x1 x2 x3 x4 m, w32 x1 = x1 → w32 x2 = x2 → w32 x3 = x3 → w32 x4 = x4 → xS B xs SL (d + 0) 269 (8, (some .boolean), [], 13) 4 13 [(0, xa 536), (1, xi x1), (2, xi x2), (3, xi x3), (4, xi x4)] [] m (r13 x1 x2 x3 x4 m)) {r55 : Int → Int → Int → Int → Int → Int → Int → xw_M → xP} (hr55 : ∀ x1 x2 x3 x4 x5 x6 x7 m, w32 x1 = x1 → w32 x2 = x2 → w32 x3 = x3 → w32 x4 = x4 → w32 x5 = x5 → w32 x6 = x6 → w32 x7 = x7 → xS B xs SL (d + 0) 269 (8, (some .boolean), [], 13) 4 55 [(0, xa 536), (1, xi x1), (2, xi x2), (3, xi x3), (4, xi x4), (5, xi x5), (6, xi x6), (7, xi x7)] [] m (r55 x1 x2 x3 x4 x5 x6 x7 m)) : ∀ x1 x2 x3 x4 x5 x6 x7 m, w32 x1 = x1 → w32 x2 = x2 → w32 x3 = x3 → w32 x4 = x4 → w32 x5 = x5 → w32 x6 = x6 → w32 x7 = x7 → xS B xs SL (d + 0) 269 (8, (some .boolean), [], 13) 4 55 [(0, xa 536), (1, xi x1), (2, xi x2), (3, xi x3), (4, xi x4), (5, xi x5), (6, xi x6), (7, xi x7)] [] m (yl269_55 B r13 r55 x1 x2 x3 x4 x5 x6 x7 m) := by
  intro x1 x2 x3 x4 x5 x6 x7 m c1 c2 c3 c4 c5 c6 c7
  unfold yl269_55
  refine xS_g (fun g0 => ?_)
  refine xS_of (pc' := 63) (L' := [(0, xa 536), (1, xi x1), (2, xi x2), (3, xi x3), (4, xi x4), (5, xi x5), (6, xi x6), (7, xi x7)]) (st' := [xi (xR m 538 x1), xi x7]) (m' := m) (fun ex ns r q => ?_) ?_
  · refine xw_iload rfl rfl ?_
    refine xw_aload_n rfl rfl rfl ?_
    refine xw_gfR (n := 538) (e := 538) rfl (xw_obd (by decide +kernel)) (by decide +kernel) (by decide +kernel) rfl ?_
    refine xw_iload_n rfl rfl ?_
    refine xw_ialdc (n := 8) (v := (m 538 x1)) (v' := (xR m 538 x1)) rfl hB (xw_obd (by decide +kernel)) rfl g0 rfl rfl ?_
    exact q
  refine xS_if (fun h1 => ?_) (fun h1 => ?_)
  · refine xS_of (pc' := 68) (L' := [(0, xa 536), (1, xi x1), (2, xi x2), (3, xi x3), (4, xi x4), (5, xi x5), (6, xi x6), (7, xi x7)]) (st' := [xi x6]) (m' := m) (fun ex ns r q => ?_) ?_
    · refine xw_ic_geF rfl (w32_cg c7) (w32_cg (w32_xR _ _ _)) (Int.not_le.mpr h1) ?_
      refine xw_iload rfl rfl ?_
      exact q
    refine xS_if (fun h2 => ?_) (fun h2 => ?_)
    · refine xS_of (pc' := 95) (L' := [(0, xa 536), (1, xi x1), (2, xi x2), (3, xi x3), (4, xi x4), (5, xi x5), (6, xi x6), (7, xi x7)]) (st' := []) (m' := m) (fun ex ns r q => ?_) ?_
      · refine xw_if_eqT rfl (w32_cg c6) h2 ?_
        refine xw_lo (L2 := [(0, xa 536), (1, xi x1), (2, xi x2), (3, xi x3), (4, xi x4), (5, xi x5), (6, xi x6), (7, xi x7)]) (List.forall_mem_cons.mpr ⟨rfl, List.forall_mem_cons.mpr ⟨rfl, List.forall_mem_cons.mpr ⟨rfl, List.forall_mem_cons.mpr ⟨rfl, List.forall_mem_cons.mpr ⟨rfl, List.forall_mem_cons.mpr ⟨rfl, List.forall_mem_cons.mpr ⟨rfl, List.forall_mem_cons.mpr ⟨rfl, fun _ h => absurd h List.not_mem_nil⟩⟩⟩⟩⟩⟩⟩⟩) ?_
        exact q
      exact ygk269_95 hB hr13 hr55 _ _ _ _ _ _ _ _ c1 c2 c3 c4 c5 c6 c7
    · refine xS_g (fun g3 => ?_)
      refine xS_g (fun g4 => ?_)
      refine xS_of (pc' := 90) (L' := [(0, xa 536), (1, xi x1), (2, xi x2), (3, xi x3), (4, xi x4), (5, xi x5), (6, xi x6), (7, xi x7)]) (st' := [xi (xR m 540 (x3 + x7)), xi (xR m 540 (x5 + x7))]) (m' := m) (fun ex ns r q => ?_) ?_
      · refine xw_if_eqF rfl (w32_cg c6) h2 ?_
        refine xw_aload_n rfl rfl rfl ?_
        refine xw_gfR (n := 540) (e := 540) rfl (xw_obd (by decide +kernel)) (by decide +kernel) (by decide +kernel) rfl ?_
        refine xw_iload rfl rfl ?_
        refine xw_iload rfl rfl ?_
        refine xw_iadd rfl ?_
        refine xw_ialdc (n := 32000) (v := (m 540 (x5 + x7))) (v' := (xR m 540 (x5 + x7))) rfl hB (xw_obd (by decide +kernel)) rfl g3 rfl rfl ?_
        refine xw_aload_n rfl rfl rfl ?_
        refine xw_gfR (n := 540) (e := 540) rfl (xw_obd (by decide +kernel)) (by decide +kernel) (by decide +kernel) rfl ?_
        refine xw_iload_n rfl rfl ?_
        refine xw_iload rfl rfl ?_
        refine xw_iadd rfl ?_
        refine xw_ialdc (n := 32000) (v := (m 540 (x3 + x7))) (v' := (xR m 540 (x3 + x7))) rfl hB (xw_obd (by decide +kernel)) rfl g4 rfl rfl ?_
        exact q
      refine xS_if (fun h5 => ?_) (fun h5 => ?_)
      · refine xS_of (pc' := 95) (L' := [(0, xa 536), (1, xi x1), (2, xi x2), (3, xi x3), (4, xi x4), (5, xi x5), (6, xi x6), (7, xi x7)]) (st' := []) (m' := m) (fun ex ns r q => ?_) ?_
        · refine xw_ic_eqT rfl (w32_cg (w32_xR _ _ _)) (w32_cg (w32_xR _ _ _)) h5 ?_
          refine xw_lo (L2 := [(0, xa 536), (1, xi x1), (2, xi x2), (3, xi x3), (4, xi x4), (5, xi x5), (6, xi x6), (7, xi x7)]) (List.forall_mem_cons.mpr ⟨rfl, List.forall_mem_cons.mpr ⟨rfl, List.forall_mem_cons.mpr ⟨rfl, List.forall_mem_cons.mpr ⟨rfl, List.forall_mem_cons.mpr ⟨rfl, List.forall_mem_cons.mpr ⟨rfl, List.forall_mem_cons.mpr ⟨rfl, List.forall_mem_cons.mpr ⟨rfl, fun _ h => absurd h List.not_mem_nil⟩⟩⟩⟩⟩⟩⟩⟩) ?_
          exact q
        exact ygk269_95 hB hr13 hr55 _ _ _ _ _ _ _ _ c1 c2 c3 c4 c5 c6 c7
      · refine xS_of (pc' := 94) (L' := [(0, xa 536), (1, xi x1), (2, xi x2), (3, xi x3), (4, xi x4), (5, xi x5), (6, xi x6), (7, xi x7)]) (st' := [xi 0]) (m' := m) (fun ex ns r q => ?_) ?_
        · refine xw_ic_eqF rfl (w32_cg (w32_xR _ _ _)) (w32_cg (w32_xR _ _ _)) h5 ?_
          refine xw_iconst rfl ?_
          exact q
        exact xS_ret (v := 0) rfl rfl (xw_rtZ (Or.inl rfl)) (Or.inl rfl)
  · refine xS_of (pc' := 13) (L' := [(0, xa 536), (1, xi x1), (2, xi x2), (3, xi x3), (4, xi (w32 (x4 + 1)))]) (st' := []) (m' := m) (fun ex ns r q => ?_) ?_
    · refine xw_ic_geT rfl (w32_cg c7) (w32_cg (w32_xR _ _ _)) (Int.not_lt.mp h1) ?_
      refine xw_iincc (z := (w32 (x4 + 1))) (L' := [(4, xi (w32 (x4 + 1))), (0, xa 536), (1, xi x1), (2, xi x2), (3, xi x3), (5, xi x5), (6, xi x6), (7, xi x7)]) rfl rfl (by decide) rfl rfl ?_
      refine xw_goto rfl ?_
      refine xw_lo (L2 := [(0, xa 536), (1, xi x1), (2, xi x2), (3, xi x3), (4, xi (w32 (x4 + 1)))]) (List.forall_mem_cons.mpr ⟨rfl, List.forall_mem_cons.mpr ⟨rfl, List.forall_mem_cons.mpr ⟨rfl, List.forall_mem_cons.mpr ⟨rfl, List.forall_mem_cons.mpr ⟨rfl, fun _ h => absurd h List.not_mem_nil⟩⟩⟩⟩⟩) ?_
      exact q
    exact hr13 _ _ _ _ _ c1 c2 c3 (w32_w _)
theorem ygl269_55 {B : Nat} (hB : B ≤ 512) {xs : Nat → Int32} {SL d : Nat} {r13 : Int → Int → Int → Int → xw_M → xP} (hr13 : ∀ x1 x2 x3 x4 m, w32 x1 = x1 → w32 x2 = x2 → w32 x3 = x3 → w32 x4 = x4 → xS B xs SL (d + 0) 269 (8, (some .boolean), [], 13) 4 13 [(0, xa 536), (1, xi x1), (2, xi x2), (3, xi x3), (4, xi x4)] [] m (r13 x1 x2 x3 x4 m)) : ∀ n x1 x2 x3 x4 x5 x6 x7 m, w32 x1 = x1 → w32 x2 = x2 → w32 x3 = x3 → w32 x4 = x4 → w32 x5 = x5 → w32 x6 = x6 → w32 x7 = x7 → xS B xs SL (d + 0) 269 (8, (some .boolean), [], 13) 4 55 [(0, xa 536), (1, xi x1), (2, xi x2), (3, xi x3), (4, xi x4), (5, xi x5), (6, xi x6), (7, xi x7)] [] m (xl7 (yl269_55 B r13) n x1 x2 x3 x4 x5 x6 x7 m) := by
  intro n
  induction n with
  | zero => intro x1 x2 x3 x4 x5 x6 x7 m c1 c2 c3 c4 c5 c6 c7; exact xS_none
  | succ n ih => exact ysl269_55 hB hr13 ih
theorem ysl269_13 {B : Nat} (hB : B ≤ 512) {xs : Nat → Int32} {SL d : Nat} {r13 : Int → Int → Int → Int → xw_M → xP} (hr13 : ∀ x1 x2 x3 x4 m, w32 x1 = x1 → w32 x2 = x2 → w32 x3 = x3 → w32 x4 = x4 → xS B xs SL (d + 0) 269 (8, (some .boolean), [], 13) 4 13 [(0, xa 536), (1, xi x1), (2, xi x2), (3, xi x3), (4, xi x4)] [] m (r13 x1 x2 x3 x4 m)) : ∀ x1 x2 x3 x4 m, w32 x1 = x1 → w32 x2 = x2 → w32 x3 = x3 → w32 x4 = x4 → xS B xs SL (d + 0) 269 (8, (some .boolean), [], 13) 4 13 [(0, xa 536), (1, xi x1), (2, xi x2), (3, xi x3), (4, xi x4)] [] m (yl269_13 B r13 x1 x2 x3 x4 m) := by
  intro x1 x2 x3 x4 m c1 c2 c3 c4
  unfold yl269_13
  refine xS_of (pc' := 16) (L' := [(0, xa 536), (1, xi x1), (2, xi x2), (3, xi x3), (4, xi x4)]) (st' := [xi x2, xi x4]) (m' := m) (fun ex ns r q => ?_) ?_
  · refine xw_iload rfl rfl ?_
    refine xw_iload_n rfl rfl ?_
    exact q
  refine xS_if (fun h0 => ?_) (fun h0 => ?_)
  · refine xS_g (fun g1 => ?_)
    refine xS_g (fun g2 => ?_)
    refine xS_of (pc' := 44) (L' := [(5, xi (w32 ((4000 * x1) + (4 * x4)))), (0, xa 536), (1, xi x1), (2, xi x2), (3, xi x3), (4, xi x4)]) (st' := [xi (xR m 540 x3), xi (xR m 540 (w32 ((4000 * x1) + (4 * x4))))]) (m' := m) (fun ex ns r q => ?_) ?_
    · refine xw_ic_geF rfl (w32_cg c4) (w32_cg c2) (Int.not_le.mpr h0) ?_
      refine xw_sipush (e := 4000) rfl (by decide +kernel) ?_
      refine xw_iload_n rfl rfl ?_
      refine xw_imul rfl ?_
      refine xw_iconst rfl ?_
      refine xw_iload rfl rfl ?_
      refine xw_imul rfl ?_
      refine xw_iadd rfl ?_
      refine xw_cst (st' := [xi (w32 ((4000 * x1) + (4 * x4)))]) (xw_sc (xi_c rfl) rfl) ?_
      refine xw_istore (L' := [(5, xi (w32 ((4000 * x1) + (4 * x4)))), (0, xa 536), (1, xi x1), (2, xi x2), (3, xi x3), (4, xi x4)]) rfl (by decide) rfl ?_
      refine xw_aload_n rfl rfl rfl ?_
      refine xw_gfR (n := 540) (e := 540) rfl (xw_obd (by decide +kernel)) (by decide +kernel) (by decide +kernel) rfl ?_
      refine xw_iload rfl rfl ?_
      refine xw_ialdc (n := 32000) (v := (m 540 (w32 ((4000 * x1) + (4 * x4))))) (v' := (xR m 540 (w32 ((4000 * x1) + (4 * x4))))) rfl hB (xw_obd (by decide +kernel)) rfl g1 rfl rfl ?_
      refine xw_aload_n rfl rfl rfl ?_
      refine xw_gfR (n := 540) (e := 540) rfl (xw_obd (by decide +kernel)) (by decide +kernel) (by decide +kernel) rfl ?_
      refine xw_iload_n rfl rfl ?_
      refine xw_ialdc (n := 32000) (v := (m 540 x3)) (v' := (xR m 540 x3)) rfl hB (xw_obd (by decide +kernel)) rfl g2 rfl rfl ?_
      exact q
    refine xS_if (fun h3 => ?_) (fun h3 => ?_)
    · refine xS_of (pc' := 48) (L' := [(5, xi (w32 ((4000 * x1) + (4 * x4)))), (0, xa 536), (1, xi x1), (2, xi x2), (3, xi x3), (4, xi x4)]) (st' := [xi 0]) (m' := m) (fun ex ns r q => ?_) ?_
      · refine xw_ic_neF rfl (w32_cg (w32_xR _ _ _)) (w32_cg (w32_xR _ _ _)) h3 ?_
        refine xw_iconst rfl ?_
        exact q
      exact xS_ret (v := 0) rfl rfl (xw_rtZ (Or.inl rfl)) (Or.inl rfl)
    · refine xS_of (pc' := 55) (L' := [(0, xa 536), (1, xi x1), (2, xi x2), (3, xi x3), (4, xi x4), (5, xi (w32 ((4000 * x1) + (4 * x4)))), (6, xi 0), (7, xi 0)]) (st' := []) (m' := m) (fun ex ns r q => ?_) ?_
      · refine xw_ic_neT rfl (w32_cg (w32_xR _ _ _)) (w32_cg (w32_xR _ _ _)) h3 ?_
        refine xw_iconst rfl ?_
        refine xw_istore (L' := [(6, xi 0), (5, xi (w32 ((4000 * x1) + (4 * x4)))), (0, xa 536), (1, xi x1), (2, xi x2), (3, xi x3), (4, xi x4)]) rfl (by decide) rfl ?_
        refine xw_iconst rfl ?_
        refine xw_istore (L' := [(7, xi 0), (6, xi 0), (5, xi (w32 ((4000 * x1) + (4 * x4)))), (0, xa 536), (1, xi x1), (2, xi x2), (3, xi x3), (4, xi x4)]) rfl (by decide) rfl ?_
        refine xw_lo (L2 := [(0, xa 536), (1, xi x1), (2, xi x2), (3, xi x3), (4, xi x4), (5, xi (w32 ((4000 * x1) + (4 * x4)))), (6, xi 0), (7, xi 0)]) (List.forall_mem_cons.mpr ⟨rfl, List.forall_mem_cons.mpr ⟨rfl, List.forall_mem_cons.mpr ⟨rfl, List.forall_mem_cons.mpr ⟨rfl, List.forall_mem_cons.mpr ⟨rfl, List.forall_mem_cons.mpr ⟨rfl, List.forall_mem_cons.mpr ⟨rfl, List.forall_mem_cons.mpr ⟨rfl, fun _ h => absurd h List.not_mem_nil⟩⟩⟩⟩⟩⟩⟩⟩) ?_
        exact q
      exact ygl269_55 hB hr13 1000000 _ _ _ _ _ _ _ _ c1 c2 c3 c4 (w32_w _) rfl rfl
  · refine xS_of (pc' := 142) (L' := [(0, xa 536), (1, xi x1), (2, xi x2), (3, xi x3), (4, xi x4)]) (st' := [xi 1]) (m' := m) (fun ex ns r q => ?_) ?_
    · refine xw_ic_geT rfl (w32_cg c4) (w32_cg c2) (Int.not_lt.mp h0) ?_
      refine xw_iconst rfl ?_
      exact q
    exact xS_ret (v := 1) rfl rfl (xw_rtZ (Or.inr rfl)) (Or.inr rfl)
theorem ygl269_13 {B : Nat} (hB : B ≤ 512) {xs : Nat → Int32} {SL d : Nat} : ∀ n x1 x2 x3 x4 m, w32 x1 = x1 → w32 x2 = x2 → w32 x3 = x3 → w32 x4 = x4 → xS B xs SL (d + 0) 269 (8, (some .boolean), [], 13) 4 13 [(0, xa 536), (1, xi x1), (2, xi x2), (3, xi x3), (4, xi x4)] [] m (xl4 (yl269_13 B) n x1 x2 x3 x4 m) := by
  intro n
  induction n with
  | zero => intro x1 x2 x3 x4 m c1 c2 c3 c4; exact xS_none
  | succ n ih => exact ysl269_13 hB ih
theorem ygf269 {B : Nat} (hB : B ≤ 512) {xs : Nat → Int32} {SL d : Nat} : ∀ p0 p1 m, w32 p0 = p0 → w32 p1 = p1 → xS B xs SL (d + 0) 269 (8, (some .boolean), [], 13) 4 0 [(0, xa 536), (1, xi p0), (2, xi p1)] [] m (yf269 B p0 p1 m) := by
  intro p0 p1 m cp0 cp1
  unfold yf269
  refine xS_of (pc' := 13) (L' := [(0, xa 536), (1, xi p0), (2, xi p1), (3, xi (w32 ((4000 * p0) + (4 * p1)))), (4, xi 0)]) (st' := []) (m' := m) (fun ex ns r q => ?_) ?_
  · refine xw_sipush (e := 4000) rfl (by decide +kernel) ?_
    refine xw_iload_n rfl rfl ?_
    refine xw_imul rfl ?_
    refine xw_iconst rfl ?_
    refine xw_iload_n rfl rfl ?_
    refine xw_imul rfl ?_
    refine xw_iadd rfl ?_
    refine xw_cst (st' := [xi (w32 ((4000 * p0) + (4 * p1)))]) (xw_sc (xi_c rfl) rfl) ?_
    refine xw_istore_n (L' := [(3, xi (w32 ((4000 * p0) + (4 * p1)))), (0, xa 536), (1, xi p0), (2, xi p1)]) rfl (by decide) rfl ?_
    refine xw_iconst rfl ?_
    refine xw_istore (L' := [(4, xi 0), (3, xi (w32 ((4000 * p0) + (4 * p1)))), (0, xa 536), (1, xi p0), (2, xi p1)]) rfl (by decide) rfl ?_
    refine xw_lo (L2 := [(0, xa 536), (1, xi p0), (2, xi p1), (3, xi (w32 ((4000 * p0) + (4 * p1)))), (4, xi 0)]) (List.forall_mem_cons.mpr ⟨rfl, List.forall_mem_cons.mpr ⟨rfl, List.forall_mem_cons.mpr ⟨rfl, List.forall_mem_cons.mpr ⟨rfl, List.forall_mem_cons.mpr ⟨rfl, fun _ h => absurd h List.not_mem_nil⟩⟩⟩⟩⟩) ?_
    exact q
  exact ygl269_13 hB 1000000 _ _ _ _ _ cp0 cp1 (w32_w _) rfl
theorem ygk268_179 {B : Nat} (hB : B ≤ 512) {xs : Nat → Int32} {SL d : Nat} {r56 : Int → Int → Int → xw_M → xP} (hr56 : ∀ x1 x2 x3 m, w32 x1 = x1 → w32 x2 = x2 → w32 x3 = x3 → xS B xs SL (d + 4) 268 (8, none, [], 13) 0 56 [(0, xa 536), (1, xi x1), (2, xi x2), (3, xi x3)] [] m (r56 x1 x2 x3 m)) {r114 : Int → Int → Int → Int → Int → xw_M → xP} (hr114 : ∀ x1 x2 x5 x6 x7 m, w32 x1 = x1 → w32 x2 = x2 → w32 x5 = x5 → w32 x6 = x6 → w32 x7 = x7 → xS B xs SL (d + 4) 268 (8, none, [], 13) 0 114 [(0, xa 536), (1, xi x1), (2, xi x2), (5, xi x5), (6, xi x6), (7, xi x7)] [] m (r114 x1 x2 x5 x6 x7 m)) : ∀ x1 x2 x5 x6 m, w32 x1 = x1 → w32 x2 = x2 → w32 x5 = x5 → w32 x6 = x6 → xS B xs SL (d + 4) 268 (8, none, [], 13) 0 179 [(0, xa 536), (1, xi x1), (2, xi x2), (5, xi x5), (6, xi x6)] [] m (yk268_179 B r56 r114 x1 x2 x5 x6 m) := by
  intro x1 x2 x5 x6 m c1 c2 c5 c6
  unfold yk268_179
  refine xS_of (pc' := 183) (L' := [(0, xa 536), (1, xi x1), (2, xi x2), (5, xi x5), (6, xi (w32 (x6 + 1)))]) (st' := [xa 536]) (m' := m) (fun ex ns r q => ?_) ?_
  · refine xw_iincc (z := (w32 (x6 + 1))) (L' := [(6, xi (w32 (x6 + 1))), (0, xa 536), (1, xi x1), (2, xi x2), (5, xi x5)]) rfl rfl (by decide) rfl rfl ?_
    refine xw_aload_n rfl rfl rfl ?_
    refine xw_lo (L2 := [(0, xa 536), (1, xi x1), (2, xi x2), (5, xi x5), (6, xi (w32 (x6 + 1)))]) (List.forall_mem_cons.mpr ⟨rfl, List.forall_mem_cons.mpr ⟨rfl, List.forall_mem_cons.mpr ⟨rfl, List.forall_mem_cons.mpr ⟨rfl, List.forall_mem_cons.mpr ⟨rfl, fun _ h => absurd h List.not_mem_nil⟩⟩⟩⟩⟩) ?_
    exact q
  refine xS_call (q := 248) (n := 1) (kq := 0) (as := [xa 536]) (st1 := []) rfl rfl rfl rfl rfl rfl rfl rfl rfl rfl (fun _ => xw_rcv1 (t := 12) (xw_obd (by decide +kernel)) rfl) rfl (List.forall_mem_cons.mpr ⟨rfl, fun _ h => absurd h List.not_mem_nil⟩) (ygf248 hB _) (fun v1 m1 cv1 => ?_)
  refine xS_of (pc' := 190) (L' := [(0, xa 536), (1, xi x1), (2, xi x2), (5, xi x5), (6, xi (w32 (x6 + 1)))]) (st' := [xi 44, xa 536, xa 536]) (m' := m1) (fun ex ns r q => ?_) ?_
  · refine xw_aload_n rfl rfl rfl ?_
    refine xw_aload_n rfl rfl rfl ?_
    refine xw_bipush (e := 44) rfl (by decide +kernel) ?_
    refine xw_lo (L2 := [(0, xa 536), (1, xi x1), (2, xi x2), (5, xi x5), (6, xi (w32 (x6 + 1)))]) (List.forall_mem_cons.mpr ⟨rfl, List.forall_mem_cons.mpr ⟨rfl, List.forall_mem_cons.mpr ⟨rfl, List.forall_mem_cons.mpr ⟨rfl, List.forall_mem_cons.mpr ⟨rfl, fun _ h => absurd h List.not_mem_nil⟩⟩⟩⟩⟩) ?_
    exact q
  refine xS_call (q := 266) (n := 2) (kq := 4) (as := [xa 536, xi 44]) (st1 := [xa 536]) rfl rfl rfl rfl rfl rfl rfl rfl rfl rfl (fun _ => xw_rcv1 (t := 12) (xw_obd (by decide +kernel)) rfl) rfl (List.forall_mem_cons.mpr ⟨rfl, List.forall_mem_cons.mpr ⟨rfl, fun _ h => absurd h List.not_mem_nil⟩⟩) (ygf266 hB _ _ rfl) (fun v2 m2 cv2 => ?_)
  refine xS_if (fun h0 => ?_) (fun h0 => ?_)
  · refine xS_of (pc' := 199) (L' := [(0, xa 536), (1, xi x1), (2, xi x2), (5, xi x5), (6, xi (w32 (x6 + 1)))]) (st' := [xi 41, xa 536, xa 536]) (m' := m2) (fun ex ns r q => ?_) ?_
    · refine xw_if_neF rfl (w32_cg (w32_of (xw_zr cv2))) h0 ?_
      refine xw_aload_n rfl rfl rfl ?_
      refine xw_bipush (e := 41) rfl (by decide +kernel) ?_
      refine xw_lo (L2 := [(0, xa 536), (1, xi x1), (2, xi x2), (5, xi x5), (6, xi (w32 (x6 + 1)))]) (List.forall_mem_cons.mpr ⟨rfl, List.forall_mem_cons.mpr ⟨rfl, List.forall_mem_cons.mpr ⟨rfl, List.forall_mem_cons.mpr ⟨rfl, List.forall_mem_cons.mpr ⟨rfl, fun _ h => absurd h List.not_mem_nil⟩⟩⟩⟩⟩) ?_
      exact q
    refine xS_call (q := 266) (n := 2) (kq := 4) (as := [xa 536, xi 41]) (st1 := [xa 536]) rfl rfl rfl rfl rfl rfl rfl rfl rfl rfl (fun _ => xw_rcv1 (t := 12) (xw_obd (by decide +kernel)) rfl) rfl (List.forall_mem_cons.mpr ⟨rfl, List.forall_mem_cons.mpr ⟨rfl, fun _ h => absurd h List.not_mem_nil⟩⟩) (ygf266 hB _ _ rfl) (fun v3 m3 cv3 => ?_)
    refine xS_if (fun h1 => ?_) (fun h1 => ?_)
    · refine xS_of (pc' := 210) (L' := [(0, xa 536), (1, xi x1), (2, xi x2), (5, xi x5), (6, xi (w32 (x6 + 1)))]) (st' := [xi 0, xa 536]) (m' := m3) (fun ex ns r q => ?_) ?_
      · refine xw_if_eqT rfl (w32_cg (w32_of (xw_zr cv3))) h1 ?_
        refine xw_iconst rfl ?_
        refine xw_lo (L2 := [(0, xa 536), (1, xi x1), (2, xi x2), (5, xi x5), (6, xi (w32 (x6 + 1)))]) (List.forall_mem_cons.mpr ⟨rfl, List.forall_mem_cons.mpr ⟨rfl, List.forall_mem_cons.mpr ⟨rfl, List.forall_mem_cons.mpr ⟨rfl, List.forall_mem_cons.mpr ⟨rfl, fun _ h => absurd h List.not_mem_nil⟩⟩⟩⟩⟩) ?_
        exact q
      refine xS_call (q := 258) (n := 2) (kq := 4) (as := [xa 536, xi 0]) (st1 := []) rfl rfl rfl rfl rfl rfl rfl rfl rfl rfl (fun _ => xw_rcv1 (t := 12) (xw_obd (by decide +kernel)) rfl) rfl (List.forall_mem_cons.mpr ⟨rfl, List.forall_mem_cons.mpr ⟨rfl, fun _ h => absurd h List.not_mem_nil⟩⟩) (ygf258 hB _ _ rfl) (fun v4 m4 cv4 => ?_)
      refine xS_if (fun h2 => ?_) (fun h2 => ?_)
      · refine xS_of (pc' := 114) (L' := [(0, xa 536), (1, xi x1), (2, xi x2), (5, xi x5), (6, xi (w32 (x6 + 1))), (7, xi 0)]) (st' := []) (m' := m4) (fun ex ns r q => ?_) ?_
        · refine xw_if_eqT rfl (w32_cg (w32_of (xw_zr cv4))) h2 ?_
          refine xw_iconst rfl ?_
          refine xw_istore (L' := [(7, xi 0), (0, xa 536), (1, xi x1), (2, xi x2), (5, xi x5), (6, xi (w32 (x6 + 1)))]) rfl (by decide) rfl ?_
          refine xw_goto rfl ?_
          refine xw_lo (L2 := [(0, xa 536), (1, xi x1), (2, xi x2), (5, xi x5), (6, xi (w32 (x6 + 1))), (7, xi 0)]) (List.forall_mem_cons.mpr ⟨rfl, List.forall_mem_cons.mpr ⟨rfl, List.forall_mem_cons.mpr ⟨rfl, List.forall_mem_cons.mpr ⟨rfl, List.forall_mem_cons.mpr ⟨rfl, List.forall_mem_cons.mpr ⟨rfl, fun _ h => absurd h List.not_mem_nil⟩⟩⟩⟩⟩⟩) ?_
          exact q
        exact hr114 _ _ _ _ _ _ c1 c2 c5 (w32_w _) rfl
      · refine xS_of (pc' := 219) (L' := [(0, xa 536), (1, xi x1), (2, xi x2), (5, xi x5), (6, xi (w32 (x6 + 1)))]) (st' := [xi 44, xa 536]) (m' := m4) (fun ex ns r q => ?_) ?_
        · refine xw_if_eqF rfl (w32_cg (w32_of (xw_zr cv4))) h2 ?_
          refine xw_aload_n rfl rfl rfl ?_
          refine xw_bipush (e := 44) rfl (by decide +kernel) ?_
          refine xw_lo (L2 := [(0, xa 536), (1, xi x1), (2, xi x2), (5, xi x5), (6, xi (w32 (x6 + 1)))]) (List.forall_mem_cons.mpr ⟨rfl, List.forall_mem_cons.mpr ⟨rfl, List.forall_mem_cons.mpr ⟨rfl, List.forall_mem_cons.mpr ⟨rfl, List.forall_mem_cons.mpr ⟨rfl, fun _ h => absurd h List.not_mem_nil⟩⟩⟩⟩⟩) ?_
          exact q
        refine xS_call (q := 266) (n := 2) (kq := 4) (as := [xa 536, xi 44]) (st1 := []) rfl rfl rfl rfl rfl rfl rfl rfl rfl rfl (fun _ => xw_rcv1 (t := 12) (xw_obd (by decide +kernel)) rfl) rfl (List.forall_mem_cons.mpr ⟨rfl, List.forall_mem_cons.mpr ⟨rfl, fun _ h => absurd h List.not_mem_nil⟩⟩) (ygf266 hB _ _ rfl) (fun v5 m5 cv5 => ?_)
        refine xS_if (fun h3 => ?_) (fun h3 => ?_)
        · refine xS_of (pc' := 114) (L' := [(0, xa 536), (1, xi x1), (2, xi x2), (5, xi x5), (6, xi (w32 (x6 + 1))), (7, xi 0)]) (st' := []) (m' := m5) (fun ex ns r q => ?_) ?_
          · refine xw_if_eqT rfl (w32_cg (w32_of (xw_zr cv5))) h3 ?_
            refine xw_iconst rfl ?_
            refine xw_istore (L' := [(7, xi 0), (0, xa 536), (1, xi x1), (2, xi x2), (5, xi x5), (6, xi (w32 (x6 + 1)))]) rfl (by decide) rfl ?_
            refine xw_goto rfl ?_
            refine xw_lo (L2 := [(0, xa 536), (1, xi x1), (2, xi x2), (5, xi x5), (6, xi (w32 (x6 + 1))), (7, xi 0)]) (List.forall_mem_cons.mpr ⟨rfl, List.forall_mem_cons.mpr ⟨rfl, List.forall_mem_cons.mpr ⟨rfl, List.forall_mem_cons.mpr ⟨rfl, List.forall_mem_cons.mpr ⟨rfl, List.forall_mem_cons.mpr ⟨rfl, fun _ h => absurd h List.not_mem_nil⟩⟩⟩⟩⟩⟩) ?_
            exact q
          exact hr114 _ _ _ _ _ _ c1 c2 c5 (w32_w _) rfl
        · refine xS_of (pc' := 114) (L' := [(0, xa 536), (1, xi x1), (2, xi x2), (5, xi x5), (6, xi (w32 (x6 + 1))), (7, xi 1)]) (st' := []) (m' := m5) (fun ex ns r q => ?_) ?_
          · refine xw_if_eqF rfl (w32_cg (w32_of (xw_zr cv5))) h3 ?_
            refine xw_iconst rfl ?_
            refine xw_goto rfl ?_
            refine xw_istore (L' := [(7, xi 1), (0, xa 536), (1, xi x1), (2, xi x2), (5, xi x5), (6, xi (w32 (x6 + 1)))]) rfl (by decide) rfl ?_
            refine xw_goto rfl ?_
            refine xw_lo (L2 := [(0, xa 536), (1, xi x1), (2, xi x2), (5, xi x5), (6, xi (w32 (x6 + 1))), (7, xi 1)]) (List.forall_mem_cons.mpr ⟨rfl, List.forall_mem_cons.mpr ⟨rfl, List.forall_mem_cons.mpr ⟨rfl, List.forall_mem_cons.mpr ⟨rfl, List.forall_mem_cons.mpr ⟨rfl, List.forall_mem_cons.mpr ⟨rfl, fun _ h => absurd h List.not_mem_nil⟩⟩⟩⟩⟩⟩) ?_
            exact q
          exact hr114 _ _ _ _ _ _ c1 c2 c5 (w32_w _) rfl
    · refine xS_of (pc' := 210) (L' := [(0, xa 536), (1, xi x1), (2, xi x2), (5, xi x5), (6, xi (w32 (x6 + 1)))]) (st' := [xi 1, xa 536]) (m' := m3) (fun ex ns r q => ?_) ?_
      · refine xw_if_eqF rfl (w32_cg (w32_of (xw_zr cv3))) h1 ?_
        refine xw_iconst rfl ?_
        refine xw_goto rfl ?_
        refine xw_lo (L2 := [(0, xa 536), (1, xi x1), (2, xi x2), (5, xi x5), (6, xi (w32 (x6 + 1)))]) (List.forall_mem_cons.mpr ⟨rfl, List.forall_mem_cons.mpr ⟨rfl, List.forall_mem_cons.mpr ⟨rfl, List.forall_mem_cons.mpr ⟨rfl, List.forall_mem_cons.mpr ⟨rfl, fun _ h => absurd h List.not_mem_nil⟩⟩⟩⟩⟩) ?_
        exact q
      refine xS_call (q := 258) (n := 2) (kq := 4) (as := [xa 536, xi 1]) (st1 := []) rfl rfl rfl rfl rfl rfl rfl rfl rfl rfl (fun _ => xw_rcv1 (t := 12) (xw_obd (by decide +kernel)) rfl) rfl (List.forall_mem_cons.mpr ⟨rfl, List.forall_mem_cons.mpr ⟨rfl, fun _ h => absurd h List.not_mem_nil⟩⟩) (ygf258 hB _ _ rfl) (fun v6 m6 cv6 => ?_)
      refine xS_if (fun h2 => ?_) (fun h2 => ?_)
      · refine xS_of (pc' := 114) (L' := [(0, xa 536), (1, xi x1), (2, xi x2), (5, xi x5), (6, xi (w32 (x6 + 1))), (7, xi 0)]) (st' := []) (m' := m6) (fun ex ns r q => ?_) ?_
        · refine xw_if_eqT rfl (w32_cg (w32_of (xw_zr cv6))) h2 ?_
          refine xw_iconst rfl ?_
          refine xw_istore (L' := [(7, xi 0), (0, xa 536), (1, xi x1), (2, xi x2), (5, xi x5), (6, xi (w32 (x6 + 1)))]) rfl (by decide) rfl ?_
          refine xw_goto rfl ?_
          refine xw_lo (L2 := [(0, xa 536), (1, xi x1), (2, xi x2), (5, xi x5), (6, xi (w32 (x6 + 1))), (7, xi 0)]) (List.forall_mem_cons.mpr ⟨rfl, List.forall_mem_cons.mpr ⟨rfl, List.forall_mem_cons.mpr ⟨rfl, List.forall_mem_cons.mpr ⟨rfl, List.forall_mem_cons.mpr ⟨rfl, List.forall_mem_cons.mpr ⟨rfl, fun _ h => absurd h List.not_mem_nil⟩⟩⟩⟩⟩⟩) ?_
          exact q
        exact hr114 _ _ _ _ _ _ c1 c2 c5 (w32_w _) rfl
      · refine xS_of (pc' := 219) (L' := [(0, xa 536), (1, xi x1), (2, xi x2), (5, xi x5), (6, xi (w32 (x6 + 1)))]) (st' := [xi 44, xa 536]) (m' := m6) (fun ex ns r q => ?_) ?_
        · refine xw_if_eqF rfl (w32_cg (w32_of (xw_zr cv6))) h2 ?_
          refine xw_aload_n rfl rfl rfl ?_
          refine xw_bipush (e := 44) rfl (by decide +kernel) ?_
          refine xw_lo (L2 := [(0, xa 536), (1, xi x1), (2, xi x2), (5, xi x5), (6, xi (w32 (x6 + 1)))]) (List.forall_mem_cons.mpr ⟨rfl, List.forall_mem_cons.mpr ⟨rfl, List.forall_mem_cons.mpr ⟨rfl, List.forall_mem_cons.mpr ⟨rfl, List.forall_mem_cons.mpr ⟨rfl, fun _ h => absurd h List.not_mem_nil⟩⟩⟩⟩⟩) ?_
          exact q
        refine xS_call (q := 266) (n := 2) (kq := 4) (as := [xa 536, xi 44]) (st1 := []) rfl rfl rfl rfl rfl rfl rfl rfl rfl rfl (fun _ => xw_rcv1 (t := 12) (xw_obd (by decide +kernel)) rfl) rfl (List.forall_mem_cons.mpr ⟨rfl, List.forall_mem_cons.mpr ⟨rfl, fun _ h => absurd h List.not_mem_nil⟩⟩) (ygf266 hB _ _ rfl) (fun v7 m7 cv7 => ?_)
        refine xS_if (fun h3 => ?_) (fun h3 => ?_)
        · refine xS_of (pc' := 114) (L' := [(0, xa 536), (1, xi x1), (2, xi x2), (5, xi x5), (6, xi (w32 (x6 + 1))), (7, xi 0)]) (st' := []) (m' := m7) (fun ex ns r q => ?_) ?_
          · refine xw_if_eqT rfl (w32_cg (w32_of (xw_zr cv7))) h3 ?_
            refine xw_iconst rfl ?_
            refine xw_istore (L' := [(7, xi 0), (0, xa 536), (1, xi x1), (2, xi x2), (5, xi x5), (6, xi (w32 (x6 + 1)))]) rfl (by decide) rfl ?_
            refine xw_goto rfl ?_
            refine xw_lo (L2 := [(0, xa 536), (1, xi x1), (2, xi x2), (5, xi x5), (6, xi (w32 (x6 + 1))), (7, xi 0)]) (List.forall_mem_cons.mpr ⟨rfl, List.forall_mem_cons.mpr ⟨rfl, List.forall_mem_cons.mpr ⟨rfl, List.forall_mem_cons.mpr ⟨rfl, List.forall_mem_cons.mpr ⟨rfl, List.forall_mem_cons.mpr ⟨rfl, fun _ h => absurd h List.not_mem_nil⟩⟩⟩⟩⟩⟩) ?_
            exact q
          exact hr114 _ _ _ _ _ _ c1 c2 c5 (w32_w _) rfl
        · refine xS_of (pc' := 114) (L' := [(0, xa 536), (1, xi x1), (2, xi x2), (5, xi x5), (6, xi (w32 (x6 + 1))), (7, xi 1)]) (st' := []) (m' := m7) (fun ex ns r q => ?_) ?_
          · refine xw_if_eqF rfl (w32_cg (w32_of (xw_zr cv7))) h3 ?_
            refine xw_iconst rfl ?_
            refine xw_goto rfl ?_
            refine xw_istore (L' := [(7, xi 1), (0, xa 536), (1, xi x1), (2, xi x2), (5, xi x5), (6, xi (w32 (x6 + 1)))]) rfl (by decide) rfl ?_
            refine xw_goto rfl ?_
            refine xw_lo (L2 := [(0, xa 536), (1, xi x1), (2, xi x2), (5, xi x5), (6, xi (w32 (x6 + 1))), (7, xi 1)]) (List.forall_mem_cons.mpr ⟨rfl, List.forall_mem_cons.mpr ⟨rfl, List.forall_mem_cons.mpr ⟨rfl, List.forall_mem_cons.mpr ⟨rfl, List.forall_mem_cons.mpr ⟨rfl, List.forall_mem_cons.mpr ⟨rfl, fun _ h => absurd h List.not_mem_nil⟩⟩⟩⟩⟩⟩) ?_
            exact q
          exact hr114 _ _ _ _ _ _ c1 c2 c5 (w32_w _) rfl
  · refine xS_of (pc' := 210) (L' := [(0, xa 536), (1, xi x1), (2, xi x2), (5, xi x5), (6, xi (w32 (x6 + 1)))]) (st' := [xi 1, xa 536]) (m' := m2) (fun ex ns r q => ?_) ?_
    · refine xw_if_neT rfl (w32_cg (w32_of (xw_zr cv2))) h0 ?_
      refine xw_iconst rfl ?_
      refine xw_goto rfl ?_
      refine xw_lo (L2 := [(0, xa 536), (1, xi x1), (2, xi x2), (5, xi x5), (6, xi (w32 (x6 + 1)))]) (List.forall_mem_cons.mpr ⟨rfl, List.forall_mem_cons.mpr ⟨rfl, List.forall_mem_cons.mpr ⟨rfl, List.forall_mem_cons.mpr ⟨rfl, List.forall_mem_cons.mpr ⟨rfl, fun _ h => absurd h List.not_mem_nil⟩⟩⟩⟩⟩) ?_
      exact q
    refine xS_call (q := 258) (n := 2) (kq := 4) (as := [xa 536, xi 1]) (st1 := []) rfl rfl rfl rfl rfl rfl rfl rfl rfl rfl (fun _ => xw_rcv1 (t := 12) (xw_obd (by decide +kernel)) rfl) rfl (List.forall_mem_cons.mpr ⟨rfl, List.forall_mem_cons.mpr ⟨rfl, fun _ h => absurd h List.not_mem_nil⟩⟩) (ygf258 hB _ _ rfl) (fun v8 m8 cv8 => ?_)
    refine xS_if (fun h1 => ?_) (fun h1 => ?_)
    · refine xS_of (pc' := 114) (L' := [(0, xa 536), (1, xi x1), (2, xi x2), (5, xi x5), (6, xi (w32 (x6 + 1))), (7, xi 0)]) (st' := []) (m' := m8) (fun ex ns r q => ?_) ?_
      · refine xw_if_eqT rfl (w32_cg (w32_of (xw_zr cv8))) h1 ?_
        refine xw_iconst rfl ?_
        refine xw_istore (L' := [(7, xi 0), (0, xa 536), (1, xi x1), (2, xi x2), (5, xi x5), (6, xi (w32 (x6 + 1)))]) rfl (by decide) rfl ?_
        refine xw_goto rfl ?_
        refine xw_lo (L2 := [(0, xa 536), (1, xi x1), (2, xi x2), (5, xi x5), (6, xi (w32 (x6 + 1))), (7, xi 0)]) (List.forall_mem_cons.mpr ⟨rfl, List.forall_mem_cons.mpr ⟨rfl, List.forall_mem_cons.mpr ⟨rfl, List.forall_mem_cons.mpr ⟨rfl, List.forall_mem_cons.mpr ⟨rfl, List.forall_mem_cons.mpr ⟨rfl, fun _ h => absurd h List.not_mem_nil⟩⟩⟩⟩⟩⟩) ?_
        exact q
      exact hr114 _ _ _ _ _ _ c1 c2 c5 (w32_w _) rfl
    · refine xS_of (pc' := 219) (L' := [(0, xa 536), (1, xi x1), (2, xi x2), (5, xi x5), (6, xi (w32 (x6 + 1)))]) (st' := [xi 44, xa 536]) (m' := m8) (fun ex ns r q => ?_) ?_
      · refine xw_if_eqF rfl (w32_cg (w32_of (xw_zr cv8))) h1 ?_
        refine xw_aload_n rfl rfl rfl ?_
        refine xw_bipush (e := 44) rfl (by decide +kernel) ?_
        refine xw_lo (L2 := [(0, xa 536), (1, xi x1), (2, xi x2), (5, xi x5), (6, xi (w32 (x6 + 1)))]) (List.forall_mem_cons.mpr ⟨rfl, List.forall_mem_cons.mpr ⟨rfl, List.forall_mem_cons.mpr ⟨rfl, List.forall_mem_cons.mpr ⟨rfl, List.forall_mem_cons.mpr ⟨rfl, fun _ h => absurd h List.not_mem_nil⟩⟩⟩⟩⟩) ?_
        exact q
      refine xS_call (q := 266) (n := 2) (kq := 4) (as := [xa 536, xi 44]) (st1 := []) rfl rfl rfl rfl rfl rfl rfl rfl rfl rfl (fun _ => xw_rcv1 (t := 12) (xw_obd (by decide +kernel)) rfl) rfl (List.forall_mem_cons.mpr ⟨rfl, List.forall_mem_cons.mpr ⟨rfl, fun _ h => absurd h List.not_mem_nil⟩⟩) (ygf266 hB _ _ rfl) (fun v9 m9 cv9 => ?_)
      refine xS_if (fun h2 => ?_) (fun h2 => ?_)
      · refine xS_of (pc' := 114) (L' := [(0, xa 536), (1, xi x1), (2, xi x2), (5, xi x5), (6, xi (w32 (x6 + 1))), (7, xi 0)]) (st' := []) (m' := m9) (fun ex ns r q => ?_) ?_
        · refine xw_if_eqT rfl (w32_cg (w32_of (xw_zr cv9))) h2 ?_
          refine xw_iconst rfl ?_
          refine xw_istore (L' := [(7, xi 0), (0, xa 536), (1, xi x1), (2, xi x2), (5, xi x5), (6, xi (w32 (x6 + 1)))]) rfl (by decide) rfl ?_
          refine xw_goto rfl ?_
          refine xw_lo (L2 := [(0, xa 536), (1, xi x1), (2, xi x2), (5, xi x5), (6, xi (w32 (x6 + 1))), (7, xi 0)]) (List.forall_mem_cons.mpr ⟨rfl, List.forall_mem_cons.mpr ⟨rfl, List.forall_mem_cons.mpr ⟨rfl, List.forall_mem_cons.mpr ⟨rfl, List.forall_mem_cons.mpr ⟨rfl, List.forall_mem_cons.mpr ⟨rfl, fun _ h => absurd h List.not_mem_nil⟩⟩⟩⟩⟩⟩) ?_
          exact q
        exact hr114 _ _ _ _ _ _ c1 c2 c5 (w32_w _) rfl
      · refine xS_of (pc' := 114) (L' := [(0, xa 536), (1, xi x1), (2, xi x2), (5, xi x5), (6, xi (w32 (x6 + 1))), (7, xi 1)]) (st' := []) (m' := m9) (fun ex ns r q => ?_) ?_
        · refine xw_if_eqF rfl (w32_cg (w32_of (xw_zr cv9))) h2 ?_
          refine xw_iconst rfl ?_
          refine xw_goto rfl ?_
          refine xw_istore (L' := [(7, xi 1), (0, xa 536), (1, xi x1), (2, xi x2), (5, xi x5), (6, xi (w32 (x6 + 1)))]) rfl (by decide) rfl ?_
          refine xw_goto rfl ?_
          refine xw_lo (L2 := [(0, xa 536), (1, xi x1), (2, xi x2), (5, xi x5), (6, xi (w32 (x6 + 1))), (7, xi 1)]) (List.forall_mem_cons.mpr ⟨rfl, List.forall_mem_cons.mpr ⟨rfl, List.forall_mem_cons.mpr ⟨rfl, List.forall_mem_cons.mpr ⟨rfl, List.forall_mem_cons.mpr ⟨rfl, List.forall_mem_cons.mpr ⟨rfl, fun _ h => absurd h List.not_mem_nil⟩⟩⟩⟩⟩⟩) ?_
          exact q
        exact hr114 _ _ _ _ _ _ c1 c2 c5 (w32_w _) rfl
theorem ygk268_293 {B : Nat} (hB : B ≤ 512) {xs : Nat → Int32} {SL d : Nat} {r56 : Int → Int → Int → xw_M → xP} (hr56 : ∀ x1 x2 x3 m, w32 x1 = x1 → w32 x2 = x2 → w32 x3 = x3 → xS B xs SL (d + 4) 268 (8, none, [], 13) 0 56 [(0, xa 536), (1, xi x1), (2, xi x2), (3, xi x3)] [] m (r56 x1 x2 x3 m)) : ∀ x1 x2 m, w32 x1 = x1 → w32 x2 = x2 → xS B xs SL (d + 4) 268 (8, none, [], 13) 0 293 [(0, xa 536), (1, xi x1), (2, xi x2)] [] m (yk268_293 B r56 x1 x2 m) := by
  intro x1 x2 m c1 c2
  unfold yk268_293
  refine xS_of (pc' := 297) (L' := [(0, xa 536), (1, xi x1), (2, xi (w32 (x2 + 1)))]) (st' := [xa 536]) (m' := m) (fun ex ns r q => ?_) ?_
  · refine xw_iincc (z := (w32 (x2 + 1))) (L' := [(2, xi (w32 (x2 + 1))), (0, xa 536), (1, xi x1)]) rfl rfl (by decide) rfl rfl ?_
    refine xw_aload_n rfl rfl rfl ?_
    refine xw_lo (L2 := [(0, xa 536), (1, xi x1), (2, xi (w32 (x2 + 1)))]) (List.forall_mem_cons.mpr ⟨rfl, List.forall_mem_cons.mpr ⟨rfl, List.forall_mem_cons.mpr ⟨rfl, fun _ h => absurd h List.not_mem_nil⟩⟩⟩) ?_
    exact q
  refine xS_call (q := 248) (n := 1) (kq := 0) (as := [xa 536]) (st1 := []) rfl rfl rfl rfl rfl rfl rfl rfl rfl rfl (fun _ => xw_rcv1 (t := 12) (xw_obd (by decide +kernel)) rfl) rfl (List.forall_mem_cons.mpr ⟨rfl, fun _ h => absurd h List.not_mem_nil⟩) (ygf248 hB _) (fun v1 m1 cv1 => ?_)
  refine xS_of (pc' := 304) (L' := [(0, xa 536), (1, xi x1), (2, xi (w32 (x2 + 1)))]) (st' := [xi 44, xa 536, xa 536]) (m' := m1) (fun ex ns r q => ?_) ?_
  · refine xw_aload_n rfl rfl rfl ?_
    refine xw_aload_n rfl rfl rfl ?_
    refine xw_bipush (e := 44) rfl (by decide +kernel) ?_
    refine xw_lo (L2 := [(0, xa 536), (1, xi x1), (2, xi (w32 (x2 + 1)))]) (List.forall_mem_cons.mpr ⟨rfl, List.forall_mem_cons.mpr ⟨rfl, List.forall_mem_cons.mpr ⟨rfl, fun _ h => absurd h List.not_mem_nil⟩⟩⟩) ?_
    exact q
  refine xS_call (q := 266) (n := 2) (kq := 4) (as := [xa 536, xi 44]) (st1 := [xa 536]) rfl rfl rfl rfl rfl rfl rfl rfl rfl rfl (fun _ => xw_rcv1 (t := 12) (xw_obd (by decide +kernel)) rfl) rfl (List.forall_mem_cons.mpr ⟨rfl, List.forall_mem_cons.mpr ⟨rfl, fun _ h => absurd h List.not_mem_nil⟩⟩) (ygf266 hB _ _ rfl) (fun v2 m2 cv2 => ?_)
  refine xS_if (fun h0 => ?_) (fun h0 => ?_)
  · refine xS_of (pc' := 313) (L' := [(0, xa 536), (1, xi x1), (2, xi (w32 (x2 + 1)))]) (st' := [xi 59, xa 536, xa 536]) (m' := m2) (fun ex ns r q => ?_) ?_
    · refine xw_if_neF rfl (w32_cg (w32_of (xw_zr cv2))) h0 ?_
      refine xw_aload_n rfl rfl rfl ?_
      refine xw_bipush (e := 59) rfl (by decide +kernel) ?_
      refine xw_lo (L2 := [(0, xa 536), (1, xi x1), (2, xi (w32 (x2 + 1)))]) (List.forall_mem_cons.mpr ⟨rfl, List.forall_mem_cons.mpr ⟨rfl, List.forall_mem_cons.mpr ⟨rfl, fun _ h => absurd h List.not_mem_nil⟩⟩⟩) ?_
      exact q
    refine xS_call (q := 266) (n := 2) (kq := 4) (as := [xa 536, xi 59]) (st1 := [xa 536]) rfl rfl rfl rfl rfl rfl rfl rfl rfl rfl (fun _ => xw_rcv1 (t := 12) (xw_obd (by decide +kernel)) rfl) rfl (List.forall_mem_cons.mpr ⟨rfl, List.forall_mem_cons.mpr ⟨rfl, fun _ h => absurd h List.not_mem_nil⟩⟩) (ygf266 hB _ _ rfl) (fun v3 m3 cv3 => ?_)
    refine xS_if (fun h1 => ?_) (fun h1 => ?_)
    · refine xS_of (pc' := 324) (L' := [(0, xa 536), (1, xi x1), (2, xi (w32 (x2 + 1)))]) (st' := [xi 0, xa 536]) (m' := m3) (fun ex ns r q => ?_) ?_
      · refine xw_if_eqT rfl (w32_cg (w32_of (xw_zr cv3))) h1 ?_
        refine xw_iconst rfl ?_
        refine xw_lo (L2 := [(0, xa 536), (1, xi x1), (2, xi (w32 (x2 + 1)))]) (List.forall_mem_cons.mpr ⟨rfl, List.forall_mem_cons.mpr ⟨rfl, List.forall_mem_cons.mpr ⟨rfl, fun _ h => absurd h List.not_mem_nil⟩⟩⟩) ?_
        exact q
      refine xS_call (q := 258) (n := 2) (kq := 4) (as := [xa 536, xi 0]) (st1 := []) rfl rfl rfl rfl rfl rfl rfl rfl rfl rfl (fun _ => xw_rcv1 (t := 12) (xw_obd (by decide +kernel)) rfl) rfl (List.forall_mem_cons.mpr ⟨rfl, List.forall_mem_cons.mpr ⟨rfl, fun _ h => absurd h List.not_mem_nil⟩⟩) (ygf258 hB _ _ rfl) (fun v4 m4 cv4 => ?_)
      refine xS_if (fun h2 => ?_) (fun h2 => ?_)
      · refine xS_of (pc' := 56) (L' := [(0, xa 536), (1, xi x1), (2, xi (w32 (x2 + 1))), (3, xi 0)]) (st' := []) (m' := m4) (fun ex ns r q => ?_) ?_
        · refine xw_if_eqT rfl (w32_cg (w32_of (xw_zr cv4))) h2 ?_
          refine xw_iconst rfl ?_
          refine xw_istore_n (L' := [(3, xi 0), (0, xa 536), (1, xi x1), (2, xi (w32 (x2 + 1)))]) rfl (by decide) rfl ?_
          refine xw_goto rfl ?_
          refine xw_lo (L2 := [(0, xa 536), (1, xi x1), (2, xi (w32 (x2 + 1))), (3, xi 0)]) (List.forall_mem_cons.mpr ⟨rfl, List.forall_mem_cons.mpr ⟨rfl, List.forall_mem_cons.mpr ⟨rfl, List.forall_mem_cons.mpr ⟨rfl, fun _ h => absurd h List.not_mem_nil⟩⟩⟩⟩) ?_
          exact q
        exact hr56 _ _ _ _ c1 (w32_w _) rfl
      · refine xS_of (pc' := 333) (L' := [(0, xa 536), (1, xi x1), (2, xi (w32 (x2 + 1)))]) (st' := [xi 44, xa 536]) (m' := m4) (fun ex ns r q => ?_) ?_
        · refine xw_if_eqF rfl (w32_cg (w32_of (xw_zr cv4))) h2 ?_
          refine xw_aload_n rfl rfl rfl ?_
          refine xw_bipush (e := 44) rfl (by decide +kernel) ?_
          refine xw_lo (L2 := [(0, xa 536), (1, xi x1), (2, xi (w32 (x2 + 1)))]) (List.forall_mem_cons.mpr ⟨rfl, List.forall_mem_cons.mpr ⟨rfl, List.forall_mem_cons.mpr ⟨rfl, fun _ h => absurd h List.not_mem_nil⟩⟩⟩) ?_
          exact q
        refine xS_call (q := 266) (n := 2) (kq := 4) (as := [xa 536, xi 44]) (st1 := []) rfl rfl rfl rfl rfl rfl rfl rfl rfl rfl (fun _ => xw_rcv1 (t := 12) (xw_obd (by decide +kernel)) rfl) rfl (List.forall_mem_cons.mpr ⟨rfl, List.forall_mem_cons.mpr ⟨rfl, fun _ h => absurd h List.not_mem_nil⟩⟩) (ygf266 hB _ _ rfl) (fun v5 m5 cv5 => ?_)
        refine xS_if (fun h3 => ?_) (fun h3 => ?_)
        · refine xS_of (pc' := 56) (L' := [(0, xa 536), (1, xi x1), (2, xi (w32 (x2 + 1))), (3, xi 0)]) (st' := []) (m' := m5) (fun ex ns r q => ?_) ?_
          · refine xw_if_eqT rfl (w32_cg (w32_of (xw_zr cv5))) h3 ?_
            refine xw_iconst rfl ?_
            refine xw_istore_n (L' := [(3, xi 0), (0, xa 536), (1, xi x1), (2, xi (w32 (x2 + 1)))]) rfl (by decide) rfl ?_
            refine xw_goto rfl ?_
            refine xw_lo (L2 := [(0, xa 536), (1, xi x1), (2, xi (w32 (x2 + 1))), (3, xi 0)]) (List.forall_mem_cons.mpr ⟨rfl, List.forall_mem_cons.mpr ⟨rfl, List.forall_mem_cons.mpr ⟨rfl, List.forall_mem_cons.mpr ⟨rfl, fun _ h => absurd h List.not_mem_nil⟩⟩⟩⟩) ?_
            exact q
          exact hr56 _ _ _ _ c1 (w32_w _) rfl
        · refine xS_of (pc' := 56) (L' := [(0, xa 536), (1, xi x1), (2, xi (w32 (x2 + 1))), (3, xi 1)]) (st' := []) (m' := m5) (fun ex ns r q => ?_) ?_
          · refine xw_if_eqF rfl (w32_cg (w32_of (xw_zr cv5))) h3 ?_
            refine xw_iconst rfl ?_
            refine xw_goto rfl ?_
            refine xw_istore_n (L' := [(3, xi 1), (0, xa 536), (1, xi x1), (2, xi (w32 (x2 + 1)))]) rfl (by decide) rfl ?_
            refine xw_goto rfl ?_
            refine xw_lo (L2 := [(0, xa 536), (1, xi x1), (2, xi (w32 (x2 + 1))), (3, xi 1)]) (List.forall_mem_cons.mpr ⟨rfl, List.forall_mem_cons.mpr ⟨rfl, List.forall_mem_cons.mpr ⟨rfl, List.forall_mem_cons.mpr ⟨rfl, fun _ h => absurd h List.not_mem_nil⟩⟩⟩⟩) ?_
            exact q
          exact hr56 _ _ _ _ c1 (w32_w _) rfl
    · refine xS_of (pc' := 324) (L' := [(0, xa 536), (1, xi x1), (2, xi (w32 (x2 + 1)))]) (st' := [xi 1, xa 536]) (m' := m3) (fun ex ns r q => ?_) ?_
      · refine xw_if_eqF rfl (w32_cg (w32_of (xw_zr cv3))) h1 ?_
        refine xw_iconst rfl ?_
        refine xw_goto rfl ?_
        refine xw_lo (L2 := [(0, xa 536), (1, xi x1), (2, xi (w32 (x2 + 1)))]) (List.forall_mem_cons.mpr ⟨rfl, List.forall_mem_cons.mpr ⟨rfl, List.forall_mem_cons.mpr ⟨rfl, fun _ h => absurd h List.not_mem_nil⟩⟩⟩) ?_
        exact q
      refine xS_call (q := 258) (n := 2) (kq := 4) (as := [xa 536, xi 1]) (st1 := []) rfl rfl rfl rfl rfl rfl rfl rfl rfl rfl (fun _ => xw_rcv1 (t := 12) (xw_obd (by decide +kernel)) rfl) rfl (List.forall_mem_cons.mpr ⟨rfl, List.forall_mem_cons.mpr ⟨rfl, fun _ h => absurd h List.not_mem_nil⟩⟩) (ygf258 hB _ _ rfl) (fun v6 m6 cv6 => ?_)
      refine xS_if (fun h2 => ?_) (fun h2 => ?_)
      · refine xS_of (pc' := 56) (L' := [(0, xa 536), (1, xi x1), (2, xi (w32 (x2 + 1))), (3, xi 0)]) (st' := []) (m' := m6) (fun ex ns r q => ?_) ?_
        · refine xw_if_eqT rfl (w32_cg (w32_of (xw_zr cv6))) h2 ?_
          refine xw_iconst rfl ?_
          refine xw_istore_n (L' := [(3, xi 0), (0, xa 536), (1, xi x1), (2, xi (w32 (x2 + 1)))]) rfl (by decide) rfl ?_
          refine xw_goto rfl ?_
          refine xw_lo (L2 := [(0, xa 536), (1, xi x1), (2, xi (w32 (x2 + 1))), (3, xi 0)]) (List.forall_mem_cons.mpr ⟨rfl, List.forall_mem_cons.mpr ⟨rfl, List.forall_mem_cons.mpr ⟨rfl, List.forall_mem_cons.mpr ⟨rfl, fun _ h => absurd h List.not_mem_nil⟩⟩⟩⟩) ?_
          exact q
        exact hr56 _ _ _ _ c1 (w32_w _) rfl
      · refine xS_of (pc' := 333) (L' := [(0, xa 536), (1, xi x1), (2, xi (w32 (x2 + 1)))]) (st' := [xi 44, xa 536]) (m' := m6) (fun ex ns r q => ?_) ?_
        · refine xw_if_eqF rfl (w32_cg (w32_of (xw_zr cv6))) h2 ?_
          refine xw_aload_n rfl rfl rfl ?_
          refine xw_bipush (e := 44) rfl (by decide +kernel) ?_
          refine xw_lo (L2 := [(0, xa 536), (1, xi x1), (2, xi (w32 (x2 + 1)))]) (List.forall_mem_cons.mpr ⟨rfl, List.forall_mem_cons.mpr ⟨rfl, List.forall_mem_cons.mpr ⟨rfl, fun _ h => absurd h List.not_mem_nil⟩⟩⟩) ?_
          exact q
        refine xS_call (q := 266) (n := 2) (kq := 4) (as := [xa 536, xi 44]) (st1 := []) rfl rfl rfl rfl rfl rfl rfl rfl rfl rfl (fun _ => xw_rcv1 (t := 12) (xw_obd (by decide +kernel)) rfl) rfl (List.forall_mem_cons.mpr ⟨rfl, List.forall_mem_cons.mpr ⟨rfl, fun _ h => absurd h List.not_mem_nil⟩⟩) (ygf266 hB _ _ rfl) (fun v7 m7 cv7 => ?_)
        refine xS_if (fun h3 => ?_) (fun h3 => ?_)
        · refine xS_of (pc' := 56) (L' := [(0, xa 536), (1, xi x1), (2, xi (w32 (x2 + 1))), (3, xi 0)]) (st' := []) (m' := m7) (fun ex ns r q => ?_) ?_
          · refine xw_if_eqT rfl (w32_cg (w32_of (xw_zr cv7))) h3 ?_
            refine xw_iconst rfl ?_
            refine xw_istore_n (L' := [(3, xi 0), (0, xa 536), (1, xi x1), (2, xi (w32 (x2 + 1)))]) rfl (by decide) rfl ?_
            refine xw_goto rfl ?_
            refine xw_lo (L2 := [(0, xa 536), (1, xi x1), (2, xi (w32 (x2 + 1))), (3, xi 0)]) (List.forall_mem_cons.mpr ⟨rfl, List.forall_mem_cons.mpr ⟨rfl, List.forall_mem_cons.mpr ⟨rfl, List.forall_mem_cons.mpr ⟨rfl, fun _ h => absurd h List.not_mem_nil⟩⟩⟩⟩) ?_
            exact q
          exact hr56 _ _ _ _ c1 (w32_w _) rfl
        · refine xS_of (pc' := 56) (L' := [(0, xa 536), (1, xi x1), (2, xi (w32 (x2 + 1))), (3, xi 1)]) (st' := []) (m' := m7) (fun ex ns r q => ?_) ?_
          · refine xw_if_eqF rfl (w32_cg (w32_of (xw_zr cv7))) h3 ?_
            refine xw_iconst rfl ?_
            refine xw_goto rfl ?_
            refine xw_istore_n (L' := [(3, xi 1), (0, xa 536), (1, xi x1), (2, xi (w32 (x2 + 1)))]) rfl (by decide) rfl ?_
            refine xw_goto rfl ?_
            refine xw_lo (L2 := [(0, xa 536), (1, xi x1), (2, xi (w32 (x2 + 1))), (3, xi 1)]) (List.forall_mem_cons.mpr ⟨rfl, List.forall_mem_cons.mpr ⟨rfl, List.forall_mem_cons.mpr ⟨rfl, List.forall_mem_cons.mpr ⟨rfl, fun _ h => absurd h List.not_mem_nil⟩⟩⟩⟩) ?_
            exact q
          exact hr56 _ _ _ _ c1 (w32_w _) rfl
  · refine xS_of (pc' := 324) (L' := [(0, xa 536), (1, xi x1), (2, xi (w32 (x2 + 1)))]) (st' := [xi 1, xa 536]) (m' := m2) (fun ex ns r q => ?_) ?_
    · refine xw_if_neT rfl (w32_cg (w32_of (xw_zr cv2))) h0 ?_
      refine xw_iconst rfl ?_
      refine xw_goto rfl ?_
      refine xw_lo (L2 := [(0, xa 536), (1, xi x1), (2, xi (w32 (x2 + 1)))]) (List.forall_mem_cons.mpr ⟨rfl, List.forall_mem_cons.mpr ⟨rfl, List.forall_mem_cons.mpr ⟨rfl, fun _ h => absurd h List.not_mem_nil⟩⟩⟩) ?_
      exact q
    refine xS_call (q := 258) (n := 2) (kq := 4) (as := [xa 536, xi 1]) (st1 := []) rfl rfl rfl rfl rfl rfl rfl rfl rfl rfl (fun _ => xw_rcv1 (t := 12) (xw_obd (by decide +kernel)) rfl) rfl (List.forall_mem_cons.mpr ⟨rfl, List.forall_mem_cons.mpr ⟨rfl, fun _ h => absurd h List.not_mem_nil⟩⟩) (ygf258 hB _ _ rfl) (fun v8 m8 cv8 => ?_)
    refine xS_if (fun h1 => ?_) (fun h1 => ?_)
    · refine xS_of (pc' := 56) (L' := [(0, xa 536), (1, xi x1), (2, xi (w32 (x2 + 1))), (3, xi 0)]) (st' := []) (m' := m8) (fun ex ns r q => ?_) ?_
      · refine xw_if_eqT rfl (w32_cg (w32_of (xw_zr cv8))) h1 ?_
        refine xw_iconst rfl ?_
        refine xw_istore_n (L' := [(3, xi 0), (0, xa 536), (1, xi x1), (2, xi (w32 (x2 + 1)))]) rfl (by decide) rfl ?_
        refine xw_goto rfl ?_
        refine xw_lo (L2 := [(0, xa 536), (1, xi x1), (2, xi (w32 (x2 + 1))), (3, xi 0)]) (List.forall_mem_cons.mpr ⟨rfl, List.forall_mem_cons.mpr ⟨rfl, List.forall_mem_cons.mpr ⟨rfl, List.forall_mem_cons.mpr ⟨rfl, fun _ h => absurd h List.not_mem_nil⟩⟩⟩⟩) ?_
        exact q
      exact hr56 _ _ _ _ c1 (w32_w _) rfl
    · refine xS_of (pc' := 333) (L' := [(0, xa 536), (1, xi x1), (2, xi (w32 (x2 + 1)))]) (st' := [xi 44, xa 536]) (m' := m8) (fun ex ns r q => ?_) ?_
      · refine xw_if_eqF rfl (w32_cg (w32_of (xw_zr cv8))) h1 ?_
        refine xw_aload_n rfl rfl rfl ?_
        refine xw_bipush (e := 44) rfl (by decide +kernel) ?_
        refine xw_lo (L2 := [(0, xa 536), (1, xi x1), (2, xi (w32 (x2 + 1)))]) (List.forall_mem_cons.mpr ⟨rfl, List.forall_mem_cons.mpr ⟨rfl, List.forall_mem_cons.mpr ⟨rfl, fun _ h => absurd h List.not_mem_nil⟩⟩⟩) ?_
        exact q
      refine xS_call (q := 266) (n := 2) (kq := 4) (as := [xa 536, xi 44]) (st1 := []) rfl rfl rfl rfl rfl rfl rfl rfl rfl rfl (fun _ => xw_rcv1 (t := 12) (xw_obd (by decide +kernel)) rfl) rfl (List.forall_mem_cons.mpr ⟨rfl, List.forall_mem_cons.mpr ⟨rfl, fun _ h => absurd h List.not_mem_nil⟩⟩) (ygf266 hB _ _ rfl) (fun v9 m9 cv9 => ?_)
      refine xS_if (fun h2 => ?_) (fun h2 => ?_)
      · refine xS_of (pc' := 56) (L' := [(0, xa 536), (1, xi x1), (2, xi (w32 (x2 + 1))), (3, xi 0)]) (st' := []) (m' := m9) (fun ex ns r q => ?_) ?_
        · refine xw_if_eqT rfl (w32_cg (w32_of (xw_zr cv9))) h2 ?_
          refine xw_iconst rfl ?_
          refine xw_istore_n (L' := [(3, xi 0), (0, xa 536), (1, xi x1), (2, xi (w32 (x2 + 1)))]) rfl (by decide) rfl ?_
          refine xw_goto rfl ?_
          refine xw_lo (L2 := [(0, xa 536), (1, xi x1), (2, xi (w32 (x2 + 1))), (3, xi 0)]) (List.forall_mem_cons.mpr ⟨rfl, List.forall_mem_cons.mpr ⟨rfl, List.forall_mem_cons.mpr ⟨rfl, List.forall_mem_cons.mpr ⟨rfl, fun _ h => absurd h List.not_mem_nil⟩⟩⟩⟩) ?_
          exact q
        exact hr56 _ _ _ _ c1 (w32_w _) rfl
      · refine xS_of (pc' := 56) (L' := [(0, xa 536), (1, xi x1), (2, xi (w32 (x2 + 1))), (3, xi 1)]) (st' := []) (m' := m9) (fun ex ns r q => ?_) ?_
        · refine xw_if_eqF rfl (w32_cg (w32_of (xw_zr cv9))) h2 ?_
          refine xw_iconst rfl ?_
          refine xw_goto rfl ?_
          refine xw_istore_n (L' := [(3, xi 1), (0, xa 536), (1, xi x1), (2, xi (w32 (x2 + 1)))]) rfl (by decide) rfl ?_
          refine xw_goto rfl ?_
          refine xw_lo (L2 := [(0, xa 536), (1, xi x1), (2, xi (w32 (x2 + 1))), (3, xi 1)]) (List.forall_mem_cons.mpr ⟨rfl, List.forall_mem_cons.mpr ⟨rfl, List.forall_mem_cons.mpr ⟨rfl, List.forall_mem_cons.mpr ⟨rfl, fun _ h => absurd h List.not_mem_nil⟩⟩⟩⟩) ?_
          exact q
        exact hr56 _ _ _ _ c1 (w32_w _) rfl
theorem ygk268_290 {B : Nat} (hB : B ≤ 512) {xs : Nat → Int32} {SL d : Nat} {r56 : Int → Int → Int → xw_M → xP} (hr56 : ∀ x1 x2 x3 m, w32 x1 = x1 → w32 x2 = x2 → w32 x3 = x3 → xS B xs SL (d + 4) 268 (8, none, [], 13) 0 56 [(0, xa 536), (1, xi x1), (2, xi x2), (3, xi x3)] [] m (r56 x1 x2 x3 m)) : ∀ x1 x2 m, w32 x1 = x1 → w32 x2 = x2 → xS B xs SL (d + 4) 268 (8, none, [], 13) 0 290 [(0, xa 536), (1, xi x1), (2, xi x2)] [] m (yk268_290 B r56 x1 x2 m) := by
  intro x1 x2 m c1 c2
  unfold yk268_290
  refine xS_of (pc' := 293) (L' := [(0, xa 536), (1, xi x1), (2, xi x2)]) (st' := []) (m' := m) (fun ex ns r q => ?_) ?_
  · refine xw_iconst rfl ?_
    refine xw_istore (L' := [(4, xi 0), (0, xa 536), (1, xi x1), (2, xi x2)]) rfl (by decide) rfl ?_
    refine xw_lo (L2 := [(0, xa 536), (1, xi x1), (2, xi x2)]) (List.forall_mem_cons.mpr ⟨rfl, List.forall_mem_cons.mpr ⟨rfl, List.forall_mem_cons.mpr ⟨rfl, fun _ h => absurd h List.not_mem_nil⟩⟩⟩) ?_
    exact q
  exact ygk268_293 hB hr56 _ _ _ c1 c2
theorem ysl268_114 {B : Nat} (hB : B ≤ 512) {xs : Nat → Int32} {SL d : Nat} {r56 : Int → Int → Int → xw_M → xP} (hr56 : ∀ x1 x2 x3 m, w32 x1 = x1 → w32 x2 = x2 → w32 x3 = x3 → xS B xs SL (d + 4) 268 (8, none, [], 13) 0 56 [(0, xa 536), (1, xi x1), (2, xi x2), (3, xi x3)] [] m (r56 x1 x2 x3 m)) {r114 : Int → Int → Int → Int → Int → xw_M → xP} (hr114 : ∀ x1 x2 x5 x6 x7 m, w32 x1 = x1 → w32 x2 = x2 → w32 x5 = x5 → w32 x6 = x6 → w32 x7 = x7 → xS B xs SL (d + 4) 268 (8, none, [], 13) 0 114 [(0, xa 536), (1, xi x1), (2, xi x2), (5, xi x5), (6, xi x6), (7, xi x7)] [] m (r114 x1 x2 x5 x6 x7 m)) : ∀ x1 x2 x5 x6 x7 m, w32 x1 = x1 → w32 x2 = x2 → w32 x5 = x5 → w32 x6 = x6 → w32 x7 = x7 → xS B xs SL (d + 4) 268 (8, none, [], 13) 0 114 [(0, xa 536), (1, xi x1), (2, xi x2), (5, xi x5), (6, xi x6), (7, xi x7)] [] m (yl268_114 B r56 r114 x1 x2 x5 x6 x7 m) := by
  intro x1 x2 x5 x6 x7 m c1 c2 c5 c6 c7
  unfold yl268_114
  refine xS_of (pc' := 116) (L' := [(0, xa 536), (1, xi x1), (2, xi x2), (5, xi x5), (6, xi x6), (7, xi x7)]) (st' := [xi x7]) (m' := m) (fun ex ns r q => ?_) ?_
  · refine xw_iload rfl rfl ?_
    exact q
  refine xS_if (fun h0 => ?_) (fun h0 => ?_)
  · refine xS_of (pc' := 239) (L' := [(0, xa 536), (1, xi x1), (2, xi x2), (5, xi x5), (6, xi x6), (7, xi x7)]) (st' := [xi (xR m 536 6)]) (m' := m) (fun ex ns r q => ?_) ?_
    · refine xw_if_eqT rfl (w32_cg c7) h0 ?_
      refine xw_aload_n rfl rfl rfl ?_
      refine xw_gfIc (v := (m 536 6)) (v' := (xR m 536 6)) rfl (xw_obd (by decide +kernel)) xk12_6 (qi := 6) rfl rfl rfl ?_
      exact q
    refine xS_if (fun h1 => ?_) (fun h1 => ?_)
    · refine xS_g (fun g2 => ?_)
      refine xS_of (pc' := 251) (L' := [(0, xa 536), (1, xi x1), (2, xi x2), (5, xi x5), (6, xi x6), (7, xi x7)]) (st' := [xi (xR m 538 x1), xi x6, xa 536]) (m' := m) (fun ex ns r q => ?_) ?_
      · refine xw_if_neF rfl (w32_cg (w32_xR _ _ _)) h1 ?_
        refine xw_aload_n rfl rfl rfl ?_
        refine xw_iload rfl rfl ?_
        refine xw_aload_n rfl rfl rfl ?_
        refine xw_gfR (n := 538) (e := 538) rfl (xw_obd (by decide +kernel)) (by decide +kernel) (by decide +kernel) rfl ?_
        refine xw_iload_n rfl rfl ?_
        refine xw_ialdc (n := 8) (v := (m 538 x1)) (v' := (xR m 538 x1)) rfl hB (xw_obd (by decide +kernel)) rfl g2 rfl rfl ?_
        exact q
      refine xS_if (fun h3 => ?_) (fun h3 => ?_)
      · refine xS_of (pc' := 263) (L' := [(0, xa 536), (1, xi x1), (2, xi x2), (5, xi x5)]) (st' := [xi x5, xi 7, xi 1, xa 536]) (m' := m) (fun ex ns r q => ?_) ?_
        · refine xw_ic_neF rfl (w32_cg c6) (w32_cg (w32_xR _ _ _)) h3 ?_
          refine xw_iconst rfl ?_
          refine xw_goto rfl ?_
          refine xw_bipush (e := 7) rfl (by decide +kernel) ?_
          refine xw_iload rfl rfl ?_
          refine xw_lo (L2 := [(0, xa 536), (1, xi x1), (2, xi x2), (5, xi x5)]) (List.forall_mem_cons.mpr ⟨rfl, List.forall_mem_cons.mpr ⟨rfl, List.forall_mem_cons.mpr ⟨rfl, List.forall_mem_cons.mpr ⟨rfl, fun _ h => absurd h List.not_mem_nil⟩⟩⟩⟩) ?_
          exact q
        refine xS_call (q := 254) (n := 4) (kq := 4) (as := [xa 536, xi 1, xi 7, xi x5]) (st1 := []) rfl rfl rfl rfl rfl rfl rfl rfl rfl rfl (fun _ => xw_rcv1 (t := 12) (xw_obd (by decide +kernel)) rfl) rfl (List.forall_mem_cons.mpr ⟨rfl, List.forall_mem_cons.mpr ⟨rfl, List.forall_mem_cons.mpr ⟨rfl, List.forall_mem_cons.mpr ⟨rfl, fun _ h => absurd h List.not_mem_nil⟩⟩⟩⟩) (ygf254 hB _ _ _ _ rfl rfl c5) (fun v1 m1 cv1 => ?_)
        refine xS_if (fun h4 => ?_) (fun h4 => ?_)
        · refine xS_of (pc' := 290) (L' := [(0, xa 536), (1, xi x1), (2, xi x2)]) (st' := []) (m' := m1) (fun ex ns r q => ?_) ?_
          · refine xw_if_eqT rfl (w32_cg (w32_of (xw_zr cv1))) h4 ?_
            refine xw_lo (L2 := [(0, xa 536), (1, xi x1), (2, xi x2)]) (List.forall_mem_cons.mpr ⟨rfl, List.forall_mem_cons.mpr ⟨rfl, List.forall_mem_cons.mpr ⟨rfl, fun _ h => absurd h List.not_mem_nil⟩⟩⟩) ?_
            exact q
          exact ygk268_290 hB hr56 _ _ _ c1 c2
        · refine xS_of (pc' := 273) (L' := [(0, xa 536), (1, xi x1), (2, xi x2), (5, xi x5)]) (st' := [xi x2, xi x1, xa 536, xa 536]) (m' := m1) (fun ex ns r q => ?_) ?_
          · refine xw_if_eqF rfl (w32_cg (w32_of (xw_zr cv1))) h4 ?_
            refine xw_aload_n rfl rfl rfl ?_
            refine xw_aload_n rfl rfl rfl ?_
            refine xw_iload_n rfl rfl ?_
            refine xw_iload_n rfl rfl ?_
            refine xw_lo (L2 := [(0, xa 536), (1, xi x1), (2, xi x2), (5, xi x5)]) (List.forall_mem_cons.mpr ⟨rfl, List.forall_mem_cons.mpr ⟨rfl, List.forall_mem_cons.mpr ⟨rfl, List.forall_mem_cons.mpr ⟨rfl, fun _ h => absurd h List.not_mem_nil⟩⟩⟩⟩) ?_
            exact q
          refine xS_call (q := 269) (n := 3) (kq := 4) (as := [xa 536, xi x1, xi x2]) (st1 := [xa 536]) rfl rfl rfl rfl rfl rfl rfl rfl rfl rfl (fun _ => xw_rcv1 (t := 12) (xw_obd (by decide +kernel)) rfl) rfl (List.forall_mem_cons.mpr ⟨rfl, List.forall_mem_cons.mpr ⟨rfl, List.forall_mem_cons.mpr ⟨rfl, fun _ h => absurd h List.not_mem_nil⟩⟩⟩) (ygf269 hB _ _ _ c1 c2) (fun v2 m2 cv2 => ?_)
          refine xS_of (pc' := 280) (L' := [(0, xa 536), (1, xi x1), (2, xi x2)]) (st' := [xi x5, xi 9, xi v2, xa 536]) (m' := m2) (fun ex ns r q => ?_) ?_
          · refine xw_bipush (e := 9) rfl (by decide +kernel) ?_
            refine xw_iload rfl rfl ?_
            refine xw_lo (L2 := [(0, xa 536), (1, xi x1), (2, xi x2)]) (List.forall_mem_cons.mpr ⟨rfl, List.forall_mem_cons.mpr ⟨rfl, List.forall_mem_cons.mpr ⟨rfl, fun _ h => absurd h List.not_mem_nil⟩⟩⟩) ?_
            exact q
          refine xS_call (q := 254) (n := 4) (kq := 4) (as := [xa 536, xi v2, xi 9, xi x5]) (st1 := []) rfl rfl rfl rfl rfl rfl rfl rfl rfl rfl (fun _ => xw_rcv1 (t := 12) (xw_obd (by decide +kernel)) rfl) rfl (List.forall_mem_cons.mpr ⟨rfl, List.forall_mem_cons.mpr ⟨rfl, List.forall_mem_cons.mpr ⟨rfl, List.forall_mem_cons.mpr ⟨rfl, fun _ h => absurd h List.not_mem_nil⟩⟩⟩⟩) (ygf254 hB _ _ _ _ (w32_of (xw_zr cv2)) rfl c5) (fun v3 m3 cv3 => ?_)
          refine xS_if (fun h5 => ?_) (fun h5 => ?_)
          · refine xS_of (pc' := 290) (L' := [(0, xa 536), (1, xi x1), (2, xi x2)]) (st' := []) (m' := m3) (fun ex ns r q => ?_) ?_
            · refine xw_if_eqT rfl (w32_cg (w32_of (xw_zr cv3))) h5 ?_
              refine xw_lo (L2 := [(0, xa 536), (1, xi x1), (2, xi x2)]) (List.forall_mem_cons.mpr ⟨rfl, List.forall_mem_cons.mpr ⟨rfl, List.forall_mem_cons.mpr ⟨rfl, fun _ h => absurd h List.not_mem_nil⟩⟩⟩) ?_
              exact q
            exact ygk268_290 hB hr56 _ _ _ c1 c2
          · refine xS_of (pc' := 293) (L' := [(0, xa 536), (1, xi x1), (2, xi x2)]) (st' := []) (m' := m3) (fun ex ns r q => ?_) ?_
            · refine xw_if_eqF rfl (w32_cg (w32_of (xw_zr cv3))) h5 ?_
              refine xw_iconst rfl ?_
              refine xw_goto rfl ?_
              refine xw_istore (L' := [(4, xi 1), (0, xa 536), (1, xi x1), (2, xi x2)]) rfl (by decide) rfl ?_
              refine xw_lo (L2 := [(0, xa 536), (1, xi x1), (2, xi x2)]) (List.forall_mem_cons.mpr ⟨rfl, List.forall_mem_cons.mpr ⟨rfl, List.forall_mem_cons.mpr ⟨rfl, fun _ h => absurd h List.not_mem_nil⟩⟩⟩) ?_
              exact q
            exact ygk268_293 hB hr56 _ _ _ c1 c2
      · refine xS_of (pc' := 263) (L' := [(0, xa 536), (1, xi x1), (2, xi x2), (5, xi x5)]) (st' := [xi x5, xi 7, xi 0, xa 536]) (m' := m) (fun ex ns r q => ?_) ?_
        · refine xw_ic_neT rfl (w32_cg c6) (w32_cg (w32_xR _ _ _)) h3 ?_
          refine xw_iconst rfl ?_
          refine xw_bipush (e := 7) rfl (by decide +kernel) ?_
          refine xw_iload rfl rfl ?_
          refine xw_lo (L2 := [(0, xa 536), (1, xi x1), (2, xi x2), (5, xi x5)]) (List.forall_mem_cons.mpr ⟨rfl, List.forall_mem_cons.mpr ⟨rfl, List.forall_mem_cons.mpr ⟨rfl, List.forall_mem_cons.mpr ⟨rfl, fun _ h => absurd h List.not_mem_nil⟩⟩⟩⟩) ?_
          exact q
        refine xS_call (q := 254) (n := 4) (kq := 4) (as := [xa 536, xi 0, xi 7, xi x5]) (st1 := []) rfl rfl rfl rfl rfl rfl rfl rfl rfl rfl (fun _ => xw_rcv1 (t := 12) (xw_obd (by decide +kernel)) rfl) rfl (List.forall_mem_cons.mpr ⟨rfl, List.forall_mem_cons.mpr ⟨rfl, List.forall_mem_cons.mpr ⟨rfl, List.forall_mem_cons.mpr ⟨rfl, fun _ h => absurd h List.not_mem_nil⟩⟩⟩⟩) (ygf254 hB _ _ _ _ rfl rfl c5) (fun v4 m4 cv4 => ?_)
        refine xS_if (fun h4 => ?_) (fun h4 => ?_)
        · refine xS_of (pc' := 290) (L' := [(0, xa 536), (1, xi x1), (2, xi x2)]) (st' := []) (m' := m4) (fun ex ns r q => ?_) ?_
          · refine xw_if_eqT rfl (w32_cg (w32_of (xw_zr cv4))) h4 ?_
            refine xw_lo (L2 := [(0, xa 536), (1, xi x1), (2, xi x2)]) (List.forall_mem_cons.mpr ⟨rfl, List.forall_mem_cons.mpr ⟨rfl, List.forall_mem_cons.mpr ⟨rfl, fun _ h => absurd h List.not_mem_nil⟩⟩⟩) ?_
            exact q
          exact ygk268_290 hB hr56 _ _ _ c1 c2
        · refine xS_of (pc' := 273) (L' := [(0, xa 536), (1, xi x1), (2, xi x2), (5, xi x5)]) (st' := [xi x2, xi x1, xa 536, xa 536]) (m' := m4) (fun ex ns r q => ?_) ?_
          · refine xw_if_eqF rfl (w32_cg (w32_of (xw_zr cv4))) h4 ?_
            refine xw_aload_n rfl rfl rfl ?_
            refine xw_aload_n rfl rfl rfl ?_
            refine xw_iload_n rfl rfl ?_
            refine xw_iload_n rfl rfl ?_
            refine xw_lo (L2 := [(0, xa 536), (1, xi x1), (2, xi x2), (5, xi x5)]) (List.forall_mem_cons.mpr ⟨rfl, List.forall_mem_cons.mpr ⟨rfl, List.forall_mem_cons.mpr ⟨rfl, List.forall_mem_cons.mpr ⟨rfl, fun _ h => absurd h List.not_mem_nil⟩⟩⟩⟩) ?_
            exact q
          refine xS_call (q := 269) (n := 3) (kq := 4) (as := [xa 536, xi x1, xi x2]) (st1 := [xa 536]) rfl rfl rfl rfl rfl rfl rfl rfl rfl rfl (fun _ => xw_rcv1 (t := 12) (xw_obd (by decide +kernel)) rfl) rfl (List.forall_mem_cons.mpr ⟨rfl, List.forall_mem_cons.mpr ⟨rfl, List.forall_mem_cons.mpr ⟨rfl, fun _ h => absurd h List.not_mem_nil⟩⟩⟩) (ygf269 hB _ _ _ c1 c2) (fun v5 m5 cv5 => ?_)
          refine xS_of (pc' := 280) (L' := [(0, xa 536), (1, xi x1), (2, xi x2)]) (st' := [xi x5, xi 9, xi v5, xa 536]) (m' := m5) (fun ex ns r q => ?_) ?_
          · refine xw_bipush (e := 9) rfl (by decide +kernel) ?_
            refine xw_iload rfl rfl ?_
            refine xw_lo (L2 := [(0, xa 536), (1, xi x1), (2, xi x2)]) (List.forall_mem_cons.mpr ⟨rfl, List.forall_mem_cons.mpr ⟨rfl, List.forall_mem_cons.mpr ⟨rfl, fun _ h => absurd h List.not_mem_nil⟩⟩⟩) ?_
            exact q
          refine xS_call (q := 254) (n := 4) (kq := 4) (as := [xa 536, xi v5, xi 9, xi x5]) (st1 := []) rfl rfl rfl rfl rfl rfl rfl rfl rfl rfl (fun _ => xw_rcv1 (t := 12) (xw_obd (by decide +kernel)) rfl) rfl (List.forall_mem_cons.mpr ⟨rfl, List.forall_mem_cons.mpr ⟨rfl, List.forall_mem_cons.mpr ⟨rfl, List.forall_mem_cons.mpr ⟨rfl, fun _ h => absurd h List.not_mem_nil⟩⟩⟩⟩) (ygf254 hB _ _ _ _ (w32_of (xw_zr cv5)) rfl c5) (fun v6 m6 cv6 => ?_)
          refine xS_if (fun h5 => ?_) (fun h5 => ?_)
          · refine xS_of (pc' := 290) (L' := [(0, xa 536), (1, xi x1), (2, xi x2)]) (st' := []) (m' := m6) (fun ex ns r q => ?_) ?_
            · refine xw_if_eqT rfl (w32_cg (w32_of (xw_zr cv6))) h5 ?_
              refine xw_lo (L2 := [(0, xa 536), (1, xi x1), (2, xi x2)]) (List.forall_mem_cons.mpr ⟨rfl, List.forall_mem_cons.mpr ⟨rfl, List.forall_mem_cons.mpr ⟨rfl, fun _ h => absurd h List.not_mem_nil⟩⟩⟩) ?_
              exact q
            exact ygk268_290 hB hr56 _ _ _ c1 c2
          · refine xS_of (pc' := 293) (L' := [(0, xa 536), (1, xi x1), (2, xi x2)]) (st' := []) (m' := m6) (fun ex ns r q => ?_) ?_
            · refine xw_if_eqF rfl (w32_cg (w32_of (xw_zr cv6))) h5 ?_
              refine xw_iconst rfl ?_
              refine xw_goto rfl ?_
              refine xw_istore (L' := [(4, xi 1), (0, xa 536), (1, xi x1), (2, xi x2)]) rfl (by decide) rfl ?_
              refine xw_lo (L2 := [(0, xa 536), (1, xi x1), (2, xi x2)]) (List.forall_mem_cons.mpr ⟨rfl, List.forall_mem_cons.mpr ⟨rfl, List.forall_mem_cons.mpr ⟨rfl, fun _ h => absurd h List.not_mem_nil⟩⟩⟩) ?_
              exact q
            exact ygk268_293 hB hr56 _ _ _ c1 c2
    · refine xS_of (pc' := 293) (L' := [(0, xa 536), (1, xi x1), (2, xi x2)]) (st' := []) (m' := m) (fun ex ns r q => ?_) ?_
      · refine xw_if_neT rfl (w32_cg (w32_xR _ _ _)) h1 ?_
        refine xw_lo (L2 := [(0, xa 536), (1, xi x1), (2, xi x2)]) (List.forall_mem_cons.mpr ⟨rfl, List.forall_mem_cons.mpr ⟨rfl, List.forall_mem_cons.mpr ⟨rfl, fun _ h => absurd h List.not_mem_nil⟩⟩⟩) ?_
        exact q
      exact ygk268_293 hB hr56 _ _ _ c1 c2
  · refine xS_of (pc' := 120) (L' := [(0, xa 536), (1, xi x1), (2, xi x2), (5, xi x5), (6, xi x6)]) (st' := [xa 536]) (m' := m) (fun ex ns r q => ?_) ?_
    · refine xw_if_eqF rfl (w32_cg c7) h0 ?_
      refine xw_aload_n rfl rfl rfl ?_
      refine xw_lo (L2 := [(0, xa 536), (1, xi x1), (2, xi x2), (5, xi x5), (6, xi x6)]) (List.forall_mem_cons.mpr ⟨rfl, List.forall_mem_cons.mpr ⟨rfl, List.forall_mem_cons.mpr ⟨rfl, List.forall_mem_cons.mpr ⟨rfl, List.forall_mem_cons.mpr ⟨rfl, fun _ h => absurd h List.not_mem_nil⟩⟩⟩⟩⟩) ?_
      exact q
    refine xS_call (q := 248) (n := 1) (kq := 0) (as := [xa 536]) (st1 := []) rfl rfl rfl rfl rfl rfl rfl rfl rfl rfl (fun _ => xw_rcv1 (t := 12) (xw_obd (by decide +kernel)) rfl) rfl (List.forall_mem_cons.mpr ⟨rfl, fun _ h => absurd h List.not_mem_nil⟩) (ygf248 hB _) (fun v7 m7 cv7 => ?_)
    refine xS_of (pc' := 129) (L' := [(0, xa 536), (1, xi x1), (2, xi x2), (5, xi x5), (6, xi x6)]) (st' := [xi 2, xi (xR m7 536 10), xa 536]) (m' := m7) (fun ex ns r q => ?_) ?_
    · refine xw_aload_n rfl rfl rfl ?_
      refine xw_aload_n rfl rfl rfl ?_
      refine xw_gfIc (v := (m7 536 10)) (v' := (xR m7 536 10)) rfl (xw_obd (by decide +kernel)) xk12_10 (qi := 10) rfl rfl rfl ?_
      refine xw_iconst rfl ?_
      exact q
    refine xS_if (fun h1 => ?_) (fun h1 => ?_)
    · refine xS_of (pc' := 137) (L' := [(0, xa 536), (1, xi x1), (2, xi x2), (5, xi x5), (6, xi x6)]) (st' := [xi 1, xa 536]) (m' := m7) (fun ex ns r q => ?_) ?_
      · refine xw_ic_neF rfl (w32_cg (w32_xR _ _ _)) (w32_cg rfl) h1 ?_
        refine xw_iconst rfl ?_
        refine xw_goto rfl ?_
        refine xw_lo (L2 := [(0, xa 536), (1, xi x1), (2, xi x2), (5, xi x5), (6, xi x6)]) (List.forall_mem_cons.mpr ⟨rfl, List.forall_mem_cons.mpr ⟨rfl, List.forall_mem_cons.mpr ⟨rfl, List.forall_mem_cons.mpr ⟨rfl, List.forall_mem_cons.mpr ⟨rfl, fun _ h => absurd h List.not_mem_nil⟩⟩⟩⟩⟩) ?_
        exact q
      refine xS_call (q := 258) (n := 2) (kq := 4) (as := [xa 536, xi 1]) (st1 := []) rfl rfl rfl rfl rfl rfl rfl rfl rfl rfl (fun _ => xw_rcv1 (t := 12) (xw_obd (by decide +kernel)) rfl) rfl (List.forall_mem_cons.mpr ⟨rfl, List.forall_mem_cons.mpr ⟨rfl, fun _ h => absurd h List.not_mem_nil⟩⟩) (ygf258 hB _ _ rfl) (fun v8 m8 cv8 => ?_)
      refine xS_of (pc' := 144) (L' := [(4, xi v8), (0, xa 536), (1, xi x1), (2, xi x2), (5, xi x5), (6, xi x6)]) (st' := [xi v8]) (m' := m8) (fun ex ns r q => ?_) ?_
      · refine xw_istore (L' := [(4, xi v8), (0, xa 536), (1, xi x1), (2, xi x2), (5, xi x5), (6, xi x6)]) rfl (by decide) rfl ?_
        refine xw_iload rfl rfl ?_
        exact q
      refine xS_if (fun h2 => ?_) (fun h2 => ?_)
      · refine xS_of (pc' := 179) (L' := [(0, xa 536), (1, xi x1), (2, xi x2), (5, xi x5), (6, xi x6)]) (st' := []) (m' := m8) (fun ex ns r q => ?_) ?_
        · refine xw_if_eqT rfl (w32_cg (w32_of (xw_zr cv8))) h2 ?_
          refine xw_lo (L2 := [(0, xa 536), (1, xi x1), (2, xi x2), (5, xi x5), (6, xi x6)]) (List.forall_mem_cons.mpr ⟨rfl, List.forall_mem_cons.mpr ⟨rfl, List.forall_mem_cons.mpr ⟨rfl, List.forall_mem_cons.mpr ⟨rfl, List.forall_mem_cons.mpr ⟨rfl, fun _ h => absurd h List.not_mem_nil⟩⟩⟩⟩⟩) ?_
          exact q
        exact ygk268_179 hB hr56 hr114 _ _ _ _ _ c1 c2 c5 c6
      · refine xS_g (fun g3 => ?_)
        refine xS_of (pc' := 155) (L' := [(4, xi v8), (0, xa 536), (1, xi x1), (2, xi x2), (5, xi x5), (6, xi x6)]) (st' := [xi (xR m8 538 x1), xi x6]) (m' := m8) (fun ex ns r q => ?_) ?_
        · refine xw_if_eqF rfl (w32_cg (w32_of (xw_zr cv8))) h2 ?_
          refine xw_iload rfl rfl ?_
          refine xw_aload_n rfl rfl rfl ?_
          refine xw_gfR (n := 538) (e := 538) rfl (xw_obd (by decide +kernel)) (by decide +kernel) (by decide +kernel) rfl ?_
          refine xw_iload_n rfl rfl ?_
          refine xw_ialdc (n := 8) (v := (m8 538 x1)) (v' := (xR m8 538 x1)) rfl hB (xw_obd (by decide +kernel)) rfl g3 rfl rfl ?_
          exact q
        refine xS_if (fun h4 => ?_) (fun h4 => ?_)
        · refine xS_g (fun g5 => ?_)
          refine xS_of (pc' := 179) (L' := [(0, xa 536), (1, xi x1), (2, xi x2), (5, xi x5), (6, xi x6)]) (st' := []) (m' := (xw_u m8 540 (((4000 * x1) + (4 * x2)) + x6) (xR m8 536 12))) (fun ex ns r q => ?_) ?_
          · refine xw_ic_geF rfl (w32_cg c6) (w32_cg (w32_xR _ _ _)) (Int.not_le.mpr h4) ?_
            refine xw_aload_n rfl rfl rfl ?_
            refine xw_gfR (n := 540) (e := 540) rfl (xw_obd (by decide +kernel)) (by decide +kernel) (by decide +kernel) rfl ?_
            refine xw_sipush (e := 4000) rfl (by decide +kernel) ?_
            refine xw_iload_n rfl rfl ?_
            refine xw_imul rfl ?_
            refine xw_iconst rfl ?_
            refine xw_iload_n rfl rfl ?_
            refine xw_imul rfl ?_
            refine xw_iadd rfl ?_
            refine xw_iload rfl rfl ?_
            refine xw_iadd rfl ?_
            refine xw_aload_n rfl rfl rfl ?_
            refine xw_gfIc (v := (m8 536 12)) (v' := (xR m8 536 12)) rfl (xw_obd (by decide +kernel)) xk12_12 (qi := 12) rfl rfl rfl ?_
            refine xw_iast (n := 32000) rfl hB (xw_obd (by decide +kernel)) rfl g5 ?_
            refine xw_lo (L2 := [(0, xa 536), (1, xi x1), (2, xi x2), (5, xi x5), (6, xi x6)]) (List.forall_mem_cons.mpr ⟨rfl, List.forall_mem_cons.mpr ⟨rfl, List.forall_mem_cons.mpr ⟨rfl, List.forall_mem_cons.mpr ⟨rfl, List.forall_mem_cons.mpr ⟨rfl, fun _ h => absurd h List.not_mem_nil⟩⟩⟩⟩⟩) ?_
            exact q
          exact ygk268_179 hB hr56 hr114 _ _ _ _ _ c1 c2 c5 c6
        · refine xS_of (pc' := 179) (L' := [(0, xa 536), (1, xi x1), (2, xi x2), (5, xi x5), (6, xi x6)]) (st' := []) (m' := m8) (fun ex ns r q => ?_) ?_
          · refine xw_ic_geT rfl (w32_cg c6) (w32_cg (w32_xR _ _ _)) (Int.not_lt.mp h4) ?_
            refine xw_lo (L2 := [(0, xa 536), (1, xi x1), (2, xi x2), (5, xi x5), (6, xi x6)]) (List.forall_mem_cons.mpr ⟨rfl, List.forall_mem_cons.mpr ⟨rfl, List.forall_mem_cons.mpr ⟨rfl, List.forall_mem_cons.mpr ⟨rfl, List.forall_mem_cons.mpr ⟨rfl, fun _ h => absurd h List.not_mem_nil⟩⟩⟩⟩⟩) ?_
            exact q
          exact ygk268_179 hB hr56 hr114 _ _ _ _ _ c1 c2 c5 c6
    · refine xS_of (pc' := 137) (L' := [(0, xa 536), (1, xi x1), (2, xi x2), (5, xi x5), (6, xi x6)]) (st' := [xi 0, xa 536]) (m' := m7) (fun ex ns r q => ?_) ?_
      · refine xw_ic_neT rfl (w32_cg (w32_xR _ _ _)) (w32_cg rfl) h1 ?_
        refine xw_iconst rfl ?_
        refine xw_lo (L2 := [(0, xa 536), (1, xi x1), (2, xi x2), (5, xi x5), (6, xi x6)]) (List.forall_mem_cons.mpr ⟨rfl, List.forall_mem_cons.mpr ⟨rfl, List.forall_mem_cons.mpr ⟨rfl, List.forall_mem_cons.mpr ⟨rfl, List.forall_mem_cons.mpr ⟨rfl, fun _ h => absurd h List.not_mem_nil⟩⟩⟩⟩⟩) ?_
        exact q
      refine xS_call (q := 258) (n := 2) (kq := 4) (as := [xa 536, xi 0]) (st1 := []) rfl rfl rfl rfl rfl rfl rfl rfl rfl rfl (fun _ => xw_rcv1 (t := 12) (xw_obd (by decide +kernel)) rfl) rfl (List.forall_mem_cons.mpr ⟨rfl, List.forall_mem_cons.mpr ⟨rfl, fun _ h => absurd h List.not_mem_nil⟩⟩) (ygf258 hB _ _ rfl) (fun v9 m9 cv9 => ?_)
      refine xS_of (pc' := 144) (L' := [(4, xi v9), (0, xa 536), (1, xi x1), (2, xi x2), (5, xi x5), (6, xi x6)]) (st' := [xi v9]) (m' := m9) (fun ex ns r q => ?_) ?_
      · refine xw_istore (L' := [(4, xi v9), (0, xa 536), (1, xi x1), (2, xi x2), (5, xi x5), (6, xi x6)]) rfl (by decide) rfl ?_
        refine xw_iload rfl rfl ?_
        exact q
      refine xS_if (fun h2 => ?_) (fun h2 => ?_)
      · refine xS_of (pc' := 179) (L' := [(0, xa 536), (1, xi x1), (2, xi x2), (5, xi x5), (6, xi x6)]) (st' := []) (m' := m9) (fun ex ns r q => ?_) ?_
        · refine xw_if_eqT rfl (w32_cg (w32_of (xw_zr cv9))) h2 ?_
          refine xw_lo (L2 := [(0, xa 536), (1, xi x1), (2, xi x2), (5, xi x5), (6, xi x6)]) (List.forall_mem_cons.mpr ⟨rfl, List.forall_mem_cons.mpr ⟨rfl, List.forall_mem_cons.mpr ⟨rfl, List.forall_mem_cons.mpr ⟨rfl, List.forall_mem_cons.mpr ⟨rfl, fun _ h => absurd h List.not_mem_nil⟩⟩⟩⟩⟩) ?_
          exact q
        exact ygk268_179 hB hr56 hr114 _ _ _ _ _ c1 c2 c5 c6
      · refine xS_g (fun g3 => ?_)
        refine xS_of (pc' := 155) (L' := [(4, xi v9), (0, xa 536), (1, xi x1), (2, xi x2), (5, xi x5), (6, xi x6)]) (st' := [xi (xR m9 538 x1), xi x6]) (m' := m9) (fun ex ns r q => ?_) ?_
        · refine xw_if_eqF rfl (w32_cg (w32_of (xw_zr cv9))) h2 ?_
          refine xw_iload rfl rfl ?_
          refine xw_aload_n rfl rfl rfl ?_
          refine xw_gfR (n := 538) (e := 538) rfl (xw_obd (by decide +kernel)) (by decide +kernel) (by decide +kernel) rfl ?_
          refine xw_iload_n rfl rfl ?_
          refine xw_ialdc (n := 8) (v := (m9 538 x1)) (v' := (xR m9 538 x1)) rfl hB (xw_obd (by decide +kernel)) rfl g3 rfl rfl ?_
          exact q
        refine xS_if (fun h4 => ?_) (fun h4 => ?_)
        · refine xS_g (fun g5 => ?_)
          refine xS_of (pc' := 179) (L' := [(0, xa 536), (1, xi x1), (2, xi x2), (5, xi x5), (6, xi x6)]) (st' := []) (m' := (xw_u m9 540 (((4000 * x1) + (4 * x2)) + x6) (xR m9 536 12))) (fun ex ns r q => ?_) ?_
          · refine xw_ic_geF rfl (w32_cg c6) (w32_cg (w32_xR _ _ _)) (Int.not_le.mpr h4) ?_
            refine xw_aload_n rfl rfl rfl ?_
            refine xw_gfR (n := 540) (e := 540) rfl (xw_obd (by decide +kernel)) (by decide +kernel) (by decide +kernel) rfl ?_
            refine xw_sipush (e := 4000) rfl (by decide +kernel) ?_
            refine xw_iload_n rfl rfl ?_
            refine xw_imul rfl ?_
            refine xw_iconst rfl ?_
            refine xw_iload_n rfl rfl ?_
            refine xw_imul rfl ?_
            refine xw_iadd rfl ?_
            refine xw_iload rfl rfl ?_
            refine xw_iadd rfl ?_
            refine xw_aload_n rfl rfl rfl ?_
            refine xw_gfIc (v := (m9 536 12)) (v' := (xR m9 536 12)) rfl (xw_obd (by decide +kernel)) xk12_12 (qi := 12) rfl rfl rfl ?_
            refine xw_iast (n := 32000) rfl hB (xw_obd (by decide +kernel)) rfl g5 ?_
            refine xw_lo (L2 := [(0, xa 536), (1, xi x1), (2, xi x2), (5, xi x5), (6, xi x6)]) (List.forall_mem_cons.mpr ⟨rfl, List.forall_mem_cons.mpr ⟨rfl, List.forall_mem_cons.mpr ⟨rfl, List.forall_mem_cons.mpr ⟨rfl, List.forall_mem_cons.mpr ⟨rfl, fun _ h => absurd h List.not_mem_nil⟩⟩⟩⟩⟩) ?_
            exact q
          exact ygk268_179 hB hr56 hr114 _ _ _ _ _ c1 c2 c5 c6
        · refine xS_of (pc' := 179) (L' := [(0, xa 536), (1, xi x1), (2, xi x2), (5, xi x5), (6, xi x6)]) (st' := []) (m' := m9) (fun ex ns r q => ?_) ?_
          · refine xw_ic_geT rfl (w32_cg c6) (w32_cg (w32_xR _ _ _)) (Int.not_lt.mp h4) ?_
            refine xw_lo (L2 := [(0, xa 536), (1, xi x1), (2, xi x2), (5, xi x5), (6, xi x6)]) (List.forall_mem_cons.mpr ⟨rfl, List.forall_mem_cons.mpr ⟨rfl, List.forall_mem_cons.mpr ⟨rfl, List.forall_mem_cons.mpr ⟨rfl, List.forall_mem_cons.mpr ⟨rfl, fun _ h => absurd h List.not_mem_nil⟩⟩⟩⟩⟩) ?_
            exact q
          exact ygk268_179 hB hr56 hr114 _ _ _ _ _ c1 c2 c5 c6
theorem ygl268_114 {B : Nat} (hB : B ≤ 512) {xs : Nat → Int32} {SL d : Nat} {r56 : Int → Int → Int → xw_M → xP} (hr56 : ∀ x1 x2 x3 m, w32 x1 = x1 → w32 x2 = x2 → w32 x3 = x3 → xS B xs SL (d + 4) 268 (8, none, [], 13) 0 56 [(0, xa 536), (1, xi x1), (2, xi x2), (3, xi x3)] [] m (r56 x1 x2 x3 m)) : ∀ n x1 x2 x5 x6 x7 m, w32 x1 = x1 → w32 x2 = x2 → w32 x5 = x5 → w32 x6 = x6 → w32 x7 = x7 → xS B xs SL (d + 4) 268 (8, none, [], 13) 0 114 [(0, xa 536), (1, xi x1), (2, xi x2), (5, xi x5), (6, xi x6), (7, xi x7)] [] m (xl5 (yl268_114 B r56) n x1 x2 x5 x6 x7 m) := by
  intro n
  induction n with
  | zero => intro x1 x2 x5 x6 x7 m c1 c2 c5 c6 c7; exact xS_none
  | succ n ih => exact ysl268_114 hB hr56 ih
theorem ygk268_98 {B : Nat} (hB : B ≤ 512) {xs : Nat → Int32} {SL d : Nat} {r56 : Int → Int → Int → xw_M → xP} (hr56 : ∀ x1 x2 x3 m, w32 x1 = x1 → w32 x2 = x2 → w32 x3 = x3 → xS B xs SL (d + 4) 268 (8, none, [], 13) 0 56 [(0, xa 536), (1, xi x1), (2, xi x2), (3, xi x3)] [] m (r56 x1 x2 x3 m)) : ∀ x1 x2 m, w32 x1 = x1 → w32 x2 = x2 → xS B xs SL (d + 4) 268 (8, none, [], 13) 0 98 [(0, xa 536), (1, xi x1), (2, xi x2)] [] m (yk268_98 B r56 x1 x2 m) := by
  intro x1 x2 m c1 c2
  unfold yk268_98
  refine xS_of (pc' := 114) (L' := [(0, xa 536), (1, xi x1), (2, xi x2), (5, xi (xR m 536 9)), (6, xi 0), (7, xi 0)]) (st' := []) (m' := m) (fun ex ns r q => ?_) ?_
  · refine xw_iconst rfl ?_
    refine xw_istore (L' := [(4, xi 0), (0, xa 536), (1, xi x1), (2, xi x2)]) rfl (by decide) rfl ?_
    refine xw_aload_n rfl rfl rfl ?_
    refine xw_gfIc (v := (m 536 9)) (v' := (xR m 536 9)) rfl (xw_obd (by decide +kernel)) xk12_9 (qi := 9) rfl rfl rfl ?_
    refine xw_istore (L' := [(5, xi (xR m 536 9)), (4, xi 0), (0, xa 536), (1, xi x1), (2, xi x2)]) rfl (by decide) rfl ?_
    refine xw_iconst rfl ?_
    refine xw_istore (L' := [(6, xi 0), (5, xi (xR m 536 9)), (4, xi 0), (0, xa 536), (1, xi x1), (2, xi x2)]) rfl (by decide) rfl ?_
    refine xw_iload rfl rfl ?_
    refine xw_istore (L' := [(7, xi 0), (6, xi 0), (5, xi (xR m 536 9)), (4, xi 0), (0, xa 536), (1, xi x1), (2, xi x2)]) rfl (by decide) rfl ?_
    refine xw_lo (L2 := [(0, xa 536), (1, xi x1), (2, xi x2), (5, xi (xR m 536 9)), (6, xi 0), (7, xi 0)]) (List.forall_mem_cons.mpr ⟨rfl, List.forall_mem_cons.mpr ⟨rfl, List.forall_mem_cons.mpr ⟨rfl, List.forall_mem_cons.mpr ⟨rfl, List.forall_mem_cons.mpr ⟨rfl, List.forall_mem_cons.mpr ⟨rfl, fun _ h => absurd h List.not_mem_nil⟩⟩⟩⟩⟩⟩) ?_
    exact q
  exact ygl268_114 hB hr56 1000000 _ _ _ _ _ _ c1 c2 (w32_xR _ _ _) rfl rfl
theorem ysl268_56 {B : Nat} (hB : B ≤ 512) {xs : Nat → Int32} {SL d : Nat} {r56 : Int → Int → Int → xw_M → xP} (hr56 : ∀ x1 x2 x3 m, w32 x1 = x1 → w32 x2 = x2 → w32 x3 = x3 → xS B xs SL (d + 4) 268 (8, none, [], 13) 0 56 [(0, xa 536), (1, xi x1), (2, xi x2), (3, xi x3)] [] m (r56 x1 x2 x3 m)) : ∀ x1 x2 x3 m, w32 x1 = x1 → w32 x2 = x2 → w32 x3 = x3 → xS B xs SL (d + 4) 268 (8, none, [], 13) 0 56 [(0, xa 536), (1, xi x1), (2, xi x2), (3, xi x3)] [] m (yl268_56 B r56 x1 x2 x3 m) := by
  intro x1 x2 x3 m c1 c2 c3
  unfold yl268_56
  refine xS_of (pc' := 57) (L' := [(0, xa 536), (1, xi x1), (2, xi x2), (3, xi x3)]) (st' := [xi x3]) (m' := m) (fun ex ns r q => ?_) ?_
  · refine xw_iload_n rfl rfl ?_
    exact q
  refine xS_if (fun h0 => ?_) (fun h0 => ?_)
  · refine xS_of (pc' := 357) (L' := [(0, xa 536), (1, xi x1), (2, xi x2), (3, xi x3)]) (st' := [xi (xR m 536 6), xi x1, xa 539]) (m' := m) (fun ex ns r q => ?_) ?_
    · refine xw_if_eqT rfl (w32_cg c3) h0 ?_
      refine xw_aload_n rfl rfl rfl ?_
      refine xw_gfR (n := 539) (e := 539) rfl (xw_obd (by decide +kernel)) (by decide +kernel) (by decide +kernel) rfl ?_
      refine xw_iload_n rfl rfl ?_
      refine xw_aload_n rfl rfl rfl ?_
      refine xw_gfIc (v := (m 536 6)) (v' := (xR m 536 6)) rfl (xw_obd (by decide +kernel)) xk12_6 (qi := 6) rfl rfl rfl ?_
      exact q
    refine xS_if (fun h1 => ?_) (fun h1 => ?_)
    · refine xS_g (fun g2 => ?_)
      refine xS_of (pc' := 371) (L' := [(0, xa 536), (1, xi x1), (2, xi x2), (3, xi x3)]) (st' := []) (m' := (xw_u m 539 x1 x2)) (fun ex ns r q => ?_) ?_
      · refine xw_if_neF rfl (w32_cg (w32_xR _ _ _)) h1 ?_
        refine xw_iload_n rfl rfl ?_
        refine xw_goto rfl ?_
        refine xw_iast (n := 8) rfl hB (xw_obd (by decide +kernel)) rfl g2 ?_
        exact q
      exact xS_ret (v := 0) rfl rfl rfl rfl
    · refine xS_g (fun g2 => ?_)
      refine xS_of (pc' := 371) (L' := [(0, xa 536), (1, xi x1), (2, xi x2), (3, xi x3)]) (st' := []) (m' := (xw_u m 539 x1 (xR m 539 x1))) (fun ex ns r q => ?_) ?_
      · refine xw_if_neT rfl (w32_cg (w32_xR _ _ _)) h1 ?_
        refine xw_aload_n rfl rfl rfl ?_
        refine xw_gfR (n := 539) (e := 539) rfl (xw_obd (by decide +kernel)) (by decide +kernel) (by decide +kernel) rfl ?_
        refine xw_iload_n rfl rfl ?_
        refine xw_ialdc (n := 8) (v := (m 539 x1)) (v' := (xR m 539 x1)) rfl hB (xw_obd (by decide +kernel)) rfl g2 rfl rfl ?_
        refine xw_iast (n := 8) rfl hB (xw_obd (by decide +kernel)) rfl g2 ?_
        exact q
      exact xS_ret (v := 0) rfl rfl rfl rfl
  · refine xS_of (pc' := 63) (L' := [(0, xa 536), (1, xi x1), (2, xi x2)]) (st' := [xi 40, xa 536]) (m' := m) (fun ex ns r q => ?_) ?_
    · refine xw_if_eqF rfl (w32_cg c3) h0 ?_
      refine xw_aload_n rfl rfl rfl ?_
      refine xw_bipush (e := 40) rfl (by decide +kernel) ?_
      refine xw_lo (L2 := [(0, xa 536), (1, xi x1), (2, xi x2)]) (List.forall_mem_cons.mpr ⟨rfl, List.forall_mem_cons.mpr ⟨rfl, List.forall_mem_cons.mpr ⟨rfl, fun _ h => absurd h List.not_mem_nil⟩⟩⟩) ?_
      exact q
    refine xS_call (q := 265) (n := 2) (kq := 4) (as := [xa 536, xi 40]) (st1 := []) rfl rfl rfl rfl rfl rfl rfl rfl rfl rfl (fun _ => xw_rcv1 (t := 12) (xw_obd (by decide +kernel)) rfl) rfl (List.forall_mem_cons.mpr ⟨rfl, List.forall_mem_cons.mpr ⟨rfl, fun _ h => absurd h List.not_mem_nil⟩⟩) (ygf265 hB _ _ rfl) (fun v1 m1 cv1 => ?_)
    refine xS_if (fun h1 => ?_) (fun h1 => ?_)
    · refine xS_of (pc' := 98) (L' := [(0, xa 536), (1, xi x1), (2, xi x2)]) (st' := []) (m' := m1) (fun ex ns r q => ?_) ?_
      · refine xw_if_eqT rfl (w32_cg (w32_of (xw_zr cv1))) h1 ?_
        refine xw_lo (L2 := [(0, xa 536), (1, xi x1), (2, xi x2)]) (List.forall_mem_cons.mpr ⟨rfl, List.forall_mem_cons.mpr ⟨rfl, List.forall_mem_cons.mpr ⟨rfl, fun _ h => absurd h List.not_mem_nil⟩⟩⟩) ?_
        exact q
      exact ygk268_98 hB hr56 _ _ _ c1 c2
    · refine xS_of (pc' := 74) (L' := [(0, xa 536), (1, xi x1), (2, xi x2)]) (st' := [xi 1000, xi x2, xa 536]) (m' := m1) (fun ex ns r q => ?_) ?_
      · refine xw_if_eqF rfl (w32_cg (w32_of (xw_zr cv1))) h1 ?_
        refine xw_aload_n rfl rfl rfl ?_
        refine xw_iload_n rfl rfl ?_
        refine xw_sipush (e := 1000) rfl (by decide +kernel) ?_
        exact q
      refine xS_if (fun h2 => ?_) (fun h2 => ?_)
      · refine xS_of (pc' := 88) (L' := [(0, xa 536), (1, xi x1), (2, xi x2)]) (st' := [xi (xR m1 536 9), xi 7, xi 1, xa 536]) (m' := m1) (fun ex ns r q => ?_) ?_
        · refine xw_ic_geF rfl (w32_cg c2) (w32_cg rfl) (Int.not_le.mpr h2) ?_
          refine xw_iconst rfl ?_
          refine xw_goto rfl ?_
          refine xw_bipush (e := 7) rfl (by decide +kernel) ?_
          refine xw_aload_n rfl rfl rfl ?_
          refine xw_gfIc (v := (m1 536 9)) (v' := (xR m1 536 9)) rfl (xw_obd (by decide +kernel)) xk12_9 (qi := 9) rfl rfl rfl ?_
          refine xw_lo (L2 := [(0, xa 536), (1, xi x1), (2, xi x2)]) (List.forall_mem_cons.mpr ⟨rfl, List.forall_mem_cons.mpr ⟨rfl, List.forall_mem_cons.mpr ⟨rfl, fun _ h => absurd h List.not_mem_nil⟩⟩⟩) ?_
          exact q
        refine xS_call (q := 254) (n := 4) (kq := 4) (as := [xa 536, xi 1, xi 7, xi (xR m1 536 9)]) (st1 := []) rfl rfl rfl rfl rfl rfl rfl rfl rfl rfl (fun _ => xw_rcv1 (t := 12) (xw_obd (by decide +kernel)) rfl) rfl (List.forall_mem_cons.mpr ⟨rfl, List.forall_mem_cons.mpr ⟨rfl, List.forall_mem_cons.mpr ⟨rfl, List.forall_mem_cons.mpr ⟨rfl, fun _ h => absurd h List.not_mem_nil⟩⟩⟩⟩) (ygf254 hB _ _ _ _ rfl rfl (w32_xR _ _ _)) (fun v2 m2 cv2 => ?_)
        refine xS_if (fun h3 => ?_) (fun h3 => ?_)
        · refine xS_of (pc' := 98) (L' := [(0, xa 536), (1, xi x1), (2, xi x2)]) (st' := []) (m' := m2) (fun ex ns r q => ?_) ?_
          · refine xw_if_eqT rfl (w32_cg (w32_of (xw_zr cv2))) h3 ?_
            refine xw_lo (L2 := [(0, xa 536), (1, xi x1), (2, xi x2)]) (List.forall_mem_cons.mpr ⟨rfl, List.forall_mem_cons.mpr ⟨rfl, List.forall_mem_cons.mpr ⟨rfl, fun _ h => absurd h List.not_mem_nil⟩⟩⟩) ?_
            exact q
          exact ygk268_98 hB hr56 _ _ _ c1 c2
        · refine xS_of (pc' := 114) (L' := [(0, xa 536), (1, xi x1), (2, xi x2), (5, xi (xR m2 536 9)), (6, xi 0), (7, xi 1)]) (st' := []) (m' := m2) (fun ex ns r q => ?_) ?_
          · refine xw_if_eqF rfl (w32_cg (w32_of (xw_zr cv2))) h3 ?_
            refine xw_iconst rfl ?_
            refine xw_goto rfl ?_
            refine xw_istore (L' := [(4, xi 1), (0, xa 536), (1, xi x1), (2, xi x2)]) rfl (by decide) rfl ?_
            refine xw_aload_n rfl rfl rfl ?_
            refine xw_gfIc (v := (m2 536 9)) (v' := (xR m2 536 9)) rfl (xw_obd (by decide +kernel)) xk12_9 (qi := 9) rfl rfl rfl ?_
            refine xw_istore (L' := [(5, xi (xR m2 536 9)), (4, xi 1), (0, xa 536), (1, xi x1), (2, xi x2)]) rfl (by decide) rfl ?_
            refine xw_iconst rfl ?_
            refine xw_istore (L' := [(6, xi 0), (5, xi (xR m2 536 9)), (4, xi 1), (0, xa 536), (1, xi x1), (2, xi x2)]) rfl (by decide) rfl ?_
            refine xw_iload rfl rfl ?_
            refine xw_istore (L' := [(7, xi 1), (6, xi 0), (5, xi (xR m2 536 9)), (4, xi 1), (0, xa 536), (1, xi x1), (2, xi x2)]) rfl (by decide) rfl ?_
            refine xw_lo (L2 := [(0, xa 536), (1, xi x1), (2, xi x2), (5, xi (xR m2 536 9)), (6, xi 0), (7, xi 1)]) (List.forall_mem_cons.mpr ⟨rfl, List.forall_mem_cons.mpr ⟨rfl, List.forall_mem_cons.mpr ⟨rfl, List.forall_mem_cons.mpr ⟨rfl, List.forall_mem_cons.mpr ⟨rfl, List.forall_mem_cons.mpr ⟨rfl, fun _ h => absurd h List.not_mem_nil⟩⟩⟩⟩⟩⟩) ?_
            exact q
          exact ygl268_114 hB hr56 1000000 _ _ _ _ _ _ c1 c2 (w32_xR _ _ _) rfl rfl
      · refine xS_of (pc' := 88) (L' := [(0, xa 536), (1, xi x1), (2, xi x2)]) (st' := [xi (xR m1 536 9), xi 7, xi 0, xa 536]) (m' := m1) (fun ex ns r q => ?_) ?_
        · refine xw_ic_geT rfl (w32_cg c2) (w32_cg rfl) (Int.not_lt.mp h2) ?_
          refine xw_iconst rfl ?_
          refine xw_bipush (e := 7) rfl (by decide +kernel) ?_
          refine xw_aload_n rfl rfl rfl ?_
          refine xw_gfIc (v := (m1 536 9)) (v' := (xR m1 536 9)) rfl (xw_obd (by decide +kernel)) xk12_9 (qi := 9) rfl rfl rfl ?_
          refine xw_lo (L2 := [(0, xa 536), (1, xi x1), (2, xi x2)]) (List.forall_mem_cons.mpr ⟨rfl, List.forall_mem_cons.mpr ⟨rfl, List.forall_mem_cons.mpr ⟨rfl, fun _ h => absurd h List.not_mem_nil⟩⟩⟩) ?_
          exact q
        refine xS_call (q := 254) (n := 4) (kq := 4) (as := [xa 536, xi 0, xi 7, xi (xR m1 536 9)]) (st1 := []) rfl rfl rfl rfl rfl rfl rfl rfl rfl rfl (fun _ => xw_rcv1 (t := 12) (xw_obd (by decide +kernel)) rfl) rfl (List.forall_mem_cons.mpr ⟨rfl, List.forall_mem_cons.mpr ⟨rfl, List.forall_mem_cons.mpr ⟨rfl, List.forall_mem_cons.mpr ⟨rfl, fun _ h => absurd h List.not_mem_nil⟩⟩⟩⟩) (ygf254 hB _ _ _ _ rfl rfl (w32_xR _ _ _)) (fun v3 m3 cv3 => ?_)
        refine xS_if (fun h3 => ?_) (fun h3 => ?_)
        · refine xS_of (pc' := 98) (L' := [(0, xa 536), (1, xi x1), (2, xi x2)]) (st' := []) (m' := m3) (fun ex ns r q => ?_) ?_
          · refine xw_if_eqT rfl (w32_cg (w32_of (xw_zr cv3))) h3 ?_
            refine xw_lo (L2 := [(0, xa 536), (1, xi x1), (2, xi x2)]) (List.forall_mem_cons.mpr ⟨rfl, List.forall_mem_cons.mpr ⟨rfl, List.forall_mem_cons.mpr ⟨rfl, fun _ h => absurd h List.not_mem_nil⟩⟩⟩) ?_
            exact q
          exact ygk268_98 hB hr56 _ _ _ c1 c2
        · refine xS_of (pc' := 114) (L' := [(0, xa 536), (1, xi x1), (2, xi x2), (5, xi (xR m3 536 9)), (6, xi 0), (7, xi 1)]) (st' := []) (m' := m3) (fun ex ns r q => ?_) ?_
          · refine xw_if_eqF rfl (w32_cg (w32_of (xw_zr cv3))) h3 ?_
            refine xw_iconst rfl ?_
            refine xw_goto rfl ?_
            refine xw_istore (L' := [(4, xi 1), (0, xa 536), (1, xi x1), (2, xi x2)]) rfl (by decide) rfl ?_
            refine xw_aload_n rfl rfl rfl ?_
            refine xw_gfIc (v := (m3 536 9)) (v' := (xR m3 536 9)) rfl (xw_obd (by decide +kernel)) xk12_9 (qi := 9) rfl rfl rfl ?_
            refine xw_istore (L' := [(5, xi (xR m3 536 9)), (4, xi 1), (0, xa 536), (1, xi x1), (2, xi x2)]) rfl (by decide) rfl ?_
            refine xw_iconst rfl ?_
            refine xw_istore (L' := [(6, xi 0), (5, xi (xR m3 536 9)), (4, xi 1), (0, xa 536), (1, xi x1), (2, xi x2)]) rfl (by decide) rfl ?_
            refine xw_iload rfl rfl ?_
            refine xw_istore (L' := [(7, xi 1), (6, xi 0), (5, xi (xR m3 536 9)), (4, xi 1), (0, xa 536), (1, xi x1), (2, xi x2)]) rfl (by decide) rfl ?_
            refine xw_lo (L2 := [(0, xa 536), (1, xi x1), (2, xi x2), (5, xi (xR m3 536 9)), (6, xi 0), (7, xi 1)]) (List.forall_mem_cons.mpr ⟨rfl, List.forall_mem_cons.mpr ⟨rfl, List.forall_mem_cons.mpr ⟨rfl, List.forall_mem_cons.mpr ⟨rfl, List.forall_mem_cons.mpr ⟨rfl, List.forall_mem_cons.mpr ⟨rfl, fun _ h => absurd h List.not_mem_nil⟩⟩⟩⟩⟩⟩) ?_
            exact q
          exact ygl268_114 hB hr56 1000000 _ _ _ _ _ _ c1 c2 (w32_xR _ _ _) rfl rfl
theorem ygl268_56 {B : Nat} (hB : B ≤ 512) {xs : Nat → Int32} {SL d : Nat} : ∀ n x1 x2 x3 m, w32 x1 = x1 → w32 x2 = x2 → w32 x3 = x3 → xS B xs SL (d + 4) 268 (8, none, [], 13) 0 56 [(0, xa 536), (1, xi x1), (2, xi x2), (3, xi x3)] [] m (xl3 (yl268_56 B) n x1 x2 x3 m) := by
  intro n
  induction n with
  | zero => intro x1 x2 x3 m c1 c2 c3; exact xS_none
  | succ n ih => exact ysl268_56 hB ih
theorem ygf268 {B : Nat} (hB : B ≤ 512) {xs : Nat → Int32} {SL d : Nat} : ∀ m, xS B xs SL (d + 4) 268 (8, none, [], 13) 0 0 [(0, xa 536)] [] m (yf268 B m) := by
  intro m
  unfold yf268
  refine xS_of (pc' := 1) (L' := [(0, xa 536)]) (st' := [xa 536]) (m' := m) (fun ex ns r q => ?_) ?_
  · refine xw_aload_n rfl rfl rfl ?_
    refine xw_lo (L2 := [(0, xa 536)]) (List.forall_mem_cons.mpr ⟨rfl, fun _ h => absurd h List.not_mem_nil⟩) ?_
    exact q
  refine xS_call (q := 248) (n := 1) (kq := 0) (as := [xa 536]) (st1 := []) rfl rfl rfl rfl rfl rfl rfl rfl rfl rfl (fun _ => xw_rcv1 (t := 12) (xw_obd (by decide +kernel)) rfl) rfl (List.forall_mem_cons.mpr ⟨rfl, fun _ h => absurd h List.not_mem_nil⟩) (ygf248 hB _) (fun v1 m1 cv1 => ?_)
  refine xS_of (pc' := 5) (L' := [(0, xa 536)]) (st' := [xa 536]) (m' := m1) (fun ex ns r q => ?_) ?_
  · refine xw_aload_n rfl rfl rfl ?_
    refine xw_lo (L2 := [(0, xa 536)]) (List.forall_mem_cons.mpr ⟨rfl, fun _ h => absurd h List.not_mem_nil⟩) ?_
    exact q
  refine xS_call (q := 261) (n := 1) (kq := 4) (as := [xa 536]) (st1 := []) rfl rfl rfl rfl rfl rfl rfl rfl rfl rfl (fun _ => xw_rcv1 (t := 12) (xw_obd (by decide +kernel)) rfl) rfl (List.forall_mem_cons.mpr ⟨rfl, fun _ h => absurd h List.not_mem_nil⟩) (ygf261 hB _) (fun v2 m2 cv2 => ?_)
  refine xS_if (fun h0 => ?_) (fun h0 => ?_)
  · refine xS_of (pc' := 40) (L' := [(0, xa 536), (1, xi 0)]) (st' := [xi (xR m2 536 9), xi 5, xi 1, xa 536]) (m' := m2) (fun ex ns r q => ?_) ?_
    · refine xw_if_eqT rfl (w32_cg (w32_of (xw_zr cv2))) h0 ?_
      refine xw_iconst rfl ?_
      refine xw_istore_n (L' := [(1, xi 0), (0, xa 536)]) rfl (by decide) rfl ?_
      refine xw_aload_n rfl rfl rfl ?_
      refine xw_iload_n rfl rfl ?_
      refine xw_if_ltF rfl (w32_cg rfl) (by decide) ?_
      refine xw_iconst rfl ?_
      refine xw_goto rfl ?_
      refine xw_iconst rfl ?_
      refine xw_aload_n rfl rfl rfl ?_
      refine xw_gfIc (v := (m2 536 9)) (v' := (xR m2 536 9)) rfl (xw_obd (by decide +kernel)) xk12_9 (qi := 9) rfl rfl rfl ?_
      refine xw_lo (L2 := [(0, xa 536), (1, xi 0)]) (List.forall_mem_cons.mpr ⟨rfl, List.forall_mem_cons.mpr ⟨rfl, fun _ h => absurd h List.not_mem_nil⟩⟩) ?_
      exact q
    refine xS_call (q := 254) (n := 4) (kq := 4) (as := [xa 536, xi 1, xi 5, xi (xR m2 536 9)]) (st1 := []) rfl rfl rfl rfl rfl rfl rfl rfl rfl rfl (fun _ => xw_rcv1 (t := 12) (xw_obd (by decide +kernel)) rfl) rfl (List.forall_mem_cons.mpr ⟨rfl, List.forall_mem_cons.mpr ⟨rfl, List.forall_mem_cons.mpr ⟨rfl, List.forall_mem_cons.mpr ⟨rfl, fun _ h => absurd h List.not_mem_nil⟩⟩⟩⟩) (ygf254 hB _ _ _ _ rfl rfl (w32_xR _ _ _)) (fun v3 m3 cv3 => ?_)
    refine xS_if (fun h1 => ?_) (fun h1 => ?_)
    · refine xS_of (pc' := 46) (L' := [(0, xa 536), (1, xi 0)]) (st' := []) (m' := m3) (fun ex ns r q => ?_) ?_
      · refine xw_if_neF rfl (w32_cg (w32_of (xw_zr cv3))) h1 ?_
        exact q
      exact xS_ret (v := 0) rfl rfl rfl rfl
    · refine xS_of (pc' := 56) (L' := [(0, xa 536), (1, xi 0), (2, xi (xR m3 539 0)), (3, xi 1)]) (st' := []) (m' := m3) (fun ex ns r q => ?_) ?_
      · refine xw_if_neT rfl (w32_cg (w32_of (xw_zr cv3))) h1 ?_
        refine xw_aload_n rfl rfl rfl ?_
        refine xw_gfR (n := 539) (e := 539) rfl (xw_obd (by decide +kernel)) (by decide +kernel) (by decide +kernel) rfl ?_
        refine xw_iload_n rfl rfl ?_
        refine xw_ialdc (n := 8) (v := (m3 539 0)) (v' := (xR m3 539 0)) rfl hB (xw_obd (by decide +kernel)) rfl ⟨by decide, by decide⟩ rfl rfl ?_
        refine xw_istore_n (L' := [(2, xi (xR m3 539 0)), (0, xa 536), (1, xi 0)]) rfl (by decide) rfl ?_
        refine xw_iconst rfl ?_
        refine xw_istore_n (L' := [(3, xi 1), (2, xi (xR m3 539 0)), (0, xa 536), (1, xi 0)]) rfl (by decide) rfl ?_
        refine xw_lo (L2 := [(0, xa 536), (1, xi 0), (2, xi (xR m3 539 0)), (3, xi 1)]) (List.forall_mem_cons.mpr ⟨rfl, List.forall_mem_cons.mpr ⟨rfl, List.forall_mem_cons.mpr ⟨rfl, List.forall_mem_cons.mpr ⟨rfl, fun _ h => absurd h List.not_mem_nil⟩⟩⟩⟩) ?_
        exact q
      exact ygl268_56 hB 1000000 _ _ _ _ rfl (w32_xR _ _ _) rfl
  · refine xS_of (pc' := 17) (L' := [(0, xa 536)]) (st' := [xi (xR m2 536 14), xi 0, xa 536]) (m' := m2) (fun ex ns r q => ?_) ?_
    · refine xw_if_eqF rfl (w32_cg (w32_of (xw_zr cv2))) h0 ?_
      refine xw_aload_n rfl rfl rfl ?_
      refine xw_iconst rfl ?_
      refine xw_aload_n rfl rfl rfl ?_
      refine xw_gfIc (v := (m2 536 14)) (v' := (xR m2 536 14)) rfl (xw_obd (by decide +kernel)) xk12_14 (qi := 14) rfl rfl rfl ?_
      refine xw_lo (L2 := [(0, xa 536)]) (List.forall_mem_cons.mpr ⟨rfl, fun _ h => absurd h List.not_mem_nil⟩) ?_
      exact q
    refine xS_call (q := 262) (n := 3) (kq := 1) (as := [xa 536, xi 0, xi (xR m2 536 14)]) (st1 := []) rfl rfl rfl rfl rfl rfl rfl rfl rfl rfl (fun _ => xw_rcv1 (t := 12) (xw_obd (by decide +kernel)) rfl) rfl (List.forall_mem_cons.mpr ⟨rfl, List.forall_mem_cons.mpr ⟨rfl, List.forall_mem_cons.mpr ⟨rfl, fun _ h => absurd h List.not_mem_nil⟩⟩⟩) (ygf262 hB _ _ _ rfl (w32_xR _ _ _)) (fun v4 m4 cv4 => ?_)
    refine xS_of (pc' := 27) (L' := [(1, xi v4), (0, xa 536)]) (st' := [xi v4, xa 536]) (m' := m4) (fun ex ns r q => ?_) ?_
    · refine xw_goto rfl ?_
      refine xw_istore_n (L' := [(1, xi v4), (0, xa 536)]) rfl (by decide) rfl ?_
      refine xw_aload_n rfl rfl rfl ?_
      refine xw_iload_n rfl rfl ?_
      exact q
    refine xS_if (fun h1 => ?_) (fun h1 => ?_)
    · refine xS_of (pc' := 40) (L' := [(0, xa 536), (1, xi v4)]) (st' := [xi (xR m4 536 9), xi 5, xi 0, xa 536]) (m' := m4) (fun ex ns r q => ?_) ?_
      · refine xw_if_ltT rfl (w32_cg cv4) h1 ?_
        refine xw_iconst rfl ?_
        refine xw_iconst rfl ?_
        refine xw_aload_n rfl rfl rfl ?_
        refine xw_gfIc (v := (m4 536 9)) (v' := (xR m4 536 9)) rfl (xw_obd (by decide +kernel)) xk12_9 (qi := 9) rfl rfl rfl ?_
        refine xw_lo (L2 := [(0, xa 536), (1, xi v4)]) (List.forall_mem_cons.mpr ⟨rfl, List.forall_mem_cons.mpr ⟨rfl, fun _ h => absurd h List.not_mem_nil⟩⟩) ?_
        exact q
      refine xS_call (q := 254) (n := 4) (kq := 4) (as := [xa 536, xi 0, xi 5, xi (xR m4 536 9)]) (st1 := []) rfl rfl rfl rfl rfl rfl rfl rfl rfl rfl (fun _ => xw_rcv1 (t := 12) (xw_obd (by decide +kernel)) rfl) rfl (List.forall_mem_cons.mpr ⟨rfl, List.forall_mem_cons.mpr ⟨rfl, List.forall_mem_cons.mpr ⟨rfl, List.forall_mem_cons.mpr ⟨rfl, fun _ h => absurd h List.not_mem_nil⟩⟩⟩⟩) (ygf254 hB _ _ _ _ rfl rfl (w32_xR _ _ _)) (fun v5 m5 cv5 => ?_)
      refine xS_if (fun h2 => ?_) (fun h2 => ?_)
      · refine xS_of (pc' := 46) (L' := [(0, xa 536), (1, xi v4)]) (st' := []) (m' := m5) (fun ex ns r q => ?_) ?_
        · refine xw_if_neF rfl (w32_cg (w32_of (xw_zr cv5))) h2 ?_
          exact q
        exact xS_ret (v := 0) rfl rfl rfl rfl
      · refine xS_g (fun g3 => ?_)
        refine xS_of (pc' := 56) (L' := [(0, xa 536), (1, xi v4), (2, xi (xR m5 539 v4)), (3, xi 1)]) (st' := []) (m' := m5) (fun ex ns r q => ?_) ?_
        · refine xw_if_neT rfl (w32_cg (w32_of (xw_zr cv5))) h2 ?_
          refine xw_aload_n rfl rfl rfl ?_
          refine xw_gfR (n := 539) (e := 539) rfl (xw_obd (by decide +kernel)) (by decide +kernel) (by decide +kernel) rfl ?_
          refine xw_iload_n rfl rfl ?_
          refine xw_ialdc (n := 8) (v := (m5 539 v4)) (v' := (xR m5 539 v4)) rfl hB (xw_obd (by decide +kernel)) rfl g3 rfl rfl ?_
          refine xw_istore_n (L' := [(2, xi (xR m5 539 v4)), (0, xa 536), (1, xi v4)]) rfl (by decide) rfl ?_
          refine xw_iconst rfl ?_
          refine xw_istore_n (L' := [(3, xi 1), (2, xi (xR m5 539 v4)), (0, xa 536), (1, xi v4)]) rfl (by decide) rfl ?_
          refine xw_lo (L2 := [(0, xa 536), (1, xi v4), (2, xi (xR m5 539 v4)), (3, xi 1)]) (List.forall_mem_cons.mpr ⟨rfl, List.forall_mem_cons.mpr ⟨rfl, List.forall_mem_cons.mpr ⟨rfl, List.forall_mem_cons.mpr ⟨rfl, fun _ h => absurd h List.not_mem_nil⟩⟩⟩⟩) ?_
          exact q
        exact ygl268_56 hB 1000000 _ _ _ _ cv4 (w32_xR _ _ _) rfl
    · refine xS_of (pc' := 40) (L' := [(0, xa 536), (1, xi v4)]) (st' := [xi (xR m4 536 9), xi 5, xi 1, xa 536]) (m' := m4) (fun ex ns r q => ?_) ?_
      · refine xw_if_ltF rfl (w32_cg cv4) h1 ?_
        refine xw_iconst rfl ?_
        refine xw_goto rfl ?_
        refine xw_iconst rfl ?_
        refine xw_aload_n rfl rfl rfl ?_
        refine xw_gfIc (v := (m4 536 9)) (v' := (xR m4 536 9)) rfl (xw_obd (by decide +kernel)) xk12_9 (qi := 9) rfl rfl rfl ?_
        refine xw_lo (L2 := [(0, xa 536), (1, xi v4)]) (List.forall_mem_cons.mpr ⟨rfl, List.forall_mem_cons.mpr ⟨rfl, fun _ h => absurd h List.not_mem_nil⟩⟩) ?_
        exact q
      refine xS_call (q := 254) (n := 4) (kq := 4) (as := [xa 536, xi 1, xi 5, xi (xR m4 536 9)]) (st1 := []) rfl rfl rfl rfl rfl rfl rfl rfl rfl rfl (fun _ => xw_rcv1 (t := 12) (xw_obd (by decide +kernel)) rfl) rfl (List.forall_mem_cons.mpr ⟨rfl, List.forall_mem_cons.mpr ⟨rfl, List.forall_mem_cons.mpr ⟨rfl, List.forall_mem_cons.mpr ⟨rfl, fun _ h => absurd h List.not_mem_nil⟩⟩⟩⟩) (ygf254 hB _ _ _ _ rfl rfl (w32_xR _ _ _)) (fun v6 m6 cv6 => ?_)
      refine xS_if (fun h2 => ?_) (fun h2 => ?_)
      · refine xS_of (pc' := 46) (L' := [(0, xa 536), (1, xi v4)]) (st' := []) (m' := m6) (fun ex ns r q => ?_) ?_
        · refine xw_if_neF rfl (w32_cg (w32_of (xw_zr cv6))) h2 ?_
          exact q
        exact xS_ret (v := 0) rfl rfl rfl rfl
      · refine xS_g (fun g3 => ?_)
        refine xS_of (pc' := 56) (L' := [(0, xa 536), (1, xi v4), (2, xi (xR m6 539 v4)), (3, xi 1)]) (st' := []) (m' := m6) (fun ex ns r q => ?_) ?_
        · refine xw_if_neT rfl (w32_cg (w32_of (xw_zr cv6))) h2 ?_
          refine xw_aload_n rfl rfl rfl ?_
          refine xw_gfR (n := 539) (e := 539) rfl (xw_obd (by decide +kernel)) (by decide +kernel) (by decide +kernel) rfl ?_
          refine xw_iload_n rfl rfl ?_
          refine xw_ialdc (n := 8) (v := (m6 539 v4)) (v' := (xR m6 539 v4)) rfl hB (xw_obd (by decide +kernel)) rfl g3 rfl rfl ?_
          refine xw_istore_n (L' := [(2, xi (xR m6 539 v4)), (0, xa 536), (1, xi v4)]) rfl (by decide) rfl ?_
          refine xw_iconst rfl ?_
          refine xw_istore_n (L' := [(3, xi 1), (2, xi (xR m6 539 v4)), (0, xa 536), (1, xi v4)]) rfl (by decide) rfl ?_
          refine xw_lo (L2 := [(0, xa 536), (1, xi v4), (2, xi (xR m6 539 v4)), (3, xi 1)]) (List.forall_mem_cons.mpr ⟨rfl, List.forall_mem_cons.mpr ⟨rfl, List.forall_mem_cons.mpr ⟨rfl, List.forall_mem_cons.mpr ⟨rfl, fun _ h => absurd h List.not_mem_nil⟩⟩⟩⟩) ?_
          exact q
        exact ygl268_56 hB 1000000 _ _ _ _ cv4 (w32_xR _ _ _) rfl
theorem ygf272 {B : Nat} (hB : B ≤ 512) {xs : Nat → Int32} {SL d : Nat} : ∀ m, xS B xs SL (d + 3) 272 (2, (some .int), [], 13) 1 0 [(0, xa 536)] [] m (yf272 B m) := by
  intro m
  unfold yf272
  refine xS_of (pc' := 1) (L' := [(0, xa 536)]) (st' := [xa 536]) (m' := m) (fun ex ns r q => ?_) ?_
  · refine xw_aload_n rfl rfl rfl ?_
    refine xw_lo (L2 := [(0, xa 536)]) (List.forall_mem_cons.mpr ⟨rfl, fun _ h => absurd h List.not_mem_nil⟩) ?_
    exact q
  refine xS_call (q := 261) (n := 1) (kq := 4) (as := [xa 536]) (st1 := []) rfl rfl rfl rfl rfl rfl rfl rfl rfl rfl (fun _ => xw_rcv1 (t := 12) (xw_obd (by decide +kernel)) rfl) rfl (List.forall_mem_cons.mpr ⟨rfl, fun _ h => absurd h List.not_mem_nil⟩) (ygf261 hB _) (fun v1 m1 cv1 => ?_)
  refine xS_if (fun h0 => ?_) (fun h0 => ?_)
  · refine xS_of (pc' := 36) (L' := [(1, xi 0)]) (st' := [xi (xR m1 536 9), xi 5, xi 1, xa 536]) (m' := m1) (fun ex ns r q => ?_) ?_
    · refine xw_if_eqT rfl (w32_cg (w32_of (xw_zr cv1))) h0 ?_
      refine xw_iconst rfl ?_
      refine xw_istore_n (L' := [(1, xi 0), (0, xa 536)]) rfl (by decide) rfl ?_
      refine xw_aload_n rfl rfl rfl ?_
      refine xw_iload_n rfl rfl ?_
      refine xw_if_ltF rfl (w32_cg rfl) (by decide) ?_
      refine xw_iconst rfl ?_
      refine xw_goto rfl ?_
      refine xw_iconst rfl ?_
      refine xw_aload_n rfl rfl rfl ?_
      refine xw_gfIc (v := (m1 536 9)) (v' := (xR m1 536 9)) rfl (xw_obd (by decide +kernel)) xk12_9 (qi := 9) rfl rfl rfl ?_
      refine xw_lo (L2 := [(1, xi 0)]) (List.forall_mem_cons.mpr ⟨rfl, fun _ h => absurd h List.not_mem_nil⟩) ?_
      exact q
    refine xS_call (q := 254) (n := 4) (kq := 4) (as := [xa 536, xi 1, xi 5, xi (xR m1 536 9)]) (st1 := []) rfl rfl rfl rfl rfl rfl rfl rfl rfl rfl (fun _ => xw_rcv1 (t := 12) (xw_obd (by decide +kernel)) rfl) rfl (List.forall_mem_cons.mpr ⟨rfl, List.forall_mem_cons.mpr ⟨rfl, List.forall_mem_cons.mpr ⟨rfl, List.forall_mem_cons.mpr ⟨rfl, fun _ h => absurd h List.not_mem_nil⟩⟩⟩⟩) (ygf254 hB _ _ _ _ rfl rfl (w32_xR _ _ _)) (fun v2 m2 cv2 => ?_)
    refine xS_if (fun h1 => ?_) (fun h1 => ?_)
    · refine xS_of (pc' := 47) (L' := [(1, xi 0)]) (st' := [xi 0]) (m' := m2) (fun ex ns r q => ?_) ?_
      · refine xw_if_eqT rfl (w32_cg (w32_of (xw_zr cv2))) h1 ?_
        refine xw_iconst rfl ?_
        exact q
      exact xS_ret (v := 0) rfl rfl xw_rtI rfl
    · refine xS_of (pc' := 47) (L' := [(1, xi 0)]) (st' := [xi 0]) (m' := m2) (fun ex ns r q => ?_) ?_
      · refine xw_if_eqF rfl (w32_cg (w32_of (xw_zr cv2))) h1 ?_
        refine xw_iload_n rfl rfl ?_
        refine xw_goto rfl ?_
        exact q
      exact xS_ret (v := 0) rfl rfl xw_rtI rfl
  · refine xS_of (pc' := 13) (L' := [(0, xa 536)]) (st' := [xi (xR m1 536 14), xi 0, xa 536]) (m' := m1) (fun ex ns r q => ?_) ?_
    · refine xw_if_eqF rfl (w32_cg (w32_of (xw_zr cv1))) h0 ?_
      refine xw_aload_n rfl rfl rfl ?_
      refine xw_iconst rfl ?_
      refine xw_aload_n rfl rfl rfl ?_
      refine xw_gfIc (v := (m1 536 14)) (v' := (xR m1 536 14)) rfl (xw_obd (by decide +kernel)) xk12_14 (qi := 14) rfl rfl rfl ?_
      refine xw_lo (L2 := [(0, xa 536)]) (List.forall_mem_cons.mpr ⟨rfl, fun _ h => absurd h List.not_mem_nil⟩) ?_
      exact q
    refine xS_call (q := 262) (n := 3) (kq := 1) (as := [xa 536, xi 0, xi (xR m1 536 14)]) (st1 := []) rfl rfl rfl rfl rfl rfl rfl rfl rfl rfl (fun _ => xw_rcv1 (t := 12) (xw_obd (by decide +kernel)) rfl) rfl (List.forall_mem_cons.mpr ⟨rfl, List.forall_mem_cons.mpr ⟨rfl, List.forall_mem_cons.mpr ⟨rfl, fun _ h => absurd h List.not_mem_nil⟩⟩⟩) (ygf262 hB _ _ _ rfl (w32_xR _ _ _)) (fun v3 m3 cv3 => ?_)
    refine xS_of (pc' := 23) (L' := [(1, xi v3), (0, xa 536)]) (st' := [xi v3, xa 536]) (m' := m3) (fun ex ns r q => ?_) ?_
    · refine xw_goto rfl ?_
      refine xw_istore_n (L' := [(1, xi v3), (0, xa 536)]) rfl (by decide) rfl ?_
      refine xw_aload_n rfl rfl rfl ?_
      refine xw_iload_n rfl rfl ?_
      exact q
    refine xS_if (fun h1 => ?_) (fun h1 => ?_)
    · refine xS_of (pc' := 36) (L' := [(1, xi v3)]) (st' := [xi (xR m3 536 9), xi 5, xi 0, xa 536]) (m' := m3) (fun ex ns r q => ?_) ?_
      · refine xw_if_ltT rfl (w32_cg cv3) h1 ?_
        refine xw_iconst rfl ?_
        refine xw_iconst rfl ?_
        refine xw_aload_n rfl rfl rfl ?_
        refine xw_gfIc (v := (m3 536 9)) (v' := (xR m3 536 9)) rfl (xw_obd (by decide +kernel)) xk12_9 (qi := 9) rfl rfl rfl ?_
        refine xw_lo (L2 := [(1, xi v3)]) (List.forall_mem_cons.mpr ⟨rfl, fun _ h => absurd h List.not_mem_nil⟩) ?_
        exact q
      refine xS_call (q := 254) (n := 4) (kq := 4) (as := [xa 536, xi 0, xi 5, xi (xR m3 536 9)]) (st1 := []) rfl rfl rfl rfl rfl rfl rfl rfl rfl rfl (fun _ => xw_rcv1 (t := 12) (xw_obd (by decide +kernel)) rfl) rfl (List.forall_mem_cons.mpr ⟨rfl, List.forall_mem_cons.mpr ⟨rfl, List.forall_mem_cons.mpr ⟨rfl, List.forall_mem_cons.mpr ⟨rfl, fun _ h => absurd h List.not_mem_nil⟩⟩⟩⟩) (ygf254 hB _ _ _ _ rfl rfl (w32_xR _ _ _)) (fun v4 m4 cv4 => ?_)
      refine xS_if (fun h2 => ?_) (fun h2 => ?_)
      · refine xS_of (pc' := 47) (L' := [(1, xi v3)]) (st' := [xi 0]) (m' := m4) (fun ex ns r q => ?_) ?_
        · refine xw_if_eqT rfl (w32_cg (w32_of (xw_zr cv4))) h2 ?_
          refine xw_iconst rfl ?_
          exact q
        exact xS_ret (v := 0) rfl rfl xw_rtI rfl
      · refine xS_of (pc' := 47) (L' := [(1, xi v3)]) (st' := [xi v3]) (m' := m4) (fun ex ns r q => ?_) ?_
        · refine xw_if_eqF rfl (w32_cg (w32_of (xw_zr cv4))) h2 ?_
          refine xw_iload_n rfl rfl ?_
          refine xw_goto rfl ?_
          exact q
        exact xS_ret (v := v3) rfl rfl xw_rtI cv3
    · refine xS_of (pc' := 36) (L' := [(1, xi v3)]) (st' := [xi (xR m3 536 9), xi 5, xi 1, xa 536]) (m' := m3) (fun ex ns r q => ?_) ?_
      · refine xw_if_ltF rfl (w32_cg cv3) h1 ?_
        refine xw_iconst rfl ?_
        refine xw_goto rfl ?_
        refine xw_iconst rfl ?_
        refine xw_aload_n rfl rfl rfl ?_
        refine xw_gfIc (v := (m3 536 9)) (v' := (xR m3 536 9)) rfl (xw_obd (by decide +kernel)) xk12_9 (qi := 9) rfl rfl rfl ?_
        refine xw_lo (L2 := [(1, xi v3)]) (List.forall_mem_cons.mpr ⟨rfl, fun _ h => absurd h List.not_mem_nil⟩) ?_
        exact q
      refine xS_call (q := 254) (n := 4) (kq := 4) (as := [xa 536, xi 1, xi 5, xi (xR m3 536 9)]) (st1 := []) rfl rfl rfl rfl rfl rfl rfl rfl rfl rfl (fun _ => xw_rcv1 (t := 12) (xw_obd (by decide +kernel)) rfl) rfl (List.forall_mem_cons.mpr ⟨rfl, List.forall_mem_cons.mpr ⟨rfl, List.forall_mem_cons.mpr ⟨rfl, List.forall_mem_cons.mpr ⟨rfl, fun _ h => absurd h List.not_mem_nil⟩⟩⟩⟩) (ygf254 hB _ _ _ _ rfl rfl (w32_xR _ _ _)) (fun v5 m5 cv5 => ?_)
      refine xS_if (fun h2 => ?_) (fun h2 => ?_)
      · refine xS_of (pc' := 47) (L' := [(1, xi v3)]) (st' := [xi 0]) (m' := m5) (fun ex ns r q => ?_) ?_
        · refine xw_if_eqT rfl (w32_cg (w32_of (xw_zr cv5))) h2 ?_
          refine xw_iconst rfl ?_
          exact q
        exact xS_ret (v := 0) rfl rfl xw_rtI rfl
      · refine xS_of (pc' := 47) (L' := [(1, xi v3)]) (st' := [xi v3]) (m' := m5) (fun ex ns r q => ?_) ?_
        · refine xw_if_eqF rfl (w32_cg (w32_of (xw_zr cv5))) h2 ?_
          refine xw_iload_n rfl rfl ?_
          refine xw_goto rfl ?_
          exact q
        exact xS_ret (v := v3) rfl rfl xw_rtI cv3
theorem ygf273 {B : Nat} (hB : B ≤ 512) {xs : Nat → Int32} {SL d : Nat} : ∀ p0 m, w32 p0 = p0 → xS B xs SL (d + 4) 273 (3, (some .int), [], 13) 1 0 [(0, xa 536), (1, xi p0)] [] m (yf273 B p0 m) := by
  intro p0 m cp0
  unfold yf273
  refine xS_of (pc' := 3) (L' := [(0, xa 536), (1, xi p0)]) (st' := [xi 46, xa 536]) (m' := m) (fun ex ns r q => ?_) ?_
  · refine xw_aload_n rfl rfl rfl ?_
    refine xw_bipush (e := 46) rfl (by decide +kernel) ?_
    refine xw_lo (L2 := [(0, xa 536), (1, xi p0)]) (List.forall_mem_cons.mpr ⟨rfl, List.forall_mem_cons.mpr ⟨rfl, fun _ h => absurd h List.not_mem_nil⟩⟩) ?_
    exact q
  refine xS_call (q := 265) (n := 2) (kq := 4) (as := [xa 536, xi 46]) (st1 := []) rfl rfl rfl rfl rfl rfl rfl rfl rfl rfl (fun _ => xw_rcv1 (t := 12) (xw_obd (by decide +kernel)) rfl) rfl (List.forall_mem_cons.mpr ⟨rfl, List.forall_mem_cons.mpr ⟨rfl, fun _ h => absurd h List.not_mem_nil⟩⟩) (ygf265 hB _ _ rfl) (fun v1 m1 cv1 => ?_)
  refine xS_if (fun h0 => ?_) (fun h0 => ?_)
  · refine xS_of (pc' := 10) (L' := [(0, xa 536), (1, xi p0)]) (st' := [xi 0]) (m' := m1) (fun ex ns r q => ?_) ?_
    · refine xw_if_neF rfl (w32_cg (w32_of (xw_zr cv1))) h0 ?_
      refine xw_iconst rfl ?_
      exact q
    exact xS_ret (v := 0) rfl rfl xw_rtI rfl
  · refine xS_of (pc' := 12) (L' := [(0, xa 536), (1, xi p0)]) (st' := [xa 536]) (m' := m1) (fun ex ns r q => ?_) ?_
    · refine xw_if_neT rfl (w32_cg (w32_of (xw_zr cv1))) h0 ?_
      refine xw_aload_n rfl rfl rfl ?_
      refine xw_lo (L2 := [(0, xa 536), (1, xi p0)]) (List.forall_mem_cons.mpr ⟨rfl, List.forall_mem_cons.mpr ⟨rfl, fun _ h => absurd h List.not_mem_nil⟩⟩) ?_
      exact q
    refine xS_call (q := 248) (n := 1) (kq := 0) (as := [xa 536]) (st1 := []) rfl rfl rfl rfl rfl rfl rfl rfl rfl rfl (fun _ => xw_rcv1 (t := 12) (xw_obd (by decide +kernel)) rfl) rfl (List.forall_mem_cons.mpr ⟨rfl, fun _ h => absurd h List.not_mem_nil⟩) (ygf248 hB _) (fun v2 m2 cv2 => ?_)
    refine xS_of (pc' := 16) (L' := [(0, xa 536), (1, xi p0)]) (st' := [xa 536]) (m' := m2) (fun ex ns r q => ?_) ?_
    · refine xw_aload_n rfl rfl rfl ?_
      refine xw_lo (L2 := [(0, xa 536), (1, xi p0)]) (List.forall_mem_cons.mpr ⟨rfl, List.forall_mem_cons.mpr ⟨rfl, fun _ h => absurd h List.not_mem_nil⟩⟩) ?_
      exact q
    refine xS_call (q := 261) (n := 1) (kq := 4) (as := [xa 536]) (st1 := []) rfl rfl rfl rfl rfl rfl rfl rfl rfl rfl (fun _ => xw_rcv1 (t := 12) (xw_obd (by decide +kernel)) rfl) rfl (List.forall_mem_cons.mpr ⟨rfl, fun _ h => absurd h List.not_mem_nil⟩) (ygf261 hB _) (fun v3 m3 cv3 => ?_)
    refine xS_if (fun h1 => ?_) (fun h1 => ?_)
    · refine xS_of (pc' := 58) (L' := [(1, xi p0), (2, xi 0)]) (st' := [xi (xR m3 536 9), xi 5, xi 1, xa 536]) (m' := m3) (fun ex ns r q => ?_) ?_
      · refine xw_if_eqT rfl (w32_cg (w32_of (xw_zr cv3))) h1 ?_
        refine xw_iconst rfl ?_
        refine xw_istore_n (L' := [(2, xi 0), (0, xa 536), (1, xi p0)]) rfl (by decide) rfl ?_
        refine xw_aload_n rfl rfl rfl ?_
        refine xw_iload_n rfl rfl ?_
        refine xw_if_ltF rfl (w32_cg rfl) (by decide) ?_
        refine xw_iconst rfl ?_
        refine xw_goto rfl ?_
        refine xw_iconst rfl ?_
        refine xw_aload_n rfl rfl rfl ?_
        refine xw_gfIc (v := (m3 536 9)) (v' := (xR m3 536 9)) rfl (xw_obd (by decide +kernel)) xk12_9 (qi := 9) rfl rfl rfl ?_
        refine xw_lo (L2 := [(1, xi p0), (2, xi 0)]) (List.forall_mem_cons.mpr ⟨rfl, List.forall_mem_cons.mpr ⟨rfl, fun _ h => absurd h List.not_mem_nil⟩⟩) ?_
        exact q
      refine xS_call (q := 254) (n := 4) (kq := 4) (as := [xa 536, xi 1, xi 5, xi (xR m3 536 9)]) (st1 := []) rfl rfl rfl rfl rfl rfl rfl rfl rfl rfl (fun _ => xw_rcv1 (t := 12) (xw_obd (by decide +kernel)) rfl) rfl (List.forall_mem_cons.mpr ⟨rfl, List.forall_mem_cons.mpr ⟨rfl, List.forall_mem_cons.mpr ⟨rfl, List.forall_mem_cons.mpr ⟨rfl, fun _ h => absurd h List.not_mem_nil⟩⟩⟩⟩) (ygf254 hB _ _ _ _ rfl rfl (w32_xR _ _ _)) (fun v4 m4 cv4 => ?_)
      refine xS_if (fun h2 => ?_) (fun h2 => ?_)
      · refine xS_of (pc' := 73) (L' := [(1, xi p0), (2, xi 0)]) (st' := [xi 0]) (m' := m4) (fun ex ns r q => ?_) ?_
        · refine xw_if_eqT rfl (w32_cg (w32_of (xw_zr cv4))) h2 ?_
          refine xw_iconst rfl ?_
          exact q
        exact xS_ret (v := 0) rfl rfl xw_rtI rfl
      · refine xS_of (pc' := 73) (L' := [(1, xi p0), (2, xi 0)]) (st' := [xi (w32 ((4 * p0) + 0))]) (m' := m4) (fun ex ns r q => ?_) ?_
        · refine xw_if_eqF rfl (w32_cg (w32_of (xw_zr cv4))) h2 ?_
          refine xw_iconst rfl ?_
          refine xw_iload_n rfl rfl ?_
          refine xw_imul rfl ?_
          refine xw_iload_n rfl rfl ?_
          refine xw_iadd rfl ?_
          refine xw_goto rfl ?_
          refine xw_cst (st' := [xi (w32 ((4 * p0) + 0))]) (xw_sc (xi_c rfl) rfl) ?_
          exact q
        exact xS_ret (v := (w32 ((4 * p0) + 0))) rfl rfl xw_rtI (w32_w _)
    · refine xS_g (fun g2 => ?_)
      refine xS_of (pc' := 35) (L' := [(0, xa 536), (1, xi p0)]) (st' := [xi (xR m3 538 p0), xi (w32 (8 + (4 * p0))), xa 536]) (m' := m3) (fun ex ns r q => ?_) ?_
      · refine xw_if_eqF rfl (w32_cg (w32_of (xw_zr cv3))) h1 ?_
        refine xw_aload_n rfl rfl rfl ?_
        refine xw_bipush (e := 8) rfl (by decide +kernel) ?_
        refine xw_iconst rfl ?_
        refine xw_iload_n rfl rfl ?_
        refine xw_imul rfl ?_
        refine xw_iadd rfl ?_
        refine xw_aload_n rfl rfl rfl ?_
        refine xw_gfR (n := 538) (e := 538) rfl (xw_obd (by decide +kernel)) (by decide +kernel) (by decide +kernel) rfl ?_
        refine xw_iload_n rfl rfl ?_
        refine xw_ialdc (n := 8) (v := (m3 538 p0)) (v' := (xR m3 538 p0)) rfl hB (xw_obd (by decide +kernel)) rfl g2 rfl rfl ?_
        refine xw_cst (st' := [xi (xR m3 538 p0), xi (w32 (8 + (4 * p0))), xa 536]) (xw_sc rfl (xw_sc (xi_c rfl) (xw_sc rfl rfl))) ?_
        refine xw_lo (L2 := [(0, xa 536), (1, xi p0)]) (List.forall_mem_cons.mpr ⟨rfl, List.forall_mem_cons.mpr ⟨rfl, fun _ h => absurd h List.not_mem_nil⟩⟩) ?_
        exact q
      refine xS_call (q := 262) (n := 3) (kq := 1) (as := [xa 536, xi (w32 (8 + (4 * p0))), xi (xR m3 538 p0)]) (st1 := []) rfl rfl rfl rfl rfl rfl rfl rfl rfl rfl (fun _ => xw_rcv1 (t := 12) (xw_obd (by decide +kernel)) rfl) rfl (List.forall_mem_cons.mpr ⟨rfl, List.forall_mem_cons.mpr ⟨rfl, List.forall_mem_cons.mpr ⟨rfl, fun _ h => absurd h List.not_mem_nil⟩⟩⟩) (ygf262 hB _ _ _ (w32_w _) (w32_xR _ _ _)) (fun v5 m5 cv5 => ?_)
      refine xS_of (pc' := 45) (L' := [(2, xi v5), (0, xa 536), (1, xi p0)]) (st' := [xi v5, xa 536]) (m' := m5) (fun ex ns r q => ?_) ?_
      · refine xw_goto rfl ?_
        refine xw_istore_n (L' := [(2, xi v5), (0, xa 536), (1, xi p0)]) rfl (by decide) rfl ?_
        refine xw_aload_n rfl rfl rfl ?_
        refine xw_iload_n rfl rfl ?_
        exact q
      refine xS_if (fun h3 => ?_) (fun h3 => ?_)
      · refine xS_of (pc' := 58) (L' := [(1, xi p0), (2, xi v5)]) (st' := [xi (xR m5 536 9), xi 5, xi 0, xa 536]) (m' := m5) (fun ex ns r q => ?_) ?_
        · refine xw_if_ltT rfl (w32_cg cv5) h3 ?_
          refine xw_iconst rfl ?_
          refine xw_iconst rfl ?_
          refine xw_aload_n rfl rfl rfl ?_
          refine xw_gfIc (v := (m5 536 9)) (v' := (xR m5 536 9)) rfl (xw_obd (by decide +kernel)) xk12_9 (qi := 9) rfl rfl rfl ?_
          refine xw_lo (L2 := [(1, xi p0), (2, xi v5)]) (List.forall_mem_cons.mpr ⟨rfl, List.forall_mem_cons.mpr ⟨rfl, fun _ h => absurd h List.not_mem_nil⟩⟩) ?_
          exact q
        refine xS_call (q := 254) (n := 4) (kq := 4) (as := [xa 536, xi 0, xi 5, xi (xR m5 536 9)]) (st1 := []) rfl rfl rfl rfl rfl rfl rfl rfl rfl rfl (fun _ => xw_rcv1 (t := 12) (xw_obd (by decide +kernel)) rfl) rfl (List.forall_mem_cons.mpr ⟨rfl, List.forall_mem_cons.mpr ⟨rfl, List.forall_mem_cons.mpr ⟨rfl, List.forall_mem_cons.mpr ⟨rfl, fun _ h => absurd h List.not_mem_nil⟩⟩⟩⟩) (ygf254 hB _ _ _ _ rfl rfl (w32_xR _ _ _)) (fun v6 m6 cv6 => ?_)
        refine xS_if (fun h4 => ?_) (fun h4 => ?_)
        · refine xS_of (pc' := 73) (L' := [(1, xi p0), (2, xi v5)]) (st' := [xi 0]) (m' := m6) (fun ex ns r q => ?_) ?_
          · refine xw_if_eqT rfl (w32_cg (w32_of (xw_zr cv6))) h4 ?_
            refine xw_iconst rfl ?_
            exact q
          exact xS_ret (v := 0) rfl rfl xw_rtI rfl
        · refine xS_of (pc' := 73) (L' := [(1, xi p0), (2, xi v5)]) (st' := [xi (w32 ((4 * p0) + v5))]) (m' := m6) (fun ex ns r q => ?_) ?_
          · refine xw_if_eqF rfl (w32_cg (w32_of (xw_zr cv6))) h4 ?_
            refine xw_iconst rfl ?_
            refine xw_iload_n rfl rfl ?_
            refine xw_imul rfl ?_
            refine xw_iload_n rfl rfl ?_
            refine xw_iadd rfl ?_
            refine xw_goto rfl ?_
            refine xw_cst (st' := [xi (w32 ((4 * p0) + v5))]) (xw_sc (xi_c rfl) rfl) ?_
            exact q
          exact xS_ret (v := (w32 ((4 * p0) + v5))) rfl rfl xw_rtI (w32_w _)
      · refine xS_of (pc' := 58) (L' := [(1, xi p0), (2, xi v5)]) (st' := [xi (xR m5 536 9), xi 5, xi 1, xa 536]) (m' := m5) (fun ex ns r q => ?_) ?_
        · refine xw_if_ltF rfl (w32_cg cv5) h3 ?_
          refine xw_iconst rfl ?_
          refine xw_goto rfl ?_
          refine xw_iconst rfl ?_
          refine xw_aload_n rfl rfl rfl ?_
          refine xw_gfIc (v := (m5 536 9)) (v' := (xR m5 536 9)) rfl (xw_obd (by decide +kernel)) xk12_9 (qi := 9) rfl rfl rfl ?_
          refine xw_lo (L2 := [(1, xi p0), (2, xi v5)]) (List.forall_mem_cons.mpr ⟨rfl, List.forall_mem_cons.mpr ⟨rfl, fun _ h => absurd h List.not_mem_nil⟩⟩) ?_
          exact q
        refine xS_call (q := 254) (n := 4) (kq := 4) (as := [xa 536, xi 1, xi 5, xi (xR m5 536 9)]) (st1 := []) rfl rfl rfl rfl rfl rfl rfl rfl rfl rfl (fun _ => xw_rcv1 (t := 12) (xw_obd (by decide +kernel)) rfl) rfl (List.forall_mem_cons.mpr ⟨rfl, List.forall_mem_cons.mpr ⟨rfl, List.forall_mem_cons.mpr ⟨rfl, List.forall_mem_cons.mpr ⟨rfl, fun _ h => absurd h List.not_mem_nil⟩⟩⟩⟩) (ygf254 hB _ _ _ _ rfl rfl (w32_xR _ _ _)) (fun v7 m7 cv7 => ?_)
        refine xS_if (fun h4 => ?_) (fun h4 => ?_)
        · refine xS_of (pc' := 73) (L' := [(1, xi p0), (2, xi v5)]) (st' := [xi 0]) (m' := m7) (fun ex ns r q => ?_) ?_
          · refine xw_if_eqT rfl (w32_cg (w32_of (xw_zr cv7))) h4 ?_
            refine xw_iconst rfl ?_
            exact q
          exact xS_ret (v := 0) rfl rfl xw_rtI rfl
        · refine xS_of (pc' := 73) (L' := [(1, xi p0), (2, xi v5)]) (st' := [xi (w32 ((4 * p0) + v5))]) (m' := m7) (fun ex ns r q => ?_) ?_
          · refine xw_if_eqF rfl (w32_cg (w32_of (xw_zr cv7))) h4 ?_
            refine xw_iconst rfl ?_
            refine xw_iload_n rfl rfl ?_
            refine xw_imul rfl ?_
            refine xw_iload_n rfl rfl ?_
            refine xw_iadd rfl ?_
            refine xw_goto rfl ?_
            refine xw_cst (st' := [xi (w32 ((4 * p0) + v5))]) (xw_sc (xi_c rfl) rfl) ?_
            exact q
          exact xS_ret (v := (w32 ((4 * p0) + v5))) rfl rfl xw_rtI (w32_w _)
