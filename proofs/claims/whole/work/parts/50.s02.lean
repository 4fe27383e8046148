/-! the machine does what the functions say, 2 -/
theorem ygk87_119 {B : Nat} (hB : B ≤ 512) {xs : Nat → Int32} {SL d : Nat} : ∀ x1 x2 m, w32 x1 = x1 → w32 x2 = x2 → xS B xs SL (d + 4) 87 (4, (some .boolean), [], 6) 4 119 [(0, xa 293), (1, xi x1), (2, xi x2)] [] m (yk87_119 B x1 x2 m) := by
  intro x1 x2 m c1 c2
  unfold yk87_119
  refine xS_of (pc' := 125) (L' := []) (st' := [xi x2, xi x1, xa 223]) (m' := m) (fun ex ns r q => ?_) ?_
  · refine xw_aload_n rfl rfl rfl ?_
    refine xw_gfR (n := 223) (e := 223) rfl (xw_obd (by decide +kernel)) (by decide +kernel) (by decide +kernel) rfl ?_
    refine xw_iload_n rfl rfl ?_
    refine xw_iload_n rfl rfl ?_
    refine xw_lo (L2 := []) (fun _ h => absurd h List.not_mem_nil) ?_
    exact q
  refine xS_call (q := 91) (n := 3) (kq := 4) (as := [xa 223, xi x1, xi x2]) (st1 := []) rfl rfl rfl rfl rfl rfl rfl rfl rfl rfl (fun _ => xw_rcv1 (t := 4) (xw_obd (by decide +kernel)) rfl) rfl (List.forall_mem_cons.mpr ⟨rfl, List.forall_mem_cons.mpr ⟨rfl, List.forall_mem_cons.mpr ⟨rfl, fun _ h => absurd h List.not_mem_nil⟩⟩⟩) (ygf91 hB _ _ _ c1 c2) (fun v1 m1 cv1 => ?_)
  exact xS_ret (v := v1) rfl rfl (xw_rtZ cv1) cv1
theorem ygk87_100 {B : Nat} (hB : B ≤ 512) {xs : Nat → Int32} {SL d : Nat} : ∀ x1 x2 m, w32 x1 = x1 → w32 x2 = x2 → xS B xs SL (d + 4) 87 (4, (some .boolean), [], 6) 4 100 [(0, xa 293), (1, xi x1), (2, xi x2)] [] m (yk87_100 B x1 x2 m) := by
  intro x1 x2 m c1 c2
  unfold yk87_100
  refine xS_of (pc' := 109) (L' := [(0, xa 293), (1, xi x1), (2, xi x2)]) (st' := [xi 41, xi (xR m 1 3)]) (m' := m) (fun ex ns r q => ?_) ?_
  · refine xw_aload_n rfl rfl rfl ?_
    refine xw_gfR (n := 1) (e := 1) rfl (xw_obd (by decide +kernel)) (by decide +kernel) (by decide +kernel) rfl ?_
    refine xw_gfIc (v := (m 1 3)) (v' := (xR m 1 3)) rfl (xw_obd (by decide +kernel)) xk1_3 (qi := 3) rfl rfl rfl ?_
    refine xw_bipush (e := 41) rfl (by decide +kernel) ?_
    exact q
  refine xS_if (fun h0 => ?_) (fun h0 => ?_)
  · refine xS_of (pc' := 119) (L' := [(0, xa 293), (1, xi x1), (2, xi x2)]) (st' := []) (m' := m) (fun ex ns r q => ?_) ?_
    · refine xw_ic_eqT rfl (w32_cg (w32_xR _ _ _)) (w32_cg rfl) h0 ?_
      refine xw_lo (L2 := [(0, xa 293), (1, xi x1), (2, xi x2)]) (List.forall_mem_cons.mpr ⟨rfl, List.forall_mem_cons.mpr ⟨rfl, List.forall_mem_cons.mpr ⟨rfl, fun _ h => absurd h List.not_mem_nil⟩⟩⟩) ?_
      exact q
    exact ygk87_119 hB _ _ _ c1 c2
  · refine xS_of (pc' := 116) (L' := [(0, xa 293), (1, xi x1), (2, xi x2)]) (st' := [xa 1]) (m' := m) (fun ex ns r q => ?_) ?_
    · refine xw_ic_eqF rfl (w32_cg (w32_xR _ _ _)) (w32_cg rfl) h0 ?_
      refine xw_aload_n rfl rfl rfl ?_
      refine xw_gfR (n := 1) (e := 1) rfl (xw_obd (by decide +kernel)) (by decide +kernel) (by decide +kernel) rfl ?_
      refine xw_lo (L2 := [(0, xa 293), (1, xi x1), (2, xi x2)]) (List.forall_mem_cons.mpr ⟨rfl, List.forall_mem_cons.mpr ⟨rfl, List.forall_mem_cons.mpr ⟨rfl, fun _ h => absurd h List.not_mem_nil⟩⟩⟩) ?_
      exact q
    refine xS_call (q := 56) (n := 1) (kq := 0) (as := [xa 1]) (st1 := []) rfl rfl rfl rfl rfl rfl rfl rfl rfl rfl (fun _ => xw_rcv1 (t := 1) (xw_obd (by decide +kernel)) rfl) rfl (List.forall_mem_cons.mpr ⟨rfl, fun _ h => absurd h List.not_mem_nil⟩) (ygf56 hB _) (fun v1 m1 cv1 => ?_)
    refine xS_of (pc' := 119) (L' := [(0, xa 293), (1, xi x1), (2, xi x2)]) (st' := []) (m' := m1) (fun ex ns r q => ?_) ?_
    · refine xw_lo (L2 := [(0, xa 293), (1, xi x1), (2, xi x2)]) (List.forall_mem_cons.mpr ⟨rfl, List.forall_mem_cons.mpr ⟨rfl, List.forall_mem_cons.mpr ⟨rfl, fun _ h => absurd h List.not_mem_nil⟩⟩⟩) ?_
      exact q
    exact ygk87_119 hB _ _ _ c1 c2
theorem ysl87_55 {B : Nat} (hB : B ≤ 512) {xs : Nat → Int32} {SL d : Nat} {r55 : Int → Int → Int → xw_M → xP} (hr55 : ∀ x1 x2 x3 m, w32 x1 = x1 → w32 x2 = x2 → w32 x3 = x3 → xS B xs SL (d + 4) 87 (4, (some .boolean), [], 6) 4 55 [(0, xa 293), (1, xi x1), (2, xi x2), (3, xi x3)] [] m (r55 x1 x2 x3 m)) : ∀ x1 x2 x3 m, w32 x1 = x1 → w32 x2 = x2 → w32 x3 = x3 → xS B xs SL (d + 4) 87 (4, (some .boolean), [], 6) 4 55 [(0, xa 293), (1, xi x1), (2, xi x2), (3, xi x3)] [] m (yl87_55 B r55 x1 x2 x3 m) := by
  intro x1 x2 x3 m c1 c2 c3
  unfold yl87_55
  refine xS_of (pc' := 58) (L' := [(0, xa 293), (1, xi x1), (2, xi x2), (3, xi x3)]) (st' := [xi 8, xi x3]) (m' := m) (fun ex ns r q => ?_) ?_
  · refine xw_iload_n rfl rfl ?_
    refine xw_bipush (e := 8) rfl (by decide +kernel) ?_
    exact q
  refine xS_if (fun h0 => ?_) (fun h0 => ?_)
  · refine xS_of (pc' := 100) (L' := [(0, xa 293), (1, xi x1), (2, xi x2)]) (st' := []) (m' := m) (fun ex ns r q => ?_) ?_
    · refine xw_ic_gtT rfl (w32_cg c3) (w32_cg rfl) h0 ?_
      refine xw_lo (L2 := [(0, xa 293), (1, xi x1), (2, xi x2)]) (List.forall_mem_cons.mpr ⟨rfl, List.forall_mem_cons.mpr ⟨rfl, List.forall_mem_cons.mpr ⟨rfl, fun _ h => absurd h List.not_mem_nil⟩⟩⟩) ?_
      exact q
    exact ygk87_100 hB _ _ _ c1 c2
  · refine xS_of (pc' := 65) (L' := [(0, xa 293), (1, xi x1), (2, xi x2), (3, xi x3)]) (st' := [xa 1]) (m' := m) (fun ex ns r q => ?_) ?_
    · refine xw_ic_gtF rfl (w32_cg c3) (w32_cg rfl) h0 ?_
      refine xw_aload_n rfl rfl rfl ?_
      refine xw_gfR (n := 1) (e := 1) rfl (xw_obd (by decide +kernel)) (by decide +kernel) (by decide +kernel) rfl ?_
      refine xw_lo (L2 := [(0, xa 293), (1, xi x1), (2, xi x2), (3, xi x3)]) (List.forall_mem_cons.mpr ⟨rfl, List.forall_mem_cons.mpr ⟨rfl, List.forall_mem_cons.mpr ⟨rfl, List.forall_mem_cons.mpr ⟨rfl, fun _ h => absurd h List.not_mem_nil⟩⟩⟩⟩) ?_
      exact q
    refine xS_call (q := 47) (n := 1) (kq := 0) (as := [xa 1]) (st1 := []) rfl rfl rfl rfl rfl rfl rfl rfl rfl rfl (fun _ => xw_rcv1 (t := 1) (xw_obd (by decide +kernel)) rfl) rfl (List.forall_mem_cons.mpr ⟨rfl, fun _ h => absurd h List.not_mem_nil⟩) (ygf47 hB _) (fun v1 m1 cv1 => ?_)
    refine xS_of (pc' := 69) (L' := [(0, xa 293), (1, xi x1), (2, xi x2), (3, xi x3)]) (st' := [xa 293]) (m' := m1) (fun ex ns r q => ?_) ?_
    · refine xw_aload_n rfl rfl rfl ?_
      refine xw_lo (L2 := [(0, xa 293), (1, xi x1), (2, xi x2), (3, xi x3)]) (List.forall_mem_cons.mpr ⟨rfl, List.forall_mem_cons.mpr ⟨rfl, List.forall_mem_cons.mpr ⟨rfl, List.forall_mem_cons.mpr ⟨rfl, fun _ h => absurd h List.not_mem_nil⟩⟩⟩⟩) ?_
      exact q
    refine xS_call (q := 88) (n := 1) (kq := 0) (as := [xa 293]) (st1 := []) rfl rfl rfl rfl rfl rfl rfl rfl rfl rfl (fun _ => xw_rcv1 (t := 5) (xw_obd (by decide +kernel)) rfl) rfl (List.forall_mem_cons.mpr ⟨rfl, fun _ h => absurd h List.not_mem_nil⟩) (ygf88 hB _) (fun v2 m2 cv2 => ?_)
    refine xS_of (pc' := 76) (L' := [(0, xa 293), (1, xi x1), (2, xi x2), (3, xi x3)]) (st' := [xa 1]) (m' := m2) (fun ex ns r q => ?_) ?_
    · refine xw_aload_n rfl rfl rfl ?_
      refine xw_gfR (n := 1) (e := 1) rfl (xw_obd (by decide +kernel)) (by decide +kernel) (by decide +kernel) rfl ?_
      refine xw_lo (L2 := [(0, xa 293), (1, xi x1), (2, xi x2), (3, xi x3)]) (List.forall_mem_cons.mpr ⟨rfl, List.forall_mem_cons.mpr ⟨rfl, List.forall_mem_cons.mpr ⟨rfl, List.forall_mem_cons.mpr ⟨rfl, fun _ h => absurd h List.not_mem_nil⟩⟩⟩⟩) ?_
      exact q
    refine xS_call (q := 47) (n := 1) (kq := 0) (as := [xa 1]) (st1 := []) rfl rfl rfl rfl rfl rfl rfl rfl rfl rfl (fun _ => xw_rcv1 (t := 1) (xw_obd (by decide +kernel)) rfl) rfl (List.forall_mem_cons.mpr ⟨rfl, fun _ h => absurd h List.not_mem_nil⟩) (ygf47 hB _) (fun v3 m3 cv3 => ?_)
    refine xS_of (pc' := 88) (L' := [(0, xa 293), (1, xi x1), (2, xi x2), (3, xi x3)]) (st' := [xi 44, xi (xR m3 1 3)]) (m' := m3) (fun ex ns r q => ?_) ?_
    · refine xw_aload_n rfl rfl rfl ?_
      refine xw_gfR (n := 1) (e := 1) rfl (xw_obd (by decide +kernel)) (by decide +kernel) (by decide +kernel) rfl ?_
      refine xw_gfIc (v := (m3 1 3)) (v' := (xR m3 1 3)) rfl (xw_obd (by decide +kernel)) xk1_3 (qi := 3) rfl rfl rfl ?_
      refine xw_bipush (e := 44) rfl (by decide +kernel) ?_
      exact q
    refine xS_if (fun h1 => ?_) (fun h1 => ?_)
    · refine xS_of (pc' := 55) (L' := [(0, xa 293), (1, xi x1), (2, xi x2), (3, xi (w32 (x3 + 1)))]) (st' := []) (m' := m3) (fun ex ns r q => ?_) ?_
      · refine xw_ic_eqT rfl (w32_cg (w32_xR _ _ _)) (w32_cg rfl) h1 ?_
        refine xw_iincc (z := (w32 (x3 + 1))) (L' := [(3, xi (w32 (x3 + 1))), (0, xa 293), (1, xi x1), (2, xi x2)]) rfl rfl (by decide) rfl rfl ?_
        refine xw_goto rfl ?_
        refine xw_lo (L2 := [(0, xa 293), (1, xi x1), (2, xi x2), (3, xi (w32 (x3 + 1)))]) (List.forall_mem_cons.mpr ⟨rfl, List.forall_mem_cons.mpr ⟨rfl, List.forall_mem_cons.mpr ⟨rfl, List.forall_mem_cons.mpr ⟨rfl, fun _ h => absurd h List.not_mem_nil⟩⟩⟩⟩) ?_
        exact q
      exact hr55 _ _ _ _ c1 c2 (w32_w _)
    · refine xS_of (pc' := 100) (L' := [(0, xa 293), (1, xi x1), (2, xi x2)]) (st' := []) (m' := m3) (fun ex ns r q => ?_) ?_
      · refine xw_ic_eqF rfl (w32_cg (w32_xR _ _ _)) (w32_cg rfl) h1 ?_
        refine xw_goto rfl ?_
        refine xw_lo (L2 := [(0, xa 293), (1, xi x1), (2, xi x2)]) (List.forall_mem_cons.mpr ⟨rfl, List.forall_mem_cons.mpr ⟨rfl, List.forall_mem_cons.mpr ⟨rfl, fun _ h => absurd h List.not_mem_nil⟩⟩⟩) ?_
        exact q
      exact ygk87_100 hB _ _ _ c1 c2
theorem ygl87_55 {B : Nat} (hB : B ≤ 512) {xs : Nat → Int32} {SL d : Nat} : ∀ n x1 x2 x3 m, w32 x1 = x1 → w32 x2 = x2 → w32 x3 = x3 → xS B xs SL (d + 4) 87 (4, (some .boolean), [], 6) 4 55 [(0, xa 293), (1, xi x1), (2, xi x2), (3, xi x3)] [] m (xl3 (yl87_55 B) n x1 x2 x3 m) := by
  intro n
  induction n with
  | zero => intro x1 x2 x3 m c1 c2 c3; exact xS_none
  | succ n ih => exact ysl87_55 hB ih
theorem ygk87_44 {B : Nat} (hB : B ≤ 512) {xs : Nat → Int32} {SL d : Nat} : ∀ x1 x2 m, w32 x1 = x1 → w32 x2 = x2 → xS B xs SL (d + 4) 87 (4, (some .boolean), [], 6) 4 44 [(0, xa 293), (1, xi x1), (2, xi x2)] [] m (yk87_44 B x1 x2 m) := by
  intro x1 x2 m c1 c2
  unfold yk87_44
  refine xS_of (pc' := 50) (L' := [(0, xa 293), (1, xi x1), (2, xi x2)]) (st' := [xi 40, xa 1]) (m' := m) (fun ex ns r q => ?_) ?_
  · refine xw_aload_n rfl rfl rfl ?_
    refine xw_gfR (n := 1) (e := 1) rfl (xw_obd (by decide +kernel)) (by decide +kernel) (by decide +kernel) rfl ?_
    refine xw_bipush (e := 40) rfl (by decide +kernel) ?_
    refine xw_lo (L2 := [(0, xa 293), (1, xi x1), (2, xi x2)]) (List.forall_mem_cons.mpr ⟨rfl, List.forall_mem_cons.mpr ⟨rfl, List.forall_mem_cons.mpr ⟨rfl, fun _ h => absurd h List.not_mem_nil⟩⟩⟩) ?_
    exact q
  refine xS_call (q := 68) (n := 2) (kq := 0) (as := [xa 1, xi 40]) (st1 := []) rfl rfl rfl rfl rfl rfl rfl rfl rfl rfl (fun _ => xw_rcv1 (t := 1) (xw_obd (by decide +kernel)) rfl) rfl (List.forall_mem_cons.mpr ⟨rfl, List.forall_mem_cons.mpr ⟨rfl, fun _ h => absurd h List.not_mem_nil⟩⟩) (ygf68 hB _ _ rfl) (fun v1 m1 cv1 => ?_)
  refine xS_of (pc' := 55) (L' := [(0, xa 293), (1, xi x1), (2, xi x2), (3, xi 0)]) (st' := []) (m' := m1) (fun ex ns r q => ?_) ?_
  · refine xw_iconst rfl ?_
    refine xw_istore_n (L' := [(3, xi 0), (0, xa 293), (1, xi x1), (2, xi x2)]) rfl (by decide) rfl ?_
    refine xw_lo (L2 := [(0, xa 293), (1, xi x1), (2, xi x2), (3, xi 0)]) (List.forall_mem_cons.mpr ⟨rfl, List.forall_mem_cons.mpr ⟨rfl, List.forall_mem_cons.mpr ⟨rfl, List.forall_mem_cons.mpr ⟨rfl, fun _ h => absurd h List.not_mem_nil⟩⟩⟩⟩) ?_
    exact q
  exact ygl87_55 hB 1000000 _ _ _ _ c1 c2 rfl
theorem ygf87 {B : Nat} (hB : B ≤ 512) {xs : Nat → Int32} {SL d : Nat} : ∀ m, xS B xs SL (d + 4) 87 (4, (some .boolean), [], 6) 4 0 [(0, xa 293)] [] m (yf87 B m) := by
  intro m
  unfold yf87
  refine xS_of (pc' := 20) (L' := [(2, xi (xR m 223 6)), (1, xi (xR m 1 3)), (0, xa 293)]) (st' := [xi 207, xi (xR m 1 3)]) (m' := m) (fun ex ns r q => ?_) ?_
  · refine xw_aload_n rfl rfl rfl ?_
    refine xw_gfR (n := 1) (e := 1) rfl (xw_obd (by decide +kernel)) (by decide +kernel) (by decide +kernel) rfl ?_
    refine xw_gfIc (v := (m 1 3)) (v' := (xR m 1 3)) rfl (xw_obd (by decide +kernel)) xk1_3 (qi := 3) rfl rfl rfl ?_
    refine xw_istore_n (L' := [(1, xi (xR m 1 3)), (0, xa 293)]) rfl (by decide) rfl ?_
    refine xw_aload_n rfl rfl rfl ?_
    refine xw_gfR (n := 223) (e := 223) rfl (xw_obd (by decide +kernel)) (by decide +kernel) (by decide +kernel) rfl ?_
    refine xw_gfIc (v := (m 223 6)) (v' := (xR m 223 6)) rfl (xw_obd (by decide +kernel)) xk4_6 (qi := 6) rfl rfl rfl ?_
    refine xw_istore_n (L' := [(2, xi (xR m 223 6)), (1, xi (xR m 1 3)), (0, xa 293)]) rfl (by decide) rfl ?_
    refine xw_iload_n rfl rfl ?_
    refine xw_sipush (e := 207) rfl (by decide +kernel) ?_
    exact q
  refine xS_if (fun h0 => ?_) (fun h0 => ?_)
  · refine xS_of (pc' := 44) (L' := [(0, xa 293), (1, xi (xR m 1 3)), (2, xi (xR m 223 6))]) (st' := []) (m' := m) (fun ex ns r q => ?_) ?_
    · refine xw_ic_eqT rfl (w32_cg (w32_xR _ _ _)) (w32_cg rfl) h0 ?_
      refine xw_lo (L2 := [(0, xa 293), (1, xi (xR m 1 3)), (2, xi (xR m 223 6))]) (List.forall_mem_cons.mpr ⟨rfl, List.forall_mem_cons.mpr ⟨rfl, List.forall_mem_cons.mpr ⟨rfl, fun _ h => absurd h List.not_mem_nil⟩⟩⟩) ?_
      exact q
    exact ygk87_44 hB _ _ _ (w32_xR _ _ _) (w32_xR _ _ _)
  · refine xS_of (pc' := 27) (L' := [(2, xi (xR m 223 6)), (1, xi (xR m 1 3)), (0, xa 293)]) (st' := [xi 208, xi (xR m 1 3)]) (m' := m) (fun ex ns r q => ?_) ?_
    · refine xw_ic_eqF rfl (w32_cg (w32_xR _ _ _)) (w32_cg rfl) h0 ?_
      refine xw_iload_n rfl rfl ?_
      refine xw_sipush (e := 208) rfl (by decide +kernel) ?_
      exact q
    refine xS_if (fun h1 => ?_) (fun h1 => ?_)
    · refine xS_of (pc' := 44) (L' := [(0, xa 293), (1, xi (xR m 1 3)), (2, xi (xR m 223 6))]) (st' := []) (m' := m) (fun ex ns r q => ?_) ?_
      · refine xw_ic_eqT rfl (w32_cg (w32_xR _ _ _)) (w32_cg rfl) h1 ?_
        refine xw_lo (L2 := [(0, xa 293), (1, xi (xR m 1 3)), (2, xi (xR m 223 6))]) (List.forall_mem_cons.mpr ⟨rfl, List.forall_mem_cons.mpr ⟨rfl, List.forall_mem_cons.mpr ⟨rfl, fun _ h => absurd h List.not_mem_nil⟩⟩⟩) ?_
        exact q
      exact ygk87_44 hB _ _ _ (w32_xR _ _ _) (w32_xR _ _ _)
    · refine xS_of (pc' := 31) (L' := [(0, xa 293), (1, xi (xR m 1 3)), (2, xi (xR m 223 6))]) (st' := [xa 293]) (m' := m) (fun ex ns r q => ?_) ?_
      · refine xw_ic_eqF rfl (w32_cg (w32_xR _ _ _)) (w32_cg rfl) h1 ?_
        refine xw_aload_n rfl rfl rfl ?_
        refine xw_lo (L2 := [(0, xa 293), (1, xi (xR m 1 3)), (2, xi (xR m 223 6))]) (List.forall_mem_cons.mpr ⟨rfl, List.forall_mem_cons.mpr ⟨rfl, List.forall_mem_cons.mpr ⟨rfl, fun _ h => absurd h List.not_mem_nil⟩⟩⟩) ?_
        exact q
      refine xS_call (q := 88) (n := 1) (kq := 0) (as := [xa 293]) (st1 := []) rfl rfl rfl rfl rfl rfl rfl rfl rfl rfl (fun _ => xw_rcv1 (t := 5) (xw_obd (by decide +kernel)) rfl) rfl (List.forall_mem_cons.mpr ⟨rfl, fun _ h => absurd h List.not_mem_nil⟩) (ygf88 hB _) (fun v1 m1 cv1 => ?_)
      refine xS_of (pc' := 40) (L' := []) (st' := [xi (xR m 223 6), xi (xR m 1 3), xa 223]) (m' := m1) (fun ex ns r q => ?_) ?_
      · refine xw_aload_n rfl rfl rfl ?_
        refine xw_gfR (n := 223) (e := 223) rfl (xw_obd (by decide +kernel)) (by decide +kernel) (by decide +kernel) rfl ?_
        refine xw_iload_n rfl rfl ?_
        refine xw_iload_n rfl rfl ?_
        refine xw_lo (L2 := []) (fun _ h => absurd h List.not_mem_nil) ?_
        exact q
      refine xS_call (q := 91) (n := 3) (kq := 4) (as := [xa 223, xi (xR m 1 3), xi (xR m 223 6)]) (st1 := []) rfl rfl rfl rfl rfl rfl rfl rfl rfl rfl (fun _ => xw_rcv1 (t := 4) (xw_obd (by decide +kernel)) rfl) rfl (List.forall_mem_cons.mpr ⟨rfl, List.forall_mem_cons.mpr ⟨rfl, List.forall_mem_cons.mpr ⟨rfl, fun _ h => absurd h List.not_mem_nil⟩⟩⟩) (ygf91 hB _ _ _ (w32_xR _ _ _) (w32_xR _ _ _)) (fun v2 m2 cv2 => ?_)
      exact xS_ret (v := v2) rfl rfl (xw_rtZ cv2) cv2
theorem ygk86_50 {B : Nat} (hB : B ≤ 512) {xs : Nat → Int32} {SL d : Nat} {r20 : Int → Int → xw_M → xP} (hr20 : ∀ x1 x2 m, w32 x1 = x1 → w32 x2 = x2 → xS B xs SL (d + 5) 86 (3, none, [], 6) 0 20 [(0, xa 293), (1, xi x1), (2, xi x2)] [] m (r20 x1 x2 m)) : ∀ x1 x2 m, w32 x1 = x1 → w32 x2 = x2 → xS B xs SL (d + 5) 86 (3, none, [], 6) 0 50 [(0, xa 293), (1, xi x1), (2, xi x2)] [] m (yk86_50 B r20 x1 x2 m) := by
  intro x1 x2 m c1 c2
  unfold yk86_50
  refine xS_of (pc' := 54) (L' := [(0, xa 293), (1, xi x1), (2, xi x2)]) (st' := [xa 1]) (m' := m) (fun ex ns r q => ?_) ?_
  · refine xw_aload_n rfl rfl rfl ?_
    refine xw_gfR (n := 1) (e := 1) rfl (xw_obd (by decide +kernel)) (by decide +kernel) (by decide +kernel) rfl ?_
    refine xw_lo (L2 := [(0, xa 293), (1, xi x1), (2, xi x2)]) (List.forall_mem_cons.mpr ⟨rfl, List.forall_mem_cons.mpr ⟨rfl, List.forall_mem_cons.mpr ⟨rfl, fun _ h => absurd h List.not_mem_nil⟩⟩⟩) ?_
    exact q
  refine xS_call (q := 47) (n := 1) (kq := 0) (as := [xa 1]) (st1 := []) rfl rfl rfl rfl rfl rfl rfl rfl rfl rfl (fun _ => xw_rcv1 (t := 1) (xw_obd (by decide +kernel)) rfl) rfl (List.forall_mem_cons.mpr ⟨rfl, fun _ h => absurd h List.not_mem_nil⟩) (ygf47 hB _) (fun v1 m1 cv1 => ?_)
  refine xS_of (pc' := 66) (L' := [(0, xa 293), (1, xi x1), (2, xi x2)]) (st' := [xi 44, xi (xR m1 1 3)]) (m' := m1) (fun ex ns r q => ?_) ?_
  · refine xw_aload_n rfl rfl rfl ?_
    refine xw_gfR (n := 1) (e := 1) rfl (xw_obd (by decide +kernel)) (by decide +kernel) (by decide +kernel) rfl ?_
    refine xw_gfIc (v := (m1 1 3)) (v' := (xR m1 1 3)) rfl (xw_obd (by decide +kernel)) xk1_3 (qi := 3) rfl rfl rfl ?_
    refine xw_bipush (e := 44) rfl (by decide +kernel) ?_
    exact q
  refine xS_if (fun h0 => ?_) (fun h0 => ?_)
  · refine xS_of (pc' := 20) (L' := [(0, xa 293), (1, xi x1), (2, xi (w32 (x2 + 1)))]) (st' := []) (m' := m1) (fun ex ns r q => ?_) ?_
    · refine xw_ic_eqT rfl (w32_cg (w32_xR _ _ _)) (w32_cg rfl) h0 ?_
      refine xw_iincc (z := (w32 (x2 + 1))) (L' := [(2, xi (w32 (x2 + 1))), (0, xa 293), (1, xi x1)]) rfl rfl (by decide) rfl rfl ?_
      refine xw_goto rfl ?_
      refine xw_lo (L2 := [(0, xa 293), (1, xi x1), (2, xi (w32 (x2 + 1)))]) (List.forall_mem_cons.mpr ⟨rfl, List.forall_mem_cons.mpr ⟨rfl, List.forall_mem_cons.mpr ⟨rfl, fun _ h => absurd h List.not_mem_nil⟩⟩⟩) ?_
      exact q
    exact hr20 _ _ _ c1 (w32_w _)
  · refine xS_of (pc' := 78) (L' := [(0, xa 293), (1, xi x1), (2, xi x2)]) (st' := []) (m' := m1) (fun ex ns r q => ?_) ?_
    · refine xw_ic_eqF rfl (w32_cg (w32_xR _ _ _)) (w32_cg rfl) h0 ?_
      refine xw_goto rfl ?_
      exact q
    exact xS_ret (v := 0) rfl rfl rfl rfl
theorem ysl86_20 {B : Nat} (hB : B ≤ 512) {xs : Nat → Int32} {SL d : Nat} {r20 : Int → Int → xw_M → xP} (hr20 : ∀ x1 x2 m, w32 x1 = x1 → w32 x2 = x2 → xS B xs SL (d + 5) 86 (3, none, [], 6) 0 20 [(0, xa 293), (1, xi x1), (2, xi x2)] [] m (r20 x1 x2 m)) : ∀ x1 x2 m, w32 x1 = x1 → w32 x2 = x2 → xS B xs SL (d + 5) 86 (3, none, [], 6) 0 20 [(0, xa 293), (1, xi x1), (2, xi x2)] [] m (yl86_20 B r20 x1 x2 m) := by
  intro x1 x2 m c1 c2
  unfold yl86_20
  refine xS_of (pc' := 23) (L' := [(0, xa 293), (1, xi x1), (2, xi x2)]) (st' := [xi 8, xi x2]) (m' := m) (fun ex ns r q => ?_) ?_
  · refine xw_iload_n rfl rfl ?_
    refine xw_bipush (e := 8) rfl (by decide +kernel) ?_
    exact q
  refine xS_if (fun h0 => ?_) (fun h0 => ?_)
  · refine xS_of (pc' := 78) (L' := [(0, xa 293), (1, xi x1), (2, xi x2)]) (st' := []) (m' := m) (fun ex ns r q => ?_) ?_
    · refine xw_ic_gtT rfl (w32_cg c2) (w32_cg rfl) h0 ?_
      exact q
    exact xS_ret (v := 0) rfl rfl rfl rfl
  · refine xS_of (pc' := 30) (L' := [(0, xa 293), (1, xi x1), (2, xi x2)]) (st' := [xa 1]) (m' := m) (fun ex ns r q => ?_) ?_
    · refine xw_ic_gtF rfl (w32_cg c2) (w32_cg rfl) h0 ?_
      refine xw_aload_n rfl rfl rfl ?_
      refine xw_gfR (n := 1) (e := 1) rfl (xw_obd (by decide +kernel)) (by decide +kernel) (by decide +kernel) rfl ?_
      refine xw_lo (L2 := [(0, xa 293), (1, xi x1), (2, xi x2)]) (List.forall_mem_cons.mpr ⟨rfl, List.forall_mem_cons.mpr ⟨rfl, List.forall_mem_cons.mpr ⟨rfl, fun _ h => absurd h List.not_mem_nil⟩⟩⟩) ?_
      exact q
    refine xS_call (q := 47) (n := 1) (kq := 0) (as := [xa 1]) (st1 := []) rfl rfl rfl rfl rfl rfl rfl rfl rfl rfl (fun _ => xw_rcv1 (t := 1) (xw_obd (by decide +kernel)) rfl) rfl (List.forall_mem_cons.mpr ⟨rfl, fun _ h => absurd h List.not_mem_nil⟩) (ygf47 hB _) (fun v1 m1 cv1 => ?_)
    refine xS_of (pc' := 34) (L' := [(0, xa 293), (1, xi x1), (2, xi x2)]) (st' := [xa 293]) (m' := m1) (fun ex ns r q => ?_) ?_
    · refine xw_aload_n rfl rfl rfl ?_
      refine xw_lo (L2 := [(0, xa 293), (1, xi x1), (2, xi x2)]) (List.forall_mem_cons.mpr ⟨rfl, List.forall_mem_cons.mpr ⟨rfl, List.forall_mem_cons.mpr ⟨rfl, fun _ h => absurd h List.not_mem_nil⟩⟩⟩) ?_
      exact q
    refine xS_call (q := 87) (n := 1) (kq := 4) (as := [xa 293]) (st1 := []) rfl rfl rfl rfl rfl rfl rfl rfl rfl rfl (fun _ => xw_rcv1 (t := 5) (xw_obd (by decide +kernel)) rfl) rfl (List.forall_mem_cons.mpr ⟨rfl, fun _ h => absurd h List.not_mem_nil⟩) (ygf87 hB _) (fun v2 m2 cv2 => ?_)
    refine xS_if (fun h1 => ?_) (fun h1 => ?_)
    · refine xS_of (pc' := 47) (L' := [(0, xa 293), (1, xi x1), (2, xi x2)]) (st' := [xi x1, xi 7, xa 1]) (m' := m2) (fun ex ns r q => ?_) ?_
      · refine xw_if_neF rfl (w32_cg (w32_of (xw_zr cv2))) h1 ?_
        refine xw_aload_n rfl rfl rfl ?_
        refine xw_gfR (n := 1) (e := 1) rfl (xw_obd (by decide +kernel)) (by decide +kernel) (by decide +kernel) rfl ?_
        refine xw_bipush (e := 7) rfl (by decide +kernel) ?_
        refine xw_iload_n rfl rfl ?_
        refine xw_lo (L2 := [(0, xa 293), (1, xi x1), (2, xi x2)]) (List.forall_mem_cons.mpr ⟨rfl, List.forall_mem_cons.mpr ⟨rfl, List.forall_mem_cons.mpr ⟨rfl, fun _ h => absurd h List.not_mem_nil⟩⟩⟩) ?_
        exact q
      refine xS_call (q := 54) (n := 3) (kq := 0) (as := [xa 1, xi 7, xi x1]) (st1 := []) rfl rfl rfl rfl rfl rfl rfl rfl rfl rfl (fun _ => xw_rcv1 (t := 1) (xw_obd (by decide +kernel)) rfl) rfl (List.forall_mem_cons.mpr ⟨rfl, List.forall_mem_cons.mpr ⟨rfl, List.forall_mem_cons.mpr ⟨rfl, fun _ h => absurd h List.not_mem_nil⟩⟩⟩) (ygf54 hB _ _ _ rfl c1) (fun v3 m3 cv3 => ?_)
      refine xS_of (pc' := 50) (L' := [(0, xa 293), (1, xi x1), (2, xi x2)]) (st' := []) (m' := m3) (fun ex ns r q => ?_) ?_
      · refine xw_lo (L2 := [(0, xa 293), (1, xi x1), (2, xi x2)]) (List.forall_mem_cons.mpr ⟨rfl, List.forall_mem_cons.mpr ⟨rfl, List.forall_mem_cons.mpr ⟨rfl, fun _ h => absurd h List.not_mem_nil⟩⟩⟩) ?_
        exact q
      exact ygk86_50 hB hr20 _ _ _ c1 c2
    · refine xS_of (pc' := 50) (L' := [(0, xa 293), (1, xi x1), (2, xi x2)]) (st' := []) (m' := m2) (fun ex ns r q => ?_) ?_
      · refine xw_if_neT rfl (w32_cg (w32_of (xw_zr cv2))) h1 ?_
        refine xw_lo (L2 := [(0, xa 293), (1, xi x1), (2, xi x2)]) (List.forall_mem_cons.mpr ⟨rfl, List.forall_mem_cons.mpr ⟨rfl, List.forall_mem_cons.mpr ⟨rfl, fun _ h => absurd h List.not_mem_nil⟩⟩⟩) ?_
        exact q
      exact ygk86_50 hB hr20 _ _ _ c1 c2
theorem ygl86_20 {B : Nat} (hB : B ≤ 512) {xs : Nat → Int32} {SL d : Nat} : ∀ n x1 x2 m, w32 x1 = x1 → w32 x2 = x2 → xS B xs SL (d + 5) 86 (3, none, [], 6) 0 20 [(0, xa 293), (1, xi x1), (2, xi x2)] [] m (xl2 (yl86_20 B) n x1 x2 m) := by
  intro n
  induction n with
  | zero => intro x1 x2 m c1 c2; exact xS_none
  | succ n ih => exact ysl86_20 hB ih
theorem ygf86 {B : Nat} (hB : B ≤ 512) {xs : Nat → Int32} {SL d : Nat} : ∀ m, xS B xs SL (d + 5) 86 (3, none, [], 6) 0 0 [(0, xa 293)] [] m (yf86 B m) := by
  intro m
  unfold yf86
  refine xS_of (pc' := 15) (L' := [(0, xa 293), (1, xi (xR m 1 4))]) (st' := [xi 206, xa 1]) (m' := m) (fun ex ns r q => ?_) ?_
  · refine xw_aload_n rfl rfl rfl ?_
    refine xw_gfR (n := 1) (e := 1) rfl (xw_obd (by decide +kernel)) (by decide +kernel) (by decide +kernel) rfl ?_
    refine xw_gfIc (v := (m 1 4)) (v' := (xR m 1 4)) rfl (xw_obd (by decide +kernel)) xk1_4 (qi := 4) rfl rfl rfl ?_
    refine xw_istore_n (L' := [(1, xi (xR m 1 4)), (0, xa 293)]) rfl (by decide) rfl ?_
    refine xw_aload_n rfl rfl rfl ?_
    refine xw_gfR (n := 1) (e := 1) rfl (xw_obd (by decide +kernel)) (by decide +kernel) (by decide +kernel) rfl ?_
    refine xw_sipush (e := 206) rfl (by decide +kernel) ?_
    refine xw_lo (L2 := [(0, xa 293), (1, xi (xR m 1 4))]) (List.forall_mem_cons.mpr ⟨rfl, List.forall_mem_cons.mpr ⟨rfl, fun _ h => absurd h List.not_mem_nil⟩⟩) ?_
    exact q
  refine xS_call (q := 68) (n := 2) (kq := 0) (as := [xa 1, xi 206]) (st1 := []) rfl rfl rfl rfl rfl rfl rfl rfl rfl rfl (fun _ => xw_rcv1 (t := 1) (xw_obd (by decide +kernel)) rfl) rfl (List.forall_mem_cons.mpr ⟨rfl, List.forall_mem_cons.mpr ⟨rfl, fun _ h => absurd h List.not_mem_nil⟩⟩) (ygf68 hB _ _ rfl) (fun v1 m1 cv1 => ?_)
  refine xS_of (pc' := 20) (L' := [(0, xa 293), (1, xi (xR m 1 4)), (2, xi 0)]) (st' := []) (m' := m1) (fun ex ns r q => ?_) ?_
  · refine xw_iconst rfl ?_
    refine xw_istore_n (L' := [(2, xi 0), (0, xa 293), (1, xi (xR m 1 4))]) rfl (by decide) rfl ?_
    refine xw_lo (L2 := [(0, xa 293), (1, xi (xR m 1 4)), (2, xi 0)]) (List.forall_mem_cons.mpr ⟨rfl, List.forall_mem_cons.mpr ⟨rfl, List.forall_mem_cons.mpr ⟨rfl, fun _ h => absurd h List.not_mem_nil⟩⟩⟩) ?_
    exact q
  exact ygl86_20 hB 1000000 _ _ _ (w32_xR _ _ _) rfl
theorem ygk92_32 {B : Nat} (hB : B ≤ 512) {xs : Nat → Int32} {SL d : Nat} {r2 : Int → xw_M → xP} (hr2 : ∀ x1 m, w32 x1 = x1 → xS B xs SL (d + 1) 92 (2, (some .int), [], 5) 1 2 [(0, xa 223), (1, xi x1)] [] m (r2 x1 m)) : ∀ x1 m, w32 x1 = x1 → xS B xs SL (d + 1) 92 (2, (some .int), [], 5) 1 32 [(0, xa 223), (1, xi x1)] [] m (yk92_32 B r2 x1 m) := by
  intro x1 m c1
  unfold yk92_32
  refine xS_g (fun g0 => ?_)
  refine xS_of (pc' := 44) (L' := [(0, xa 223), (1, xi x1)]) (st' := [xi (xR m 225 x1), xa 223, xi x1, xa 225]) (m' := m) (fun ex ns r q => ?_) ?_
  · refine xw_aload_n rfl rfl rfl ?_
    refine xw_gfR (n := 225) (e := 225) rfl (xw_obd (by decide +kernel)) (by decide +kernel) (by decide +kernel) rfl ?_
    refine xw_iload_n rfl rfl ?_
    refine xw_aload_n rfl rfl rfl ?_
    refine xw_aload_n rfl rfl rfl ?_
    refine xw_gfR (n := 225) (e := 225) rfl (xw_obd (by decide +kernel)) (by decide +kernel) (by decide +kernel) rfl ?_
    refine xw_iload_n rfl rfl ?_
    refine xw_ialdc (n := 24) (v := (m 225 x1)) (v' := (xR m 225 x1)) rfl hB (xw_obd (by decide +kernel)) rfl g0 rfl rfl ?_
    refine xw_lo (L2 := [(0, xa 223), (1, xi x1)]) (List.forall_mem_cons.mpr ⟨rfl, List.forall_mem_cons.mpr ⟨rfl, fun _ h => absurd h List.not_mem_nil⟩⟩) ?_
    exact q
  refine xS_call (q := 89) (n := 2) (kq := 1) (as := [xa 223, xi (xR m 225 x1)]) (st1 := [xi x1, xa 225]) rfl rfl rfl rfl rfl rfl rfl rfl rfl rfl (fun _ => xw_rcv1 (t := 4) (xw_obd (by decide +kernel)) rfl) rfl (List.forall_mem_cons.mpr ⟨rfl, List.forall_mem_cons.mpr ⟨rfl, fun _ h => absurd h List.not_mem_nil⟩⟩) (ygf89 hB _ _ (w32_xR _ _ _)) (fun v1 m1 cv1 => ?_)
  refine xS_of (pc' := 55) (L' := [(0, xa 223), (1, xi x1)]) (st' := [xi (-1), xi v1]) (m' := (xw_u m1 225 x1 v1)) (fun ex ns r q => ?_) ?_
  · refine xw_iast (n := 24) rfl hB (xw_obd (by decide +kernel)) rfl g0 ?_
    refine xw_aload_n rfl rfl rfl ?_
    refine xw_gfR (n := 225) (e := 225) rfl (xw_obd (by decide +kernel)) (by decide +kernel) (by decide +kernel) rfl ?_
    refine xw_iload_n rfl rfl ?_
    refine xw_ialdc (n := 24) (v := v1) (v' := v1) rfl hB (xw_obd (by decide +kernel)) rfl g0 xw_us cv1 ?_
    refine xw_iconst rfl ?_
    exact q
  refine xS_if (fun h1 => ?_) (fun h1 => ?_)
  · refine xS_of (pc' := 59) (L' := [(0, xa 223), (1, xi x1)]) (st' := [xi x1]) (m' := (xw_u m1 225 x1 v1)) (fun ex ns r q => ?_) ?_
    · refine xw_ic_neF rfl (w32_cg cv1) (w32_cg rfl) h1 ?_
      refine xw_iload_n rfl rfl ?_
      exact q
    exact xS_ret (v := x1) rfl rfl xw_rtI c1
  · refine xS_of (pc' := 2) (L' := [(0, xa 223), (1, xi (w32 (x1 + 1)))]) (st' := []) (m' := (xw_u m1 225 x1 v1)) (fun ex ns r q => ?_) ?_
    · refine xw_ic_neT rfl (w32_cg cv1) (w32_cg rfl) h1 ?_
      refine xw_iincc (z := (w32 (x1 + 1))) (L' := [(1, xi (w32 (x1 + 1))), (0, xa 223)]) rfl rfl (by decide) rfl rfl ?_
      refine xw_goto rfl ?_
      refine xw_lo (L2 := [(0, xa 223), (1, xi (w32 (x1 + 1)))]) (List.forall_mem_cons.mpr ⟨rfl, List.forall_mem_cons.mpr ⟨rfl, fun _ h => absurd h List.not_mem_nil⟩⟩) ?_
      exact q
    exact hr2 _ _ (w32_w _)
theorem ysl92_2 {B : Nat} (hB : B ≤ 512) {xs : Nat → Int32} {SL d : Nat} {r2 : Int → xw_M → xP} (hr2 : ∀ x1 m, w32 x1 = x1 → xS B xs SL (d + 1) 92 (2, (some .int), [], 5) 1 2 [(0, xa 223), (1, xi x1)] [] m (r2 x1 m)) : ∀ x1 m, w32 x1 = x1 → xS B xs SL (d + 1) 92 (2, (some .int), [], 5) 1 2 [(0, xa 223), (1, xi x1)] [] m (yl92_2 B r2 x1 m) := by
  intro x1 m c1
  unfold yl92_2
  refine xS_of (pc' := 7) (L' := [(0, xa 223), (1, xi x1)]) (st' := [xi (xR m 223 2), xi x1]) (m' := m) (fun ex ns r q => ?_) ?_
  · refine xw_iload_n rfl rfl ?_
    refine xw_aload_n rfl rfl rfl ?_
    refine xw_gfIc (v := (m 223 2)) (v' := (xR m 223 2)) rfl (xw_obd (by decide +kernel)) xk4_2 (qi := 2) rfl rfl rfl ?_
    exact q
  refine xS_if (fun h0 => ?_) (fun h0 => ?_)
  · refine xS_g (fun g1 => ?_)
    refine xS_of (pc' := 17) (L' := [(0, xa 223), (1, xi x1)]) (st' := [xi 1, xi (xR m 224 x1)]) (m' := m) (fun ex ns r q => ?_) ?_
    · refine xw_ic_geF rfl (w32_cg c1) (w32_cg (w32_xR _ _ _)) (Int.not_le.mpr h0) ?_
      refine xw_aload_n rfl rfl rfl ?_
      refine xw_gfR (n := 224) (e := 224) rfl (xw_obd (by decide +kernel)) (by decide +kernel) (by decide +kernel) rfl ?_
      refine xw_iload_n rfl rfl ?_
      refine xw_ialdc (n := 24) (v := (m 224 x1)) (v' := (xR m 224 x1)) rfl hB (xw_obd (by decide +kernel)) rfl g1 rfl rfl ?_
      refine xw_iconst rfl ?_
      exact q
    refine xS_if (fun h2 => ?_) (fun h2 => ?_)
    · refine xS_of (pc' := 32) (L' := [(0, xa 223), (1, xi x1)]) (st' := []) (m' := m) (fun ex ns r q => ?_) ?_
      · refine xw_ic_eqT rfl (w32_cg (w32_xR _ _ _)) (w32_cg rfl) h2 ?_
        refine xw_lo (L2 := [(0, xa 223), (1, xi x1)]) (List.forall_mem_cons.mpr ⟨rfl, List.forall_mem_cons.mpr ⟨rfl, fun _ h => absurd h List.not_mem_nil⟩⟩) ?_
        exact q
      exact ygk92_32 hB hr2 _ _ c1
    · refine xS_of (pc' := 29) (L' := [(0, xa 223), (1, xi x1)]) (st' := [xi 209, xi (xR m 224 x1)]) (m' := m) (fun ex ns r q => ?_) ?_
      · refine xw_ic_eqF rfl (w32_cg (w32_xR _ _ _)) (w32_cg rfl) h2 ?_
        refine xw_aload_n rfl rfl rfl ?_
        refine xw_gfR (n := 224) (e := 224) rfl (xw_obd (by decide +kernel)) (by decide +kernel) (by decide +kernel) rfl ?_
        refine xw_iload_n rfl rfl ?_
        refine xw_ialdc (n := 24) (v := (m 224 x1)) (v' := (xR m 224 x1)) rfl hB (xw_obd (by decide +kernel)) rfl g1 rfl rfl ?_
        refine xw_sipush (e := 209) rfl (by decide +kernel) ?_
        exact q
      refine xS_if (fun h3 => ?_) (fun h3 => ?_)
      · refine xS_of (pc' := 32) (L' := [(0, xa 223), (1, xi x1)]) (st' := []) (m' := m) (fun ex ns r q => ?_) ?_
        · refine xw_ic_neF rfl (w32_cg (w32_xR _ _ _)) (w32_cg rfl) h3 ?_
          refine xw_lo (L2 := [(0, xa 223), (1, xi x1)]) (List.forall_mem_cons.mpr ⟨rfl, List.forall_mem_cons.mpr ⟨rfl, fun _ h => absurd h List.not_mem_nil⟩⟩) ?_
          exact q
        exact ygk92_32 hB hr2 _ _ c1
      · refine xS_of (pc' := 2) (L' := [(0, xa 223), (1, xi (w32 (x1 + 1)))]) (st' := []) (m' := m) (fun ex ns r q => ?_) ?_
        · refine xw_ic_neT rfl (w32_cg (w32_xR _ _ _)) (w32_cg rfl) h3 ?_
          refine xw_iincc (z := (w32 (x1 + 1))) (L' := [(1, xi (w32 (x1 + 1))), (0, xa 223)]) rfl rfl (by decide) rfl rfl ?_
          refine xw_goto rfl ?_
          refine xw_lo (L2 := [(0, xa 223), (1, xi (w32 (x1 + 1)))]) (List.forall_mem_cons.mpr ⟨rfl, List.forall_mem_cons.mpr ⟨rfl, fun _ h => absurd h List.not_mem_nil⟩⟩) ?_
          exact q
        exact hr2 _ _ (w32_w _)
  · refine xS_of (pc' := 67) (L' := [(0, xa 223), (1, xi x1)]) (st' := [xi (-1)]) (m' := m) (fun ex ns r q => ?_) ?_
    · refine xw_ic_geT rfl (w32_cg c1) (w32_cg (w32_xR _ _ _)) (Int.not_lt.mp h0) ?_
      refine xw_iconst rfl ?_
      exact q
    exact xS_ret (v := (-1)) rfl rfl xw_rtI rfl
theorem ygl92_2 {B : Nat} (hB : B ≤ 512) {xs : Nat → Int32} {SL d : Nat} : ∀ n x1 m, w32 x1 = x1 → xS B xs SL (d + 1) 92 (2, (some .int), [], 5) 1 2 [(0, xa 223), (1, xi x1)] [] m (xl1 (yl92_2 B) n x1 m) := by
  intro n
  induction n with
  | zero => intro x1 m c1; exact xS_none
  | succ n ih => exact ysl92_2 hB ih
theorem ygf92 {B : Nat} (hB : B ≤ 512) {xs : Nat → Int32} {SL d : Nat} : ∀ m, xS B xs SL (d + 1) 92 (2, (some .int), [], 5) 1 0 [(0, xa 223)] [] m (yf92 B m) := by
  intro m
  unfold yf92
  refine xS_of (pc' := 2) (L' := [(0, xa 223), (1, xi 0)]) (st' := []) (m' := m) (fun ex ns r q => ?_) ?_
  · refine xw_iconst rfl ?_
    refine xw_istore_n (L' := [(1, xi 0), (0, xa 223)]) rfl (by decide) rfl ?_
    refine xw_lo (L2 := [(0, xa 223), (1, xi 0)]) (List.forall_mem_cons.mpr ⟨rfl, List.forall_mem_cons.mpr ⟨rfl, fun _ h => absurd h List.not_mem_nil⟩⟩) ?_
    exact q
  exact ygl92_2 hB 1000000 _ _ rfl
theorem ygk57_114 {B : Nat} (hB : B ≤ 512) {xs : Nat → Int32} {SL d : Nat} : ∀ m, xS B xs SL (d + 6) 57 (2, none, [], 6) 0 114 [(0, xa 293)] [] m (yk57_114 B m) := by
  intro m
  unfold yk57_114
  refine xS_of (pc' := 118) (L' := [(0, xa 293)]) (st' := [xa 223]) (m' := m) (fun ex ns r q => ?_) ?_
  · refine xw_aload_n rfl rfl rfl ?_
    refine xw_gfR (n := 223) (e := 223) rfl (xw_obd (by decide +kernel)) (by decide +kernel) (by decide +kernel) rfl ?_
    refine xw_lo (L2 := [(0, xa 293)]) (List.forall_mem_cons.mpr ⟨rfl, fun _ h => absurd h List.not_mem_nil⟩) ?_
    exact q
  refine xS_call (q := 92) (n := 1) (kq := 1) (as := [xa 223]) (st1 := []) rfl rfl rfl rfl rfl rfl rfl rfl rfl rfl (fun _ => xw_rcv1 (t := 4) (xw_obd (by decide +kernel)) rfl) rfl (List.forall_mem_cons.mpr ⟨rfl, fun _ h => absurd h List.not_mem_nil⟩) (ygf92 hB _) (fun v1 m1 cv1 => ?_)
  refine xS_of (pc' := 124) (L' := [(1, xi v1), (0, xa 293)]) (st' := [xi (-1), xi v1]) (m' := m1) (fun ex ns r q => ?_) ?_
  · refine xw_istore_n (L' := [(1, xi v1), (0, xa 293)]) rfl (by decide) rfl ?_
    refine xw_iload_n rfl rfl ?_
    refine xw_iconst rfl ?_
    exact q
  refine xS_if (fun h0 => ?_) (fun h0 => ?_)
  · refine xS_of (pc' := 145) (L' := [(1, xi v1), (0, xa 293)]) (st' := []) (m' := m1) (fun ex ns r q => ?_) ?_
    · refine xw_ic_eqT rfl (w32_cg cv1) (w32_cg rfl) h0 ?_
      exact q
    exact xS_ret (v := 0) rfl rfl rfl rfl
  · refine xS_g (fun g1 => ?_)
    refine xS_of (pc' := 142) (L' := []) (st' := [xi (xR m1 226 v1), xi 11, xa 1]) (m' := m1) (fun ex ns r q => ?_) ?_
    · refine xw_ic_eqF rfl (w32_cg cv1) (w32_cg rfl) h0 ?_
      refine xw_aload_n rfl rfl rfl ?_
      refine xw_gfR (n := 1) (e := 1) rfl (xw_obd (by decide +kernel)) (by decide +kernel) (by decide +kernel) rfl ?_
      refine xw_bipush (e := 11) rfl (by decide +kernel) ?_
      refine xw_aload_n rfl rfl rfl ?_
      refine xw_gfR (n := 223) (e := 223) rfl (xw_obd (by decide +kernel)) (by decide +kernel) (by decide +kernel) rfl ?_
      refine xw_gfR (n := 226) (e := 226) rfl (xw_obd (by decide +kernel)) (by decide +kernel) (by decide +kernel) rfl ?_
      refine xw_iload_n rfl rfl ?_
      refine xw_ialdc (n := 24) (v := (m1 226 v1)) (v' := (xR m1 226 v1)) rfl hB (xw_obd (by decide +kernel)) rfl g1 rfl rfl ?_
      refine xw_lo (L2 := []) (fun _ h => absurd h List.not_mem_nil) ?_
      exact q
    refine xS_call (q := 54) (n := 3) (kq := 0) (as := [xa 1, xi 11, xi (xR m1 226 v1)]) (st1 := []) rfl rfl rfl rfl rfl rfl rfl rfl rfl rfl (fun _ => xw_rcv1 (t := 1) (xw_obd (by decide +kernel)) rfl) rfl (List.forall_mem_cons.mpr ⟨rfl, List.forall_mem_cons.mpr ⟨rfl, List.forall_mem_cons.mpr ⟨rfl, fun _ h => absurd h List.not_mem_nil⟩⟩⟩) (ygf54 hB _ _ _ rfl (w32_xR _ _ _)) (fun v2 m2 cv2 => ?_)
    exact xS_ret (v := 0) rfl rfl rfl rfl
theorem ygk57_95 {B : Nat} (hB : B ≤ 512) {xs : Nat → Int32} {SL d : Nat} : ∀ m, xS B xs SL (d + 6) 57 (2, none, [], 6) 0 95 [(0, xa 293)] [] m (yk57_95 B m) := by
  intro m
  unfold yk57_95
  refine xS_of (pc' := 104) (L' := [(0, xa 293)]) (st' := [xi 59, xi (xR m 1 3)]) (m' := m) (fun ex ns r q => ?_) ?_
  · refine xw_aload_n rfl rfl rfl ?_
    refine xw_gfR (n := 1) (e := 1) rfl (xw_obd (by decide +kernel)) (by decide +kernel) (by decide +kernel) rfl ?_
    refine xw_gfIc (v := (m 1 3)) (v' := (xR m 1 3)) rfl (xw_obd (by decide +kernel)) xk1_3 (qi := 3) rfl rfl rfl ?_
    refine xw_bipush (e := 59) rfl (by decide +kernel) ?_
    exact q
  refine xS_if (fun h0 => ?_) (fun h0 => ?_)
  · refine xS_of (pc' := 114) (L' := [(0, xa 293)]) (st' := []) (m' := m) (fun ex ns r q => ?_) ?_
    · refine xw_ic_eqT rfl (w32_cg (w32_xR _ _ _)) (w32_cg rfl) h0 ?_
      refine xw_lo (L2 := [(0, xa 293)]) (List.forall_mem_cons.mpr ⟨rfl, fun _ h => absurd h List.not_mem_nil⟩) ?_
      exact q
    exact ygk57_114 hB _
  · refine xS_of (pc' := 111) (L' := [(0, xa 293)]) (st' := [xa 1]) (m' := m) (fun ex ns r q => ?_) ?_
    · refine xw_ic_eqF rfl (w32_cg (w32_xR _ _ _)) (w32_cg rfl) h0 ?_
      refine xw_aload_n rfl rfl rfl ?_
      refine xw_gfR (n := 1) (e := 1) rfl (xw_obd (by decide +kernel)) (by decide +kernel) (by decide +kernel) rfl ?_
      refine xw_lo (L2 := [(0, xa 293)]) (List.forall_mem_cons.mpr ⟨rfl, fun _ h => absurd h List.not_mem_nil⟩) ?_
      exact q
    refine xS_call (q := 56) (n := 1) (kq := 0) (as := [xa 1]) (st1 := []) rfl rfl rfl rfl rfl rfl rfl rfl rfl rfl (fun _ => xw_rcv1 (t := 1) (xw_obd (by decide +kernel)) rfl) rfl (List.forall_mem_cons.mpr ⟨rfl, fun _ h => absurd h List.not_mem_nil⟩) (ygf56 hB _) (fun v1 m1 cv1 => ?_)
    refine xS_of (pc' := 114) (L' := [(0, xa 293)]) (st' := []) (m' := m1) (fun ex ns r q => ?_) ?_
    · refine xw_lo (L2 := [(0, xa 293)]) (List.forall_mem_cons.mpr ⟨rfl, fun _ h => absurd h List.not_mem_nil⟩) ?_
      exact q
    exact ygk57_114 hB _
theorem ygk57_78 {B : Nat} (hB : B ≤ 512) {xs : Nat → Int32} {SL d : Nat} : ∀ m, xS B xs SL (d + 6) 57 (2, none, [], 6) 0 78 [(0, xa 293)] [] m (yk57_78 B m) := by
  intro m
  unfold yk57_78
  refine xS_of (pc' := 88) (L' := [(0, xa 293)]) (st' := [xi 205, xi (xR m 1 3)]) (m' := m) (fun ex ns r q => ?_) ?_
  · refine xw_aload_n rfl rfl rfl ?_
    refine xw_gfR (n := 1) (e := 1) rfl (xw_obd (by decide +kernel)) (by decide +kernel) (by decide +kernel) rfl ?_
    refine xw_gfIc (v := (m 1 3)) (v' := (xR m 1 3)) rfl (xw_obd (by decide +kernel)) xk1_3 (qi := 3) rfl rfl rfl ?_
    refine xw_sipush (e := 205) rfl (by decide +kernel) ?_
    exact q
  refine xS_if (fun h0 => ?_) (fun h0 => ?_)
  · refine xS_of (pc' := 92) (L' := [(0, xa 293)]) (st' := [xa 293]) (m' := m) (fun ex ns r q => ?_) ?_
    · refine xw_ic_neF rfl (w32_cg (w32_xR _ _ _)) (w32_cg rfl) h0 ?_
      refine xw_aload_n rfl rfl rfl ?_
      refine xw_lo (L2 := [(0, xa 293)]) (List.forall_mem_cons.mpr ⟨rfl, fun _ h => absurd h List.not_mem_nil⟩) ?_
      exact q
    refine xS_call (q := 86) (n := 1) (kq := 0) (as := [xa 293]) (st1 := []) rfl rfl rfl rfl rfl rfl rfl rfl rfl rfl (fun _ => xw_rcv1 (t := 5) (xw_obd (by decide +kernel)) rfl) rfl (List.forall_mem_cons.mpr ⟨rfl, fun _ h => absurd h List.not_mem_nil⟩) (ygf86 hB _) (fun v1 m1 cv1 => ?_)
    refine xS_of (pc' := 95) (L' := [(0, xa 293)]) (st' := []) (m' := m1) (fun ex ns r q => ?_) ?_
    · refine xw_lo (L2 := [(0, xa 293)]) (List.forall_mem_cons.mpr ⟨rfl, fun _ h => absurd h List.not_mem_nil⟩) ?_
      exact q
    exact ygk57_95 hB _
  · refine xS_of (pc' := 95) (L' := [(0, xa 293)]) (st' := []) (m' := m) (fun ex ns r q => ?_) ?_
    · refine xw_ic_neT rfl (w32_cg (w32_xR _ _ _)) (w32_cg rfl) h0 ?_
      refine xw_lo (L2 := [(0, xa 293)]) (List.forall_mem_cons.mpr ⟨rfl, fun _ h => absurd h List.not_mem_nil⟩) ?_
      exact q
    exact ygk57_95 hB _
theorem ygk57_61 {B : Nat} (hB : B ≤ 512) {xs : Nat → Int32} {SL d : Nat} : ∀ m, xS B xs SL (d + 6) 57 (2, none, [], 6) 0 61 [(0, xa 293)] [] m (yk57_61 B m) := by
  intro m
  unfold yk57_61
  refine xS_of (pc' := 71) (L' := [(0, xa 293)]) (st' := [xi 204, xi (xR m 1 3)]) (m' := m) (fun ex ns r q => ?_) ?_
  · refine xw_aload_n rfl rfl rfl ?_
    refine xw_gfR (n := 1) (e := 1) rfl (xw_obd (by decide +kernel)) (by decide +kernel) (by decide +kernel) rfl ?_
    refine xw_gfIc (v := (m 1 3)) (v' := (xR m 1 3)) rfl (xw_obd (by decide +kernel)) xk1_3 (qi := 3) rfl rfl rfl ?_
    refine xw_sipush (e := 204) rfl (by decide +kernel) ?_
    exact q
  refine xS_if (fun h0 => ?_) (fun h0 => ?_)
  · refine xS_of (pc' := 75) (L' := [(0, xa 293)]) (st' := [xa 293]) (m' := m) (fun ex ns r q => ?_) ?_
    · refine xw_ic_neF rfl (w32_cg (w32_xR _ _ _)) (w32_cg rfl) h0 ?_
      refine xw_aload_n rfl rfl rfl ?_
      refine xw_lo (L2 := [(0, xa 293)]) (List.forall_mem_cons.mpr ⟨rfl, fun _ h => absurd h List.not_mem_nil⟩) ?_
      exact q
    refine xS_call (q := 71) (n := 1) (kq := 0) (as := [xa 293]) (st1 := []) rfl rfl rfl rfl rfl rfl rfl rfl rfl rfl (fun _ => xw_rcv1 (t := 5) (xw_obd (by decide +kernel)) rfl) rfl (List.forall_mem_cons.mpr ⟨rfl, fun _ h => absurd h List.not_mem_nil⟩) (ygf71 hB _) (fun v1 m1 cv1 => ?_)
    refine xS_of (pc' := 78) (L' := [(0, xa 293)]) (st' := []) (m' := m1) (fun ex ns r q => ?_) ?_
    · refine xw_lo (L2 := [(0, xa 293)]) (List.forall_mem_cons.mpr ⟨rfl, fun _ h => absurd h List.not_mem_nil⟩) ?_
      exact q
    exact ygk57_78 hB _
  · refine xS_of (pc' := 78) (L' := [(0, xa 293)]) (st' := []) (m' := m) (fun ex ns r q => ?_) ?_
    · refine xw_ic_neT rfl (w32_cg (w32_xR _ _ _)) (w32_cg rfl) h0 ?_
      refine xw_lo (L2 := [(0, xa 293)]) (List.forall_mem_cons.mpr ⟨rfl, fun _ h => absurd h List.not_mem_nil⟩) ?_
      exact q
    exact ygk57_78 hB _
theorem ysl57_16 {B : Nat} (hB : B ≤ 512) {xs : Nat → Int32} {SL d : Nat} {r16 : Int → xw_M → xP} (hr16 : ∀ x1 m, w32 x1 = x1 → xS B xs SL (d + 6) 57 (2, none, [], 6) 0 16 [(0, xa 293), (1, xi x1)] [] m (r16 x1 m)) : ∀ x1 m, w32 x1 = x1 → xS B xs SL (d + 6) 57 (2, none, [], 6) 0 16 [(0, xa 293), (1, xi x1)] [] m (yl57_16 B r16 x1 m) := by
  intro x1 m c1
  unfold yl57_16
  refine xS_of (pc' := 19) (L' := [(0, xa 293), (1, xi x1)]) (st' := [xi 24, xi x1]) (m' := m) (fun ex ns r q => ?_) ?_
  · refine xw_iload_n rfl rfl ?_
    refine xw_bipush (e := 24) rfl (by decide +kernel) ?_
    exact q
  refine xS_if (fun h0 => ?_) (fun h0 => ?_)
  · refine xS_of (pc' := 61) (L' := [(0, xa 293)]) (st' := []) (m' := m) (fun ex ns r q => ?_) ?_
    · refine xw_ic_gtT rfl (w32_cg c1) (w32_cg rfl) h0 ?_
      refine xw_lo (L2 := [(0, xa 293)]) (List.forall_mem_cons.mpr ⟨rfl, fun _ h => absurd h List.not_mem_nil⟩) ?_
      exact q
    exact ygk57_61 hB _
  · refine xS_of (pc' := 26) (L' := [(0, xa 293), (1, xi x1)]) (st' := [xa 1]) (m' := m) (fun ex ns r q => ?_) ?_
    · refine xw_ic_gtF rfl (w32_cg c1) (w32_cg rfl) h0 ?_
      refine xw_aload_n rfl rfl rfl ?_
      refine xw_gfR (n := 1) (e := 1) rfl (xw_obd (by decide +kernel)) (by decide +kernel) (by decide +kernel) rfl ?_
      refine xw_lo (L2 := [(0, xa 293), (1, xi x1)]) (List.forall_mem_cons.mpr ⟨rfl, List.forall_mem_cons.mpr ⟨rfl, fun _ h => absurd h List.not_mem_nil⟩⟩) ?_
      exact q
    refine xS_call (q := 47) (n := 1) (kq := 0) (as := [xa 1]) (st1 := []) rfl rfl rfl rfl rfl rfl rfl rfl rfl rfl (fun _ => xw_rcv1 (t := 1) (xw_obd (by decide +kernel)) rfl) rfl (List.forall_mem_cons.mpr ⟨rfl, fun _ h => absurd h List.not_mem_nil⟩) (ygf47 hB _) (fun v1 m1 cv1 => ?_)
    refine xS_of (pc' := 30) (L' := [(0, xa 293), (1, xi x1)]) (st' := [xa 293]) (m' := m1) (fun ex ns r q => ?_) ?_
    · refine xw_aload_n rfl rfl rfl ?_
      refine xw_lo (L2 := [(0, xa 293), (1, xi x1)]) (List.forall_mem_cons.mpr ⟨rfl, List.forall_mem_cons.mpr ⟨rfl, fun _ h => absurd h List.not_mem_nil⟩⟩) ?_
      exact q
    refine xS_call (q := 59) (n := 1) (kq := 0) (as := [xa 293]) (st1 := []) rfl rfl rfl rfl rfl rfl rfl rfl rfl rfl (fun _ => xw_rcv1 (t := 5) (xw_obd (by decide +kernel)) rfl) rfl (List.forall_mem_cons.mpr ⟨rfl, fun _ h => absurd h List.not_mem_nil⟩) (ygf59 hB _) (fun v2 m2 cv2 => ?_)
    refine xS_of (pc' := 37) (L' := [(0, xa 293), (1, xi x1)]) (st' := [xa 1]) (m' := m2) (fun ex ns r q => ?_) ?_
    · refine xw_aload_n rfl rfl rfl ?_
      refine xw_gfR (n := 1) (e := 1) rfl (xw_obd (by decide +kernel)) (by decide +kernel) (by decide +kernel) rfl ?_
      refine xw_lo (L2 := [(0, xa 293), (1, xi x1)]) (List.forall_mem_cons.mpr ⟨rfl, List.forall_mem_cons.mpr ⟨rfl, fun _ h => absurd h List.not_mem_nil⟩⟩) ?_
      exact q
    refine xS_call (q := 47) (n := 1) (kq := 0) (as := [xa 1]) (st1 := []) rfl rfl rfl rfl rfl rfl rfl rfl rfl rfl (fun _ => xw_rcv1 (t := 1) (xw_obd (by decide +kernel)) rfl) rfl (List.forall_mem_cons.mpr ⟨rfl, fun _ h => absurd h List.not_mem_nil⟩) (ygf47 hB _) (fun v3 m3 cv3 => ?_)
    refine xS_of (pc' := 49) (L' := [(0, xa 293), (1, xi x1)]) (st' := [xi 44, xi (xR m3 1 3)]) (m' := m3) (fun ex ns r q => ?_) ?_
    · refine xw_aload_n rfl rfl rfl ?_
      refine xw_gfR (n := 1) (e := 1) rfl (xw_obd (by decide +kernel)) (by decide +kernel) (by decide +kernel) rfl ?_
      refine xw_gfIc (v := (m3 1 3)) (v' := (xR m3 1 3)) rfl (xw_obd (by decide +kernel)) xk1_3 (qi := 3) rfl rfl rfl ?_
      refine xw_bipush (e := 44) rfl (by decide +kernel) ?_
      exact q
    refine xS_if (fun h1 => ?_) (fun h1 => ?_)
    · refine xS_of (pc' := 16) (L' := [(0, xa 293), (1, xi (w32 (x1 + 1)))]) (st' := []) (m' := m3) (fun ex ns r q => ?_) ?_
      · refine xw_ic_eqT rfl (w32_cg (w32_xR _ _ _)) (w32_cg rfl) h1 ?_
        refine xw_iincc (z := (w32 (x1 + 1))) (L' := [(1, xi (w32 (x1 + 1))), (0, xa 293)]) rfl rfl (by decide) rfl rfl ?_
        refine xw_goto rfl ?_
        refine xw_lo (L2 := [(0, xa 293), (1, xi (w32 (x1 + 1)))]) (List.forall_mem_cons.mpr ⟨rfl, List.forall_mem_cons.mpr ⟨rfl, fun _ h => absurd h List.not_mem_nil⟩⟩) ?_
        exact q
      exact hr16 _ _ (w32_w _)
    · refine xS_of (pc' := 61) (L' := [(0, xa 293)]) (st' := []) (m' := m3) (fun ex ns r q => ?_) ?_
      · refine xw_ic_eqF rfl (w32_cg (w32_xR _ _ _)) (w32_cg rfl) h1 ?_
        refine xw_goto rfl ?_
        refine xw_lo (L2 := [(0, xa 293)]) (List.forall_mem_cons.mpr ⟨rfl, fun _ h => absurd h List.not_mem_nil⟩) ?_
        exact q
      exact ygk57_61 hB _
theorem ygl57_16 {B : Nat} (hB : B ≤ 512) {xs : Nat → Int32} {SL d : Nat} : ∀ n x1 m, w32 x1 = x1 → xS B xs SL (d + 6) 57 (2, none, [], 6) 0 16 [(0, xa 293), (1, xi x1)] [] m (xl1 (yl57_16 B) n x1 m) := by
  intro n
  induction n with
  | zero => intro x1 m c1; exact xS_none
  | succ n ih => exact ysl57_16 hB ih
theorem ygf57 {B : Nat} (hB : B ≤ 512) {xs : Nat → Int32} {SL d : Nat} : ∀ m, xS B xs SL (d + 6) 57 (2, none, [], 6) 0 0 [(0, xa 293)] [] m (yf57 B m) := by
  intro m
  unfold yf57
  refine xS_of (pc' := 11) (L' := [(0, xa 293)]) (st' := [xi (xR m 1 4), xa 223]) (m' := m) (fun ex ns r q => ?_) ?_
  · refine xw_aload_n rfl rfl rfl ?_
    refine xw_gfR (n := 223) (e := 223) rfl (xw_obd (by decide +kernel)) (by decide +kernel) (by decide +kernel) rfl ?_
    refine xw_aload_n rfl rfl rfl ?_
    refine xw_gfR (n := 1) (e := 1) rfl (xw_obd (by decide +kernel)) (by decide +kernel) (by decide +kernel) rfl ?_
    refine xw_gfIc (v := (m 1 4)) (v' := (xR m 1 4)) rfl (xw_obd (by decide +kernel)) xk1_4 (qi := 4) rfl rfl rfl ?_
    refine xw_lo (L2 := [(0, xa 293)]) (List.forall_mem_cons.mpr ⟨rfl, fun _ h => absurd h List.not_mem_nil⟩) ?_
    exact q
  refine xS_call (q := 58) (n := 2) (kq := 0) (as := [xa 223, xi (xR m 1 4)]) (st1 := []) rfl rfl rfl rfl rfl rfl rfl rfl rfl rfl (fun _ => xw_rcv1 (t := 4) (xw_obd (by decide +kernel)) rfl) rfl (List.forall_mem_cons.mpr ⟨rfl, List.forall_mem_cons.mpr ⟨rfl, fun _ h => absurd h List.not_mem_nil⟩⟩) (ygf58 hB _ _ (w32_xR _ _ _)) (fun v1 m1 cv1 => ?_)
  refine xS_of (pc' := 16) (L' := [(0, xa 293), (1, xi 0)]) (st' := []) (m' := m1) (fun ex ns r q => ?_) ?_
  · refine xw_iconst rfl ?_
    refine xw_istore_n (L' := [(1, xi 0), (0, xa 293)]) rfl (by decide) rfl ?_
    refine xw_lo (L2 := [(0, xa 293), (1, xi 0)]) (List.forall_mem_cons.mpr ⟨rfl, List.forall_mem_cons.mpr ⟨rfl, fun _ h => absurd h List.not_mem_nil⟩⟩) ?_
    exact q
  exact ygl57_16 hB 1000000 _ _ rfl
theorem ygf96 {B : Nat} (hB : B ≤ 512) {xs : Nat → Int32} {SL d : Nat} : ∀ p0 m, w32 p0 = p0 → xS B xs SL (d + 0) 96 (2, (some .boolean), [], 5) 4 0 [(0, xa 223), (1, xi p0)] [] m (yf96 B p0 m) := by
  intro p0 m cp0
  unfold yf96
  refine xS_g (fun g0 => ?_)
  refine xS_of (pc' := 7) (L' := [(0, xa 223), (1, xi p0)]) (st' := [xi 4, xi (xR m 292 p0)]) (m' := m) (fun ex ns r q => ?_) ?_
  · refine xw_aload_n rfl rfl rfl ?_
    refine xw_gfR (n := 292) (e := 292) rfl (xw_obd (by decide +kernel)) (by decide +kernel) (by decide +kernel) rfl ?_
    refine xw_iload_n rfl rfl ?_
    refine xw_ialdc (n := 8) (v := (m 292 p0)) (v' := (xR m 292 p0)) rfl hB (xw_obd (by decide +kernel)) rfl g0 rfl rfl ?_
    refine xw_iconst rfl ?_
    exact q
  refine xS_if (fun h1 => ?_) (fun h1 => ?_)
  · refine xS_of (pc' := 15) (L' := [(0, xa 223), (1, xi p0)]) (st' := [xi 1]) (m' := m) (fun ex ns r q => ?_) ?_
    · refine xw_ic_geF rfl (w32_cg (w32_xR _ _ _)) (w32_cg rfl) (Int.not_le.mpr h1) ?_
      refine xw_iconst rfl ?_
      refine xw_goto rfl ?_
      exact q
    exact xS_ret (v := 1) rfl rfl (xw_rtZ (Or.inr rfl)) (Or.inr rfl)
  · refine xS_of (pc' := 15) (L' := [(0, xa 223), (1, xi p0)]) (st' := [xi 0]) (m' := m) (fun ex ns r q => ?_) ?_
    · refine xw_ic_geT rfl (w32_cg (w32_xR _ _ _)) (w32_cg rfl) (Int.not_lt.mp h1) ?_
      refine xw_iconst rfl ?_
      exact q
    exact xS_ret (v := 0) rfl rfl (xw_rtZ (Or.inl rfl)) (Or.inl rfl)
theorem ysl97_10 {B : Nat} (hB : B ≤ 512) {xs : Nat → Int32} {SL d : Nat} {r10 : Int → Int → Int → xw_M → xP} (hr10 : ∀ x2 x3 x4 m, w32 x2 = x2 → w32 x3 = x3 → w32 x4 = x4 → xS B xs SL (d + 0) 97 (5, (some .int), [], 3) 1 10 [(0, xa 3), (2, xi x2), (3, xi x3), (4, xi x4)] [] m (r10 x2 x3 x4 m)) : ∀ x2 x3 x4 m, w32 x2 = x2 → w32 x3 = x3 → w32 x4 = x4 → xS B xs SL (d + 0) 97 (5, (some .int), [], 3) 1 10 [(0, xa 3), (2, xi x2), (3, xi x3), (4, xi x4)] [] m (yl97_10 B r10 x2 x3 x4 m) := by
  intro x2 x3 x4 m c2 c3 c4
  unfold yl97_10
  refine xS_of (pc' := 13) (L' := [(0, xa 3), (2, xi x2), (3, xi x3), (4, xi x4)]) (st' := [xi x2, xi x4]) (m' := m) (fun ex ns r q => ?_) ?_
  · refine xw_iload rfl rfl ?_
    refine xw_iload_n rfl rfl ?_
    exact q
  refine xS_if (fun h0 => ?_) (fun h0 => ?_)
  · refine xS_g (fun g1 => ?_)
    refine xS_g (fun g2 => ?_)
    refine xS_g (fun g3 => ?_)
    refine xS_g (fun g4 => ?_)
    refine xS_of (pc' := 10) (L' := [(0, xa 3), (2, xi x2), (3, xi (x3 / (w32 ((xR m (15 + (26 * x4)) 10) + 1)))), (4, xi (w32 (x4 + (-1))))]) (st' := []) (m' := m) (fun ex ns r q => ?_) ?_
    · refine xw_ic_leF rfl (w32_cg c4) (w32_cg c2) (Int.not_le.mpr h0) ?_
      refine xw_iload_n rfl rfl ?_
      refine xw_aload_n rfl rfl rfl ?_
      refine xw_gfR (n := 4) (e := 4) rfl (xw_obd (by decide +kernel)) (by decide +kernel) (by decide +kernel) rfl ?_
      refine xw_iload rfl rfl ?_
      refine xw_aald (t := 23) (n := 8) (q := 15 + 26 * (x4).toNat) (e := (15 + (26 * x4))) rfl hB (xw_obd (by decide +kernel)) (by decide) rfl g1 (show 20 + 26 * (x4 : Int).toNat = 15 + 26 * (x4 : Int).toNat + 5 from by omega) (by have := g1; omega) ?_
      refine xw_gfIc (v := (m (15 + (26 * x4)) 10)) (v' := (xR m (15 + (26 * x4)) 10)) rfl (xw_obd g2) xk3_10 (qi := 10) rfl rfl rfl ?_
      refine xw_iconst rfl ?_
      refine xw_iadd rfl ?_
      refine xw_cst (st' := [xi (w32 ((xR m (15 + (26 * x4)) 10) + 1)), xi x3]) (xw_sc (xi_c rfl) (xw_sc rfl rfl)) ?_
      refine xw_idiv (z := (x3 / (w32 ((xR m (15 + (26 * x4)) 10) + 1)))) rfl (xw_idivn ⟨g4, (w32_cg (w32_w _)).2⟩) (xw_idive ⟨g3, (w32_cg c3).2⟩ ⟨g4, (w32_cg (w32_w _)).2⟩) ?_
      refine xw_istore_n (L' := [(3, xi (x3 / (w32 ((xR m (15 + (26 * x4)) 10) + 1)))), (0, xa 3), (2, xi x2), (4, xi x4)]) rfl (by decide) rfl ?_
      refine xw_iincc (z := (w32 (x4 + (-1)))) (L' := [(4, xi (w32 (x4 + (-1)))), (3, xi (x3 / (w32 ((xR m (15 + (26 * x4)) 10) + 1)))), (0, xa 3), (2, xi x2)]) rfl rfl (by decide) rfl rfl ?_
      refine xw_goto rfl ?_
      refine xw_lo (L2 := [(0, xa 3), (2, xi x2), (3, xi (x3 / (w32 ((xR m (15 + (26 * x4)) 10) + 1)))), (4, xi (w32 (x4 + (-1))))]) (List.forall_mem_cons.mpr ⟨rfl, List.forall_mem_cons.mpr ⟨rfl, List.forall_mem_cons.mpr ⟨rfl, List.forall_mem_cons.mpr ⟨rfl, fun _ h => absurd h List.not_mem_nil⟩⟩⟩⟩) ?_
      exact q
    exact hr10 _ _ _ _ c2 (w32_dv c3 ⟨g3, g4⟩) (w32_w _)
  · refine xS_g (fun g1 => ?_)
    refine xS_g (fun g2 => ?_)
    refine xS_g (fun g3 => ?_)
    refine xS_g (fun g4 => ?_)
    refine xS_of (pc' := 50) (L' := [(0, xa 3), (2, xi x2), (3, xi x3), (4, xi x4)]) (st' := [xi (x3 % (w32 ((xR m (15 + (26 * x2)) 10) + 1)))]) (m' := m) (fun ex ns r q => ?_) ?_
    · refine xw_ic_leT rfl (w32_cg c4) (w32_cg c2) (Int.not_lt.mp h0) ?_
      refine xw_iload_n rfl rfl ?_
      refine xw_aload_n rfl rfl rfl ?_
      refine xw_gfR (n := 4) (e := 4) rfl (xw_obd (by decide +kernel)) (by decide +kernel) (by decide +kernel) rfl ?_
      refine xw_iload_n rfl rfl ?_
      refine xw_aald (t := 23) (n := 8) (q := 15 + 26 * (x2).toNat) (e := (15 + (26 * x2))) rfl hB (xw_obd (by decide +kernel)) (by decide) rfl g1 (show 20 + 26 * (x2 : Int).toNat = 15 + 26 * (x2 : Int).toNat + 5 from by omega) (by have := g1; omega) ?_
      refine xw_gfIc (v := (m (15 + (26 * x2)) 10)) (v' := (xR m (15 + (26 * x2)) 10)) rfl (xw_obd g2) xk3_10 (qi := 10) rfl rfl rfl ?_
      refine xw_iconst rfl ?_
      refine xw_iadd rfl ?_
      refine xw_cst (st' := [xi (w32 ((xR m (15 + (26 * x2)) 10) + 1)), xi x3]) (xw_sc (xi_c rfl) (xw_sc rfl rfl)) ?_
      refine xw_irem (z := (x3 % (w32 ((xR m (15 + (26 * x2)) 10) + 1)))) rfl (xw_iremn ⟨g4, (w32_cg (w32_w _)).2⟩) (xw_ireme ⟨g3, (w32_cg c3).2⟩ ⟨g4, (w32_cg (w32_w _)).2⟩) ?_
      exact q
    exact xS_ret (v := (x3 % (w32 ((xR m (15 + (26 * x2)) 10) + 1)))) rfl rfl xw_rtI (w32_md (w32_w _) ⟨g3, g4⟩)
theorem ygl97_10 {B : Nat} (hB : B ≤ 512) {xs : Nat → Int32} {SL d : Nat} : ∀ n x2 x3 x4 m, w32 x2 = x2 → w32 x3 = x3 → w32 x4 = x4 → xS B xs SL (d + 0) 97 (5, (some .int), [], 3) 1 10 [(0, xa 3), (2, xi x2), (3, xi x3), (4, xi x4)] [] m (xl3 (yl97_10 B) n x2 x3 x4 m) := by
  intro n
  induction n with
  | zero => intro x2 x3 x4 m c2 c3 c4; exact xS_none
  | succ n ih => exact ysl97_10 hB ih
theorem ygf97 {B : Nat} (hB : B ≤ 512) {xs : Nat → Int32} {SL d : Nat} : ∀ p0 p1 m, w32 p0 = p0 → w32 p1 = p1 → xS B xs SL (d + 0) 97 (5, (some .int), [], 3) 1 0 [(0, xa 3), (1, xi p0), (2, xi p1)] [] m (yf97 B p0 p1 m) := by
  intro p0 p1 m cp0 cp1
  unfold yf97
  refine xS_of (pc' := 10) (L' := [(0, xa 3), (2, xi p1), (3, xi p0), (4, xi (w32 ((xR m 3 1) - 1)))]) (st' := []) (m' := m) (fun ex ns r q => ?_) ?_
  · refine xw_iload_n rfl rfl ?_
    refine xw_istore_n (L' := [(3, xi p0), (0, xa 3), (1, xi p0), (2, xi p1)]) rfl (by decide) rfl ?_
    refine xw_aload_n rfl rfl rfl ?_
    refine xw_gfIc (v := (m 3 1)) (v' := (xR m 3 1)) rfl (xw_obd (by decide +kernel)) xk2_1 (qi := 1) rfl rfl rfl ?_
    refine xw_iconst rfl ?_
    refine xw_isub rfl ?_
    refine xw_cst (st' := [xi (w32 ((xR m 3 1) - 1))]) (xw_sc (xi_c rfl) rfl) ?_
    refine xw_istore (L' := [(4, xi (w32 ((xR m 3 1) - 1))), (3, xi p0), (0, xa 3), (1, xi p0), (2, xi p1)]) rfl (by decide) rfl ?_
    refine xw_lo (L2 := [(0, xa 3), (2, xi p1), (3, xi p0), (4, xi (w32 ((xR m 3 1) - 1)))]) (List.forall_mem_cons.mpr ⟨rfl, List.forall_mem_cons.mpr ⟨rfl, List.forall_mem_cons.mpr ⟨rfl, List.forall_mem_cons.mpr ⟨rfl, fun _ h => absurd h List.not_mem_nil⟩⟩⟩⟩) ?_
    exact q
  exact ygl97_10 hB 1000000 _ _ _ _ cp1 cp0 (w32_w _)
theorem ysl95_2 {B : Nat} (hB : B ≤ 512) {xs : Nat → Int32} {SL d : Nat} {r2 : Int → Int → xw_M → xP} (hr2 : ∀ x1 x2 m, w32 x1 = x1 → w32 x2 = x2 → xS B xs SL (d + 1) 95 (3, (some .boolean), [], 5) 4 2 [(0, xa 223), (1, xi x1), (2, xi x2)] [] m (r2 x1 x2 m)) : ∀ x1 x2 m, w32 x1 = x1 → w32 x2 = x2 → xS B xs SL (d + 1) 95 (3, (some .boolean), [], 5) 4 2 [(0, xa 223), (1, xi x1), (2, xi x2)] [] m (yl95_2 B r2 x1 x2 m) := by
  intro x1 x2 m c1 c2
  unfold yl95_2
  refine xS_of (pc' := 10) (L' := [(0, xa 223), (1, xi x1), (2, xi x2)]) (st' := [xi (xR m 3 1), xi x2]) (m' := m) (fun ex ns r q => ?_) ?_
  · refine xw_iload_n rfl rfl ?_
    refine xw_aload_n rfl rfl rfl ?_
    refine xw_gfR (n := 3) (e := 3) rfl (xw_obd (by decide +kernel)) (by decide +kernel) (by decide +kernel) rfl ?_
    refine xw_gfIc (v := (m 3 1)) (v' := (xR m 3 1)) rfl (xw_obd (by decide +kernel)) xk2_1 (qi := 1) rfl rfl rfl ?_
    exact q
  refine xS_if (fun h0 => ?_) (fun h0 => ?_)
  · refine xS_of (pc' := 15) (L' := [(0, xa 223), (1, xi x1), (2, xi x2)]) (st' := [xi x2, xa 223]) (m' := m) (fun ex ns r q => ?_) ?_
    · refine xw_ic_geF rfl (w32_cg c2) (w32_cg (w32_xR _ _ _)) (Int.not_le.mpr h0) ?_
      refine xw_aload_n rfl rfl rfl ?_
      refine xw_iload_n rfl rfl ?_
      refine xw_lo (L2 := [(0, xa 223), (1, xi x1), (2, xi x2)]) (List.forall_mem_cons.mpr ⟨rfl, List.forall_mem_cons.mpr ⟨rfl, List.forall_mem_cons.mpr ⟨rfl, fun _ h => absurd h List.not_mem_nil⟩⟩⟩) ?_
      exact q
    refine xS_call (q := 96) (n := 2) (kq := 4) (as := [xa 223, xi x2]) (st1 := []) rfl rfl rfl rfl rfl rfl rfl rfl rfl rfl (fun _ => xw_rcv1 (t := 4) (xw_obd (by decide +kernel)) rfl) rfl (List.forall_mem_cons.mpr ⟨rfl, List.forall_mem_cons.mpr ⟨rfl, fun _ h => absurd h List.not_mem_nil⟩⟩) (ygf96 hB _ _ c2) (fun v1 m1 cv1 => ?_)
    refine xS_if (fun h1 => ?_) (fun h1 => ?_)
    · refine xS_of (pc' := 2) (L' := [(0, xa 223), (1, xi x1), (2, xi (w32 (x2 + 1)))]) (st' := []) (m' := m1) (fun ex ns r q => ?_) ?_
      · refine xw_if_eqT rfl (w32_cg (w32_of (xw_zr cv1))) h1 ?_
        refine xw_iincc (z := (w32 (x2 + 1))) (L' := [(2, xi (w32 (x2 + 1))), (0, xa 223), (1, xi x1)]) rfl rfl (by decide) rfl rfl ?_
        refine xw_goto rfl ?_
        refine xw_lo (L2 := [(0, xa 223), (1, xi x1), (2, xi (w32 (x2 + 1)))]) (List.forall_mem_cons.mpr ⟨rfl, List.forall_mem_cons.mpr ⟨rfl, List.forall_mem_cons.mpr ⟨rfl, fun _ h => absurd h List.not_mem_nil⟩⟩⟩) ?_
        exact q
      exact hr2 _ _ _ c1 (w32_w _)
    · refine xS_of (pc' := 27) (L' := [(0, xa 223), (1, xi x1), (2, xi x2)]) (st' := [xi x2, xi x1, xa 3]) (m' := m1) (fun ex ns r q => ?_) ?_
      · refine xw_if_eqF rfl (w32_cg (w32_of (xw_zr cv1))) h1 ?_
        refine xw_aload_n rfl rfl rfl ?_
        refine xw_gfR (n := 3) (e := 3) rfl (xw_obd (by decide +kernel)) (by decide +kernel) (by decide +kernel) rfl ?_
        refine xw_iload_n rfl rfl ?_
        refine xw_iload_n rfl rfl ?_
        refine xw_lo (L2 := [(0, xa 223), (1, xi x1), (2, xi x2)]) (List.forall_mem_cons.mpr ⟨rfl, List.forall_mem_cons.mpr ⟨rfl, List.forall_mem_cons.mpr ⟨rfl, fun _ h => absurd h List.not_mem_nil⟩⟩⟩) ?_
        exact q
      refine xS_call (q := 97) (n := 3) (kq := 1) (as := [xa 3, xi x1, xi x2]) (st1 := []) rfl rfl rfl rfl rfl rfl rfl rfl rfl rfl (fun _ => xw_rcv1 (t := 2) (xw_obd (by decide +kernel)) rfl) rfl (List.forall_mem_cons.mpr ⟨rfl, List.forall_mem_cons.mpr ⟨rfl, List.forall_mem_cons.mpr ⟨rfl, fun _ h => absurd h List.not_mem_nil⟩⟩⟩) (ygf97 hB _ _ _ c1 c2) (fun v2 m2 cv2 => ?_)
      refine xS_g (fun g2 => ?_)
      refine xS_of (pc' := 36) (L' := [(0, xa 223), (1, xi x1), (2, xi x2)]) (st' := [xi (xR m2 292 x2), xi v2]) (m' := m2) (fun ex ns r q => ?_) ?_
      · refine xw_aload_n rfl rfl rfl ?_
        refine xw_gfR (n := 292) (e := 292) rfl (xw_obd (by decide +kernel)) (by decide +kernel) (by decide +kernel) rfl ?_
        refine xw_iload_n rfl rfl ?_
        refine xw_ialdc (n := 8) (v := (m2 292 x2)) (v' := (xR m2 292 x2)) rfl hB (xw_obd (by decide +kernel)) rfl g2 rfl rfl ?_
        exact q
      refine xS_if (fun h3 => ?_) (fun h3 => ?_)
      · refine xS_of (pc' := 40) (L' := [(0, xa 223), (1, xi x1), (2, xi x2)]) (st' := [xi 0]) (m' := m2) (fun ex ns r q => ?_) ?_
        · refine xw_ic_leF rfl (w32_cg cv2) (w32_cg (w32_xR _ _ _)) (Int.not_le.mpr h3) ?_
          refine xw_iconst rfl ?_
          exact q
        exact xS_ret (v := 0) rfl rfl (xw_rtZ (Or.inl rfl)) (Or.inl rfl)
      · refine xS_of (pc' := 2) (L' := [(0, xa 223), (1, xi x1), (2, xi (w32 (x2 + 1)))]) (st' := []) (m' := m2) (fun ex ns r q => ?_) ?_
        · refine xw_ic_leT rfl (w32_cg cv2) (w32_cg (w32_xR _ _ _)) (Int.not_lt.mp h3) ?_
          refine xw_iincc (z := (w32 (x2 + 1))) (L' := [(2, xi (w32 (x2 + 1))), (0, xa 223), (1, xi x1)]) rfl rfl (by decide) rfl rfl ?_
          refine xw_goto rfl ?_
          refine xw_lo (L2 := [(0, xa 223), (1, xi x1), (2, xi (w32 (x2 + 1)))]) (List.forall_mem_cons.mpr ⟨rfl, List.forall_mem_cons.mpr ⟨rfl, List.forall_mem_cons.mpr ⟨rfl, fun _ h => absurd h List.not_mem_nil⟩⟩⟩) ?_
          exact q
        exact hr2 _ _ _ c1 (w32_w _)
  · refine xS_of (pc' := 48) (L' := [(0, xa 223), (1, xi x1), (2, xi x2)]) (st' := [xi 1]) (m' := m) (fun ex ns r q => ?_) ?_
    · refine xw_ic_geT rfl (w32_cg c2) (w32_cg (w32_xR _ _ _)) (Int.not_lt.mp h0) ?_
      refine xw_iconst rfl ?_
      exact q
    exact xS_ret (v := 1) rfl rfl (xw_rtZ (Or.inr rfl)) (Or.inr rfl)
theorem ygl95_2 {B : Nat} (hB : B ≤ 512) {xs : Nat → Int32} {SL d : Nat} : ∀ n x1 x2 m, w32 x1 = x1 → w32 x2 = x2 → xS B xs SL (d + 1) 95 (3, (some .boolean), [], 5) 4 2 [(0, xa 223), (1, xi x1), (2, xi x2)] [] m (xl2 (yl95_2 B) n x1 x2 m) := by
  intro n
  induction n with
  | zero => intro x1 x2 m c1 c2; exact xS_none
  | succ n ih => exact ysl95_2 hB ih
theorem ygf95 {B : Nat} (hB : B ≤ 512) {xs : Nat → Int32} {SL d : Nat} : ∀ p0 m, w32 p0 = p0 → xS B xs SL (d + 1) 95 (3, (some .boolean), [], 5) 4 0 [(0, xa 223), (1, xi p0)] [] m (yf95 B p0 m) := by
  intro p0 m cp0
  unfold yf95
  refine xS_of (pc' := 2) (L' := [(0, xa 223), (1, xi p0), (2, xi 0)]) (st' := []) (m' := m) (fun ex ns r q => ?_) ?_
  · refine xw_iconst rfl ?_
    refine xw_istore_n (L' := [(2, xi 0), (0, xa 223), (1, xi p0)]) rfl (by decide) rfl ?_
    refine xw_lo (L2 := [(0, xa 223), (1, xi p0), (2, xi 0)]) (List.forall_mem_cons.mpr ⟨rfl, List.forall_mem_cons.mpr ⟨rfl, List.forall_mem_cons.mpr ⟨rfl, fun _ h => absurd h List.not_mem_nil⟩⟩⟩) ?_
    exact q
  exact ygl95_2 hB 1000000 _ _ _ cp0 rfl
theorem ysl94_12 {B : Nat} (hB : B ≤ 512) {xs : Nat → Int32} {SL d : Nat} {r12 : Int → Int → Int → xw_M → xP} (hr12 : ∀ x1 x2 x3 m, w32 x1 = x1 → w32 x2 = x2 → w32 x3 = x3 → xS B xs SL (d + 2) 94 (4, (some .int), [], 1) 1 12 [(0, xa 0), (1, xi x1), (2, xi x2), (3, xi x3)] [] m (r12 x1 x2 x3 m)) : ∀ x1 x2 x3 m, w32 x1 = x1 → w32 x2 = x2 → w32 x3 = x3 → xS B xs SL (d + 2) 94 (4, (some .int), [], 1) 1 12 [(0, xa 0), (1, xi x1), (2, xi x2), (3, xi x3)] [] m (yl94_12 B r12 x1 x2 x3 m) := by
  intro x1 x2 x3 m c1 c2 c3
  unfold yl94_12
  refine xS_of (pc' := 20) (L' := [(0, xa 0), (1, xi x1), (2, xi x2), (3, xi x3)]) (st' := [xi (xR m 508 11), xi x3]) (m' := m) (fun ex ns r q => ?_) ?_
  · refine xw_iload_n rfl rfl ?_
    refine xw_aload_n rfl rfl rfl ?_
    refine xw_gfR (n := 508) (e := 508) rfl (xw_obd (by decide +kernel)) (by decide +kernel) (by decide +kernel) rfl ?_
    refine xw_gfIc (v := (m 508 11)) (v' := (xR m 508 11)) rfl (xw_obd (by decide +kernel)) xk10_11 (qi := 11) rfl rfl rfl ?_
    exact q
  refine xS_if (fun h0 => ?_) (fun h0 => ?_)
  · refine xS_g (fun g1 => ?_)
    refine xS_of (pc' := 33) (L' := [(0, xa 0), (1, xi x1), (2, xi x2), (3, xi x3)]) (st' := [xi x2, xi (xR m 512 x3)]) (m' := m) (fun ex ns r q => ?_) ?_
    · refine xw_ic_geF rfl (w32_cg c3) (w32_cg (w32_xR _ _ _)) (Int.not_le.mpr h0) ?_
      refine xw_aload_n rfl rfl rfl ?_
      refine xw_gfR (n := 508) (e := 508) rfl (xw_obd (by decide +kernel)) (by decide +kernel) (by decide +kernel) rfl ?_
      refine xw_gfR (n := 512) (e := 512) rfl (xw_obd (by decide +kernel)) (by decide +kernel) (by decide +kernel) rfl ?_
      refine xw_iload_n rfl rfl ?_
      refine xw_ialdc (n := 16) (v := (m 512 x3)) (v' := (xR m 512 x3)) rfl hB (xw_obd (by decide +kernel)) rfl g1 rfl rfl ?_
      refine xw_iload_n rfl rfl ?_
      exact q
    refine xS_if (fun h2 => ?_) (fun h2 => ?_)
    · refine xS_of (pc' := 49) (L' := [(0, xa 0), (1, xi x1), (2, xi x2), (3, xi x3)]) (st' := [xi (xR m 511 x3), xa 223]) (m' := m) (fun ex ns r q => ?_) ?_
      · refine xw_ic_geF rfl (w32_cg (w32_xR _ _ _)) (w32_cg c2) (Int.not_le.mpr h2) ?_
        refine xw_aload_n rfl rfl rfl ?_
        refine xw_gfR (n := 223) (e := 223) rfl (xw_obd (by decide +kernel)) (by decide +kernel) (by decide +kernel) rfl ?_
        refine xw_aload_n rfl rfl rfl ?_
        refine xw_gfR (n := 508) (e := 508) rfl (xw_obd (by decide +kernel)) (by decide +kernel) (by decide +kernel) rfl ?_
        refine xw_gfR (n := 511) (e := 511) rfl (xw_obd (by decide +kernel)) (by decide +kernel) (by decide +kernel) rfl ?_
        refine xw_iload_n rfl rfl ?_
        refine xw_ialdc (n := 16) (v := (m 511 x3)) (v' := (xR m 511 x3)) rfl hB (xw_obd (by decide +kernel)) rfl g1 rfl rfl ?_
        refine xw_lo (L2 := [(0, xa 0), (1, xi x1), (2, xi x2), (3, xi x3)]) (List.forall_mem_cons.mpr ⟨rfl, List.forall_mem_cons.mpr ⟨rfl, List.forall_mem_cons.mpr ⟨rfl, List.forall_mem_cons.mpr ⟨rfl, fun _ h => absurd h List.not_mem_nil⟩⟩⟩⟩) ?_
        exact q
      refine xS_call (q := 95) (n := 2) (kq := 4) (as := [xa 223, xi (xR m 511 x3)]) (st1 := []) rfl rfl rfl rfl rfl rfl rfl rfl rfl rfl (fun _ => xw_rcv1 (t := 4) (xw_obd (by decide +kernel)) rfl) rfl (List.forall_mem_cons.mpr ⟨rfl, List.forall_mem_cons.mpr ⟨rfl, fun _ h => absurd h List.not_mem_nil⟩⟩) (ygf95 hB _ _ (w32_xR _ _ _)) (fun v1 m1 cv1 => ?_)
      refine xS_if (fun h3 => ?_) (fun h3 => ?_)
      · refine xS_of (pc' := 12) (L' := [(0, xa 0), (1, xi x1), (2, xi x2), (3, xi (w32 (x3 + 1)))]) (st' := []) (m' := m1) (fun ex ns r q => ?_) ?_
        · refine xw_if_eqT rfl (w32_cg (w32_of (xw_zr cv1))) h3 ?_
          refine xw_iincc (z := (w32 (x3 + 1))) (L' := [(3, xi (w32 (x3 + 1))), (0, xa 0), (1, xi x1), (2, xi x2)]) rfl rfl (by decide) rfl rfl ?_
          refine xw_goto rfl ?_
          refine xw_lo (L2 := [(0, xa 0), (1, xi x1), (2, xi x2), (3, xi (w32 (x3 + 1)))]) (List.forall_mem_cons.mpr ⟨rfl, List.forall_mem_cons.mpr ⟨rfl, List.forall_mem_cons.mpr ⟨rfl, List.forall_mem_cons.mpr ⟨rfl, fun _ h => absurd h List.not_mem_nil⟩⟩⟩⟩) ?_
          exact q
        exact hr12 _ _ _ _ c1 c2 (w32_w _)
      · refine xS_of (pc' := 12) (L' := [(0, xa 0), (1, xi x3), (2, xi (xR m1 512 x3)), (3, xi (w32 (x3 + 1)))]) (st' := []) (m' := m1) (fun ex ns r q => ?_) ?_
        · refine xw_if_eqF rfl (w32_cg (w32_of (xw_zr cv1))) h3 ?_
          refine xw_iload_n rfl rfl ?_
          refine xw_istore_n (L' := [(1, xi x3), (0, xa 0), (2, xi x2), (3, xi x3)]) rfl (by decide) rfl ?_
          refine xw_aload_n rfl rfl rfl ?_
          refine xw_gfR (n := 508) (e := 508) rfl (xw_obd (by decide +kernel)) (by decide +kernel) (by decide +kernel) rfl ?_
          refine xw_gfR (n := 512) (e := 512) rfl (xw_obd (by decide +kernel)) (by decide +kernel) (by decide +kernel) rfl ?_
          refine xw_iload_n rfl rfl ?_
          refine xw_ialdc (n := 16) (v := (m1 512 x3)) (v' := (xR m1 512 x3)) rfl hB (xw_obd (by decide +kernel)) rfl g1 rfl rfl ?_
          refine xw_istore_n (L' := [(2, xi (xR m1 512 x3)), (1, xi x3), (0, xa 0), (3, xi x3)]) rfl (by decide) rfl ?_
          refine xw_iincc (z := (w32 (x3 + 1))) (L' := [(3, xi (w32 (x3 + 1))), (2, xi (xR m1 512 x3)), (1, xi x3), (0, xa 0)]) rfl rfl (by decide) rfl rfl ?_
          refine xw_goto rfl ?_
          refine xw_lo (L2 := [(0, xa 0), (1, xi x3), (2, xi (xR m1 512 x3)), (3, xi (w32 (x3 + 1)))]) (List.forall_mem_cons.mpr ⟨rfl, List.forall_mem_cons.mpr ⟨rfl, List.forall_mem_cons.mpr ⟨rfl, List.forall_mem_cons.mpr ⟨rfl, fun _ h => absurd h List.not_mem_nil⟩⟩⟩⟩) ?_
          exact q
        exact hr12 _ _ _ _ c3 (w32_xR _ _ _) (w32_w _)
    · refine xS_of (pc' := 12) (L' := [(0, xa 0), (1, xi x1), (2, xi x2), (3, xi (w32 (x3 + 1)))]) (st' := []) (m' := m) (fun ex ns r q => ?_) ?_
      · refine xw_ic_geT rfl (w32_cg (w32_xR _ _ _)) (w32_cg c2) (Int.not_lt.mp h2) ?_
        refine xw_iincc (z := (w32 (x3 + 1))) (L' := [(3, xi (w32 (x3 + 1))), (0, xa 0), (1, xi x1), (2, xi x2)]) rfl rfl (by decide) rfl rfl ?_
        refine xw_goto rfl ?_
        refine xw_lo (L2 := [(0, xa 0), (1, xi x1), (2, xi x2), (3, xi (w32 (x3 + 1)))]) (List.forall_mem_cons.mpr ⟨rfl, List.forall_mem_cons.mpr ⟨rfl, List.forall_mem_cons.mpr ⟨rfl, List.forall_mem_cons.mpr ⟨rfl, fun _ h => absurd h List.not_mem_nil⟩⟩⟩⟩) ?_
        exact q
      exact hr12 _ _ _ _ c1 c2 (w32_w _)
  · refine xS_of (pc' := 74) (L' := [(0, xa 0), (1, xi x1), (2, xi x2), (3, xi x3)]) (st' := [xi x1]) (m' := m) (fun ex ns r q => ?_) ?_
    · refine xw_ic_geT rfl (w32_cg c3) (w32_cg (w32_xR _ _ _)) (Int.not_lt.mp h0) ?_
      refine xw_iload_n rfl rfl ?_
      exact q
    exact xS_ret (v := x1) rfl rfl xw_rtI c1
theorem ygl94_12 {B : Nat} (hB : B ≤ 512) {xs : Nat → Int32} {SL d : Nat} : ∀ n x1 x2 x3 m, w32 x1 = x1 → w32 x2 = x2 → w32 x3 = x3 → xS B xs SL (d + 2) 94 (4, (some .int), [], 1) 1 12 [(0, xa 0), (1, xi x1), (2, xi x2), (3, xi x3)] [] m (xl3 (yl94_12 B) n x1 x2 x3 m) := by
  intro n
  induction n with
  | zero => intro x1 x2 x3 m c1 c2 c3; exact xS_none
  | succ n ih => exact ysl94_12 hB ih
theorem ygf94 {B : Nat} (hB : B ≤ 512) {xs : Nat → Int32} {SL d : Nat} : ∀ m, xS B xs SL (d + 2) 94 (4, (some .int), [], 1) 1 0 [(0, xa 0)] [] m (yf94 B m) := by
  intro m
  unfold yf94
  refine xS_of (pc' := 12) (L' := [(0, xa 0), (1, xi (-1)), (2, xi (xR m 508 10)), (3, xi 0)]) (st' := []) (m' := m) (fun ex ns r q => ?_) ?_
  · refine xw_iconst rfl ?_
    refine xw_istore_n (L' := [(1, xi (-1)), (0, xa 0)]) rfl (by decide) rfl ?_
    refine xw_aload_n rfl rfl rfl ?_
    refine xw_gfR (n := 508) (e := 508) rfl (xw_obd (by decide +kernel)) (by decide +kernel) (by decide +kernel) rfl ?_
    refine xw_gfIc (v := (m 508 10)) (v' := (xR m 508 10)) rfl (xw_obd (by decide +kernel)) xk10_10 (qi := 10) rfl rfl rfl ?_
    refine xw_istore_n (L' := [(2, xi (xR m 508 10)), (1, xi (-1)), (0, xa 0)]) rfl (by decide) rfl ?_
    refine xw_iconst rfl ?_
    refine xw_istore_n (L' := [(3, xi 0), (2, xi (xR m 508 10)), (1, xi (-1)), (0, xa 0)]) rfl (by decide) rfl ?_
    refine xw_lo (L2 := [(0, xa 0), (1, xi (-1)), (2, xi (xR m 508 10)), (3, xi 0)]) (List.forall_mem_cons.mpr ⟨rfl, List.forall_mem_cons.mpr ⟨rfl, List.forall_mem_cons.mpr ⟨rfl, List.forall_mem_cons.mpr ⟨rfl, fun _ h => absurd h List.not_mem_nil⟩⟩⟩⟩) ?_
    exact q
  exact ygl94_12 hB 1000000 _ _ _ _ rfl (w32_xR _ _ _) rfl
theorem ysl100_3 {B : Nat} (hB : B ≤ 512) {xs : Nat → Int32} {SL d : Nat} {r3 : Int → Int → Int → Int → xw_M → xP} (hr3 : ∀ x0 x1 x3 x4 m, w32 x1 = x1 → w32 x3 = x3 → w32 x4 = x4 → xS B xs SL (d + 0) 100 (5, (some .boolean), [], 10) 4 3 [(0, xa x0), (1, xi x1), (2, xa 223), (3, xi x3), (4, xi x4)] [] m (r3 x0 x1 x3 x4 m)) : ∀ x0 x1 x3 x4 m, w32 x1 = x1 → w32 x3 = x3 → w32 x4 = x4 → xS B xs SL (d + 0) 100 (5, (some .boolean), [], 10) 4 3 [(0, xa x0), (1, xi x1), (2, xa 223), (3, xi x3), (4, xi x4)] [] m (yl100_3 B r3 x0 x1 x3 x4 m) := by
  intro x0 x1 x3 x4 m c1 c3 c4
  unfold yl100_3
  refine xS_of (pc' := 9) (L' := [(0, xa x0), (1, xi x1), (2, xa 223), (3, xi x3), (4, xi x4)]) (st' := [xi (xR m 223 6), xi x4]) (m' := m) (fun ex ns r q => ?_) ?_
  · refine xw_iload rfl rfl ?_
    refine xw_aload_n rfl rfl rfl ?_
    refine xw_gfIc (v := (m 223 6)) (v' := (xR m 223 6)) rfl (xw_obd (by decide +kernel)) xk4_6 (qi := 6) rfl rfl rfl ?_
    exact q
  refine xS_if (fun h0 => ?_) (fun h0 => ?_)
  · refine xS_g (fun g1 => ?_)
    refine xS_g (fun g2 => ?_)
    refine xS_g (fun g3 => ?_)
    refine xS_g (fun g4 => ?_)
    refine xS_g (fun g5 => ?_)
    refine xS_g (fun g6 => ?_)
    refine xS_g (fun g7 => ?_)
    refine xS_of (pc' := 30) (L' := [(0, xa x0), (1, xi x1), (2, xa 223), (3, xi x3), (4, xi x4)]) (st' := [xi (xw_iandf (xw_ishrf x3 x4) 1), xi (xR m (xw_rf (xw_rf (xw_rf x0 0) 0) x4) x1)]) (m' := m) (fun ex ns r q => ?_) ?_
    · refine xw_ic_geF rfl (w32_cg c4) (w32_cg (w32_xR _ _ _)) (Int.not_le.mpr h0) ?_
      refine xw_aload_n rfl rfl rfl ?_
      refine xw_gfV (qi := 0) rfl (xw_obd g1) xk9_0 rfl ?_
      refine xw_gfV (qi := 0) rfl (xw_obd g2) xk8_0 rfl ?_
      refine xw_iload rfl rfl ?_
      refine xw_aald (t := 20) (n := (xw_le B (xw_rf (xw_rf x0 0) 0))) (q := xw_kd (xw_rf (xw_rf x0 0) 0) x4 - 5) (e := (xw_rf (xw_rf (xw_rf x0 0) 0) x4)) rfl hB (xw_obd g5) (by decide) rfl g3 (by have := g4; omega) (xw_rfn g4) ?_
      refine xw_iload_n rfl rfl ?_
      refine xw_ialdc (n := (xw_le B (xw_rf (xw_rf (xw_rf x0 0) 0) x4))) (v := (m (xw_rf (xw_rf (xw_rf x0 0) 0) x4) x1)) (v' := (xR m (xw_rf (xw_rf (xw_rf x0 0) 0) x4) x1)) rfl hB (xw_obd g7) rfl g6 rfl rfl ?_
      refine xw_iload_n rfl rfl ?_
      refine xw_iload rfl rfl ?_
      refine xw_ishr (z := (xw_ishrf x3 x4)) rfl (xw_ishre _ _) ?_
      refine xw_iconst rfl ?_
      refine xw_iand (z := (xw_iandf (xw_ishrf x3 x4) 1)) rfl (xw_iande _ _) ?_
      exact q
    refine xS_if (fun h8 => ?_) (fun h8 => ?_)
    · refine xS_g (fun g9 => ?_)
      refine xS_g (fun g10 => ?_)
      refine xS_of (pc' := 50) (L' := [(0, xa x0), (1, xi x1), (2, xa 223), (3, xi x3), (4, xi x4)]) (st' := [xi (xR m (xw_rf x0 5) x4), xi (xR m (xw_rf (xw_rf (xw_rf x0 0) 0) x4) x1)]) (m' := m) (fun ex ns r q => ?_) ?_
      · refine xw_if_eqT rfl (w32_cg (w32_ti _)) h8 ?_
        refine xw_aload_n rfl rfl rfl ?_
        refine xw_gfV (qi := 5) rfl (xw_obd g1) xk9_5 rfl ?_
        refine xw_iload rfl rfl ?_
        refine xw_ialdc (n := (xw_le B (xw_rf x0 5))) (v := (m (xw_rf x0 5) x4)) (v' := (xR m (xw_rf x0 5) x4)) rfl hB (xw_obd g10) rfl g9 rfl rfl ?_
        exact q
      refine xS_if (fun h11 => ?_) (fun h11 => ?_)
      · refine xS_of (pc' := 3) (L' := [(0, xa x0), (1, xi x1), (2, xa 223), (3, xi x3), (4, xi (w32 (x4 + 1)))]) (st' := []) (m' := m) (fun ex ns r q => ?_) ?_
        · refine xw_ic_eqT rfl (w32_cg (w32_xR _ _ _)) (w32_cg (w32_xR _ _ _)) h11 ?_
          refine xw_iincc (z := (w32 (x4 + 1))) (L' := [(4, xi (w32 (x4 + 1))), (0, xa x0), (1, xi x1), (2, xa 223), (3, xi x3)]) rfl rfl (by decide) rfl rfl ?_
          refine xw_goto rfl ?_
          refine xw_lo (L2 := [(0, xa x0), (1, xi x1), (2, xa 223), (3, xi x3), (4, xi (w32 (x4 + 1)))]) (List.forall_mem_cons.mpr ⟨rfl, List.forall_mem_cons.mpr ⟨rfl, List.forall_mem_cons.mpr ⟨rfl, List.forall_mem_cons.mpr ⟨rfl, List.forall_mem_cons.mpr ⟨rfl, fun _ h => absurd h List.not_mem_nil⟩⟩⟩⟩⟩) ?_
          exact q
        exact hr3 _ _ _ _ _ c1 c3 (w32_w _)
      · refine xS_of (pc' := 54) (L' := [(0, xa x0), (1, xi x1), (2, xa 223), (3, xi x3), (4, xi x4)]) (st' := [xi 0]) (m' := m) (fun ex ns r q => ?_) ?_
        · refine xw_ic_eqF rfl (w32_cg (w32_xR _ _ _)) (w32_cg (w32_xR _ _ _)) h11 ?_
          refine xw_iconst rfl ?_
          exact q
        exact xS_ret (v := 0) rfl rfl (xw_rtZ (Or.inl rfl)) (Or.inl rfl)
    · refine xS_g (fun g9 => ?_)
      refine xS_g (fun g10 => ?_)
      refine xS_of (pc' := 50) (L' := [(0, xa x0), (1, xi x1), (2, xa 223), (3, xi x3), (4, xi x4)]) (st' := [xi (xR m (xw_rf x0 4) x4), xi (xR m (xw_rf (xw_rf (xw_rf x0 0) 0) x4) x1)]) (m' := m) (fun ex ns r q => ?_) ?_
      · refine xw_if_eqF rfl (w32_cg (w32_ti _)) h8 ?_
        refine xw_aload_n rfl rfl rfl ?_
        refine xw_gfV (qi := 4) rfl (xw_obd g1) xk9_4 rfl ?_
        refine xw_iload rfl rfl ?_
        refine xw_ialdc (n := (xw_le B (xw_rf x0 4))) (v := (m (xw_rf x0 4) x4)) (v' := (xR m (xw_rf x0 4) x4)) rfl hB (xw_obd g10) rfl g9 rfl rfl ?_
        refine xw_goto rfl ?_
        exact q
      refine xS_if (fun h11 => ?_) (fun h11 => ?_)
      · refine xS_of (pc' := 3) (L' := [(0, xa x0), (1, xi x1), (2, xa 223), (3, xi x3), (4, xi (w32 (x4 + 1)))]) (st' := []) (m' := m) (fun ex ns r q => ?_) ?_
        · refine xw_ic_eqT rfl (w32_cg (w32_xR _ _ _)) (w32_cg (w32_xR _ _ _)) h11 ?_
          refine xw_iincc (z := (w32 (x4 + 1))) (L' := [(4, xi (w32 (x4 + 1))), (0, xa x0), (1, xi x1), (2, xa 223), (3, xi x3)]) rfl rfl (by decide) rfl rfl ?_
          refine xw_goto rfl ?_
          refine xw_lo (L2 := [(0, xa x0), (1, xi x1), (2, xa 223), (3, xi x3), (4, xi (w32 (x4 + 1)))]) (List.forall_mem_cons.mpr ⟨rfl, List.forall_mem_cons.mpr ⟨rfl, List.forall_mem_cons.mpr ⟨rfl, List.forall_mem_cons.mpr ⟨rfl, List.forall_mem_cons.mpr ⟨rfl, fun _ h => absurd h List.not_mem_nil⟩⟩⟩⟩⟩) ?_
          exact q
        exact hr3 _ _ _ _ _ c1 c3 (w32_w _)
      · refine xS_of (pc' := 54) (L' := [(0, xa x0), (1, xi x1), (2, xa 223), (3, xi x3), (4, xi x4)]) (st' := [xi 0]) (m' := m) (fun ex ns r q => ?_) ?_
        · refine xw_ic_eqF rfl (w32_cg (w32_xR _ _ _)) (w32_cg (w32_xR _ _ _)) h11 ?_
          refine xw_iconst rfl ?_
          exact q
        exact xS_ret (v := 0) rfl rfl (xw_rtZ (Or.inl rfl)) (Or.inl rfl)
  · refine xS_of (pc' := 62) (L' := [(0, xa x0), (1, xi x1), (2, xa 223), (3, xi x3), (4, xi x4)]) (st' := [xi 1]) (m' := m) (fun ex ns r q => ?_) ?_
    · refine xw_ic_geT rfl (w32_cg c4) (w32_cg (w32_xR _ _ _)) (Int.not_lt.mp h0) ?_
      refine xw_iconst rfl ?_
      exact q
    exact xS_ret (v := 1) rfl rfl (xw_rtZ (Or.inr rfl)) (Or.inr rfl)
theorem ygl100_3 {B : Nat} (hB : B ≤ 512) {xs : Nat → Int32} {SL d : Nat} : ∀ n x0 x1 x3 x4 m, w32 x1 = x1 → w32 x3 = x3 → w32 x4 = x4 → xS B xs SL (d + 0) 100 (5, (some .boolean), [], 10) 4 3 [(0, xa x0), (1, xi x1), (2, xa 223), (3, xi x3), (4, xi x4)] [] m (xl4 (yl100_3 B) n x0 x1 x3 x4 m) := by
  intro n
  induction n with
  | zero => intro x0 x1 x3 x4 m c1 c3 c4; exact xS_none
  | succ n ih => exact ysl100_3 hB ih
theorem ygf100 {B : Nat} (hB : B ≤ 512) {xs : Nat → Int32} {SL d : Nat} : ∀ t p0 p2 m, w32 p0 = p0 → w32 p2 = p2 → xS B xs SL (d + 0) 100 (5, (some .boolean), [], 10) 4 0 [(0, xa t), (1, xi p0), (2, xa 223), (3, xi p2)] [] m (yf100 B t p0 p2 m) := by
  intro t p0 p2 m cp0 cp2
  unfold yf100
  refine xS_of (pc' := 3) (L' := [(0, xa t), (1, xi p0), (2, xa 223), (3, xi p2), (4, xi 0)]) (st' := []) (m' := m) (fun ex ns r q => ?_) ?_
  · refine xw_iconst rfl ?_
    refine xw_istore (L' := [(4, xi 0), (0, xa t), (1, xi p0), (2, xa 223), (3, xi p2)]) rfl (by decide) rfl ?_
    refine xw_lo (L2 := [(0, xa t), (1, xi p0), (2, xa 223), (3, xi p2), (4, xi 0)]) (List.forall_mem_cons.mpr ⟨rfl, List.forall_mem_cons.mpr ⟨rfl, List.forall_mem_cons.mpr ⟨rfl, List.forall_mem_cons.mpr ⟨rfl, List.forall_mem_cons.mpr ⟨rfl, fun _ h => absurd h List.not_mem_nil⟩⟩⟩⟩⟩) ?_
    exact q
  exact ygl100_3 hB 1000000 _ _ _ _ _ cp0 cp2 rfl
theorem ysl101_74 {B : Nat} (hB : B ≤ 512) {xs : Nat → Int32} {SL d : Nat} {r74 : Int → Int → Int → xw_M → xP} (hr74 : ∀ x0 x3 x4 m, w32 x3 = x3 → w32 x4 = x4 → xS B xs SL (d + 0) 101 (5, (some .int), [], 10) 1 74 [(0, xa x0), (3, xi x3), (4, xi x4)] [] m (r74 x0 x3 x4 m)) : ∀ x0 x3 x4 m, w32 x3 = x3 → w32 x4 = x4 → xS B xs SL (d + 0) 101 (5, (some .int), [], 10) 1 74 [(0, xa x0), (3, xi x3), (4, xi x4)] [] m (yl101_74 B r74 x0 x3 x4 m) := by
  intro x0 x3 x4 m c3 c4
  unfold yl101_74
  refine xS_g (fun g0 => ?_)
  refine xS_of (pc' := 80) (L' := [(0, xa x0), (3, xi x3), (4, xi x4)]) (st' := [xi (xR m x0 6), xi x4]) (m' := m) (fun ex ns r q => ?_) ?_
  · refine xw_iload rfl rfl ?_
    refine xw_aload_n rfl rfl rfl ?_
    refine xw_gfIc (v := (m x0 6)) (v' := (xR m x0 6)) rfl (xw_obd g0) xk9_6 (qi := 6) rfl rfl rfl ?_
    exact q
  refine xS_if (fun h1 => ?_) (fun h1 => ?_)
  · refine xS_g (fun g2 => ?_)
    refine xS_g (fun g3 => ?_)
    refine xS_g (fun g4 => ?_)
    refine xS_g (fun g5 => ?_)
    refine xS_g (fun g6 => ?_)
    refine xS_g (fun g7 => ?_)
    refine xS_of (pc' := 74) (L' := [(0, xa x0), (3, xi x3), (4, xi (w32 (x4 + 1)))]) (st' := []) (m' := (xw_u m (xw_rf (xw_rf (xw_rf x0 0) 1) x4) x3 0)) (fun ex ns r q => ?_) ?_
    · refine xw_ic_geF rfl (w32_cg c4) (w32_cg (w32_xR _ _ _)) (Int.not_le.mpr h1) ?_
      refine xw_aload_n rfl rfl rfl ?_
      refine xw_gfV (qi := 0) rfl (xw_obd g0) xk9_0 rfl ?_
      refine xw_gfV (qi := 1) rfl (xw_obd g2) xk8_1 rfl ?_
      refine xw_iload rfl rfl ?_
      refine xw_aald (t := 21) (n := (xw_le B (xw_rf (xw_rf x0 0) 1))) (q := xw_kd (xw_rf (xw_rf x0 0) 1) x4 - 5) (e := (xw_rf (xw_rf (xw_rf x0 0) 1) x4)) rfl hB (xw_obd g5) (by decide) rfl g3 (by have := g4; omega) (xw_rfn g4) ?_
      refine xw_iload_n rfl rfl ?_
      refine xw_lconst (e := 0) rfl rfl ?_
      refine xw_last (n := (xw_le B (xw_rf (xw_rf (xw_rf x0 0) 1) x4))) rfl hB (xw_obd g7) rfl g6 ?_
      refine xw_iincc (z := (w32 (x4 + 1))) (L' := [(4, xi (w32 (x4 + 1))), (0, xa x0), (3, xi x3)]) rfl rfl (by decide) rfl rfl ?_
      refine xw_goto rfl ?_
      refine xw_lo (L2 := [(0, xa x0), (3, xi x3), (4, xi (w32 (x4 + 1)))]) (List.forall_mem_cons.mpr ⟨rfl, List.forall_mem_cons.mpr ⟨rfl, List.forall_mem_cons.mpr ⟨rfl, fun _ h => absurd h List.not_mem_nil⟩⟩⟩) ?_
      exact q
    exact hr74 _ _ _ _ c3 (w32_w _)
  · refine xS_g (fun g2 => ?_)
    refine xS_g (fun g3 => ?_)
    refine xS_of (pc' := 110) (L' := [(0, xa x0), (3, xi x3), (4, xi x4)]) (st' := [xi x3]) (m' := (xw_u m (xw_rf x0 1) x3 0)) (fun ex ns r q => ?_) ?_
    · refine xw_ic_geT rfl (w32_cg c4) (w32_cg (w32_xR _ _ _)) (Int.not_lt.mp h1) ?_
      refine xw_aload_n rfl rfl rfl ?_
      refine xw_gfV (qi := 1) rfl (xw_obd g0) xk9_1 rfl ?_
      refine xw_iload_n rfl rfl ?_
      refine xw_lconst (e := 0) rfl rfl ?_
      refine xw_last (n := (xw_le B (xw_rf x0 1))) rfl hB (xw_obd g3) rfl g2 ?_
      refine xw_iload_n rfl rfl ?_
      exact q
    exact xS_ret (v := x3) rfl rfl xw_rtI c3
theorem ygl101_74 {B : Nat} (hB : B ≤ 512) {xs : Nat → Int32} {SL d : Nat} : ∀ n x0 x3 x4 m, w32 x3 = x3 → w32 x4 = x4 → xS B xs SL (d + 0) 101 (5, (some .int), [], 10) 1 74 [(0, xa x0), (3, xi x3), (4, xi x4)] [] m (xl3 (yl101_74 B) n x0 x3 x4 m) := by
  intro n
  induction n with
  | zero => intro x0 x3 x4 m c3 c4; exact xS_none
  | succ n ih => exact ysl101_74 hB ih
theorem ysl101_18 {B : Nat} (hB : B ≤ 512) {xs : Nat → Int32} {SL d : Nat} {r18 : Int → Int → Int → Int → xw_M → xP} (hr18 : ∀ x0 x2 x3 x4 m, w32 x2 = x2 → w32 x3 = x3 → w32 x4 = x4 → xS B xs SL (d + 0) 101 (5, (some .int), [], 10) 1 18 [(0, xa x0), (1, xa 223), (2, xi x2), (3, xi x3), (4, xi x4)] [] m (r18 x0 x2 x3 x4 m)) : ∀ x0 x2 x3 x4 m, w32 x2 = x2 → w32 x3 = x3 → w32 x4 = x4 → xS B xs SL (d + 0) 101 (5, (some .int), [], 10) 1 18 [(0, xa x0), (1, xa 223), (2, xi x2), (3, xi x3), (4, xi x4)] [] m (yl101_18 B r18 x0 x2 x3 x4 m) := by
  intro x0 x2 x3 x4 m c2 c3 c4
  unfold yl101_18
  refine xS_of (pc' := 24) (L' := [(0, xa x0), (1, xa 223), (2, xi x2), (3, xi x3), (4, xi x4)]) (st' := [xi (xR m 223 6), xi x4]) (m' := m) (fun ex ns r q => ?_) ?_
  · refine xw_iload rfl rfl ?_
    refine xw_aload_n rfl rfl rfl ?_
    refine xw_gfIc (v := (m 223 6)) (v' := (xR m 223 6)) rfl (xw_obd (by decide +kernel)) xk4_6 (qi := 6) rfl rfl rfl ?_
    exact q
  refine xS_if (fun h0 => ?_) (fun h0 => ?_)
  · refine xS_g (fun g1 => ?_)
    refine xS_g (fun g2 => ?_)
    refine xS_g (fun g3 => ?_)
    refine xS_g (fun g4 => ?_)
    refine xS_g (fun g5 => ?_)
    refine xS_of (pc' := 44) (L' := [(0, xa x0), (1, xa 223), (2, xi x2), (3, xi x3), (4, xi x4)]) (st' := [xi (xw_iandf (xw_ishrf x2 x4) 1), xi x3, xa (xw_rf (xw_rf (xw_rf x0 0) 0) x4)]) (m' := m) (fun ex ns r q => ?_) ?_
    · refine xw_ic_geF rfl (w32_cg c4) (w32_cg (w32_xR _ _ _)) (Int.not_le.mpr h0) ?_
      refine xw_aload_n rfl rfl rfl ?_
      refine xw_gfV (qi := 0) rfl (xw_obd g1) xk9_0 rfl ?_
      refine xw_gfV (qi := 0) rfl (xw_obd g2) xk8_0 rfl ?_
      refine xw_iload rfl rfl ?_
      refine xw_aald (t := 20) (n := (xw_le B (xw_rf (xw_rf x0 0) 0))) (q := xw_kd (xw_rf (xw_rf x0 0) 0) x4 - 5) (e := (xw_rf (xw_rf (xw_rf x0 0) 0) x4)) rfl hB (xw_obd g5) (by decide) rfl g3 (by have := g4; omega) (xw_rfn g4) ?_
      refine xw_iload_n rfl rfl ?_
      refine xw_iload_n rfl rfl ?_
      refine xw_iload rfl rfl ?_
      refine xw_ishr (z := (xw_ishrf x2 x4)) rfl (xw_ishre _ _) ?_
      refine xw_iconst rfl ?_
      refine xw_iand (z := (xw_iandf (xw_ishrf x2 x4) 1)) rfl (xw_iande _ _) ?_
      exact q
    refine xS_if (fun h6 => ?_) (fun h6 => ?_)
    · refine xS_g (fun g7 => ?_)
      refine xS_g (fun g8 => ?_)
      refine xS_g (fun g9 => ?_)
      refine xS_g (fun g10 => ?_)
      refine xS_of (pc' := 18) (L' := [(0, xa x0), (1, xa 223), (2, xi x2), (3, xi x3), (4, xi (w32 (x4 + 1)))]) (st' := []) (m' := (xw_u m (xw_rf (xw_rf (xw_rf x0 0) 0) x4) x3 (xR m (xw_rf x0 5) x4))) (fun ex ns r q => ?_) ?_
      · refine xw_if_eqT rfl (w32_cg (w32_ti _)) h6 ?_
        refine xw_aload_n rfl rfl rfl ?_
        refine xw_gfV (qi := 5) rfl (xw_obd g1) xk9_5 rfl ?_
        refine xw_iload rfl rfl ?_
        refine xw_ialdc (n := (xw_le B (xw_rf x0 5))) (v := (m (xw_rf x0 5) x4)) (v' := (xR m (xw_rf x0 5) x4)) rfl hB (xw_obd g8) rfl g7 rfl rfl ?_
        refine xw_iast (n := (xw_le B (xw_rf (xw_rf (xw_rf x0 0) 0) x4))) rfl hB (xw_obd g10) rfl g9 ?_
        refine xw_iincc (z := (w32 (x4 + 1))) (L' := [(4, xi (w32 (x4 + 1))), (0, xa x0), (1, xa 223), (2, xi x2), (3, xi x3)]) rfl rfl (by decide) rfl rfl ?_
        refine xw_goto rfl ?_
        refine xw_lo (L2 := [(0, xa x0), (1, xa 223), (2, xi x2), (3, xi x3), (4, xi (w32 (x4 + 1)))]) (List.forall_mem_cons.mpr ⟨rfl, List.forall_mem_cons.mpr ⟨rfl, List.forall_mem_cons.mpr ⟨rfl, List.forall_mem_cons.mpr ⟨rfl, List.forall_mem_cons.mpr ⟨rfl, fun _ h => absurd h List.not_mem_nil⟩⟩⟩⟩⟩) ?_
        exact q
      exact hr18 _ _ _ _ _ c2 c3 (w32_w _)
    · refine xS_g (fun g7 => ?_)
      refine xS_g (fun g8 => ?_)
      refine xS_g (fun g9 => ?_)
      refine xS_g (fun g10 => ?_)
      refine xS_of (pc' := 18) (L' := [(0, xa x0), (1, xa 223), (2, xi x2), (3, xi x3), (4, xi (w32 (x4 + 1)))]) (st' := []) (m' := (xw_u m (xw_rf (xw_rf (xw_rf x0 0) 0) x4) x3 (xR m (xw_rf x0 4) x4))) (fun ex ns r q => ?_) ?_
      · refine xw_if_eqF rfl (w32_cg (w32_ti _)) h6 ?_
        refine xw_aload_n rfl rfl rfl ?_
        refine xw_gfV (qi := 4) rfl (xw_obd g1) xk9_4 rfl ?_
        refine xw_iload rfl rfl ?_
        refine xw_ialdc (n := (xw_le B (xw_rf x0 4))) (v := (m (xw_rf x0 4) x4)) (v' := (xR m (xw_rf x0 4) x4)) rfl hB (xw_obd g8) rfl g7 rfl rfl ?_
        refine xw_goto rfl ?_
        refine xw_iast (n := (xw_le B (xw_rf (xw_rf (xw_rf x0 0) 0) x4))) rfl hB (xw_obd g10) rfl g9 ?_
        refine xw_iincc (z := (w32 (x4 + 1))) (L' := [(4, xi (w32 (x4 + 1))), (0, xa x0), (1, xa 223), (2, xi x2), (3, xi x3)]) rfl rfl (by decide) rfl rfl ?_
        refine xw_goto rfl ?_
        refine xw_lo (L2 := [(0, xa x0), (1, xa 223), (2, xi x2), (3, xi x3), (4, xi (w32 (x4 + 1)))]) (List.forall_mem_cons.mpr ⟨rfl, List.forall_mem_cons.mpr ⟨rfl, List.forall_mem_cons.mpr ⟨rfl, List.forall_mem_cons.mpr ⟨rfl, List.forall_mem_cons.mpr ⟨rfl, fun _ h => absurd h List.not_mem_nil⟩⟩⟩⟩⟩) ?_
        exact q
      exact hr18 _ _ _ _ _ c2 c3 (w32_w _)
  · refine xS_of (pc' := 74) (L' := [(0, xa x0), (3, xi x3), (4, xi 0)]) (st' := []) (m' := m) (fun ex ns r q => ?_) ?_
    · refine xw_ic_geT rfl (w32_cg c4) (w32_cg (w32_xR _ _ _)) (Int.not_lt.mp h0) ?_
      refine xw_iconst rfl ?_
      refine xw_istore (L' := [(4, xi 0), (0, xa x0), (1, xa 223), (2, xi x2), (3, xi x3)]) rfl (by decide) rfl ?_
      refine xw_lo (L2 := [(0, xa x0), (3, xi x3), (4, xi 0)]) (List.forall_mem_cons.mpr ⟨rfl, List.forall_mem_cons.mpr ⟨rfl, List.forall_mem_cons.mpr ⟨rfl, fun _ h => absurd h List.not_mem_nil⟩⟩⟩) ?_
      exact q
    exact ygl101_74 hB 1000000 _ _ _ _ c3 rfl
theorem ygl101_18 {B : Nat} (hB : B ≤ 512) {xs : Nat → Int32} {SL d : Nat} : ∀ n x0 x2 x3 x4 m, w32 x2 = x2 → w32 x3 = x3 → w32 x4 = x4 → xS B xs SL (d + 0) 101 (5, (some .int), [], 10) 1 18 [(0, xa x0), (1, xa 223), (2, xi x2), (3, xi x3), (4, xi x4)] [] m (xl4 (yl101_18 B) n x0 x2 x3 x4 m) := by
  intro n
  induction n with
  | zero => intro x0 x2 x3 x4 m c2 c3 c4; exact xS_none
  | succ n ih => exact ysl101_18 hB ih
theorem ygf101 {B : Nat} (hB : B ≤ 512) {xs : Nat → Int32} {SL d : Nat} : ∀ t p1 m, w32 p1 = p1 → xS B xs SL (d + 0) 101 (5, (some .int), [], 10) 1 0 [(0, xa t), (1, xa 223), (2, xi p1)] [] m (yf101 B t p1 m) := by
  intro t p1 m cp1
  unfold yf101
  refine xS_g (fun g0 => ?_)
  refine xS_g (fun g1 => ?_)
  refine xS_of (pc' := 18) (L' := [(0, xa t), (1, xa 223), (2, xi p1), (3, xi (xR m (xw_rf t 0) 5)), (4, xi 0)]) (st' := []) (m' := (xw_u m (xw_rf t 0) 5 ((xR m (xw_rf t 0) 5) + 1))) (fun ex ns r q => ?_) ?_
  · refine xw_aload_n rfl rfl rfl ?_
    refine xw_gfV (qi := 0) rfl (xw_obd g0) xk9_0 rfl ?_
    refine xw_dup rfl rfl ?_
    refine xw_gfIc (v := (m (xw_rf t 0) 5)) (v' := (xR m (xw_rf t 0) 5)) rfl (xw_obd g1) xk8_5 (qi := 5) rfl rfl rfl ?_
    refine xw_dup_x1 rfl rfl ?_
    refine xw_iconst rfl ?_
    refine xw_iadd rfl ?_
    refine xw_pfI rfl (xw_obd g1) xk8_5 (qi := 5) rfl (xw_okI rfl) ?_
    refine xw_istore_n (L' := [(3, xi (xR m (xw_rf t 0) 5)), (0, xa t), (1, xa 223), (2, xi p1)]) rfl (by decide) rfl ?_
    refine xw_iconst rfl ?_
    refine xw_istore (L' := [(4, xi 0), (3, xi (xR m (xw_rf t 0) 5)), (0, xa t), (1, xa 223), (2, xi p1)]) rfl (by decide) rfl ?_
    refine xw_lo (L2 := [(0, xa t), (1, xa 223), (2, xi p1), (3, xi (xR m (xw_rf t 0) 5)), (4, xi 0)]) (List.forall_mem_cons.mpr ⟨rfl, List.forall_mem_cons.mpr ⟨rfl, List.forall_mem_cons.mpr ⟨rfl, List.forall_mem_cons.mpr ⟨rfl, List.forall_mem_cons.mpr ⟨rfl, fun _ h => absurd h List.not_mem_nil⟩⟩⟩⟩⟩) ?_
    exact q
  exact ygl101_18 hB 1000000 _ _ _ _ _ cp1 (w32_xR _ _ _) rfl
theorem ygk99_117 {B : Nat} (hB : B ≤ 512) {xs : Nat → Int32} {SL d : Nat} : ∀ x0 x2 x4 m, w32 x2 = x2 → w32 x4 = x4 → xS B xs SL (d + 1) 99 (7, (some .int), [], 10) 1 117 [(0, xa x0), (1, xa 223), (2, xi x2), (4, xi x4)] [] m (yk99_117 B x0 x2 x4 m) := by
  intro x0 x2 x4 m c2 c4
  unfold yk99_117
  refine xS_g (fun g0 => ?_)
  refine xS_g (fun g1 => ?_)
  refine xS_of (pc' := 127) (L' := [(0, xa x0), (1, xa 223), (2, xi x2), (4, xi x4)]) (st' := [xi 4000, xi (xR m (xw_rf x0 0) 5)]) (m' := m) (fun ex ns r q => ?_) ?_
  · refine xw_aload_n rfl rfl rfl ?_
    refine xw_gfV (qi := 0) rfl (xw_obd g0) xk9_0 rfl ?_
    refine xw_gfIc (v := (m (xw_rf x0 0) 5)) (v' := (xR m (xw_rf x0 0) 5)) rfl (xw_obd g1) xk8_5 (qi := 5) rfl rfl rfl ?_
    refine xw_sipush (e := 4000) rfl (by decide +kernel) ?_
    exact q
  refine xS_if (fun h2 => ?_) (fun h2 => ?_)
  · refine xS_g (fun g3 => ?_)
    refine xS_g (fun g4 => ?_)
    refine xS_of (pc' := 149) (L' := []) (st' := [xi x2, xa 223, xa x0]) (m' := (xw_u m (xw_rf x0 3) x4 (xR m (xw_rf x0 0) 5))) (fun ex ns r q => ?_) ?_
    · refine xw_ic_ltT rfl (w32_cg (w32_xR _ _ _)) (w32_cg rfl) h2 ?_
      refine xw_aload_n rfl rfl rfl ?_
      refine xw_gfV (qi := 3) rfl (xw_obd g0) xk9_3 rfl ?_
      refine xw_iload rfl rfl ?_
      refine xw_aload_n rfl rfl rfl ?_
      refine xw_gfV (qi := 0) rfl (xw_obd g0) xk9_0 rfl ?_
      refine xw_gfIc (v := (m (xw_rf x0 0) 5)) (v' := (xR m (xw_rf x0 0) 5)) rfl (xw_obd g1) xk8_5 (qi := 5) rfl rfl rfl ?_
      refine xw_iast (n := (xw_le B (xw_rf x0 3))) rfl hB (xw_obd g4) rfl g3 ?_
      refine xw_aload_n rfl rfl rfl ?_
      refine xw_aload_n rfl rfl rfl ?_
      refine xw_iload_n rfl rfl ?_
      refine xw_lo (L2 := []) (fun _ h => absurd h List.not_mem_nil) ?_
      exact q
    refine xS_call (q := 101) (n := 3) (kq := 1) (as := [xa x0, xa 223, xi x2]) (st1 := []) rfl rfl rfl rfl rfl rfl rfl rfl rfl rfl (fun _ => xw_rcv1 (t := 9) (xw_obd g0) rfl) rfl (List.forall_mem_cons.mpr ⟨rfl, List.forall_mem_cons.mpr ⟨rfl, List.forall_mem_cons.mpr ⟨rfl, fun _ h => absurd h List.not_mem_nil⟩⟩⟩) (ygf101 hB _ _ _ c2) (fun v1 m1 cv1 => ?_)
    exact xS_ret (v := v1) rfl rfl xw_rtI cv1
  · refine xS_of (pc' := 131) (L' := [(0, xa x0), (1, xa 223), (2, xi x2), (4, xi x4)]) (st' := [xi (-1)]) (m' := m) (fun ex ns r q => ?_) ?_
    · refine xw_ic_ltF rfl (w32_cg (w32_xR _ _ _)) (w32_cg rfl) h2 ?_
      refine xw_iconst rfl ?_
      exact q
    exact xS_ret (v := (-1)) rfl rfl xw_rtI rfl
theorem ysl99_61 {B : Nat} (hB : B ≤ 512) {xs : Nat → Int32} {SL d : Nat} {r61 : Int → Int → Int → Int → xw_M → xP} (hr61 : ∀ x0 x2 x4 x5 m, w32 x2 = x2 → w32 x4 = x4 → w32 x5 = x5 → xS B xs SL (d + 1) 99 (7, (some .int), [], 10) 1 61 [(0, xa x0), (1, xa 223), (2, xi x2), (4, xi x4), (5, xi x5)] [] m (r61 x0 x2 x4 x5 m)) : ∀ x0 x2 x4 x5 m, w32 x2 = x2 → w32 x4 = x4 → w32 x5 = x5 → xS B xs SL (d + 1) 99 (7, (some .int), [], 10) 1 61 [(0, xa x0), (1, xa 223), (2, xi x2), (4, xi x4), (5, xi x5)] [] m (yl99_61 B r61 x0 x2 x4 x5 m) := by
  intro x0 x2 x4 x5 m c2 c4 c5
  unfold yl99_61
  refine xS_of (pc' := 66) (L' := [(0, xa x0), (1, xa 223), (2, xi x2), (4, xi x4), (5, xi x5)]) (st' := [xi 8192, xi x5]) (m' := m) (fun ex ns r q => ?_) ?_
  · refine xw_iload rfl rfl ?_
    refine xw_sipush (e := 8192) rfl (by decide +kernel) ?_
    exact q
  refine xS_if (fun h0 => ?_) (fun h0 => ?_)
  · refine xS_g (fun g1 => ?_)
    refine xS_g (fun g2 => ?_)
    refine xS_g (fun g3 => ?_)
    refine xS_of (pc' := 81) (L' := [(6, xi (xR m (xw_rf x0 3) x4)), (0, xa x0), (1, xa 223), (2, xi x2), (4, xi x4), (5, xi x5)]) (st' := [xi (-1), xi (xR m (xw_rf x0 3) x4)]) (m' := m) (fun ex ns r q => ?_) ?_
    · refine xw_ic_geF rfl (w32_cg c5) (w32_cg rfl) (Int.not_le.mpr h0) ?_
      refine xw_aload_n rfl rfl rfl ?_
      refine xw_gfV (qi := 3) rfl (xw_obd g1) xk9_3 rfl ?_
      refine xw_iload rfl rfl ?_
      refine xw_ialdc (n := (xw_le B (xw_rf x0 3))) (v := (m (xw_rf x0 3) x4)) (v' := (xR m (xw_rf x0 3) x4)) rfl hB (xw_obd g3) rfl g2 rfl rfl ?_
      refine xw_istore (L' := [(6, xi (xR m (xw_rf x0 3) x4)), (0, xa x0), (1, xa 223), (2, xi x2), (4, xi x4), (5, xi x5)]) rfl (by decide) rfl ?_
      refine xw_iload rfl rfl ?_
      refine xw_iconst rfl ?_
      exact q
    refine xS_if (fun h4 => ?_) (fun h4 => ?_)
    · refine xS_of (pc' := 117) (L' := [(0, xa x0), (1, xa 223), (2, xi x2), (4, xi x4)]) (st' := []) (m' := m) (fun ex ns r q => ?_) ?_
      · refine xw_ic_neF rfl (w32_cg (w32_xR _ _ _)) (w32_cg rfl) h4 ?_
        refine xw_goto rfl ?_
        refine xw_lo (L2 := [(0, xa x0), (1, xa 223), (2, xi x2), (4, xi x4)]) (List.forall_mem_cons.mpr ⟨rfl, List.forall_mem_cons.mpr ⟨rfl, List.forall_mem_cons.mpr ⟨rfl, List.forall_mem_cons.mpr ⟨rfl, fun _ h => absurd h List.not_mem_nil⟩⟩⟩⟩) ?_
        exact q
      exact ygk99_117 hB _ _ _ _ c2 c4
    · refine xS_of (pc' := 92) (L' := [(0, xa x0), (1, xa 223), (2, xi x2), (4, xi x4), (5, xi x5), (6, xi (xR m (xw_rf x0 3) x4))]) (st' := [xi x2, xa 223, xi (xR m (xw_rf x0 3) x4), xa x0]) (m' := m) (fun ex ns r q => ?_) ?_
      · refine xw_ic_neT rfl (w32_cg (w32_xR _ _ _)) (w32_cg rfl) h4 ?_
        refine xw_aload_n rfl rfl rfl ?_
        refine xw_iload rfl rfl ?_
        refine xw_aload_n rfl rfl rfl ?_
        refine xw_iload_n rfl rfl ?_
        refine xw_lo (L2 := [(0, xa x0), (1, xa 223), (2, xi x2), (4, xi x4), (5, xi x5), (6, xi (xR m (xw_rf x0 3) x4))]) (List.forall_mem_cons.mpr ⟨rfl, List.forall_mem_cons.mpr ⟨rfl, List.forall_mem_cons.mpr ⟨rfl, List.forall_mem_cons.mpr ⟨rfl, List.forall_mem_cons.mpr ⟨rfl, List.forall_mem_cons.mpr ⟨rfl, fun _ h => absurd h List.not_mem_nil⟩⟩⟩⟩⟩⟩) ?_
        exact q
      refine xS_call (q := 100) (n := 4) (kq := 4) (as := [xa x0, xi (xR m (xw_rf x0 3) x4), xa 223, xi x2]) (st1 := []) rfl rfl rfl rfl rfl rfl rfl rfl rfl rfl (fun _ => xw_rcv1 (t := 9) (xw_obd g1) rfl) rfl (List.forall_mem_cons.mpr ⟨rfl, List.forall_mem_cons.mpr ⟨rfl, List.forall_mem_cons.mpr ⟨rfl, List.forall_mem_cons.mpr ⟨rfl, fun _ h => absurd h List.not_mem_nil⟩⟩⟩⟩) (ygf100 hB _ _ _ _ (w32_xR _ _ _) c2) (fun v1 m1 cv1 => ?_)
      refine xS_if (fun h5 => ?_) (fun h5 => ?_)
      · refine xS_of (pc' := 61) (L' := [(0, xa x0), (1, xa 223), (2, xi x2), (4, xi (xw_iandf (x4 + 1) 8191)), (5, xi (w32 (x5 + 1)))]) (st' := []) (m' := m1) (fun ex ns r q => ?_) ?_
        · refine xw_if_eqT rfl (w32_cg (w32_of (xw_zr cv1))) h5 ?_
          refine xw_iload rfl rfl ?_
          refine xw_iconst rfl ?_
          refine xw_iadd rfl ?_
          refine xw_sipush (e := 8191) rfl (by decide +kernel) ?_
          refine xw_iand (z := (xw_iandf (x4 + 1) 8191)) rfl (xw_iande _ _) ?_
          refine xw_istore (L' := [(4, xi (xw_iandf (x4 + 1) 8191)), (0, xa x0), (1, xa 223), (2, xi x2), (5, xi x5), (6, xi (xR m (xw_rf x0 3) x4))]) rfl (by decide) rfl ?_
          refine xw_iincc (z := (w32 (x5 + 1))) (L' := [(5, xi (w32 (x5 + 1))), (4, xi (xw_iandf (x4 + 1) 8191)), (0, xa x0), (1, xa 223), (2, xi x2), (6, xi (xR m (xw_rf x0 3) x4))]) rfl rfl (by decide) rfl rfl ?_
          refine xw_goto rfl ?_
          refine xw_lo (L2 := [(0, xa x0), (1, xa 223), (2, xi x2), (4, xi (xw_iandf (x4 + 1) 8191)), (5, xi (w32 (x5 + 1)))]) (List.forall_mem_cons.mpr ⟨rfl, List.forall_mem_cons.mpr ⟨rfl, List.forall_mem_cons.mpr ⟨rfl, List.forall_mem_cons.mpr ⟨rfl, List.forall_mem_cons.mpr ⟨rfl, fun _ h => absurd h List.not_mem_nil⟩⟩⟩⟩⟩) ?_
          exact q
        exact hr61 _ _ _ _ _ c2 (w32_ti _) (w32_w _)
      · refine xS_of (pc' := 100) (L' := [(0, xa x0), (1, xa 223), (2, xi x2), (4, xi x4), (5, xi x5), (6, xi (xR m (xw_rf x0 3) x4))]) (st' := [xi (xR m (xw_rf x0 3) x4)]) (m' := m1) (fun ex ns r q => ?_) ?_
        · refine xw_if_eqF rfl (w32_cg (w32_of (xw_zr cv1))) h5 ?_
          refine xw_iload rfl rfl ?_
          exact q
        exact xS_ret (v := (xR m (xw_rf x0 3) x4)) rfl rfl xw_rtI (w32_xR _ _ _)
  · refine xS_of (pc' := 117) (L' := [(0, xa x0), (1, xa 223), (2, xi x2), (4, xi x4)]) (st' := []) (m' := m) (fun ex ns r q => ?_) ?_
    · refine xw_ic_geT rfl (w32_cg c5) (w32_cg rfl) (Int.not_lt.mp h0) ?_
      refine xw_lo (L2 := [(0, xa x0), (1, xa 223), (2, xi x2), (4, xi x4)]) (List.forall_mem_cons.mpr ⟨rfl, List.forall_mem_cons.mpr ⟨rfl, List.forall_mem_cons.mpr ⟨rfl, List.forall_mem_cons.mpr ⟨rfl, fun _ h => absurd h List.not_mem_nil⟩⟩⟩⟩) ?_
      exact q
    exact ygk99_117 hB _ _ _ _ c2 c4
theorem ygl99_61 {B : Nat} (hB : B ≤ 512) {xs : Nat → Int32} {SL d : Nat} : ∀ n x0 x2 x4 x5 m, w32 x2 = x2 → w32 x4 = x4 → w32 x5 = x5 → xS B xs SL (d + 1) 99 (7, (some .int), [], 10) 1 61 [(0, xa x0), (1, xa 223), (2, xi x2), (4, xi x4), (5, xi x5)] [] m (xl4 (yl99_61 B) n x0 x2 x4 x5 m) := by
  intro n
  induction n with
  | zero => intro x0 x2 x4 x5 m c2 c4 c5; exact xS_none
  | succ n ih => exact ysl99_61 hB ih
theorem ysl99_5 {B : Nat} (hB : B ≤ 512) {xs : Nat → Int32} {SL d : Nat} {r5 : Int → Int → Int → Int → xw_M → xP} (hr5 : ∀ x0 x2 x3 x4 m, w32 x2 = x2 → w32 x3 = x3 → w32 x4 = x4 → xS B xs SL (d + 1) 99 (7, (some .int), [], 10) 1 5 [(0, xa x0), (1, xa 223), (2, xi x2), (3, xi x3), (4, xi x4)] [] m (r5 x0 x2 x3 x4 m)) : ∀ x0 x2 x3 x4 m, w32 x2 = x2 → w32 x3 = x3 → w32 x4 = x4 → xS B xs SL (d + 1) 99 (7, (some .int), [], 10) 1 5 [(0, xa x0), (1, xa 223), (2, xi x2), (3, xi x3), (4, xi x4)] [] m (yl99_5 B r5 x0 x2 x3 x4 m) := by
  intro x0 x2 x3 x4 m c2 c3 c4
  unfold yl99_5
  refine xS_of (pc' := 11) (L' := [(0, xa x0), (1, xa 223), (2, xi x2), (3, xi x3), (4, xi x4)]) (st' := [xi (xR m 223 6), xi x4]) (m' := m) (fun ex ns r q => ?_) ?_
  · refine xw_iload rfl rfl ?_
    refine xw_aload_n rfl rfl rfl ?_
    refine xw_gfIc (v := (m 223 6)) (v' := (xR m 223 6)) rfl (xw_obd (by decide +kernel)) xk4_6 (qi := 6) rfl rfl rfl ?_
    exact q
  refine xS_if (fun h0 => ?_) (fun h0 => ?_)
  · refine xS_of (pc' := 21) (L' := [(0, xa x0), (1, xa 223), (2, xi x2), (3, xi x3), (4, xi x4)]) (st' := [xi (xw_iandf (xw_ishrf x2 x4) 1), xi x3]) (m' := m) (fun ex ns r q => ?_) ?_
    · refine xw_ic_geF rfl (w32_cg c4) (w32_cg (w32_xR _ _ _)) (Int.not_le.mpr h0) ?_
      refine xw_iload_n rfl rfl ?_
      refine xw_iload_n rfl rfl ?_
      refine xw_iload rfl rfl ?_
      refine xw_ishr (z := (xw_ishrf x2 x4)) rfl (xw_ishre _ _) ?_
      refine xw_iconst rfl ?_
      refine xw_iand (z := (xw_iandf (xw_ishrf x2 x4) 1)) rfl (xw_iande _ _) ?_
      exact q
    refine xS_if (fun h1 => ?_) (fun h1 => ?_)
    · refine xS_g (fun g2 => ?_)
      refine xS_g (fun g3 => ?_)
      refine xS_g (fun g4 => ?_)
      refine xS_of (pc' := 5) (L' := [(0, xa x0), (1, xa 223), (2, xi x2), (3, xi (w32 ((x3 + (xR m (xw_rf x0 5) x4)) * (-1640531535)))), (4, xi (w32 (x4 + 1)))]) (st' := []) (m' := m) (fun ex ns r q => ?_) ?_
      · refine xw_if_eqT rfl (w32_cg (w32_ti _)) h1 ?_
        refine xw_aload_n rfl rfl rfl ?_
        refine xw_gfV (qi := 5) rfl (xw_obd g2) xk9_5 rfl ?_
        refine xw_iload rfl rfl ?_
        refine xw_ialdc (n := (xw_le B (xw_rf x0 5))) (v := (m (xw_rf x0 5) x4)) (v' := (xR m (xw_rf x0 5) x4)) rfl hB (xw_obd g4) rfl g3 rfl rfl ?_
        refine xw_iadd rfl ?_
        refine xw_ldc (e := (-1640531535)) rfl (by decide +kernel) ?_
        refine xw_imul rfl ?_
        refine xw_cst (st' := [xi (w32 ((x3 + (xR m (xw_rf x0 5) x4)) * (-1640531535)))]) (xw_sc (xi_c rfl) rfl) ?_
        refine xw_istore_n (L' := [(3, xi (w32 ((x3 + (xR m (xw_rf x0 5) x4)) * (-1640531535)))), (0, xa x0), (1, xa 223), (2, xi x2), (4, xi x4)]) rfl (by decide) rfl ?_
        refine xw_iincc (z := (w32 (x4 + 1))) (L' := [(4, xi (w32 (x4 + 1))), (3, xi (w32 ((x3 + (xR m (xw_rf x0 5) x4)) * (-1640531535)))), (0, xa x0), (1, xa 223), (2, xi x2)]) rfl rfl (by decide) rfl rfl ?_
        refine xw_goto rfl ?_
        refine xw_lo (L2 := [(0, xa x0), (1, xa 223), (2, xi x2), (3, xi (w32 ((x3 + (xR m (xw_rf x0 5) x4)) * (-1640531535)))), (4, xi (w32 (x4 + 1)))]) (List.forall_mem_cons.mpr ⟨rfl, List.forall_mem_cons.mpr ⟨rfl, List.forall_mem_cons.mpr ⟨rfl, List.forall_mem_cons.mpr ⟨rfl, List.forall_mem_cons.mpr ⟨rfl, fun _ h => absurd h List.not_mem_nil⟩⟩⟩⟩⟩) ?_
        exact q
      exact hr5 _ _ _ _ _ c2 (w32_w _) (w32_w _)
    · refine xS_g (fun g2 => ?_)
      refine xS_g (fun g3 => ?_)
      refine xS_g (fun g4 => ?_)
      refine xS_of (pc' := 5) (L' := [(0, xa x0), (1, xa 223), (2, xi x2), (3, xi (w32 ((x3 + (xR m (xw_rf x0 4) x4)) * (-1640531535)))), (4, xi (w32 (x4 + 1)))]) (st' := []) (m' := m) (fun ex ns r q => ?_) ?_
      · refine xw_if_eqF rfl (w32_cg (w32_ti _)) h1 ?_
        refine xw_aload_n rfl rfl rfl ?_
        refine xw_gfV (qi := 4) rfl (xw_obd g2) xk9_4 rfl ?_
        refine xw_iload rfl rfl ?_
        refine xw_ialdc (n := (xw_le B (xw_rf x0 4))) (v := (m (xw_rf x0 4) x4)) (v' := (xR m (xw_rf x0 4) x4)) rfl hB (xw_obd g4) rfl g3 rfl rfl ?_
        refine xw_goto rfl ?_
        refine xw_iadd rfl ?_
        refine xw_ldc (e := (-1640531535)) rfl (by decide +kernel) ?_
        refine xw_imul rfl ?_
        refine xw_cst (st' := [xi (w32 ((x3 + (xR m (xw_rf x0 4) x4)) * (-1640531535)))]) (xw_sc (xi_c rfl) rfl) ?_
        refine xw_istore_n (L' := [(3, xi (w32 ((x3 + (xR m (xw_rf x0 4) x4)) * (-1640531535)))), (0, xa x0), (1, xa 223), (2, xi x2), (4, xi x4)]) rfl (by decide) rfl ?_
        refine xw_iincc (z := (w32 (x4 + 1))) (L' := [(4, xi (w32 (x4 + 1))), (3, xi (w32 ((x3 + (xR m (xw_rf x0 4) x4)) * (-1640531535)))), (0, xa x0), (1, xa 223), (2, xi x2)]) rfl rfl (by decide) rfl rfl ?_
        refine xw_goto rfl ?_
        refine xw_lo (L2 := [(0, xa x0), (1, xa 223), (2, xi x2), (3, xi (w32 ((x3 + (xR m (xw_rf x0 4) x4)) * (-1640531535)))), (4, xi (w32 (x4 + 1)))]) (List.forall_mem_cons.mpr ⟨rfl, List.forall_mem_cons.mpr ⟨rfl, List.forall_mem_cons.mpr ⟨rfl, List.forall_mem_cons.mpr ⟨rfl, List.forall_mem_cons.mpr ⟨rfl, fun _ h => absurd h List.not_mem_nil⟩⟩⟩⟩⟩) ?_
        exact q
      exact hr5 _ _ _ _ _ c2 (w32_w _) (w32_w _)
  · refine xS_of (pc' := 61) (L' := [(0, xa x0), (1, xa 223), (2, xi x2), (4, xi (xw_iushrf x3 19)), (5, xi 0)]) (st' := []) (m' := m) (fun ex ns r q => ?_) ?_
    · refine xw_ic_geT rfl (w32_cg c4) (w32_cg (w32_xR _ _ _)) (Int.not_lt.mp h0) ?_
      refine xw_iload_n rfl rfl ?_
      refine xw_bipush (e := 19) rfl (by decide +kernel) ?_
      refine xw_iushr (z := (xw_iushrf x3 19)) rfl (xw_iushre _ _) ?_
      refine xw_istore (L' := [(4, xi (xw_iushrf x3 19)), (0, xa x0), (1, xa 223), (2, xi x2), (3, xi x3)]) rfl (by decide) rfl ?_
      refine xw_iconst rfl ?_
      refine xw_istore (L' := [(5, xi 0), (4, xi (xw_iushrf x3 19)), (0, xa x0), (1, xa 223), (2, xi x2), (3, xi x3)]) rfl (by decide) rfl ?_
      refine xw_lo (L2 := [(0, xa x0), (1, xa 223), (2, xi x2), (4, xi (xw_iushrf x3 19)), (5, xi 0)]) (List.forall_mem_cons.mpr ⟨rfl, List.forall_mem_cons.mpr ⟨rfl, List.forall_mem_cons.mpr ⟨rfl, List.forall_mem_cons.mpr ⟨rfl, List.forall_mem_cons.mpr ⟨rfl, fun _ h => absurd h List.not_mem_nil⟩⟩⟩⟩⟩) ?_
      exact q
    exact ygl99_61 hB 1000000 _ _ _ _ _ c2 (w32_ti _) rfl
theorem ygl99_5 {B : Nat} (hB : B ≤ 512) {xs : Nat → Int32} {SL d : Nat} : ∀ n x0 x2 x3 x4 m, w32 x2 = x2 → w32 x3 = x3 → w32 x4 = x4 → xS B xs SL (d + 1) 99 (7, (some .int), [], 10) 1 5 [(0, xa x0), (1, xa 223), (2, xi x2), (3, xi x3), (4, xi x4)] [] m (xl4 (yl99_5 B) n x0 x2 x3 x4 m) := by
  intro n
  induction n with
  | zero => intro x0 x2 x3 x4 m c2 c3 c4; exact xS_none
  | succ n ih => exact ysl99_5 hB ih
theorem ygf99 {B : Nat} (hB : B ≤ 512) {xs : Nat → Int32} {SL d : Nat} : ∀ t p1 m, w32 p1 = p1 → xS B xs SL (d + 1) 99 (7, (some .int), [], 10) 1 0 [(0, xa t), (1, xa 223), (2, xi p1)] [] m (yf99 B t p1 m) := by
  intro t p1 m cp1
  unfold yf99
  refine xS_of (pc' := 5) (L' := [(0, xa t), (1, xa 223), (2, xi p1), (3, xi 0), (4, xi 0)]) (st' := []) (m' := m) (fun ex ns r q => ?_) ?_
  · refine xw_iconst rfl ?_
    refine xw_istore_n (L' := [(3, xi 0), (0, xa t), (1, xa 223), (2, xi p1)]) rfl (by decide) rfl ?_
    refine xw_iconst rfl ?_
    refine xw_istore (L' := [(4, xi 0), (3, xi 0), (0, xa t), (1, xa 223), (2, xi p1)]) rfl (by decide) rfl ?_
    refine xw_lo (L2 := [(0, xa t), (1, xa 223), (2, xi p1), (3, xi 0), (4, xi 0)]) (List.forall_mem_cons.mpr ⟨rfl, List.forall_mem_cons.mpr ⟨rfl, List.forall_mem_cons.mpr ⟨rfl, List.forall_mem_cons.mpr ⟨rfl, List.forall_mem_cons.mpr ⟨rfl, fun _ h => absurd h List.not_mem_nil⟩⟩⟩⟩⟩) ?_
    exact q
  exact ygl99_5 hB 1000000 _ _ _ _ _ cp1 rfl rfl
theorem ysl98_86 {B : Nat} (hB : B ≤ 512) {xs : Nat → Int32} {SL d : Nat} {r86 : Int → Int → xw_M → xP} (hr86 : ∀ x0 x2 m, w32 x2 = x2 → xS B xs SL (d + 2) 98 (3, none, [], 10) 0 86 [(0, xa x0), (1, xa 223), (2, xi x2)] [] m (r86 x0 x2 m)) : ∀ x0 x2 m, w32 x2 = x2 → xS B xs SL (d + 2) 98 (3, none, [], 10) 0 86 [(0, xa x0), (1, xa 223), (2, xi x2)] [] m (yl98_86 B r86 x0 x2 m) := by
  intro x0 x2 m c2
  unfold yl98_86
  refine xS_of (pc' := 91) (L' := [(0, xa x0), (1, xa 223), (2, xi x2)]) (st' := [xi (xR m 223 8), xi x2]) (m' := m) (fun ex ns r q => ?_) ?_
  · refine xw_iload_n rfl rfl ?_
    refine xw_aload_n rfl rfl rfl ?_
    refine xw_gfIc (v := (m 223 8)) (v' := (xR m 223 8)) rfl (xw_obd (by decide +kernel)) xk4_8 (qi := 8) rfl rfl rfl ?_
    exact q
  refine xS_if (fun h0 => ?_) (fun h0 => ?_)
  · refine xS_g (fun g1 => ?_)
    refine xS_of (pc' := 100) (L' := [(0, xa x0), (1, xa 223), (2, xi x2)]) (st' := [xi (xR m 228 x2)]) (m' := m) (fun ex ns r q => ?_) ?_
    · refine xw_ic_geF rfl (w32_cg c2) (w32_cg (w32_xR _ _ _)) (Int.not_le.mpr h0) ?_
      refine xw_aload_n rfl rfl rfl ?_
      refine xw_gfR (n := 228) (e := 228) rfl (xw_obd (by decide +kernel)) (by decide +kernel) (by decide +kernel) rfl ?_
      refine xw_iload_n rfl rfl ?_
      refine xw_ialdc (n := 32) (v := (m 228 x2)) (v' := (xR m 228 x2)) rfl hB (xw_obd (by decide +kernel)) rfl g1 rfl rfl ?_
      exact q
    refine xS_if (fun h2 => ?_) (fun h2 => ?_)
    · refine xS_g (fun g3 => ?_)
      refine xS_of (pc' := 106) (L' := [(0, xa x0), (1, xa 223), (2, xi x2)]) (st' := [xi 0, xa 223, xa x0]) (m' := m) (fun ex ns r q => ?_) ?_
      · refine xw_if_neF rfl (w32_cg (w32_xR _ _ _)) h2 ?_
        refine xw_aload_n rfl rfl rfl ?_
        refine xw_aload_n rfl rfl rfl ?_
        refine xw_iconst rfl ?_
        refine xw_lo (L2 := [(0, xa x0), (1, xa 223), (2, xi x2)]) (List.forall_mem_cons.mpr ⟨rfl, List.forall_mem_cons.mpr ⟨rfl, List.forall_mem_cons.mpr ⟨rfl, fun _ h => absurd h List.not_mem_nil⟩⟩⟩) ?_
        exact q
      refine xS_call (q := 99) (n := 3) (kq := 1) (as := [xa x0, xa 223, xi 0]) (st1 := []) rfl rfl rfl rfl rfl rfl rfl rfl rfl rfl (fun _ => xw_rcv1 (t := 9) (xw_obd g3) rfl) rfl (List.forall_mem_cons.mpr ⟨rfl, List.forall_mem_cons.mpr ⟨rfl, List.forall_mem_cons.mpr ⟨rfl, fun _ h => absurd h List.not_mem_nil⟩⟩⟩) (ygf99 hB _ _ _ rfl) (fun v1 m1 cv1 => ?_)
      refine xS_of (pc' := 86) (L' := [(0, xa x0), (1, xa 223), (2, xi (w32 (x2 + 1)))]) (st' := []) (m' := m1) (fun ex ns r q => ?_) ?_
      · refine xw_pop rfl rfl ?_
        refine xw_iincc (z := (w32 (x2 + 1))) (L' := [(2, xi (w32 (x2 + 1))), (0, xa x0), (1, xa 223)]) rfl rfl (by decide) rfl rfl ?_
        refine xw_goto rfl ?_
        refine xw_lo (L2 := [(0, xa x0), (1, xa 223), (2, xi (w32 (x2 + 1)))]) (List.forall_mem_cons.mpr ⟨rfl, List.forall_mem_cons.mpr ⟨rfl, List.forall_mem_cons.mpr ⟨rfl, fun _ h => absurd h List.not_mem_nil⟩⟩⟩) ?_
        exact q
      exact hr86 _ _ _ (w32_w _)
    · refine xS_of (pc' := 86) (L' := [(0, xa x0), (1, xa 223), (2, xi (w32 (x2 + 1)))]) (st' := []) (m' := m) (fun ex ns r q => ?_) ?_
      · refine xw_if_neT rfl (w32_cg (w32_xR _ _ _)) h2 ?_
        refine xw_iincc (z := (w32 (x2 + 1))) (L' := [(2, xi (w32 (x2 + 1))), (0, xa x0), (1, xa 223)]) rfl rfl (by decide) rfl rfl ?_
        refine xw_goto rfl ?_
        refine xw_lo (L2 := [(0, xa x0), (1, xa 223), (2, xi (w32 (x2 + 1)))]) (List.forall_mem_cons.mpr ⟨rfl, List.forall_mem_cons.mpr ⟨rfl, List.forall_mem_cons.mpr ⟨rfl, fun _ h => absurd h List.not_mem_nil⟩⟩⟩) ?_
        exact q
      exact hr86 _ _ _ (w32_w _)
  · refine xS_of (pc' := 116) (L' := [(0, xa x0), (1, xa 223), (2, xi x2)]) (st' := []) (m' := m) (fun ex ns r q => ?_) ?_
    · refine xw_ic_geT rfl (w32_cg c2) (w32_cg (w32_xR _ _ _)) (Int.not_lt.mp h0) ?_
      exact q
    exact xS_ret (v := 0) rfl rfl rfl rfl
theorem ygl98_86 {B : Nat} (hB : B ≤ 512) {xs : Nat → Int32} {SL d : Nat} : ∀ n x0 x2 m, w32 x2 = x2 → xS B xs SL (d + 2) 98 (3, none, [], 10) 0 86 [(0, xa x0), (1, xa 223), (2, xi x2)] [] m (xl2 (yl98_86 B) n x0 x2 m) := by
  intro n
  induction n with
  | zero => intro x0 x2 m c2; exact xS_none
  | succ n ih => exact ysl98_86 hB ih
theorem ysl98_36 {B : Nat} (hB : B ≤ 512) {xs : Nat → Int32} {SL d : Nat} {r36 : Int → Int → xw_M → xP} (hr36 : ∀ x0 x2 m, w32 x2 = x2 → xS B xs SL (d + 2) 98 (3, none, [], 10) 0 36 [(0, xa x0), (1, xa 223), (2, xi x2)] [] m (r36 x0 x2 m)) : ∀ x0 x2 m, w32 x2 = x2 → xS B xs SL (d + 2) 98 (3, none, [], 10) 0 36 [(0, xa x0), (1, xa 223), (2, xi x2)] [] m (yl98_36 B r36 x0 x2 m) := by
  intro x0 x2 m c2
  unfold yl98_36
  refine xS_of (pc' := 41) (L' := [(0, xa x0), (1, xa 223), (2, xi x2)]) (st' := [xi (xR m 223 6), xi x2]) (m' := m) (fun ex ns r q => ?_) ?_
  · refine xw_iload_n rfl rfl ?_
    refine xw_aload_n rfl rfl rfl ?_
    refine xw_gfIc (v := (m 223 6)) (v' := (xR m 223 6)) rfl (xw_obd (by decide +kernel)) xk4_6 (qi := 6) rfl rfl rfl ?_
    exact q
  refine xS_if (fun h0 => ?_) (fun h0 => ?_)
  · refine xS_g (fun g1 => ?_)
    refine xS_g (fun g2 => ?_)
    refine xS_g (fun g3 => ?_)
    refine xS_g (fun g4 => ?_)
    refine xS_g (fun g5 => ?_)
    refine xS_g (fun g6 => ?_)
    refine xS_g (fun g7 => ?_)
    refine xS_g (fun g8 => ?_)
    refine xS_g (fun g9 => ?_)
    refine xS_of (pc' := 36) (L' := [(0, xa x0), (1, xa 223), (2, xi (w32 (x2 + 1)))]) (st' := []) (m' := (xw_u m (xw_rf x0 5) x2 (xR m (xw_rf (15 + (26 * ((xR m 227 x2) / 4))) 6) ((xR m 227 x2) % 4)))) (fun ex ns r q => ?_) ?_
    · refine xw_ic_geF rfl (w32_cg c2) (w32_cg (w32_xR _ _ _)) (Int.not_le.mpr h0) ?_
      refine xw_aload_n rfl rfl rfl ?_
      refine xw_gfV (qi := 5) rfl (xw_obd g1) xk9_5 rfl ?_
      refine xw_iload_n rfl rfl ?_
      refine xw_aload_n rfl rfl rfl ?_
      refine xw_gfR (n := 3) (e := 3) rfl (xw_obd (by decide +kernel)) (by decide +kernel) (by decide +kernel) rfl ?_
      refine xw_gfR (n := 4) (e := 4) rfl (xw_obd (by decide +kernel)) (by decide +kernel) (by decide +kernel) rfl ?_
      refine xw_aload_n rfl rfl rfl ?_
      refine xw_gfR (n := 227) (e := 227) rfl (xw_obd (by decide +kernel)) (by decide +kernel) (by decide +kernel) rfl ?_
      refine xw_iload_n rfl rfl ?_
      refine xw_ialdc (n := 8) (v := (m 227 x2)) (v' := (xR m 227 x2)) rfl hB (xw_obd (by decide +kernel)) rfl g2 rfl rfl ?_
      refine xw_iconst rfl ?_
      refine xw_idiv (z := ((xR m 227 x2) / 4)) rfl (xw_idivn ⟨(by decide), (w32_cg rfl).2⟩) (xw_idive ⟨g3, (w32_cg (w32_xR _ _ _)).2⟩ ⟨(by decide), (w32_cg rfl).2⟩) ?_
      refine xw_aald (t := 23) (n := 8) (q := 15 + 26 * (((xR m 227 x2) / 4)).toNat) (e := (15 + (26 * ((xR m 227 x2) / 4)))) rfl hB (xw_obd (by decide +kernel)) (by decide) rfl g4 (show 20 + 26 * (((xR m 227 x2) / 4) : Int).toNat = 15 + 26 * (((xR m 227 x2) / 4) : Int).toNat + 5 from by omega) (by have := g4; omega) ?_
      refine xw_gfV (qi := 6) rfl (xw_obd g5) xk3_6 rfl ?_
      refine xw_aload_n rfl rfl rfl ?_
      refine xw_gfR (n := 227) (e := 227) rfl (xw_obd (by decide +kernel)) (by decide +kernel) (by decide +kernel) rfl ?_
      refine xw_iload_n rfl rfl ?_
      refine xw_ialdc (n := 8) (v := (m 227 x2)) (v' := (xR m 227 x2)) rfl hB (xw_obd (by decide +kernel)) rfl g2 rfl rfl ?_
      refine xw_iconst rfl ?_
      refine xw_irem (z := ((xR m 227 x2) % 4)) rfl (xw_iremn ⟨(by decide), (w32_cg rfl).2⟩) (xw_ireme ⟨g3, (w32_cg (w32_xR _ _ _)).2⟩ ⟨(by decide), (w32_cg rfl).2⟩) ?_
      refine xw_ialdc (n := (xw_le B (xw_rf (15 + (26 * ((xR m 227 x2) / 4))) 6))) (v := (m (xw_rf (15 + (26 * ((xR m 227 x2) / 4))) 6) ((xR m 227 x2) % 4))) (v' := (xR m (xw_rf (15 + (26 * ((xR m 227 x2) / 4))) 6) ((xR m 227 x2) % 4))) rfl hB (xw_obd g7) rfl g6 rfl rfl ?_
      refine xw_iast (n := (xw_le B (xw_rf x0 5))) rfl hB (xw_obd g9) rfl g8 ?_
      refine xw_iincc (z := (w32 (x2 + 1))) (L' := [(2, xi (w32 (x2 + 1))), (0, xa x0), (1, xa 223)]) rfl rfl (by decide) rfl rfl ?_
      refine xw_goto rfl ?_
      refine xw_lo (L2 := [(0, xa x0), (1, xa 223), (2, xi (w32 (x2 + 1)))]) (List.forall_mem_cons.mpr ⟨rfl, List.forall_mem_cons.mpr ⟨rfl, List.forall_mem_cons.mpr ⟨rfl, fun _ h => absurd h List.not_mem_nil⟩⟩⟩) ?_
      exact q
    exact hr36 _ _ _ (w32_w _)
  · refine xS_of (pc' := 86) (L' := [(0, xa x0), (1, xa 223), (2, xi 0)]) (st' := []) (m' := m) (fun ex ns r q => ?_) ?_
    · refine xw_ic_geT rfl (w32_cg c2) (w32_cg (w32_xR _ _ _)) (Int.not_lt.mp h0) ?_
      refine xw_iconst rfl ?_
      refine xw_istore_n (L' := [(2, xi 0), (0, xa x0), (1, xa 223)]) rfl (by decide) rfl ?_
      refine xw_lo (L2 := [(0, xa x0), (1, xa 223), (2, xi 0)]) (List.forall_mem_cons.mpr ⟨rfl, List.forall_mem_cons.mpr ⟨rfl, List.forall_mem_cons.mpr ⟨rfl, fun _ h => absurd h List.not_mem_nil⟩⟩⟩) ?_
      exact q
    exact ygl98_86 hB 1000000 _ _ _ rfl
theorem ygl98_36 {B : Nat} (hB : B ≤ 512) {xs : Nat → Int32} {SL d : Nat} : ∀ n x0 x2 m, w32 x2 = x2 → xS B xs SL (d + 2) 98 (3, none, [], 10) 0 36 [(0, xa x0), (1, xa 223), (2, xi x2)] [] m (xl2 (yl98_36 B) n x0 x2 m) := by
  intro n
  induction n with
  | zero => intro x0 x2 m c2; exact xS_none
  | succ n ih => exact ysl98_36 hB ih
theorem ygf98 {B : Nat} (hB : B ≤ 512) {xs : Nat → Int32} {SL d : Nat} : ∀ t m, xS B xs SL (d + 2) 98 (3, none, [], 10) 0 0 [(0, xa t), (1, xa 223)] [] m (yf98 B t m) := by
  intro t m
  unfold yf98
  refine xS_g (fun g0 => ?_)
  refine xS_g (fun g1 => ?_)
  refine xS_of (pc' := 31) (L' := [(0, xa t), (1, xa 223)]) (st' := [xi (-1), xa (xw_rf t 3)]) (m' := (xw_u (xw_u (xw_u (xw_u m t 7 0) t 8 0) t 6 (xR m 223 2)) (xw_rf t 0) 5 0)) (fun ex ns r q => ?_) ?_
  · refine xw_aload_n rfl rfl rfl ?_
    refine xw_iconst rfl ?_
    refine xw_pfI rfl (xw_obd g0) xk9_7 (qi := 7) rfl (xw_okZ rfl (Or.inl rfl)) ?_
    refine xw_aload_n rfl rfl rfl ?_
    refine xw_iconst rfl ?_
    refine xw_pfI rfl (xw_obd g0) xk9_8 (qi := 8) rfl (xw_okZ rfl (Or.inl rfl)) ?_
    refine xw_aload_n rfl rfl rfl ?_
    refine xw_aload_n rfl rfl rfl ?_
    refine xw_gfIc (v := (m 223 2)) (v' := (xR m 223 2)) rfl (xw_obd (by decide +kernel)) xk4_2 (qi := 2) rfl (xw_un (fun e => absurd e.2 (by decide)) (xw_un (fun e => absurd e.2 (by decide)) rfl)) rfl ?_
    refine xw_pfI rfl (xw_obd g0) xk9_6 (qi := 6) rfl (xw_okI rfl) ?_
    refine xw_aload_n rfl rfl rfl ?_
    refine xw_gfV (qi := 0) rfl (xw_obd g0) xk9_0 rfl ?_
    refine xw_iconst rfl ?_
    refine xw_pfI rfl (xw_obd g1) xk8_5 (qi := 5) rfl (xw_okI rfl) ?_
    refine xw_aload_n rfl rfl rfl ?_
    refine xw_gfV (qi := 3) rfl (xw_obd g0) xk9_3 rfl ?_
    refine xw_iconst rfl ?_
    refine xw_lo (L2 := [(0, xa t), (1, xa 223)]) (List.forall_mem_cons.mpr ⟨rfl, List.forall_mem_cons.mpr ⟨rfl, fun _ h => absurd h List.not_mem_nil⟩⟩) ?_
    exact q
  refine xS_call (q := 31) (n := 2) (kq := 0) (as := [xa (xw_rf t 3), xi (-1)]) (st1 := []) rfl rfl rfl rfl rfl rfl rfl rfl rfl rfl (fun _ => xw_rcv0 rfl) rfl (List.forall_mem_cons.mpr ⟨rfl, List.forall_mem_cons.mpr ⟨rfl, fun _ h => absurd h List.not_mem_nil⟩⟩) (ygf31 hB _ _ _ rfl) (fun v1 m1 cv1 => ?_)
  refine xS_of (pc' := 36) (L' := [(0, xa t), (1, xa 223), (2, xi 0)]) (st' := []) (m' := m1) (fun ex ns r q => ?_) ?_
  · refine xw_iconst rfl ?_
    refine xw_istore_n (L' := [(2, xi 0), (0, xa t), (1, xa 223)]) rfl (by decide) rfl ?_
    refine xw_lo (L2 := [(0, xa t), (1, xa 223), (2, xi 0)]) (List.forall_mem_cons.mpr ⟨rfl, List.forall_mem_cons.mpr ⟨rfl, List.forall_mem_cons.mpr ⟨rfl, fun _ h => absurd h List.not_mem_nil⟩⟩⟩) ?_
    exact q
  exact ygl98_36 hB 1000000 _ _ _ rfl
theorem ysl102_2 {B : Nat} (hB : B ≤ 512) {xs : Nat → Int32} {SL d : Nat} {r2 : Int → xw_M → xP} (hr2 : ∀ x1 m, w32 x1 = x1 → xS B xs SL (d + 0) 102 (2, (some .int), [], 11) 1 2 [(0, xa 508), (1, xi x1)] [] m (r2 x1 m)) : ∀ x1 m, w32 x1 = x1 → xS B xs SL (d + 0) 102 (2, (some .int), [], 11) 1 2 [(0, xa 508), (1, xi x1)] [] m (yl102_2 B r2 x1 m) := by
  intro x1 m c1
  unfold yl102_2
  refine xS_of (pc' := 7) (L' := [(0, xa 508), (1, xi x1)]) (st' := [xi (xR m 508 14), xi x1]) (m' := m) (fun ex ns r q => ?_) ?_
  · refine xw_iload_n rfl rfl ?_
    refine xw_aload_n rfl rfl rfl ?_
    refine xw_gfIc (v := (m 508 14)) (v' := (xR m 508 14)) rfl (xw_obd (by decide +kernel)) xk10_14 (qi := 14) rfl rfl rfl ?_
    exact q
  refine xS_if (fun h0 => ?_) (fun h0 => ?_)
  · refine xS_g (fun g1 => ?_)
    refine xS_of (pc' := 17) (L' := [(0, xa 508), (1, xi x1)]) (st' := [xi 3, xi (xR m 513 x1)]) (m' := m) (fun ex ns r q => ?_) ?_
    · refine xw_ic_geF rfl (w32_cg c1) (w32_cg (w32_xR _ _ _)) (Int.not_le.mpr h0) ?_
      refine xw_aload_n rfl rfl rfl ?_
      refine xw_gfR (n := 513) (e := 513) rfl (xw_obd (by decide +kernel)) (by decide +kernel) (by decide +kernel) rfl ?_
      refine xw_iload_n rfl rfl ?_
      refine xw_ialdc (n := 200) (v := (m 513 x1)) (v' := (xR m 513 x1)) rfl hB (xw_obd (by decide +kernel)) rfl g1 rfl rfl ?_
      refine xw_iconst rfl ?_
      exact q
    refine xS_if (fun h2 => ?_) (fun h2 => ?_)
    · refine xS_of (pc' := 21) (L' := [(0, xa 508), (1, xi x1)]) (st' := [xi x1]) (m' := m) (fun ex ns r q => ?_) ?_
      · refine xw_ic_neF rfl (w32_cg (w32_xR _ _ _)) (w32_cg rfl) h2 ?_
        refine xw_iload_n rfl rfl ?_
        exact q
      exact xS_ret (v := x1) rfl rfl xw_rtI c1
    · refine xS_of (pc' := 2) (L' := [(0, xa 508), (1, xi (w32 (x1 + 1)))]) (st' := []) (m' := m) (fun ex ns r q => ?_) ?_
      · refine xw_ic_neT rfl (w32_cg (w32_xR _ _ _)) (w32_cg rfl) h2 ?_
        refine xw_iincc (z := (w32 (x1 + 1))) (L' := [(1, xi (w32 (x1 + 1))), (0, xa 508)]) rfl rfl (by decide) rfl rfl ?_
        refine xw_goto rfl ?_
        refine xw_lo (L2 := [(0, xa 508), (1, xi (w32 (x1 + 1)))]) (List.forall_mem_cons.mpr ⟨rfl, List.forall_mem_cons.mpr ⟨rfl, fun _ h => absurd h List.not_mem_nil⟩⟩) ?_
        exact q
      exact hr2 _ _ (w32_w _)
  · refine xS_of (pc' := 29) (L' := [(0, xa 508), (1, xi x1)]) (st' := [xi 1]) (m' := m) (fun ex ns r q => ?_) ?_
    · refine xw_ic_geT rfl (w32_cg c1) (w32_cg (w32_xR _ _ _)) (Int.not_lt.mp h0) ?_
      refine xw_iconst rfl ?_
      exact q
    exact xS_ret (v := 1) rfl rfl xw_rtI rfl
theorem ygl102_2 {B : Nat} (hB : B ≤ 512) {xs : Nat → Int32} {SL d : Nat} : ∀ n x1 m, w32 x1 = x1 → xS B xs SL (d + 0) 102 (2, (some .int), [], 11) 1 2 [(0, xa 508), (1, xi x1)] [] m (xl1 (yl102_2 B) n x1 m) := by
  intro n
  induction n with
  | zero => intro x1 m c1; exact xS_none
  | succ n ih => exact ysl102_2 hB ih
theorem ygf102 {B : Nat} (hB : B ≤ 512) {xs : Nat → Int32} {SL d : Nat} : ∀ m, xS B xs SL (d + 0) 102 (2, (some .int), [], 11) 1 0 [(0, xa 508)] [] m (yf102 B m) := by
  intro m
  unfold yf102
  refine xS_of (pc' := 2) (L' := [(0, xa 508), (1, xi 0)]) (st' := []) (m' := m) (fun ex ns r q => ?_) ?_
  · refine xw_iconst rfl ?_
    refine xw_istore_n (L' := [(1, xi 0), (0, xa 508)]) rfl (by decide) rfl ?_
    refine xw_lo (L2 := [(0, xa 508), (1, xi 0)]) (List.forall_mem_cons.mpr ⟨rfl, List.forall_mem_cons.mpr ⟨rfl, fun _ h => absurd h List.not_mem_nil⟩⟩) ?_
    exact q
  exact ygl102_2 hB 1000000 _ _ rfl
theorem ygf103 {B : Nat} (hB : B ≤ 512) {xs : Nat → Int32} {SL d : Nat} : ∀ p0 m, w32 p0 = p0 → xS B xs SL (d + 0) 103 (2, (some .boolean), [], 11) 4 0 [(0, xa 508), (1, xi p0)] [] m (yf103 B p0 m) := by
  intro p0 m cp0
  unfold yf103
  refine xS_g (fun g0 => ?_)
  refine xS_of (pc' := 7) (L' := [(0, xa 508), (1, xi p0)]) (st' := [xi 2, xi (xR m 513 p0)]) (m' := m) (fun ex ns r q => ?_) ?_
  · refine xw_aload_n rfl rfl rfl ?_
    refine xw_gfR (n := 513) (e := 513) rfl (xw_obd (by decide +kernel)) (by decide +kernel) (by decide +kernel) rfl ?_
    refine xw_iload_n rfl rfl ?_
    refine xw_ialdc (n := 200) (v := (m 513 p0)) (v' := (xR m 513 p0)) rfl hB (xw_obd (by decide +kernel)) rfl g0 rfl rfl ?_
    refine xw_iconst rfl ?_
    exact q
  refine xS_if (fun h1 => ?_) (fun h1 => ?_)
  · refine xS_of (pc' := 25) (L' := [(0, xa 508), (1, xi p0)]) (st' := [xi 1]) (m' := m) (fun ex ns r q => ?_) ?_
    · refine xw_ic_eqT rfl (w32_cg (w32_xR _ _ _)) (w32_cg rfl) h1 ?_
      refine xw_iconst rfl ?_
      refine xw_goto rfl ?_
      exact q
    exact xS_ret (v := 1) rfl rfl (xw_rtZ (Or.inr rfl)) (Or.inr rfl)
  · refine xS_of (pc' := 17) (L' := [(0, xa 508), (1, xi p0)]) (st' := [xi 4, xi (xR m 513 p0)]) (m' := m) (fun ex ns r q => ?_) ?_
    · refine xw_ic_eqF rfl (w32_cg (w32_xR _ _ _)) (w32_cg rfl) h1 ?_
      refine xw_aload_n rfl rfl rfl ?_
      refine xw_gfR (n := 513) (e := 513) rfl (xw_obd (by decide +kernel)) (by decide +kernel) (by decide +kernel) rfl ?_
      refine xw_iload_n rfl rfl ?_
      refine xw_ialdc (n := 200) (v := (m 513 p0)) (v' := (xR m 513 p0)) rfl hB (xw_obd (by decide +kernel)) rfl g0 rfl rfl ?_
      refine xw_iconst rfl ?_
      exact q
    refine xS_if (fun h2 => ?_) (fun h2 => ?_)
    · refine xS_of (pc' := 25) (L' := [(0, xa 508), (1, xi p0)]) (st' := [xi 1]) (m' := m) (fun ex ns r q => ?_) ?_
      · refine xw_ic_neF rfl (w32_cg (w32_xR _ _ _)) (w32_cg rfl) h2 ?_
        refine xw_iconst rfl ?_
        refine xw_goto rfl ?_
        exact q
      exact xS_ret (v := 1) rfl rfl (xw_rtZ (Or.inr rfl)) (Or.inr rfl)
    · refine xS_of (pc' := 25) (L' := [(0, xa 508), (1, xi p0)]) (st' := [xi 0]) (m' := m) (fun ex ns r q => ?_) ?_
      · refine xw_ic_neT rfl (w32_cg (w32_xR _ _ _)) (w32_cg rfl) h2 ?_
        refine xw_iconst rfl ?_
        exact q
      exact xS_ret (v := 0) rfl rfl (xw_rtZ (Or.inl rfl)) (Or.inl rfl)
theorem ysl105_18 {B : Nat} (hB : B ≤ 512) {xs : Nat → Int32} {SL d : Nat} {r18 : Int → xw_M → xP} (hr18 : ∀ x1 m, w32 x1 = x1 → xS B xs SL (d + 0) 105 (2, none, [], 8) 0 18 [(0, xa 302), (1, xi x1)] [] m (r18 x1 m)) : ∀ x1 m, w32 x1 = x1 → xS B xs SL (d + 0) 105 (2, none, [], 8) 0 18 [(0, xa 302), (1, xi x1)] [] m (yl105_18 B r18 x1 m) := by
  intro x1 m c1
  unfold yl105_18
  refine xS_of (pc' := 23) (L' := [(0, xa 302), (1, xi x1)]) (st' := [xi (xR m 302 5), xi x1]) (m' := m) (fun ex ns r q => ?_) ?_
  · refine xw_iload_n rfl rfl ?_
    refine xw_aload_n rfl rfl rfl ?_
    refine xw_gfIc (v := (m 302 5)) (v' := (xR m 302 5)) rfl (xw_obd (by decide +kernel)) xk7_5 (qi := 5) rfl rfl rfl ?_
    exact q
  refine xS_if (fun h0 => ?_) (fun h0 => ?_)
  · refine xS_g (fun g1 => ?_)
    refine xS_of (pc' := 18) (L' := [(0, xa 302), (1, xi (w32 (x1 + 1)))]) (st' := []) (m' := (xw_u (xw_u m 371 x1 0) 372 x1 x1)) (fun ex ns r q => ?_) ?_
    · refine xw_ic_geF rfl (w32_cg c1) (w32_cg (w32_xR _ _ _)) (Int.not_le.mpr h0) ?_
      refine xw_aload_n rfl rfl rfl ?_
      refine xw_gfR (n := 371) (e := 371) rfl (xw_obd (by decide +kernel)) (by decide +kernel) (by decide +kernel) rfl ?_
      refine xw_iload_n rfl rfl ?_
      refine xw_iconst rfl ?_
      refine xw_iast (n := 8) rfl hB (xw_obd (by decide +kernel)) rfl g1 ?_
      refine xw_aload_n rfl rfl rfl ?_
      refine xw_gfR (n := 372) (e := 372) rfl (xw_obd (by decide +kernel)) (by decide +kernel) (by decide +kernel) rfl ?_
      refine xw_iload_n rfl rfl ?_
      refine xw_iload_n rfl rfl ?_
      refine xw_iast (n := 8) rfl hB (xw_obd (by decide +kernel)) rfl g1 ?_
      refine xw_iincc (z := (w32 (x1 + 1))) (L' := [(1, xi (w32 (x1 + 1))), (0, xa 302)]) rfl rfl (by decide) rfl rfl ?_
      refine xw_goto rfl ?_
      refine xw_lo (L2 := [(0, xa 302), (1, xi (w32 (x1 + 1)))]) (List.forall_mem_cons.mpr ⟨rfl, List.forall_mem_cons.mpr ⟨rfl, fun _ h => absurd h List.not_mem_nil⟩⟩) ?_
      exact q
    exact hr18 _ _ (w32_w _)
  · refine xS_of (pc' := 62) (L' := [(0, xa 302), (1, xi x1)]) (st' := []) (m' := (xw_u m 302 6 ((xR m 302 5) + (xR m 3 2)))) (fun ex ns r q => ?_) ?_
    · refine xw_ic_geT rfl (w32_cg c1) (w32_cg (w32_xR _ _ _)) (Int.not_lt.mp h0) ?_
      refine xw_aload_n rfl rfl rfl ?_
      refine xw_aload_n rfl rfl rfl ?_
      refine xw_gfIc (v := (m 302 5)) (v' := (xR m 302 5)) rfl (xw_obd (by decide +kernel)) xk7_5 (qi := 5) rfl rfl rfl ?_
      refine xw_aload_n rfl rfl rfl ?_
      refine xw_gfR (n := 3) (e := 3) rfl (xw_obd (by decide +kernel)) (by decide +kernel) (by decide +kernel) rfl ?_
      refine xw_gfIc (v := (m 3 2)) (v' := (xR m 3 2)) rfl (xw_obd (by decide +kernel)) xk2_2 (qi := 2) rfl rfl rfl ?_
      refine xw_iadd rfl ?_
      refine xw_pfI rfl (xw_obd (by decide +kernel)) xk7_6 (qi := 6) rfl (xw_okI rfl) ?_
      exact q
    exact xS_ret (v := 0) rfl rfl rfl rfl
theorem ygl105_18 {B : Nat} (hB : B ≤ 512) {xs : Nat → Int32} {SL d : Nat} : ∀ n x1 m, w32 x1 = x1 → xS B xs SL (d + 0) 105 (2, none, [], 8) 0 18 [(0, xa 302), (1, xi x1)] [] m (xl1 (yl105_18 B) n x1 m) := by
  intro n
  induction n with
  | zero => intro x1 m c1; exact xS_none
  | succ n ih => exact ysl105_18 hB ih
theorem ygf105 {B : Nat} (hB : B ≤ 512) {xs : Nat → Int32} {SL d : Nat} : ∀ m, xS B xs SL (d + 0) 105 (2, none, [], 8) 0 0 [(0, xa 302)] [] m (yf105 B m) := by
  intro m
  unfold yf105
  refine xS_of (pc' := 18) (L' := [(0, xa 302), (1, xi 0)]) (st' := []) (m' := (xw_u (xw_u m 302 7 0) 302 5 (xR m 3 1))) (fun ex ns r q => ?_) ?_
  · refine xw_aload_n rfl rfl rfl ?_
    refine xw_iconst rfl ?_
    refine xw_pfI rfl (xw_obd (by decide +kernel)) xk7_7 (qi := 7) rfl (xw_okZ rfl (Or.inl rfl)) ?_
    refine xw_aload_n rfl rfl rfl ?_
    refine xw_aload_n rfl rfl rfl ?_
    refine xw_gfR (n := 3) (e := 3) rfl (xw_obd (by decide +kernel)) (by decide +kernel) (by decide +kernel) rfl ?_
    refine xw_gfIc (v := (m 3 1)) (v' := (xR m 3 1)) rfl (xw_obd (by decide +kernel)) xk2_1 (qi := 1) rfl (xw_un (fun e => absurd e.1 (by decide)) rfl) rfl ?_
    refine xw_pfI rfl (xw_obd (by decide +kernel)) xk7_5 (qi := 5) rfl (xw_okI rfl) ?_
    refine xw_iconst rfl ?_
    refine xw_istore_n (L' := [(1, xi 0), (0, xa 302)]) rfl (by decide) rfl ?_
    refine xw_lo (L2 := [(0, xa 302), (1, xi 0)]) (List.forall_mem_cons.mpr ⟨rfl, List.forall_mem_cons.mpr ⟨rfl, fun _ h => absurd h List.not_mem_nil⟩⟩) ?_
    exact q
  exact ygl105_18 hB 1000000 _ _ rfl
theorem ygf107 {B : Nat} (hB : B ≤ 512) {xs : Nat → Int32} {SL d : Nat} : ∀ p0 m, xS B xs SL (d + 2) 107 (2, (some .int), [], 8) 1 0 [(0, xa 302), (1, xa p0)] [] m (yf107 B p0 m) := by
  intro p0 m
  unfold yf107
  refine xS_g (fun g0 => ?_)
  refine xS_of (pc' := 6) (L' := []) (st' := [xi 20000, xi 32, xa p0]) (m' := m) (fun ex ns r q => ?_) ?_
  · refine xw_aload_n rfl rfl rfl ?_
    refine xw_bipush (e := 32) rfl (by decide +kernel) ?_
    refine xw_sipush (e := 20000) rfl (by decide +kernel) ?_
    refine xw_lo (L2 := []) (fun _ h => absurd h List.not_mem_nil) ?_
    exact q
  refine xS_call (q := 20) (n := 3) (kq := 1) (as := [xa p0, xi 32, xi 20000]) (st1 := []) rfl rfl rfl rfl rfl rfl rfl rfl rfl rfl (fun _ => xw_rcv1 (t := 11) (xw_obd g0) rfl) rfl (List.forall_mem_cons.mpr ⟨rfl, List.forall_mem_cons.mpr ⟨rfl, List.forall_mem_cons.mpr ⟨rfl, fun _ h => absurd h List.not_mem_nil⟩⟩⟩) (ygf20 hB _ _ _ _ rfl rfl) (fun v1 m1 cv1 => ?_)
  exact xS_ret (v := v1) rfl rfl xw_rtI cv1
theorem ygf108 {B : Nat} (hB : B ≤ 512) {xs : Nat → Int32} {SL d : Nat} : ∀ t m, xS B xs SL (d + 1) 108 (2, none, [], 12) 0 0 [(0, xa t)] [] m (yf108 B t m) := by
  intro t m
  unfold yf108
  refine xS_g (fun g0 => ?_)
  refine xS_of (pc' := 3) (L' := [(0, xa t)]) (st' := [xi 8, xa t]) (m' := m) (fun ex ns r q => ?_) ?_
  · refine xw_aload_n rfl rfl rfl ?_
    refine xw_bipush (e := 8) rfl (by decide +kernel) ?_
    refine xw_lo (L2 := [(0, xa t)]) (List.forall_mem_cons.mpr ⟨rfl, fun _ h => absurd h List.not_mem_nil⟩) ?_
    exact q
  refine xS_call (q := 19) (n := 2) (kq := 2) (as := [xa t, xi 8]) (st1 := []) rfl rfl rfl rfl rfl rfl rfl rfl rfl rfl (fun _ => xw_rcv1 (t := 11) (xw_obd g0) rfl) rfl (List.forall_mem_cons.mpr ⟨rfl, List.forall_mem_cons.mpr ⟨rfl, fun _ h => absurd h List.not_mem_nil⟩⟩) (ygf19 hB _ _ _ rfl) (fun v1 m1 cv1 => ?_)
  refine xS_of (pc' := 10) (L' := [(0, xa t)]) (st' := [xi 24, xa t]) (m' := m1) (fun ex ns r q => ?_) ?_
  · refine xw_pop2J rfl (show ¬ (false = true) from Bool.false_ne_true) ?_
    refine xw_aload_n rfl rfl rfl ?_
    refine xw_bipush (e := 24) rfl (by decide +kernel) ?_
    refine xw_lo (L2 := [(0, xa t)]) (List.forall_mem_cons.mpr ⟨rfl, fun _ h => absurd h List.not_mem_nil⟩) ?_
    exact q
  refine xS_call (q := 19) (n := 2) (kq := 2) (as := [xa t, xi 24]) (st1 := []) rfl rfl rfl rfl rfl rfl rfl rfl rfl rfl (fun _ => xw_rcv1 (t := 11) (xw_obd g0) rfl) rfl (List.forall_mem_cons.mpr ⟨rfl, List.forall_mem_cons.mpr ⟨rfl, fun _ h => absurd h List.not_mem_nil⟩⟩) (ygf19 hB _ _ _ rfl) (fun v2 m2 cv2 => ?_)
  refine xS_of (pc' := 39) (L' := [(1, xi (w32 v2)), (0, xa t)]) (st' := []) (m' := (xw_u m2 t 2 (min (xR m2 t 1) (w32 (((xR m2 t 2) + 128) + ((w32 v2) * 8)))))) (fun ex ns r q => ?_) ?_
  · refine xw_l2i rfl ?_
    refine xw_cst (st' := [xi (w32 v2)]) (xw_sc (xi_c rfl) rfl) ?_
    refine xw_istore_n (L' := [(1, xi (w32 v2)), (0, xa t)]) rfl (by decide) rfl ?_
    refine xw_aload_n rfl rfl rfl ?_
    refine xw_aload_n rfl rfl rfl ?_
    refine xw_gfIc (v := (m2 t 1)) (v' := (xR m2 t 1)) rfl (xw_obd g0) xk11_1 (qi := 1) rfl rfl rfl ?_
    refine xw_aload_n rfl rfl rfl ?_
    refine xw_gfIc (v := (m2 t 2)) (v' := (xR m2 t 2)) rfl (xw_obd g0) xk11_2 (qi := 2) rfl rfl rfl ?_
    refine xw_sipush (e := 128) rfl (by decide +kernel) ?_
    refine xw_iadd rfl ?_
    refine xw_iload_n rfl rfl ?_
    refine xw_bipush (e := 8) rfl (by decide +kernel) ?_
    refine xw_imul rfl ?_
    refine xw_iadd rfl ?_
    refine xw_cst (st' := [xi (w32 (((xR m2 t 2) + 128) + ((w32 v2) * 8))), xi (xR m2 t 1), xa t]) (xw_sc (xi_c rfl) (xw_sc rfl rfl)) ?_
    refine xw_minI rfl rfl (w32_cg (w32_xR _ _ _)) (w32_cg (w32_w _)) rfl ?_
    refine xw_pfI rfl (xw_obd g0) xk11_2 (qi := 2) rfl (xw_okI rfl) ?_
    exact q
  exact xS_ret (v := 0) rfl rfl rfl rfl
theorem ysl106_19 {B : Nat} (hB : B ≤ 512) {xs : Nat → Int32} {SL d : Nat} {r6 : Int → Int → xw_M → xP} (hr6 : ∀ x1 x2 m, w32 x2 = x2 → xS B xs SL (d + 3) 106 (4, none, [], 8) 0 6 [(0, xa 302), (1, xa x1), (2, xi x2)] [] m (r6 x1 x2 m)) {r19 : Int → Int → Int → xw_M → xP} (hr19 : ∀ x1 x2 x3 m, w32 x2 = x2 → w32 x3 = x3 → xS B xs SL (d + 3) 106 (4, none, [], 8) 0 19 [(0, xa 302), (1, xa x1), (2, xi x2), (3, xi x3)] [] m (r19 x1 x2 x3 m)) : ∀ x1 x2 x3 m, w32 x2 = x2 → w32 x3 = x3 → xS B xs SL (d + 3) 106 (4, none, [], 8) 0 19 [(0, xa 302), (1, xa x1), (2, xi x2), (3, xi x3)] [] m (yl106_19 B r6 r19 x1 x2 x3 m) := by
  intro x1 x2 x3 m c2 c3
  unfold yl106_19
  refine xS_of (pc' := 24) (L' := [(0, xa 302), (1, xa x1), (2, xi x2), (3, xi x3)]) (st' := [xi (xR m 302 6), xi x3]) (m' := m) (fun ex ns r q => ?_) ?_
  · refine xw_iload_n rfl rfl ?_
    refine xw_aload_n rfl rfl rfl ?_
    refine xw_gfIc (v := (m 302 6)) (v' := (xR m 302 6)) rfl (xw_obd (by decide +kernel)) xk7_6 (qi := 6) rfl rfl rfl ?_
    exact q
  refine xS_if (fun h0 => ?_) (fun h0 => ?_)
  · refine xS_g (fun g1 => ?_)
    refine xS_of (pc' := 28) (L' := [(0, xa 302), (1, xa x1), (2, xi x2), (3, xi x3)]) (st' := [xa x1]) (m' := m) (fun ex ns r q => ?_) ?_
    · refine xw_ic_geF rfl (w32_cg c3) (w32_cg (w32_xR _ _ _)) (Int.not_le.mpr h0) ?_
      refine xw_aload_n rfl rfl rfl ?_
      refine xw_lo (L2 := [(0, xa 302), (1, xa x1), (2, xi x2), (3, xi x3)]) (List.forall_mem_cons.mpr ⟨rfl, List.forall_mem_cons.mpr ⟨rfl, List.forall_mem_cons.mpr ⟨rfl, List.forall_mem_cons.mpr ⟨rfl, fun _ h => absurd h List.not_mem_nil⟩⟩⟩⟩) ?_
      exact q
    refine xS_call (q := 108) (n := 1) (kq := 0) (as := [xa x1]) (st1 := []) rfl rfl rfl rfl rfl rfl rfl rfl rfl rfl (fun _ => xw_rcv1 (t := 11) (xw_obd g1) rfl) rfl (List.forall_mem_cons.mpr ⟨rfl, fun _ h => absurd h List.not_mem_nil⟩) (ygf108 hB _ _) (fun v1 m1 cv1 => ?_)
    refine xS_of (pc' := 19) (L' := [(0, xa 302), (1, xa x1), (2, xi x2), (3, xi (w32 (x3 + 1)))]) (st' := []) (m' := m1) (fun ex ns r q => ?_) ?_
    · refine xw_iincc (z := (w32 (x3 + 1))) (L' := [(3, xi (w32 (x3 + 1))), (0, xa 302), (1, xa x1), (2, xi x2)]) rfl rfl (by decide) rfl rfl ?_
      refine xw_goto rfl ?_
      refine xw_lo (L2 := [(0, xa 302), (1, xa x1), (2, xi x2), (3, xi (w32 (x3 + 1)))]) (List.forall_mem_cons.mpr ⟨rfl, List.forall_mem_cons.mpr ⟨rfl, List.forall_mem_cons.mpr ⟨rfl, List.forall_mem_cons.mpr ⟨rfl, fun _ h => absurd h List.not_mem_nil⟩⟩⟩⟩) ?_
      exact q
    exact hr19 _ _ _ _ c2 (w32_w _)
  · refine xS_of (pc' := 6) (L' := [(0, xa 302), (1, xa x1), (2, xi (w32 (x2 + (-1024))))]) (st' := []) (m' := m) (fun ex ns r q => ?_) ?_
    · refine xw_ic_geT rfl (w32_cg c3) (w32_cg (w32_xR _ _ _)) (Int.not_lt.mp h0) ?_
      refine xw_iincc (z := (w32 (x2 + (-1024)))) (L' := [(2, xi (w32 (x2 + (-1024)))), (0, xa 302), (1, xa x1), (3, xi x3)]) rfl rfl (by decide) rfl rfl ?_
      refine xw_goto rfl ?_
      refine xw_lo (L2 := [(0, xa 302), (1, xa x1), (2, xi (w32 (x2 + (-1024))))]) (List.forall_mem_cons.mpr ⟨rfl, List.forall_mem_cons.mpr ⟨rfl, List.forall_mem_cons.mpr ⟨rfl, fun _ h => absurd h List.not_mem_nil⟩⟩⟩) ?_
      exact q
    exact hr6 _ _ _ (w32_w _)
theorem ygl106_19 {B : Nat} (hB : B ≤ 512) {xs : Nat → Int32} {SL d : Nat} {r6 : Int → Int → xw_M → xP} (hr6 : ∀ x1 x2 m, w32 x2 = x2 → xS B xs SL (d + 3) 106 (4, none, [], 8) 0 6 [(0, xa 302), (1, xa x1), (2, xi x2)] [] m (r6 x1 x2 m)) : ∀ n x1 x2 x3 m, w32 x2 = x2 → w32 x3 = x3 → xS B xs SL (d + 3) 106 (4, none, [], 8) 0 19 [(0, xa 302), (1, xa x1), (2, xi x2), (3, xi x3)] [] m (xl3 (yl106_19 B r6) n x1 x2 x3 m) := by
  intro n
  induction n with
  | zero => intro x1 x2 x3 m c2 c3; exact xS_none
  | succ n ih => exact ysl106_19 hB hr6 ih
theorem ysl106_6 {B : Nat} (hB : B ≤ 512) {xs : Nat → Int32} {SL d : Nat} {r6 : Int → Int → xw_M → xP} (hr6 : ∀ x1 x2 m, w32 x2 = x2 → xS B xs SL (d + 3) 106 (4, none, [], 8) 0 6 [(0, xa 302), (1, xa x1), (2, xi x2)] [] m (r6 x1 x2 m)) : ∀ x1 x2 m, w32 x2 = x2 → xS B xs SL (d + 3) 106 (4, none, [], 8) 0 6 [(0, xa 302), (1, xa x1), (2, xi x2)] [] m (yl106_6 B r6 x1 x2 m) := by
  intro x1 x2 m c2
  unfold yl106_6
  refine xS_of (pc' := 7) (L' := [(0, xa 302), (1, xa x1), (2, xi x2)]) (st' := [xi x2]) (m' := m) (fun ex ns r q => ?_) ?_
  · refine xw_iload_n rfl rfl ?_
    exact q
  refine xS_if (fun h0 => ?_) (fun h0 => ?_)
  · refine xS_g (fun g1 => ?_)
    refine xS_of (pc' := 13) (L' := [(0, xa 302), (1, xa x1), (2, xi x2)]) (st' := [xi 16, xa x1]) (m' := m) (fun ex ns r q => ?_) ?_
    · refine xw_if_leF rfl (w32_cg c2) (Int.not_le.mpr h0) ?_
      refine xw_aload_n rfl rfl rfl ?_
      refine xw_bipush (e := 16) rfl (by decide +kernel) ?_
      refine xw_lo (L2 := [(0, xa 302), (1, xa x1), (2, xi x2)]) (List.forall_mem_cons.mpr ⟨rfl, List.forall_mem_cons.mpr ⟨rfl, List.forall_mem_cons.mpr ⟨rfl, fun _ h => absurd h List.not_mem_nil⟩⟩⟩) ?_
      exact q
    refine xS_call (q := 19) (n := 2) (kq := 2) (as := [xa x1, xi 16]) (st1 := []) rfl rfl rfl rfl rfl rfl rfl rfl rfl rfl (fun _ => xw_rcv1 (t := 11) (xw_obd g1) rfl) rfl (List.forall_mem_cons.mpr ⟨rfl, List.forall_mem_cons.mpr ⟨rfl, fun _ h => absurd h List.not_mem_nil⟩⟩) (ygf19 hB _ _ _ rfl) (fun v1 m1 cv1 => ?_)
    refine xS_of (pc' := 19) (L' := [(0, xa 302), (1, xa x1), (2, xi x2), (3, xi 0)]) (st' := []) (m' := m1) (fun ex ns r q => ?_) ?_
    · refine xw_pop2J rfl (show ¬ (false = true) from Bool.false_ne_true) ?_
      refine xw_iconst rfl ?_
      refine xw_istore_n (L' := [(3, xi 0), (0, xa 302), (1, xa x1), (2, xi x2)]) rfl (by decide) rfl ?_
      refine xw_lo (L2 := [(0, xa 302), (1, xa x1), (2, xi x2), (3, xi 0)]) (List.forall_mem_cons.mpr ⟨rfl, List.forall_mem_cons.mpr ⟨rfl, List.forall_mem_cons.mpr ⟨rfl, List.forall_mem_cons.mpr ⟨rfl, fun _ h => absurd h List.not_mem_nil⟩⟩⟩⟩) ?_
      exact q
    exact ygl106_19 hB hr6 1000000 _ _ _ _ c2 rfl
  · refine xS_of (pc' := 46) (L' := [(0, xa 302), (1, xa x1), (2, xi x2)]) (st' := []) (m' := m) (fun ex ns r q => ?_) ?_
    · refine xw_if_leT rfl (w32_cg c2) (Int.not_lt.mp h0) ?_
      exact q
    exact xS_ret (v := 0) rfl rfl rfl rfl
theorem ygl106_6 {B : Nat} (hB : B ≤ 512) {xs : Nat → Int32} {SL d : Nat} : ∀ n x1 x2 m, w32 x2 = x2 → xS B xs SL (d + 3) 106 (4, none, [], 8) 0 6 [(0, xa 302), (1, xa x1), (2, xi x2)] [] m (xl2 (yl106_6 B) n x1 x2 m) := by
  intro n
  induction n with
  | zero => intro x1 x2 m c2; exact xS_none
  | succ n ih => exact ysl106_6 hB ih
theorem ygf106 {B : Nat} (hB : B ≤ 512) {xs : Nat → Int32} {SL d : Nat} : ∀ p0 m, xS B xs SL (d + 3) 106 (4, none, [], 8) 0 0 [(0, xa 302), (1, xa p0)] [] m (yf106 B p0 m) := by
  intro p0 m
  unfold yf106
  refine xS_of (pc' := 2) (L' := [(0, xa 302), (1, xa p0)]) (st' := [xa p0, xa 302]) (m' := m) (fun ex ns r q => ?_) ?_
  · refine xw_aload_n rfl rfl rfl ?_
    refine xw_aload_n rfl rfl rfl ?_
    refine xw_lo (L2 := [(0, xa 302), (1, xa p0)]) (List.forall_mem_cons.mpr ⟨rfl, List.forall_mem_cons.mpr ⟨rfl, fun _ h => absurd h List.not_mem_nil⟩⟩) ?_
    exact q
  refine xS_call (q := 107) (n := 2) (kq := 1) (as := [xa 302, xa p0]) (st1 := []) rfl rfl rfl rfl rfl rfl rfl rfl rfl rfl (fun _ => xw_rcv1 (t := 7) (xw_obd (by decide +kernel)) rfl) rfl (List.forall_mem_cons.mpr ⟨rfl, List.forall_mem_cons.mpr ⟨rfl, fun _ h => absurd h List.not_mem_nil⟩⟩) (ygf107 hB _ _) (fun v1 m1 cv1 => ?_)
  refine xS_of (pc' := 6) (L' := [(0, xa 302), (1, xa p0), (2, xi v1)]) (st' := []) (m' := m1) (fun ex ns r q => ?_) ?_
  · refine xw_istore_n (L' := [(2, xi v1), (0, xa 302), (1, xa p0)]) rfl (by decide) rfl ?_
    refine xw_lo (L2 := [(0, xa 302), (1, xa p0), (2, xi v1)]) (List.forall_mem_cons.mpr ⟨rfl, List.forall_mem_cons.mpr ⟨rfl, List.forall_mem_cons.mpr ⟨rfl, fun _ h => absurd h List.not_mem_nil⟩⟩⟩) ?_
    exact q
  exact ygl106_6 hB 1000000 _ _ _ cv1
theorem ysl109_12 {B : Nat} (hB : B ≤ 512) {xs : Nat → Int32} {SL d : Nat} {r12 : Int → Int → xw_M → xP} (hr12 : ∀ x1 x2 m, w32 x1 = x1 → w32 x2 = x2 → xS B xs SL (d + 1) 109 (4, none, [], 8) 0 12 [(0, xa 302), (1, xi x1), (2, xi x2)] [] m (r12 x1 x2 m)) : ∀ x1 x2 m, w32 x1 = x1 → w32 x2 = x2 → xS B xs SL (d + 1) 109 (4, none, [], 8) 0 12 [(0, xa 302), (1, xi x1), (2, xi x2)] [] m (yl109_12 B r12 x1 x2 m) := by
  intro x1 x2 m c1 c2
  unfold yl109_12
  refine xS_of (pc' := 20) (L' := [(0, xa 302), (1, xi x1), (2, xi x2)]) (st' := [xi (xR m 3 1), xi x2]) (m' := m) (fun ex ns r q => ?_) ?_
  · refine xw_iload_n rfl rfl ?_
    refine xw_aload_n rfl rfl rfl ?_
    refine xw_gfR (n := 3) (e := 3) rfl (xw_obd (by decide +kernel)) (by decide +kernel) (by decide +kernel) rfl ?_
    refine xw_gfIc (v := (m 3 1)) (v' := (xR m 3 1)) rfl (xw_obd (by decide +kernel)) xk2_1 (qi := 1) rfl rfl rfl ?_
    exact q
  refine xS_if (fun h0 => ?_) (fun h0 => ?_)
  · refine xS_of (pc' := 34) (L' := [(0, xa 302), (1, xi x1), (2, xi x2)]) (st' := [xi x2, xi x1, xa 3, xi x2, xa 371]) (m' := m) (fun ex ns r q => ?_) ?_
    · refine xw_ic_geF rfl (w32_cg c2) (w32_cg (w32_xR _ _ _)) (Int.not_le.mpr h0) ?_
      refine xw_aload_n rfl rfl rfl ?_
      refine xw_gfR (n := 371) (e := 371) rfl (xw_obd (by decide +kernel)) (by decide +kernel) (by decide +kernel) rfl ?_
      refine xw_iload_n rfl rfl ?_
      refine xw_aload_n rfl rfl rfl ?_
      refine xw_gfR (n := 3) (e := 3) rfl (xw_obd (by decide +kernel)) (by decide +kernel) (by decide +kernel) rfl ?_
      refine xw_iload_n rfl rfl ?_
      refine xw_iload_n rfl rfl ?_
      refine xw_lo (L2 := [(0, xa 302), (1, xi x1), (2, xi x2)]) (List.forall_mem_cons.mpr ⟨rfl, List.forall_mem_cons.mpr ⟨rfl, List.forall_mem_cons.mpr ⟨rfl, fun _ h => absurd h List.not_mem_nil⟩⟩⟩) ?_
      exact q
    refine xS_call (q := 97) (n := 3) (kq := 1) (as := [xa 3, xi x1, xi x2]) (st1 := [xi x2, xa 371]) rfl rfl rfl rfl rfl rfl rfl rfl rfl rfl (fun _ => xw_rcv1 (t := 2) (xw_obd (by decide +kernel)) rfl) rfl (List.forall_mem_cons.mpr ⟨rfl, List.forall_mem_cons.mpr ⟨rfl, List.forall_mem_cons.mpr ⟨rfl, fun _ h => absurd h List.not_mem_nil⟩⟩⟩) (ygf97 hB _ _ _ c1 c2) (fun v1 m1 cv1 => ?_)
    refine xS_g (fun g1 => ?_)
    refine xS_g (fun g2 => ?_)
    refine xS_of (pc' := 56) (L' := [(0, xa 302), (1, xi x1), (2, xi x2)]) (st' := [xi (xR m1 (15 + (26 * x2)) 10), xi v1]) (m' := (xw_u m1 371 x2 v1)) (fun ex ns r q => ?_) ?_
    · refine xw_iast (n := 8) rfl hB (xw_obd (by decide +kernel)) rfl g1 ?_
      refine xw_aload_n rfl rfl rfl ?_
      refine xw_gfR (n := 371) (e := 371) rfl (xw_obd (by decide +kernel)) (by decide +kernel) (by decide +kernel) rfl ?_
      refine xw_iload_n rfl rfl ?_
      refine xw_ialdc (n := 8) (v := v1) (v' := v1) rfl hB (xw_obd (by decide +kernel)) rfl g1 xw_us cv1 ?_
      refine xw_aload_n rfl rfl rfl ?_
      refine xw_gfR (n := 3) (e := 3) rfl (xw_obd (by decide +kernel)) (by decide +kernel) (by decide +kernel) rfl ?_
      refine xw_gfR (n := 4) (e := 4) rfl (xw_obd (by decide +kernel)) (by decide +kernel) (by decide +kernel) rfl ?_
      refine xw_iload_n rfl rfl ?_
      refine xw_aald (t := 23) (n := 8) (q := 15 + 26 * (x2).toNat) (e := (15 + (26 * x2))) rfl hB (xw_obd (by decide +kernel)) (by decide) rfl g1 (show 20 + 26 * (x2 : Int).toNat = 15 + 26 * (x2 : Int).toNat + 5 from by omega) (by have := g1; omega) ?_
      refine xw_gfIc (v := (m1 (15 + (26 * x2)) 10)) (v' := (xR m1 (15 + (26 * x2)) 10)) rfl (xw_obd g2) xk3_10 (qi := 10) rfl (xw_un (xw_obne (t := 16) (t' := 3) (xw_obd (by decide +kernel)) (xw_obd g2) (by decide)) rfl) rfl ?_
      exact q
    refine xS_if (fun h3 => ?_) (fun h3 => ?_)
    · refine xS_of (pc' := 12) (L' := [(0, xa 302), (1, xi x1), (2, xi (w32 (x2 + 1)))]) (st' := []) (m' := (xw_u (xw_u (xw_u m1 371 x2 v1) 372 x2 (xR m1 302 5)) 302 5 ((xR m1 302 5) + 1))) (fun ex ns r q => ?_) ?_
      · refine xw_ic_geF rfl (w32_cg cv1) (w32_cg (w32_xR _ _ _)) (Int.not_le.mpr h3) ?_
        refine xw_iconst rfl ?_
        refine xw_goto rfl ?_
        refine xw_istore_n (L' := [(3, xi 1), (0, xa 302), (1, xi x1), (2, xi x2)]) rfl (by decide) rfl ?_
        refine xw_aload_n rfl rfl rfl ?_
        refine xw_gfR (n := 372) (e := 372) rfl (xw_obd (by decide +kernel)) (by decide +kernel) (by decide +kernel) rfl ?_
        refine xw_iload_n rfl rfl ?_
        refine xw_iload_n rfl rfl ?_
        refine xw_if_eqF rfl (w32_cg rfl) (by decide) ?_
        refine xw_aload_n rfl rfl rfl ?_
        refine xw_gfIc (v := (m1 302 5)) (v' := (xR m1 302 5)) rfl (xw_obd (by decide +kernel)) xk7_5 (qi := 5) rfl (xw_un (fun e => absurd e.1 (by decide)) rfl) rfl ?_
        refine xw_goto rfl ?_
        refine xw_iast (n := 8) rfl hB (xw_obd (by decide +kernel)) rfl g1 ?_
        refine xw_aload_n rfl rfl rfl ?_
        refine xw_dup rfl rfl ?_
        refine xw_gfIc (v := (m1 302 5)) (v' := (xR m1 302 5)) rfl (xw_obd (by decide +kernel)) xk7_5 (qi := 5) rfl (xw_un (fun e => absurd e.1 (by decide)) (xw_un (fun e => absurd e.1 (by decide)) rfl)) rfl ?_
        refine xw_iload_n rfl rfl ?_
        refine xw_if_eqF rfl (w32_cg rfl) (by decide) ?_
        refine xw_iconst rfl ?_
        refine xw_goto rfl ?_
        refine xw_iadd rfl ?_
        refine xw_pfI rfl (xw_obd (by decide +kernel)) xk7_5 (qi := 5) rfl (xw_okI rfl) ?_
        refine xw_iincc (z := (w32 (x2 + 1))) (L' := [(2, xi (w32 (x2 + 1))), (3, xi 1), (0, xa 302), (1, xi x1)]) rfl rfl (by decide) rfl rfl ?_
        refine xw_goto rfl ?_
        refine xw_lo (L2 := [(0, xa 302), (1, xi x1), (2, xi (w32 (x2 + 1)))]) (List.forall_mem_cons.mpr ⟨rfl, List.forall_mem_cons.mpr ⟨rfl, List.forall_mem_cons.mpr ⟨rfl, fun _ h => absurd h List.not_mem_nil⟩⟩⟩) ?_
        exact q
      exact hr12 _ _ _ c1 (w32_w _)
    · refine xS_of (pc' := 12) (L' := [(0, xa 302), (1, xi x1), (2, xi (w32 (x2 + 1)))]) (st' := []) (m' := (xw_u (xw_u (xw_u m1 371 x2 v1) 372 x2 (-1)) 302 5 ((xR m1 302 5) + 0))) (fun ex ns r q => ?_) ?_
      · refine xw_ic_geT rfl (w32_cg cv1) (w32_cg (w32_xR _ _ _)) (Int.not_lt.mp h3) ?_
        refine xw_iconst rfl ?_
        refine xw_istore_n (L' := [(3, xi 0), (0, xa 302), (1, xi x1), (2, xi x2)]) rfl (by decide) rfl ?_
        refine xw_aload_n rfl rfl rfl ?_
        refine xw_gfR (n := 372) (e := 372) rfl (xw_obd (by decide +kernel)) (by decide +kernel) (by decide +kernel) rfl ?_
        refine xw_iload_n rfl rfl ?_
        refine xw_iload_n rfl rfl ?_
        refine xw_if_eqT rfl (w32_cg rfl) (by decide) ?_
        refine xw_iconst rfl ?_
        refine xw_iast (n := 8) rfl hB (xw_obd (by decide +kernel)) rfl g1 ?_
        refine xw_aload_n rfl rfl rfl ?_
        refine xw_dup rfl rfl ?_
        refine xw_gfIc (v := (m1 302 5)) (v' := (xR m1 302 5)) rfl (xw_obd (by decide +kernel)) xk7_5 (qi := 5) rfl (xw_un (fun e => absurd e.1 (by decide)) (xw_un (fun e => absurd e.1 (by decide)) rfl)) rfl ?_
        refine xw_iload_n rfl rfl ?_
        refine xw_if_eqT rfl (w32_cg rfl) (by decide) ?_
        refine xw_iconst rfl ?_
        refine xw_iadd rfl ?_
        refine xw_pfI rfl (xw_obd (by decide +kernel)) xk7_5 (qi := 5) rfl (xw_okI rfl) ?_
        refine xw_iincc (z := (w32 (x2 + 1))) (L' := [(2, xi (w32 (x2 + 1))), (3, xi 0), (0, xa 302), (1, xi x1)]) rfl rfl (by decide) rfl rfl ?_
        refine xw_goto rfl ?_
        refine xw_lo (L2 := [(0, xa 302), (1, xi x1), (2, xi (w32 (x2 + 1)))]) (List.forall_mem_cons.mpr ⟨rfl, List.forall_mem_cons.mpr ⟨rfl, List.forall_mem_cons.mpr ⟨rfl, fun _ h => absurd h List.not_mem_nil⟩⟩⟩) ?_
        exact q
      exact hr12 _ _ _ c1 (w32_w _)
  · refine xS_of (pc' := 127) (L' := [(0, xa 302), (1, xi x1), (2, xi x2)]) (st' := []) (m' := (xw_u m 302 6 (((xR m 302 5) + 1) + (3 * (xR m 3 2))))) (fun ex ns r q => ?_) ?_
    · refine xw_ic_geT rfl (w32_cg c2) (w32_cg (w32_xR _ _ _)) (Int.not_lt.mp h0) ?_
      refine xw_aload_n rfl rfl rfl ?_
      refine xw_aload_n rfl rfl rfl ?_
      refine xw_gfIc (v := (m 302 5)) (v' := (xR m 302 5)) rfl (xw_obd (by decide +kernel)) xk7_5 (qi := 5) rfl rfl rfl ?_
      refine xw_iconst rfl ?_
      refine xw_iadd rfl ?_
      refine xw_iconst rfl ?_
      refine xw_aload_n rfl rfl rfl ?_
      refine xw_gfR (n := 3) (e := 3) rfl (xw_obd (by decide +kernel)) (by decide +kernel) (by decide +kernel) rfl ?_
      refine xw_gfIc (v := (m 3 2)) (v' := (xR m 3 2)) rfl (xw_obd (by decide +kernel)) xk2_2 (qi := 2) rfl rfl rfl ?_
      refine xw_imul rfl ?_
      refine xw_iadd rfl ?_
      refine xw_pfI rfl (xw_obd (by decide +kernel)) xk7_6 (qi := 6) rfl (xw_okI rfl) ?_
      exact q
    exact xS_ret (v := 0) rfl rfl rfl rfl
theorem ygl109_12 {B : Nat} (hB : B ≤ 512) {xs : Nat → Int32} {SL d : Nat} : ∀ n x1 x2 m, w32 x1 = x1 → w32 x2 = x2 → xS B xs SL (d + 1) 109 (4, none, [], 8) 0 12 [(0, xa 302), (1, xi x1), (2, xi x2)] [] m (xl2 (yl109_12 B) n x1 x2 m) := by
  intro n
  induction n with
  | zero => intro x1 x2 m c1 c2; exact xS_none
  | succ n ih => exact ysl109_12 hB ih
theorem ygf109 {B : Nat} (hB : B ≤ 512) {xs : Nat → Int32} {SL d : Nat} : ∀ p0 m, w32 p0 = p0 → xS B xs SL (d + 1) 109 (4, none, [], 8) 0 0 [(0, xa 302), (1, xi p0)] [] m (yf109 B p0 m) := by
  intro p0 m cp0
  unfold yf109
  refine xS_of (pc' := 12) (L' := [(0, xa 302), (1, xi p0), (2, xi 0)]) (st' := []) (m' := (xw_u (xw_u m 302 7 1) 302 5 0)) (fun ex ns r q => ?_) ?_
  · refine xw_aload_n rfl rfl rfl ?_
    refine xw_iconst rfl ?_
    refine xw_pfI rfl (xw_obd (by decide +kernel)) xk7_7 (qi := 7) rfl (xw_okZ rfl (Or.inr rfl)) ?_
    refine xw_aload_n rfl rfl rfl ?_
    refine xw_iconst rfl ?_
    refine xw_pfI rfl (xw_obd (by decide +kernel)) xk7_5 (qi := 5) rfl (xw_okI rfl) ?_
    refine xw_iconst rfl ?_
    refine xw_istore_n (L' := [(2, xi 0), (0, xa 302), (1, xi p0)]) rfl (by decide) rfl ?_
    refine xw_lo (L2 := [(0, xa 302), (1, xi p0), (2, xi 0)]) (List.forall_mem_cons.mpr ⟨rfl, List.forall_mem_cons.mpr ⟨rfl, List.forall_mem_cons.mpr ⟨rfl, fun _ h => absurd h List.not_mem_nil⟩⟩⟩) ?_
    exact q
  exact ygl109_12 hB 1000000 _ _ _ cp0 rfl
theorem ysl104_45 {B : Nat} (hB : B ≤ 512) {xs : Nat → Int32} {SL d : Nat} {r45 : Int → Int → Int → xw_M → xP} (hr45 : ∀ x2 x3 x4 m, w32 x2 = x2 → w32 x4 = x4 → xS B xs SL (d + 4) 104 (5, (some (.object "CubeStore$Tape")), [], 1) 3 45 [(0, xa 0), (2, xi x2), (3, xa x3), (4, xi x4)] [] m (r45 x2 x3 x4 m)) : ∀ x2 x3 x4 m, w32 x2 = x2 → w32 x4 = x4 → xS B xs SL (d + 4) 104 (5, (some (.object "CubeStore$Tape")), [], 1) 3 45 [(0, xa 0), (2, xi x2), (3, xa x3), (4, xi x4)] [] m (yl104_45 B r45 x2 x3 x4 m) := by
  intro x2 x3 x4 m c2 c4
  unfold yl104_45
  refine xS_of (pc' := 48) (L' := [(0, xa 0), (2, xi x2), (3, xa x3), (4, xi x4)]) (st' := [xi x2, xi x4]) (m' := m) (fun ex ns r q => ?_) ?_
  · refine xw_iload rfl rfl ?_
    refine xw_iload_n rfl rfl ?_
    exact q
  refine xS_if (fun h0 => ?_) (fun h0 => ?_)
  · refine xS_g (fun g1 => ?_)
    refine xS_of (pc' := 65) (L' := [(0, xa 0), (2, xi x2), (3, xa x3), (4, xi x4)]) (st' := [xi (xR m 511 x4), xa 302]) (m' := m) (fun ex ns r q => ?_) ?_
    · refine xw_ic_geF rfl (w32_cg c4) (w32_cg c2) (Int.not_le.mpr h0) ?_
      refine xw_aload_n rfl rfl rfl ?_
      refine xw_gfR (n := 302) (e := 302) rfl (xw_obd (by decide +kernel)) (by decide +kernel) (by decide +kernel) rfl ?_
      refine xw_aload_n rfl rfl rfl ?_
      refine xw_gfR (n := 508) (e := 508) rfl (xw_obd (by decide +kernel)) (by decide +kernel) (by decide +kernel) rfl ?_
      refine xw_gfR (n := 511) (e := 511) rfl (xw_obd (by decide +kernel)) (by decide +kernel) (by decide +kernel) rfl ?_
      refine xw_iload rfl rfl ?_
      refine xw_ialdc (n := 16) (v := (m 511 x4)) (v' := (xR m 511 x4)) rfl hB (xw_obd (by decide +kernel)) rfl g1 rfl rfl ?_
      refine xw_lo (L2 := [(0, xa 0), (2, xi x2), (3, xa x3), (4, xi x4)]) (List.forall_mem_cons.mpr ⟨rfl, List.forall_mem_cons.mpr ⟨rfl, List.forall_mem_cons.mpr ⟨rfl, List.forall_mem_cons.mpr ⟨rfl, fun _ h => absurd h List.not_mem_nil⟩⟩⟩⟩) ?_
      exact q
    refine xS_call (q := 109) (n := 2) (kq := 0) (as := [xa 302, xi (xR m 511 x4)]) (st1 := []) rfl rfl rfl rfl rfl rfl rfl rfl rfl rfl (fun _ => xw_rcv1 (t := 7) (xw_obd (by decide +kernel)) rfl) rfl (List.forall_mem_cons.mpr ⟨rfl, List.forall_mem_cons.mpr ⟨rfl, fun _ h => absurd h List.not_mem_nil⟩⟩) (ygf109 hB _ _ (w32_xR _ _ _)) (fun v1 m1 cv1 => ?_)
    refine xS_of (pc' := 73) (L' := [(0, xa 0), (2, xi x2), (3, xa x3), (4, xi x4)]) (st' := [xa x3, xa 302]) (m' := m1) (fun ex ns r q => ?_) ?_
    · refine xw_aload_n rfl rfl rfl ?_
      refine xw_gfR (n := 302) (e := 302) rfl (xw_obd (by decide +kernel)) (by decide +kernel) (by decide +kernel) rfl ?_
      refine xw_aload_n rfl rfl rfl ?_
      refine xw_lo (L2 := [(0, xa 0), (2, xi x2), (3, xa x3), (4, xi x4)]) (List.forall_mem_cons.mpr ⟨rfl, List.forall_mem_cons.mpr ⟨rfl, List.forall_mem_cons.mpr ⟨rfl, List.forall_mem_cons.mpr ⟨rfl, fun _ h => absurd h List.not_mem_nil⟩⟩⟩⟩) ?_
      exact q
    refine xS_call (q := 106) (n := 2) (kq := 0) (as := [xa 302, xa x3]) (st1 := []) rfl rfl rfl rfl rfl rfl rfl rfl rfl rfl (fun _ => xw_rcv1 (t := 7) (xw_obd (by decide +kernel)) rfl) rfl (List.forall_mem_cons.mpr ⟨rfl, List.forall_mem_cons.mpr ⟨rfl, fun _ h => absurd h List.not_mem_nil⟩⟩) (ygf106 hB _ _) (fun v2 m2 cv2 => ?_)
    refine xS_of (pc' := 45) (L' := [(0, xa 0), (2, xi x2), (3, xa x3), (4, xi (w32 (x4 + 1)))]) (st' := []) (m' := m2) (fun ex ns r q => ?_) ?_
    · refine xw_iincc (z := (w32 (x4 + 1))) (L' := [(4, xi (w32 (x4 + 1))), (0, xa 0), (2, xi x2), (3, xa x3)]) rfl rfl (by decide) rfl rfl ?_
      refine xw_goto rfl ?_
      refine xw_lo (L2 := [(0, xa 0), (2, xi x2), (3, xa x3), (4, xi (w32 (x4 + 1)))]) (List.forall_mem_cons.mpr ⟨rfl, List.forall_mem_cons.mpr ⟨rfl, List.forall_mem_cons.mpr ⟨rfl, List.forall_mem_cons.mpr ⟨rfl, fun _ h => absurd h List.not_mem_nil⟩⟩⟩⟩) ?_
      exact q
    exact hr45 _ _ _ _ c2 (w32_w _)
  · refine xS_g (fun g1 => ?_)
    refine xS_of (pc' := 95) (L' := [(3, xa x3)]) (st' := [xi (xR m 511 x2), xa 302]) (m' := m) (fun ex ns r q => ?_) ?_
    · refine xw_ic_geT rfl (w32_cg c4) (w32_cg c2) (Int.not_lt.mp h0) ?_
      refine xw_aload_n rfl rfl rfl ?_
      refine xw_gfR (n := 302) (e := 302) rfl (xw_obd (by decide +kernel)) (by decide +kernel) (by decide +kernel) rfl ?_
      refine xw_aload_n rfl rfl rfl ?_
      refine xw_gfR (n := 508) (e := 508) rfl (xw_obd (by decide +kernel)) (by decide +kernel) (by decide +kernel) rfl ?_
      refine xw_gfR (n := 511) (e := 511) rfl (xw_obd (by decide +kernel)) (by decide +kernel) (by decide +kernel) rfl ?_
      refine xw_iload_n rfl rfl ?_
      refine xw_ialdc (n := 16) (v := (m 511 x2)) (v' := (xR m 511 x2)) rfl hB (xw_obd (by decide +kernel)) rfl g1 rfl rfl ?_
      refine xw_lo (L2 := [(3, xa x3)]) (List.forall_mem_cons.mpr ⟨rfl, fun _ h => absurd h List.not_mem_nil⟩) ?_
      exact q
    refine xS_call (q := 109) (n := 2) (kq := 0) (as := [xa 302, xi (xR m 511 x2)]) (st1 := []) rfl rfl rfl rfl rfl rfl rfl rfl rfl rfl (fun _ => xw_rcv1 (t := 7) (xw_obd (by decide +kernel)) rfl) rfl (List.forall_mem_cons.mpr ⟨rfl, List.forall_mem_cons.mpr ⟨rfl, fun _ h => absurd h List.not_mem_nil⟩⟩) (ygf109 hB _ _ (w32_xR _ _ _)) (fun v3 m3 cv3 => ?_)
    refine xS_of (pc' := 99) (L' := [(3, xa x3)]) (st' := [xa x3]) (m' := m3) (fun ex ns r q => ?_) ?_
    · refine xw_aload_n rfl rfl rfl ?_
      exact q
    exact xS_ret (v := x3) rfl rfl rfl trivial
theorem ygl104_45 {B : Nat} (hB : B ≤ 512) {xs : Nat → Int32} {SL d : Nat} : ∀ n x2 x3 x4 m, w32 x2 = x2 → w32 x4 = x4 → xS B xs SL (d + 4) 104 (5, (some (.object "CubeStore$Tape")), [], 1) 3 45 [(0, xa 0), (2, xi x2), (3, xa x3), (4, xi x4)] [] m (xl3 (yl104_45 B) n x2 x3 x4 m) := by
  intro n
  induction n with
  | zero => intro x2 x3 x4 m c2 c4; exact xS_none
  | succ n ih => exact ysl104_45 hB ih
theorem ygf104 {B : Nat} (hB : B ≤ 512) {xs : Nat → Int32} {SL d : Nat} : ∀ p0 p1 m, w32 p0 = p0 → w32 p1 = p1 → xS B xs SL (d + 4) 104 (5, (some (.object "CubeStore$Tape")), [], 1) 3 0 [(0, xa 0), (1, xi p0), (2, xi p1)] [] m (yf104 B p0 p1 m) := by
  intro p0 p1 m cp0 cp1
  unfold yf104
  refine xS_of (pc' := 5) (L' := [(0, xa 0), (1, xi p0), (2, xi p1)]) (st' := [xi p0, xa 508]) (m' := m) (fun ex ns r q => ?_) ?_
  · refine xw_aload_n rfl rfl rfl ?_
    refine xw_gfR (n := 508) (e := 508) rfl (xw_obd (by decide +kernel)) (by decide +kernel) (by decide +kernel) rfl ?_
    refine xw_iload_n rfl rfl ?_
    refine xw_lo (L2 := [(0, xa 0), (1, xi p0), (2, xi p1)]) (List.forall_mem_cons.mpr ⟨rfl, List.forall_mem_cons.mpr ⟨rfl, List.forall_mem_cons.mpr ⟨rfl, fun _ h => absurd h List.not_mem_nil⟩⟩⟩) ?_
    exact q
  refine xS_call (q := 22) (n := 2) (kq := 3) (as := [xa 508, xi p0]) (st1 := []) rfl rfl rfl rfl rfl rfl rfl rfl rfl rfl (fun _ => xw_rcv1 (t := 10) (xw_obd (by decide +kernel)) rfl) rfl (List.forall_mem_cons.mpr ⟨rfl, List.forall_mem_cons.mpr ⟨rfl, fun _ h => absurd h List.not_mem_nil⟩⟩) (ygf22 hB _ _ cp0) (fun v1 m1 cv1 => ?_)
  refine xS_of (pc' := 13) (L' := [(0, xa 0), (1, xi p0), (2, xi p1), (3, xa v1)]) (st' := [xa 302]) (m' := m1) (fun ex ns r q => ?_) ?_
  · refine xw_astore_n (L' := [(3, xa v1), (0, xa 0), (1, xi p0), (2, xi p1)]) rfl rfl (by decide) rfl ?_
    refine xw_aload_n rfl rfl rfl ?_
    refine xw_gfR (n := 302) (e := 302) rfl (xw_obd (by decide +kernel)) (by decide +kernel) (by decide +kernel) rfl ?_
    refine xw_lo (L2 := [(0, xa 0), (1, xi p0), (2, xi p1), (3, xa v1)]) (List.forall_mem_cons.mpr ⟨rfl, List.forall_mem_cons.mpr ⟨rfl, List.forall_mem_cons.mpr ⟨rfl, List.forall_mem_cons.mpr ⟨rfl, fun _ h => absurd h List.not_mem_nil⟩⟩⟩⟩) ?_
    exact q
  refine xS_call (q := 105) (n := 1) (kq := 0) (as := [xa 302]) (st1 := []) rfl rfl rfl rfl rfl rfl rfl rfl rfl rfl (fun _ => xw_rcv1 (t := 7) (xw_obd (by decide +kernel)) rfl) rfl (List.forall_mem_cons.mpr ⟨rfl, fun _ h => absurd h List.not_mem_nil⟩) (ygf105 hB _) (fun v2 m2 cv2 => ?_)
  refine xS_of (pc' := 18) (L' := [(0, xa 0), (1, xi p0), (2, xi p1), (3, xa v1)]) (st' := [xi (-1), xi p1]) (m' := m2) (fun ex ns r q => ?_) ?_
  · refine xw_iload_n rfl rfl ?_
    refine xw_iconst rfl ?_
    exact q
  refine xS_if (fun h0 => ?_) (fun h0 => ?_)
  · refine xS_of (pc' := 22) (L' := [(0, xa 0), (1, xi p0), (2, xi p1), (3, xa v1)]) (st' := [xa v1]) (m' := m2) (fun ex ns r q => ?_) ?_
    · refine xw_ic_neF rfl (w32_cg cp1) (w32_cg rfl) h0 ?_
      refine xw_aload_n rfl rfl rfl ?_
      exact q
    exact xS_ret (v := v1) rfl rfl rfl trivial
  · refine xS_of (pc' := 28) (L' := [(0, xa 0), (2, xi p1), (3, xa v1)]) (st' := [xi p0, xa 508]) (m' := m2) (fun ex ns r q => ?_) ?_
    · refine xw_ic_neT rfl (w32_cg cp1) (w32_cg rfl) h0 ?_
      refine xw_aload_n rfl rfl rfl ?_
      refine xw_gfR (n := 508) (e := 508) rfl (xw_obd (by decide +kernel)) (by decide +kernel) (by decide +kernel) rfl ?_
      refine xw_iload_n rfl rfl ?_
      refine xw_lo (L2 := [(0, xa 0), (2, xi p1), (3, xa v1)]) (List.forall_mem_cons.mpr ⟨rfl, List.forall_mem_cons.mpr ⟨rfl, List.forall_mem_cons.mpr ⟨rfl, fun _ h => absurd h List.not_mem_nil⟩⟩⟩) ?_
      exact q
    refine xS_call (q := 103) (n := 2) (kq := 4) (as := [xa 508, xi p0]) (st1 := []) rfl rfl rfl rfl rfl rfl rfl rfl rfl rfl (fun _ => xw_rcv1 (t := 10) (xw_obd (by decide +kernel)) rfl) rfl (List.forall_mem_cons.mpr ⟨rfl, List.forall_mem_cons.mpr ⟨rfl, fun _ h => absurd h List.not_mem_nil⟩⟩) (ygf103 hB _ _ cp0) (fun v3 m3 cv3 => ?_)
    refine xS_if (fun h1 => ?_) (fun h1 => ?_)
    · refine xS_of (pc' := 45) (L' := [(0, xa 0), (2, xi p1), (3, xa v1), (4, xi 0)]) (st' := []) (m' := m3) (fun ex ns r q => ?_) ?_
      · refine xw_if_eqT rfl (w32_cg (w32_of (xw_zr cv3))) h1 ?_
        refine xw_iconst rfl ?_
        refine xw_istore (L' := [(4, xi 0), (0, xa 0), (2, xi p1), (3, xa v1)]) rfl (by decide) rfl ?_
        refine xw_lo (L2 := [(0, xa 0), (2, xi p1), (3, xa v1), (4, xi 0)]) (List.forall_mem_cons.mpr ⟨rfl, List.forall_mem_cons.mpr ⟨rfl, List.forall_mem_cons.mpr ⟨rfl, List.forall_mem_cons.mpr ⟨rfl, fun _ h => absurd h List.not_mem_nil⟩⟩⟩⟩) ?_
        exact q
      exact ygl104_45 hB 1000000 _ _ _ _ cp1 rfl
    · refine xS_of (pc' := 39) (L' := [(0, xa 0), (2, xi p1), (3, xa v1)]) (st' := [xa v1, xa 302]) (m' := m3) (fun ex ns r q => ?_) ?_
      · refine xw_if_eqF rfl (w32_cg (w32_of (xw_zr cv3))) h1 ?_
        refine xw_aload_n rfl rfl rfl ?_
        refine xw_gfR (n := 302) (e := 302) rfl (xw_obd (by decide +kernel)) (by decide +kernel) (by decide +kernel) rfl ?_
        refine xw_aload_n rfl rfl rfl ?_
        refine xw_lo (L2 := [(0, xa 0), (2, xi p1), (3, xa v1)]) (List.forall_mem_cons.mpr ⟨rfl, List.forall_mem_cons.mpr ⟨rfl, List.forall_mem_cons.mpr ⟨rfl, fun _ h => absurd h List.not_mem_nil⟩⟩⟩) ?_
        exact q
      refine xS_call (q := 106) (n := 2) (kq := 0) (as := [xa 302, xa v1]) (st1 := []) rfl rfl rfl rfl rfl rfl rfl rfl rfl rfl (fun _ => xw_rcv1 (t := 7) (xw_obd (by decide +kernel)) rfl) rfl (List.forall_mem_cons.mpr ⟨rfl, List.forall_mem_cons.mpr ⟨rfl, fun _ h => absurd h List.not_mem_nil⟩⟩) (ygf106 hB _ _) (fun v4 m4 cv4 => ?_)
      refine xS_of (pc' := 45) (L' := [(0, xa 0), (2, xi p1), (3, xa v1), (4, xi 0)]) (st' := []) (m' := m4) (fun ex ns r q => ?_) ?_
      · refine xw_iconst rfl ?_
        refine xw_istore (L' := [(4, xi 0), (0, xa 0), (2, xi p1), (3, xa v1)]) rfl (by decide) rfl ?_
        refine xw_lo (L2 := [(0, xa 0), (2, xi p1), (3, xa v1), (4, xi 0)]) (List.forall_mem_cons.mpr ⟨rfl, List.forall_mem_cons.mpr ⟨rfl, List.forall_mem_cons.mpr ⟨rfl, List.forall_mem_cons.mpr ⟨rfl, fun _ h => absurd h List.not_mem_nil⟩⟩⟩⟩) ?_
        exact q
      exact ygl104_45 hB 1000000 _ _ _ _ cp1 rfl
theorem ygf112 {B : Nat} (hB : B ≤ 512) {xs : Nat → Int32} {SL d : Nat} : ∀ p0 p1 m, w32 p0 = p0 → w32 p1 = p1 → xS B xs SL (d + 0) 112 (3, (some .int), [], 8) 1 0 [(0, xa 302), (1, xi p0), (2, xi p1)] [] m (yf112 B p0 p1 m) := by
  intro p0 p1 m cp0 cp1
  unfold yf112
  refine xS_of (pc' := 4) (L' := [(0, xa 302), (1, xi p0), (2, xi p1)]) (st' := [xi (xR m 302 7)]) (m' := m) (fun ex ns r q => ?_) ?_
  · refine xw_aload_n rfl rfl rfl ?_
    refine xw_gfIc (v := (m 302 7)) (v' := (xR m 302 7)) rfl (xw_obd (by decide +kernel)) xk7_7 (qi := 7) rfl rfl rfl ?_
    exact q
  refine xS_if (fun h0 => ?_) (fun h0 => ?_)
  · refine xS_of (pc' := 13) (L' := [(0, xa 302), (1, xi p0), (2, xi p1)]) (st' := [xi (w32 ((xR m 302 5) + p1))]) (m' := m) (fun ex ns r q => ?_) ?_
    · refine xw_if_neF rfl (w32_cg (w32_xR _ _ _)) h0 ?_
      refine xw_aload_n rfl rfl rfl ?_
      refine xw_gfIc (v := (m 302 5)) (v' := (xR m 302 5)) rfl (xw_obd (by decide +kernel)) xk7_5 (qi := 5) rfl rfl rfl ?_
      refine xw_iload_n rfl rfl ?_
      refine xw_iadd rfl ?_
      refine xw_cst (st' := [xi (w32 ((xR m 302 5) + p1))]) (xw_sc (xi_c rfl) rfl) ?_
      exact q
    exact xS_ret (v := (w32 ((xR m 302 5) + p1))) rfl rfl xw_rtI (w32_w _)
  · refine xS_of (pc' := 28) (L' := [(0, xa 302), (1, xi p0), (2, xi p1)]) (st' := [xi 210, xi p0, xi (((xR m 302 5) + 1) + (3 * p1))]) (m' := m) (fun ex ns r q => ?_) ?_
    · refine xw_if_neT rfl (w32_cg (w32_xR _ _ _)) h0 ?_
      refine xw_aload_n rfl rfl rfl ?_
      refine xw_gfIc (v := (m 302 5)) (v' := (xR m 302 5)) rfl (xw_obd (by decide +kernel)) xk7_5 (qi := 5) rfl rfl rfl ?_
      refine xw_iconst rfl ?_
      refine xw_iadd rfl ?_
      refine xw_iconst rfl ?_
      refine xw_iload_n rfl rfl ?_
      refine xw_imul rfl ?_
      refine xw_iadd rfl ?_
      refine xw_iload_n rfl rfl ?_
      refine xw_sipush (e := 210) rfl (by decide +kernel) ?_
      exact q
    refine xS_if (fun h1 => ?_) (fun h1 => ?_)
    · refine xS_of (pc' := 48) (L' := [(0, xa 302), (1, xi p0), (2, xi p1)]) (st' := [xi (w32 ((((xR m 302 5) + 1) + (3 * p1)) + 0))]) (m' := m) (fun ex ns r q => ?_) ?_
      · refine xw_ic_neF rfl (w32_cg cp0) (w32_cg rfl) h1 ?_
        refine xw_iconst rfl ?_
        refine xw_goto rfl ?_
        refine xw_iadd rfl ?_
        refine xw_cst (st' := [xi (w32 ((((xR m 302 5) + 1) + (3 * p1)) + 0))]) (xw_sc (xi_c rfl) rfl) ?_
        exact q
      exact xS_ret (v := (w32 ((((xR m 302 5) + 1) + (3 * p1)) + 0))) rfl rfl xw_rtI (w32_w _)
    · refine xS_of (pc' := 39) (L' := [(0, xa 302), (1, xi p0), (2, xi p1)]) (st' := [xi 212, xi p0, xi (((xR m 302 5) + 1) + (3 * p1))]) (m' := m) (fun ex ns r q => ?_) ?_
      · refine xw_ic_neT rfl (w32_cg cp0) (w32_cg rfl) h1 ?_
        refine xw_iload_n rfl rfl ?_
        refine xw_sipush (e := 212) rfl (by decide +kernel) ?_
        exact q
      refine xS_if (fun h2 => ?_) (fun h2 => ?_)
      · refine xS_of (pc' := 48) (L' := [(0, xa 302), (1, xi p0), (2, xi p1)]) (st' := [xi (w32 ((((xR m 302 5) + 1) + (3 * p1)) + 1))]) (m' := m) (fun ex ns r q => ?_) ?_
        · refine xw_ic_neF rfl (w32_cg cp0) (w32_cg rfl) h2 ?_
          refine xw_iconst rfl ?_
          refine xw_goto rfl ?_
          refine xw_iadd rfl ?_
          refine xw_cst (st' := [xi (w32 ((((xR m 302 5) + 1) + (3 * p1)) + 1))]) (xw_sc (xi_c rfl) rfl) ?_
          exact q
        exact xS_ret (v := (w32 ((((xR m 302 5) + 1) + (3 * p1)) + 1))) rfl rfl xw_rtI (w32_w _)
      · refine xS_of (pc' := 48) (L' := [(0, xa 302), (1, xi p0), (2, xi p1)]) (st' := [xi (w32 ((((xR m 302 5) + 1) + (3 * p1)) + 2))]) (m' := m) (fun ex ns r q => ?_) ?_
        · refine xw_ic_neT rfl (w32_cg cp0) (w32_cg rfl) h2 ?_
          refine xw_iconst rfl ?_
          refine xw_iadd rfl ?_
          refine xw_cst (st' := [xi (w32 ((((xR m 302 5) + 1) + (3 * p1)) + 2))]) (xw_sc (xi_c rfl) rfl) ?_
          exact q
        exact xS_ret (v := (w32 ((((xR m 302 5) + 1) + (3 * p1)) + 2))) rfl rfl xw_rtI (w32_w _)
theorem ygk111_116 {B : Nat} (hB : B ≤ 512) {xs : Nat → Int32} {SL d : Nat} {r74 : Int → Int → xw_M → xP} (hr74 : ∀ x2 x4 m, w64 x2 = x2 → w32 x4 = x4 → xS B xs SL (d + 1) 111 (6, (some .long), [], 8) 2 74 [(0, xa 302), (1, xa 223), (2, xj x2), (4, xi x4)] [] m (r74 x2 x4 m)) : ∀ x2 x4 x5 m, w64 x2 = x2 → w32 x4 = x4 → w32 x5 = x5 → xS B xs SL (d + 1) 111 (6, (some .long), [], 8) 2 116 [(0, xa 302), (1, xa 223), (2, xj x2), (4, xi x4), (5, xi x5)] [] m (yk111_116 B r74 x2 x4 x5 m) := by
  intro x2 x4 x5 m c2 c4 c5
  unfold yk111_116
  refine xS_g (fun g0 => ?_)
  refine xS_of (pc' := 128) (L' := [(0, xa 302), (1, xa 223), (4, xi x4)]) (st' := [xi (xR m 225 x4), xi x5, xa 302, xj 1, xj x2]) (m' := m) (fun ex ns r q => ?_) ?_
  · refine xw_lload_n rfl rfl ?_
    refine xw_lconst (e := 1) rfl rfl ?_
    refine xw_aload_n rfl rfl rfl ?_
    refine xw_iload rfl rfl ?_
    refine xw_aload_n rfl rfl rfl ?_
    refine xw_gfR (n := 225) (e := 225) rfl (xw_obd (by decide +kernel)) (by decide +kernel) (by decide +kernel) rfl ?_
    refine xw_iload rfl rfl ?_
    refine xw_ialdc (n := 24) (v := (m 225 x4)) (v' := (xR m 225 x4)) rfl hB (xw_obd (by decide +kernel)) rfl g0 rfl rfl ?_
    refine xw_lo (L2 := [(0, xa 302), (1, xa 223), (4, xi x4)]) (List.forall_mem_cons.mpr ⟨rfl, List.forall_mem_cons.mpr ⟨rfl, List.forall_mem_cons.mpr ⟨rfl, fun _ h => absurd h List.not_mem_nil⟩⟩⟩) ?_
    exact q
  refine xS_call (q := 112) (n := 3) (kq := 1) (as := [xa 302, xi x5, xi (xR m 225 x4)]) (st1 := [xj 1, xj x2]) rfl rfl rfl rfl rfl rfl rfl rfl rfl rfl (fun _ => xw_rcv1 (t := 7) (xw_obd (by decide +kernel)) rfl) rfl (List.forall_mem_cons.mpr ⟨rfl, List.forall_mem_cons.mpr ⟨rfl, List.forall_mem_cons.mpr ⟨rfl, fun _ h => absurd h List.not_mem_nil⟩⟩⟩) (ygf112 hB _ _ _ c5 (w32_xR _ _ _)) (fun v1 m1 cv1 => ?_)
  refine xS_of (pc' := 74) (L' := [(0, xa 302), (1, xa 223), (2, xj (xw_lorf x2 (xw_lshlf 1 v1))), (4, xi (w32 (x4 + 1)))]) (st' := []) (m' := m1) (fun ex ns r q => ?_) ?_
  · refine xw_lshl (z := (xw_lshlf 1 v1)) rfl (xw_lshle _ _) ?_
    refine xw_lor (z := (xw_lorf x2 (xw_lshlf 1 v1))) rfl (xw_lore _ _) ?_
    refine xw_lstore_n (L' := [(2, xj (xw_lorf x2 (xw_lshlf 1 v1))), (0, xa 302), (1, xa 223), (4, xi x4)]) rfl (by decide) rfl ?_
    refine xw_iincc (z := (w32 (x4 + 1))) (L' := [(4, xi (w32 (x4 + 1))), (2, xj (xw_lorf x2 (xw_lshlf 1 v1))), (0, xa 302), (1, xa 223)]) rfl rfl (by decide) rfl rfl ?_
    refine xw_goto rfl ?_
    refine xw_lo (L2 := [(0, xa 302), (1, xa 223), (2, xj (xw_lorf x2 (xw_lshlf 1 v1))), (4, xi (w32 (x4 + 1)))]) (List.forall_mem_cons.mpr ⟨rfl, List.forall_mem_cons.mpr ⟨rfl, List.forall_mem_cons.mpr ⟨rfl, List.forall_mem_cons.mpr ⟨rfl, fun _ h => absurd h List.not_mem_nil⟩⟩⟩⟩) ?_
    exact q
  exact hr74 _ _ _ (w64_ti _) (w32_w _)
theorem ysl111_74 {B : Nat} (hB : B ≤ 512) {xs : Nat → Int32} {SL d : Nat} {r74 : Int → Int → xw_M → xP} (hr74 : ∀ x2 x4 m, w64 x2 = x2 → w32 x4 = x4 → xS B xs SL (d + 1) 111 (6, (some .long), [], 8) 2 74 [(0, xa 302), (1, xa 223), (2, xj x2), (4, xi x4)] [] m (r74 x2 x4 m)) : ∀ x2 x4 m, w64 x2 = x2 → w32 x4 = x4 → xS B xs SL (d + 1) 111 (6, (some .long), [], 8) 2 74 [(0, xa 302), (1, xa 223), (2, xj x2), (4, xi x4)] [] m (yl111_74 B r74 x2 x4 m) := by
  intro x2 x4 m c2 c4
  unfold yl111_74
  refine xS_of (pc' := 80) (L' := [(0, xa 302), (1, xa 223), (2, xj x2), (4, xi x4)]) (st' := [xi (xR m 223 2), xi x4]) (m' := m) (fun ex ns r q => ?_) ?_
  · refine xw_iload rfl rfl ?_
    refine xw_aload_n rfl rfl rfl ?_
    refine xw_gfIc (v := (m 223 2)) (v' := (xR m 223 2)) rfl (xw_obd (by decide +kernel)) xk4_2 (qi := 2) rfl rfl rfl ?_
    exact q
  refine xS_if (fun h0 => ?_) (fun h0 => ?_)
  · refine xS_g (fun g1 => ?_)
    refine xS_of (pc' := 97) (L' := [(5, xi (xR m 224 x4)), (0, xa 302), (1, xa 223), (2, xj x2), (4, xi x4)]) (st' := [xi 210, xi (xR m 224 x4)]) (m' := m) (fun ex ns r q => ?_) ?_
    · refine xw_ic_geF rfl (w32_cg c4) (w32_cg (w32_xR _ _ _)) (Int.not_le.mpr h0) ?_
      refine xw_aload_n rfl rfl rfl ?_
      refine xw_gfR (n := 224) (e := 224) rfl (xw_obd (by decide +kernel)) (by decide +kernel) (by decide +kernel) rfl ?_
      refine xw_iload rfl rfl ?_
      refine xw_ialdc (n := 24) (v := (m 224 x4)) (v' := (xR m 224 x4)) rfl hB (xw_obd (by decide +kernel)) rfl g1 rfl rfl ?_
      refine xw_istore (L' := [(5, xi (xR m 224 x4)), (0, xa 302), (1, xa 223), (2, xj x2), (4, xi x4)]) rfl (by decide) rfl ?_
      refine xw_iload rfl rfl ?_
      refine xw_sipush (e := 210) rfl (by decide +kernel) ?_
      exact q
    refine xS_if (fun h2 => ?_) (fun h2 => ?_)
    · refine xS_of (pc' := 116) (L' := [(0, xa 302), (1, xa 223), (2, xj x2), (4, xi x4), (5, xi (xR m 224 x4))]) (st' := []) (m' := m) (fun ex ns r q => ?_) ?_
      · refine xw_ic_eqT rfl (w32_cg (w32_xR _ _ _)) (w32_cg rfl) h2 ?_
        refine xw_lo (L2 := [(0, xa 302), (1, xa 223), (2, xj x2), (4, xi x4), (5, xi (xR m 224 x4))]) (List.forall_mem_cons.mpr ⟨rfl, List.forall_mem_cons.mpr ⟨rfl, List.forall_mem_cons.mpr ⟨rfl, List.forall_mem_cons.mpr ⟨rfl, List.forall_mem_cons.mpr ⟨rfl, fun _ h => absurd h List.not_mem_nil⟩⟩⟩⟩⟩) ?_
        exact q
      exact ygk111_116 hB hr74 _ _ _ _ c2 c4 (w32_xR _ _ _)
    · refine xS_of (pc' := 105) (L' := [(5, xi (xR m 224 x4)), (0, xa 302), (1, xa 223), (2, xj x2), (4, xi x4)]) (st' := [xi 212, xi (xR m 224 x4)]) (m' := m) (fun ex ns r q => ?_) ?_
      · refine xw_ic_eqF rfl (w32_cg (w32_xR _ _ _)) (w32_cg rfl) h2 ?_
        refine xw_iload rfl rfl ?_
        refine xw_sipush (e := 212) rfl (by decide +kernel) ?_
        exact q
      refine xS_if (fun h3 => ?_) (fun h3 => ?_)
      · refine xS_of (pc' := 116) (L' := [(0, xa 302), (1, xa 223), (2, xj x2), (4, xi x4), (5, xi (xR m 224 x4))]) (st' := []) (m' := m) (fun ex ns r q => ?_) ?_
        · refine xw_ic_eqT rfl (w32_cg (w32_xR _ _ _)) (w32_cg rfl) h3 ?_
          refine xw_lo (L2 := [(0, xa 302), (1, xa 223), (2, xj x2), (4, xi x4), (5, xi (xR m 224 x4))]) (List.forall_mem_cons.mpr ⟨rfl, List.forall_mem_cons.mpr ⟨rfl, List.forall_mem_cons.mpr ⟨rfl, List.forall_mem_cons.mpr ⟨rfl, List.forall_mem_cons.mpr ⟨rfl, fun _ h => absurd h List.not_mem_nil⟩⟩⟩⟩⟩) ?_
          exact q
        exact ygk111_116 hB hr74 _ _ _ _ c2 c4 (w32_xR _ _ _)
      · refine xS_of (pc' := 113) (L' := [(5, xi (xR m 224 x4)), (0, xa 302), (1, xa 223), (2, xj x2), (4, xi x4)]) (st' := [xi 213, xi (xR m 224 x4)]) (m' := m) (fun ex ns r q => ?_) ?_
        · refine xw_ic_eqF rfl (w32_cg (w32_xR _ _ _)) (w32_cg rfl) h3 ?_
          refine xw_iload rfl rfl ?_
          refine xw_sipush (e := 213) rfl (by decide +kernel) ?_
          exact q
        refine xS_if (fun h4 => ?_) (fun h4 => ?_)
        · refine xS_of (pc' := 116) (L' := [(0, xa 302), (1, xa 223), (2, xj x2), (4, xi x4), (5, xi (xR m 224 x4))]) (st' := []) (m' := m) (fun ex ns r q => ?_) ?_
          · refine xw_ic_neF rfl (w32_cg (w32_xR _ _ _)) (w32_cg rfl) h4 ?_
            refine xw_lo (L2 := [(0, xa 302), (1, xa 223), (2, xj x2), (4, xi x4), (5, xi (xR m 224 x4))]) (List.forall_mem_cons.mpr ⟨rfl, List.forall_mem_cons.mpr ⟨rfl, List.forall_mem_cons.mpr ⟨rfl, List.forall_mem_cons.mpr ⟨rfl, List.forall_mem_cons.mpr ⟨rfl, fun _ h => absurd h List.not_mem_nil⟩⟩⟩⟩⟩) ?_
            exact q
          exact ygk111_116 hB hr74 _ _ _ _ c2 c4 (w32_xR _ _ _)
        · refine xS_of (pc' := 74) (L' := [(0, xa 302), (1, xa 223), (2, xj x2), (4, xi (w32 (x4 + 1)))]) (st' := []) (m' := m) (fun ex ns r q => ?_) ?_
          · refine xw_ic_neT rfl (w32_cg (w32_xR _ _ _)) (w32_cg rfl) h4 ?_
            refine xw_iincc (z := (w32 (x4 + 1))) (L' := [(4, xi (w32 (x4 + 1))), (5, xi (xR m 224 x4)), (0, xa 302), (1, xa 223), (2, xj x2)]) rfl rfl (by decide) rfl rfl ?_
            refine xw_goto rfl ?_
            refine xw_lo (L2 := [(0, xa 302), (1, xa 223), (2, xj x2), (4, xi (w32 (x4 + 1)))]) (List.forall_mem_cons.mpr ⟨rfl, List.forall_mem_cons.mpr ⟨rfl, List.forall_mem_cons.mpr ⟨rfl, List.forall_mem_cons.mpr ⟨rfl, fun _ h => absurd h List.not_mem_nil⟩⟩⟩⟩) ?_
            exact q
          exact hr74 _ _ _ c2 (w32_w _)
  · refine xS_of (pc' := 141) (L' := [(0, xa 302), (1, xa 223), (2, xj x2), (4, xi x4)]) (st' := [xj x2]) (m' := m) (fun ex ns r q => ?_) ?_
    · refine xw_ic_geT rfl (w32_cg c4) (w32_cg (w32_xR _ _ _)) (Int.not_lt.mp h0) ?_
      refine xw_lload_n rfl rfl ?_
      exact q
    exact xS_ret (v := x2) rfl rfl rfl c2
theorem ygl111_74 {B : Nat} (hB : B ≤ 512) {xs : Nat → Int32} {SL d : Nat} : ∀ n x2 x4 m, w64 x2 = x2 → w32 x4 = x4 → xS B xs SL (d + 1) 111 (6, (some .long), [], 8) 2 74 [(0, xa 302), (1, xa 223), (2, xj x2), (4, xi x4)] [] m (xl2 (yl111_74 B) n x2 x4 m) := by
  intro n
  induction n with
  | zero => intro x2 x4 m c2 c4; exact xS_none
  | succ n ih => exact ysl111_74 hB ih
theorem ysl111_21 {B : Nat} (hB : B ≤ 512) {xs : Nat → Int32} {SL d : Nat} {r21 : Int → Int → xw_M → xP} (hr21 : ∀ x2 x4 m, w64 x2 = x2 → w32 x4 = x4 → xS B xs SL (d + 1) 111 (6, (some .long), [], 8) 2 21 [(0, xa 302), (1, xa 223), (2, xj x2), (4, xi x4)] [] m (r21 x2 x4 m)) : ∀ x2 x4 m, w64 x2 = x2 → w32 x4 = x4 → xS B xs SL (d + 1) 111 (6, (some .long), [], 8) 2 21 [(0, xa 302), (1, xa 223), (2, xj x2), (4, xi x4)] [] m (yl111_21 B r21 x2 x4 m) := by
  intro x2 x4 m c2 c4
  unfold yl111_21
  refine xS_of (pc' := 30) (L' := [(0, xa 302), (1, xa 223), (2, xj x2), (4, xi x4)]) (st' := [xi (xR m 3 1), xi x4]) (m' := m) (fun ex ns r q => ?_) ?_
  · refine xw_iload rfl rfl ?_
    refine xw_aload_n rfl rfl rfl ?_
    refine xw_gfR (n := 3) (e := 3) rfl (xw_obd (by decide +kernel)) (by decide +kernel) (by decide +kernel) rfl ?_
    refine xw_gfIc (v := (m 3 1)) (v' := (xR m 3 1)) rfl (xw_obd (by decide +kernel)) xk2_1 (qi := 1) rfl rfl rfl ?_
    exact q
  refine xS_if (fun h0 => ?_) (fun h0 => ?_)
  · refine xS_g (fun g1 => ?_)
    refine xS_of (pc' := 41) (L' := [(0, xa 302), (1, xa 223), (2, xj x2), (4, xi x4)]) (st' := [xi (-1), xi (xR m 372 x4)]) (m' := m) (fun ex ns r q => ?_) ?_
    · refine xw_ic_geF rfl (w32_cg c4) (w32_cg (w32_xR _ _ _)) (Int.not_le.mpr h0) ?_
      refine xw_aload_n rfl rfl rfl ?_
      refine xw_gfR (n := 372) (e := 372) rfl (xw_obd (by decide +kernel)) (by decide +kernel) (by decide +kernel) rfl ?_
      refine xw_iload rfl rfl ?_
      refine xw_ialdc (n := 8) (v := (m 372 x4)) (v' := (xR m 372 x4)) rfl hB (xw_obd (by decide +kernel)) rfl g1 rfl rfl ?_
      refine xw_iconst rfl ?_
      exact q
    refine xS_if (fun h2 => ?_) (fun h2 => ?_)
    · refine xS_of (pc' := 21) (L' := [(0, xa 302), (1, xa 223), (2, xj x2), (4, xi (w32 (x4 + 1)))]) (st' := []) (m' := m) (fun ex ns r q => ?_) ?_
      · refine xw_ic_eqT rfl (w32_cg (w32_xR _ _ _)) (w32_cg rfl) h2 ?_
        refine xw_iincc (z := (w32 (x4 + 1))) (L' := [(4, xi (w32 (x4 + 1))), (0, xa 302), (1, xa 223), (2, xj x2)]) rfl rfl (by decide) rfl rfl ?_
        refine xw_goto rfl ?_
        refine xw_lo (L2 := [(0, xa 302), (1, xa 223), (2, xj x2), (4, xi (w32 (x4 + 1)))]) (List.forall_mem_cons.mpr ⟨rfl, List.forall_mem_cons.mpr ⟨rfl, List.forall_mem_cons.mpr ⟨rfl, List.forall_mem_cons.mpr ⟨rfl, fun _ h => absurd h List.not_mem_nil⟩⟩⟩⟩) ?_
        exact q
      exact hr21 _ _ _ c2 (w32_w _)
    · refine xS_of (pc' := 47) (L' := [(0, xa 302), (1, xa 223), (2, xj x2), (4, xi x4)]) (st' := [xi x4, xa 223]) (m' := m) (fun ex ns r q => ?_) ?_
      · refine xw_ic_eqF rfl (w32_cg (w32_xR _ _ _)) (w32_cg rfl) h2 ?_
        refine xw_aload_n rfl rfl rfl ?_
        refine xw_iload rfl rfl ?_
        refine xw_lo (L2 := [(0, xa 302), (1, xa 223), (2, xj x2), (4, xi x4)]) (List.forall_mem_cons.mpr ⟨rfl, List.forall_mem_cons.mpr ⟨rfl, List.forall_mem_cons.mpr ⟨rfl, List.forall_mem_cons.mpr ⟨rfl, fun _ h => absurd h List.not_mem_nil⟩⟩⟩⟩) ?_
        exact q
      refine xS_call (q := 96) (n := 2) (kq := 4) (as := [xa 223, xi x4]) (st1 := []) rfl rfl rfl rfl rfl rfl rfl rfl rfl rfl (fun _ => xw_rcv1 (t := 4) (xw_obd (by decide +kernel)) rfl) rfl (List.forall_mem_cons.mpr ⟨rfl, List.forall_mem_cons.mpr ⟨rfl, fun _ h => absurd h List.not_mem_nil⟩⟩) (ygf96 hB _ _ c4) (fun v1 m1 cv1 => ?_)
      refine xS_if (fun h3 => ?_) (fun h3 => ?_)
      · refine xS_of (pc' := 21) (L' := [(0, xa 302), (1, xa 223), (2, xj x2), (4, xi (w32 (x4 + 1)))]) (st' := []) (m' := m1) (fun ex ns r q => ?_) ?_
        · refine xw_if_eqT rfl (w32_cg (w32_of (xw_zr cv1))) h3 ?_
          refine xw_iincc (z := (w32 (x4 + 1))) (L' := [(4, xi (w32 (x4 + 1))), (0, xa 302), (1, xa 223), (2, xj x2)]) rfl rfl (by decide) rfl rfl ?_
          refine xw_goto rfl ?_
          refine xw_lo (L2 := [(0, xa 302), (1, xa 223), (2, xj x2), (4, xi (w32 (x4 + 1)))]) (List.forall_mem_cons.mpr ⟨rfl, List.forall_mem_cons.mpr ⟨rfl, List.forall_mem_cons.mpr ⟨rfl, List.forall_mem_cons.mpr ⟨rfl, fun _ h => absurd h List.not_mem_nil⟩⟩⟩⟩) ?_
          exact q
        exact hr21 _ _ _ c2 (w32_w _)
      · refine xS_of (pc' := 21) (L' := [(0, xa 302), (1, xa 223), (2, xj (xw_lorf x2 (xw_lshlf 1 (xR m1 372 x4)))), (4, xi (w32 (x4 + 1)))]) (st' := []) (m' := m1) (fun ex ns r q => ?_) ?_
        · refine xw_if_eqF rfl (w32_cg (w32_of (xw_zr cv1))) h3 ?_
          refine xw_lload_n rfl rfl ?_
          refine xw_lconst (e := 1) rfl rfl ?_
          refine xw_aload_n rfl rfl rfl ?_
          refine xw_gfR (n := 372) (e := 372) rfl (xw_obd (by decide +kernel)) (by decide +kernel) (by decide +kernel) rfl ?_
          refine xw_iload rfl rfl ?_
          refine xw_ialdc (n := 8) (v := (m1 372 x4)) (v' := (xR m1 372 x4)) rfl hB (xw_obd (by decide +kernel)) rfl g1 rfl rfl ?_
          refine xw_lshl (z := (xw_lshlf 1 (xR m1 372 x4))) rfl (xw_lshle _ _) ?_
          refine xw_lor (z := (xw_lorf x2 (xw_lshlf 1 (xR m1 372 x4)))) rfl (xw_lore _ _) ?_
          refine xw_lstore_n (L' := [(2, xj (xw_lorf x2 (xw_lshlf 1 (xR m1 372 x4)))), (0, xa 302), (1, xa 223), (4, xi x4)]) rfl (by decide) rfl ?_
          refine xw_iincc (z := (w32 (x4 + 1))) (L' := [(4, xi (w32 (x4 + 1))), (2, xj (xw_lorf x2 (xw_lshlf 1 (xR m1 372 x4)))), (0, xa 302), (1, xa 223)]) rfl rfl (by decide) rfl rfl ?_
          refine xw_goto rfl ?_
          refine xw_lo (L2 := [(0, xa 302), (1, xa 223), (2, xj (xw_lorf x2 (xw_lshlf 1 (xR m1 372 x4)))), (4, xi (w32 (x4 + 1)))]) (List.forall_mem_cons.mpr ⟨rfl, List.forall_mem_cons.mpr ⟨rfl, List.forall_mem_cons.mpr ⟨rfl, List.forall_mem_cons.mpr ⟨rfl, fun _ h => absurd h List.not_mem_nil⟩⟩⟩⟩) ?_
          exact q
        exact hr21 _ _ _ (w64_ti _) (w32_w _)
  · refine xS_of (pc' := 74) (L' := [(0, xa 302), (1, xa 223), (2, xj x2), (4, xi 0)]) (st' := []) (m' := m) (fun ex ns r q => ?_) ?_
    · refine xw_ic_geT rfl (w32_cg c4) (w32_cg (w32_xR _ _ _)) (Int.not_lt.mp h0) ?_
      refine xw_iconst rfl ?_
      refine xw_istore (L' := [(4, xi 0), (0, xa 302), (1, xa 223), (2, xj x2)]) rfl (by decide) rfl ?_
      refine xw_lo (L2 := [(0, xa 302), (1, xa 223), (2, xj x2), (4, xi 0)]) (List.forall_mem_cons.mpr ⟨rfl, List.forall_mem_cons.mpr ⟨rfl, List.forall_mem_cons.mpr ⟨rfl, List.forall_mem_cons.mpr ⟨rfl, fun _ h => absurd h List.not_mem_nil⟩⟩⟩⟩) ?_
      exact q
    exact ygl111_74 hB 1000000 _ _ _ c2 rfl
theorem ygl111_21 {B : Nat} (hB : B ≤ 512) {xs : Nat → Int32} {SL d : Nat} : ∀ n x2 x4 m, w64 x2 = x2 → w32 x4 = x4 → xS B xs SL (d + 1) 111 (6, (some .long), [], 8) 2 21 [(0, xa 302), (1, xa 223), (2, xj x2), (4, xi x4)] [] m (xl2 (yl111_21 B) n x2 x4 m) := by
  intro n
  induction n with
  | zero => intro x2 x4 m c2 c4; exact xS_none
  | succ n ih => exact ysl111_21 hB ih
theorem ygf111 {B : Nat} (hB : B ≤ 512) {xs : Nat → Int32} {SL d : Nat} : ∀ m, xS B xs SL (d + 1) 111 (6, (some .long), [], 8) 2 0 [(0, xa 302), (1, xa 223)] [] m (yf111 B m) := by
  intro m
  unfold yf111
  refine xS_of (pc' := 4) (L' := [(0, xa 302), (1, xa 223)]) (st' := [xi (xR m 302 7)]) (m' := m) (fun ex ns r q => ?_) ?_
  · refine xw_aload_n rfl rfl rfl ?_
    refine xw_gfIc (v := (m 302 7)) (v' := (xR m 302 7)) rfl (xw_obd (by decide +kernel)) xk7_7 (qi := 7) rfl rfl rfl ?_
    exact q
  refine xS_if (fun h0 => ?_) (fun h0 => ?_)
  · refine xS_of (pc' := 21) (L' := [(0, xa 302), (1, xa 223), (2, xj 0), (4, xi 0)]) (st' := []) (m' := m) (fun ex ns r q => ?_) ?_
    · refine xw_if_eqT rfl (w32_cg (w32_xR _ _ _)) h0 ?_
      refine xw_lconst (e := 0) rfl rfl ?_
      refine xw_lstore_n (L' := [(2, xj 0), (0, xa 302), (1, xa 223)]) rfl (by decide) rfl ?_
      refine xw_iconst rfl ?_
      refine xw_istore (L' := [(4, xi 0), (2, xj 0), (0, xa 302), (1, xa 223)]) rfl (by decide) rfl ?_
      refine xw_lo (L2 := [(0, xa 302), (1, xa 223), (2, xj 0), (4, xi 0)]) (List.forall_mem_cons.mpr ⟨rfl, List.forall_mem_cons.mpr ⟨rfl, List.forall_mem_cons.mpr ⟨rfl, List.forall_mem_cons.mpr ⟨rfl, fun _ h => absurd h List.not_mem_nil⟩⟩⟩⟩) ?_
      exact q
    exact ygl111_21 hB 1000000 _ _ _ rfl rfl
  · refine xS_of (pc' := 21) (L' := [(0, xa 302), (1, xa 223), (2, xj (xw_lshlf 1 (xR m 302 5))), (4, xi 0)]) (st' := []) (m' := m) (fun ex ns r q => ?_) ?_
    · refine xw_if_eqF rfl (w32_cg (w32_xR _ _ _)) h0 ?_
      refine xw_lconst (e := 1) rfl rfl ?_
      refine xw_aload_n rfl rfl rfl ?_
      refine xw_gfIc (v := (m 302 5)) (v' := (xR m 302 5)) rfl (xw_obd (by decide +kernel)) xk7_5 (qi := 5) rfl rfl rfl ?_
      refine xw_lshl (z := (xw_lshlf 1 (xR m 302 5))) rfl (xw_lshle _ _) ?_
      refine xw_goto rfl ?_
      refine xw_lstore_n (L' := [(2, xj (xw_lshlf 1 (xR m 302 5))), (0, xa 302), (1, xa 223)]) rfl (by decide) rfl ?_
      refine xw_iconst rfl ?_
      refine xw_istore (L' := [(4, xi 0), (2, xj (xw_lshlf 1 (xR m 302 5))), (0, xa 302), (1, xa 223)]) rfl (by decide) rfl ?_
      refine xw_lo (L2 := [(0, xa 302), (1, xa 223), (2, xj (xw_lshlf 1 (xR m 302 5))), (4, xi 0)]) (List.forall_mem_cons.mpr ⟨rfl, List.forall_mem_cons.mpr ⟨rfl, List.forall_mem_cons.mpr ⟨rfl, List.forall_mem_cons.mpr ⟨rfl, fun _ h => absurd h List.not_mem_nil⟩⟩⟩⟩) ?_
      exact q
    exact ygl111_21 hB 1000000 _ _ _ (w64_ti _) rfl
theorem ygk118_73 {B : Nat} (hB : B ≤ 512) {xs : Nat → Int32} {SL d : Nat} : ∀ x0 x1 m, w32 x0 = x0 → w32 x1 = x1 → xS B xs SL (d + 0) 118 (2, (some .int), [], 0) 1 73 [(0, xi x0), (1, xi x1)] [] m (yk118_73 B x0 x1 m) := by
  intro x0 x1 m c0 c1
  unfold yk118_73
  refine xS_of (pc' := 78) (L' := [(0, xi x0), (1, xi x1)]) (st' := [xi (w32 (x1 - (xw_iushrf x0 1)))]) (m' := m) (fun ex ns r q => ?_) ?_
  · refine xw_iload_n rfl rfl ?_
    refine xw_iload_n rfl rfl ?_
    refine xw_iconst rfl ?_
    refine xw_iushr (z := (xw_iushrf x0 1)) rfl (xw_iushre _ _) ?_
    refine xw_isub rfl ?_
    refine xw_cst (st' := [xi (w32 (x1 - (xw_iushrf x0 1)))]) (xw_sc (xi_c rfl) rfl) ?_
    exact q
  exact xS_ret (v := (w32 (x1 - (xw_iushrf x0 1)))) rfl rfl xw_rtI (w32_w _)
theorem ygk118_61 {B : Nat} (hB : B ≤ 512) {xs : Nat → Int32} {SL d : Nat} : ∀ x0 x1 m, w32 x0 = x0 → w32 x1 = x1 → xS B xs SL (d + 0) 118 (2, (some .int), [], 0) 1 61 [(0, xi x0), (1, xi x1)] [] m (yk118_61 B x0 x1 m) := by
  intro x0 x1 m c0 c1
  unfold yk118_61
  refine xS_of (pc' := 63) (L' := [(0, xi x0), (1, xi x1)]) (st' := [xi 4, xi x0]) (m' := m) (fun ex ns r q => ?_) ?_
  · refine xw_iload_n rfl rfl ?_
    refine xw_iconst rfl ?_
    exact q
  refine xS_if (fun h0 => ?_) (fun h0 => ?_)
  · refine xS_of (pc' := 73) (L' := [(0, xi x0), (1, xi x1)]) (st' := []) (m' := m) (fun ex ns r q => ?_) ?_
    · refine xw_ic_ltT rfl (w32_cg c0) (w32_cg rfl) h0 ?_
      refine xw_lo (L2 := [(0, xi x0), (1, xi x1)]) (List.forall_mem_cons.mpr ⟨rfl, List.forall_mem_cons.mpr ⟨rfl, fun _ h => absurd h List.not_mem_nil⟩⟩) ?_
      exact q
    exact ygk118_73 hB _ _ _ c0 c1
  · refine xS_of (pc' := 73) (L' := [(0, xi (xw_iushrf x0 2)), (1, xi (w32 (x1 + (-2))))]) (st' := []) (m' := m) (fun ex ns r q => ?_) ?_
    · refine xw_ic_ltF rfl (w32_cg c0) (w32_cg rfl) h0 ?_
      refine xw_iincc (z := (w32 (x1 + (-2)))) (L' := [(1, xi (w32 (x1 + (-2)))), (0, xi x0)]) rfl rfl (by decide) rfl rfl ?_
      refine xw_iload_n rfl rfl ?_
      refine xw_iconst rfl ?_
      refine xw_iushr (z := (xw_iushrf x0 2)) rfl (xw_iushre _ _) ?_
      refine xw_istore_n (L' := [(0, xi (xw_iushrf x0 2)), (1, xi (w32 (x1 + (-2))))]) rfl (by decide) rfl ?_
      refine xw_lo (L2 := [(0, xi (xw_iushrf x0 2)), (1, xi (w32 (x1 + (-2))))]) (List.forall_mem_cons.mpr ⟨rfl, List.forall_mem_cons.mpr ⟨rfl, fun _ h => absurd h List.not_mem_nil⟩⟩) ?_
      exact q
    exact ygk118_73 hB _ _ _ (w32_ti _) (w32_w _)
theorem ygk118_48 {B : Nat} (hB : B ≤ 512) {xs : Nat → Int32} {SL d : Nat} : ∀ x0 x1 m, w32 x0 = x0 → w32 x1 = x1 → xS B xs SL (d + 0) 118 (2, (some .int), [], 0) 1 48 [(0, xi x0), (1, xi x1)] [] m (yk118_48 B x0 x1 m) := by
  intro x0 x1 m c0 c1
  unfold yk118_48
  refine xS_of (pc' := 51) (L' := [(0, xi x0), (1, xi x1)]) (st' := [xi 16, xi x0]) (m' := m) (fun ex ns r q => ?_) ?_
  · refine xw_iload_n rfl rfl ?_
    refine xw_bipush (e := 16) rfl (by decide +kernel) ?_
    exact q
  refine xS_if (fun h0 => ?_) (fun h0 => ?_)
  · refine xS_of (pc' := 61) (L' := [(0, xi x0), (1, xi x1)]) (st' := []) (m' := m) (fun ex ns r q => ?_) ?_
    · refine xw_ic_ltT rfl (w32_cg c0) (w32_cg rfl) h0 ?_
      refine xw_lo (L2 := [(0, xi x0), (1, xi x1)]) (List.forall_mem_cons.mpr ⟨rfl, List.forall_mem_cons.mpr ⟨rfl, fun _ h => absurd h List.not_mem_nil⟩⟩) ?_
      exact q
    exact ygk118_61 hB _ _ _ c0 c1
  · refine xS_of (pc' := 61) (L' := [(0, xi (xw_iushrf x0 4)), (1, xi (w32 (x1 + (-4))))]) (st' := []) (m' := m) (fun ex ns r q => ?_) ?_
    · refine xw_ic_ltF rfl (w32_cg c0) (w32_cg rfl) h0 ?_
      refine xw_iincc (z := (w32 (x1 + (-4)))) (L' := [(1, xi (w32 (x1 + (-4)))), (0, xi x0)]) rfl rfl (by decide) rfl rfl ?_
      refine xw_iload_n rfl rfl ?_
      refine xw_iconst rfl ?_
      refine xw_iushr (z := (xw_iushrf x0 4)) rfl (xw_iushre _ _) ?_
      refine xw_istore_n (L' := [(0, xi (xw_iushrf x0 4)), (1, xi (w32 (x1 + (-4))))]) rfl (by decide) rfl ?_
      refine xw_lo (L2 := [(0, xi (xw_iushrf x0 4)), (1, xi (w32 (x1 + (-4))))]) (List.forall_mem_cons.mpr ⟨rfl, List.forall_mem_cons.mpr ⟨rfl, fun _ h => absurd h List.not_mem_nil⟩⟩) ?_
      exact q
    exact ygk118_61 hB _ _ _ (w32_ti _) (w32_w _)
theorem ygk118_33 {B : Nat} (hB : B ≤ 512) {xs : Nat → Int32} {SL d : Nat} : ∀ x0 x1 m, w32 x0 = x0 → w32 x1 = x1 → xS B xs SL (d + 0) 118 (2, (some .int), [], 0) 1 33 [(0, xi x0), (1, xi x1)] [] m (yk118_33 B x0 x1 m) := by
  intro x0 x1 m c0 c1
  unfold yk118_33
  refine xS_of (pc' := 37) (L' := [(0, xi x0), (1, xi x1)]) (st' := [xi 256, xi x0]) (m' := m) (fun ex ns r q => ?_) ?_
  · refine xw_iload_n rfl rfl ?_
    refine xw_sipush (e := 256) rfl (by decide +kernel) ?_
    exact q
  refine xS_if (fun h0 => ?_) (fun h0 => ?_)
  · refine xS_of (pc' := 48) (L' := [(0, xi x0), (1, xi x1)]) (st' := []) (m' := m) (fun ex ns r q => ?_) ?_
    · refine xw_ic_ltT rfl (w32_cg c0) (w32_cg rfl) h0 ?_
      refine xw_lo (L2 := [(0, xi x0), (1, xi x1)]) (List.forall_mem_cons.mpr ⟨rfl, List.forall_mem_cons.mpr ⟨rfl, fun _ h => absurd h List.not_mem_nil⟩⟩) ?_
      exact q
    exact ygk118_48 hB _ _ _ c0 c1
  · refine xS_of (pc' := 48) (L' := [(0, xi (xw_iushrf x0 8)), (1, xi (w32 (x1 + (-8))))]) (st' := []) (m' := m) (fun ex ns r q => ?_) ?_
    · refine xw_ic_ltF rfl (w32_cg c0) (w32_cg rfl) h0 ?_
      refine xw_iincc (z := (w32 (x1 + (-8)))) (L' := [(1, xi (w32 (x1 + (-8)))), (0, xi x0)]) rfl rfl (by decide) rfl rfl ?_
      refine xw_iload_n rfl rfl ?_
      refine xw_bipush (e := 8) rfl (by decide +kernel) ?_
      refine xw_iushr (z := (xw_iushrf x0 8)) rfl (xw_iushre _ _) ?_
      refine xw_istore_n (L' := [(0, xi (xw_iushrf x0 8)), (1, xi (w32 (x1 + (-8))))]) rfl (by decide) rfl ?_
      refine xw_lo (L2 := [(0, xi (xw_iushrf x0 8)), (1, xi (w32 (x1 + (-8))))]) (List.forall_mem_cons.mpr ⟨rfl, List.forall_mem_cons.mpr ⟨rfl, fun _ h => absurd h List.not_mem_nil⟩⟩) ?_
      exact q
    exact ygk118_48 hB _ _ _ (w32_ti _) (w32_w _)
theorem ygf118 {B : Nat} (hB : B ≤ 512) {xs : Nat → Int32} {SL d : Nat} : ∀ p0 m, w32 p0 = p0 → xS B xs SL (d + 0) 118 (2, (some .int), [], 0) 1 0 [(0, xi p0)] [] m (yf118 B p0 m) := by
  intro p0 m cp0
  unfold yf118
  refine xS_of (pc' := 1) (L' := [(0, xi p0)]) (st' := [xi p0]) (m' := m) (fun ex ns r q => ?_) ?_
  · refine xw_iload_n rfl rfl ?_
    exact q
  refine xS_if (fun h0 => ?_) (fun h0 => ?_)
  · refine xS_of (pc' := 22) (L' := [(1, xi 31), (0, xi p0)]) (st' := [xi 65536, xi p0]) (m' := m) (fun ex ns r q => ?_) ?_
    · refine xw_if_gtT rfl (w32_cg cp0) h0 ?_
      refine xw_bipush (e := 31) rfl (by decide +kernel) ?_
      refine xw_istore_n (L' := [(1, xi 31), (0, xi p0)]) rfl (by decide) rfl ?_
      refine xw_iload_n rfl rfl ?_
      refine xw_ldcw (e := 65536) rfl (by decide +kernel) ?_
      exact q
    refine xS_if (fun h1 => ?_) (fun h1 => ?_)
    · refine xS_of (pc' := 33) (L' := [(0, xi p0), (1, xi 31)]) (st' := []) (m' := m) (fun ex ns r q => ?_) ?_
      · refine xw_ic_ltT rfl (w32_cg cp0) (w32_cg rfl) h1 ?_
        refine xw_lo (L2 := [(0, xi p0), (1, xi 31)]) (List.forall_mem_cons.mpr ⟨rfl, List.forall_mem_cons.mpr ⟨rfl, fun _ h => absurd h List.not_mem_nil⟩⟩) ?_
        exact q
      exact ygk118_33 hB _ _ _ cp0 rfl
    · refine xS_of (pc' := 33) (L' := [(0, xi (xw_iushrf p0 16)), (1, xi 15)]) (st' := []) (m' := m) (fun ex ns r q => ?_) ?_
      · refine xw_ic_ltF rfl (w32_cg cp0) (w32_cg rfl) h1 ?_
        refine xw_iincc (z := 15) (L' := [(1, xi 15), (0, xi p0)]) rfl rfl (by decide) rfl rfl ?_
        refine xw_iload_n rfl rfl ?_
        refine xw_bipush (e := 16) rfl (by decide +kernel) ?_
        refine xw_iushr (z := (xw_iushrf p0 16)) rfl (xw_iushre _ _) ?_
        refine xw_istore_n (L' := [(0, xi (xw_iushrf p0 16)), (1, xi 15)]) rfl (by decide) rfl ?_
        refine xw_lo (L2 := [(0, xi (xw_iushrf p0 16)), (1, xi 15)]) (List.forall_mem_cons.mpr ⟨rfl, List.forall_mem_cons.mpr ⟨rfl, fun _ h => absurd h List.not_mem_nil⟩⟩) ?_
        exact q
      exact ygk118_33 hB _ _ _ (w32_ti _) rfl
  · refine xS_of (pc' := 5) (L' := [(0, xi p0)]) (st' := [xi p0]) (m' := m) (fun ex ns r q => ?_) ?_
    · refine xw_if_gtF rfl (w32_cg cp0) h0 ?_
      refine xw_iload_n rfl rfl ?_
      exact q
    refine xS_if (fun h1 => ?_) (fun h1 => ?_)
    · refine xS_of (pc' := 14) (L' := [(0, xi p0)]) (st' := [xi 32]) (m' := m) (fun ex ns r q => ?_) ?_
      · refine xw_if_neF rfl (w32_cg cp0) h1 ?_
        refine xw_bipush (e := 32) rfl (by decide +kernel) ?_
        refine xw_goto rfl ?_
        exact q
      exact xS_ret (v := 32) rfl rfl xw_rtI rfl
    · refine xS_of (pc' := 14) (L' := [(0, xi p0)]) (st' := [xi 0]) (m' := m) (fun ex ns r q => ?_) ?_
      · refine xw_if_neT rfl (w32_cg cp0) h1 ?_
        refine xw_iconst rfl ?_
        exact q
      exact xS_ret (v := 0) rfl rfl xw_rtI rfl
theorem ygf117 {B : Nat} (hB : B ≤ 512) {xs : Nat → Int32} {SL d : Nat} : ∀ p0 m, w64 p0 = p0 → xS B xs SL (d + 1) 117 (3, (some .int), [], 0) 1 0 [(0, xj p0)] [] m (yf117 B p0 m) := by
  intro p0 m cp0
  unfold yf117
  refine xS_of (pc' := 7) (L' := [(2, xi (w32 (xw_lushrf p0 32))), (0, xj p0)]) (st' := [xi (w32 (xw_lushrf p0 32))]) (m' := m) (fun ex ns r q => ?_) ?_
  · refine xw_lload_n rfl rfl ?_
    refine xw_bipush (e := 32) rfl (by decide +kernel) ?_
    refine xw_lushr (z := (xw_lushrf p0 32)) rfl (xw_lushre _ _) ?_
    refine xw_l2i rfl ?_
    refine xw_cst (st' := [xi (w32 (xw_lushrf p0 32))]) (xw_sc (xi_c rfl) rfl) ?_
    refine xw_istore_n (L' := [(2, xi (w32 (xw_lushrf p0 32))), (0, xj p0)]) rfl (by decide) rfl ?_
    refine xw_iload_n rfl rfl ?_
    exact q
  refine xS_if (fun h0 => ?_) (fun h0 => ?_)
  · refine xS_of (pc' := 14) (L' := []) (st' := [xi (w32 p0), xi 32]) (m' := m) (fun ex ns r q => ?_) ?_
    · refine xw_if_neF rfl (w32_cg (w32_w _)) h0 ?_
      refine xw_bipush (e := 32) rfl (by decide +kernel) ?_
      refine xw_lload_n rfl rfl ?_
      refine xw_l2i rfl ?_
      refine xw_cst (st' := [xi (w32 p0), xi 32]) (xw_sc (xi_c rfl) rfl) ?_
      refine xw_lo (L2 := []) (fun _ h => absurd h List.not_mem_nil) ?_
      exact q
    refine xS_call (q := 118) (n := 1) (kq := 1) (as := [xi (w32 p0)]) (st1 := [xi 32]) rfl rfl rfl rfl rfl rfl rfl rfl rfl rfl (fun _ => xw_rcv0 rfl) rfl (List.forall_mem_cons.mpr ⟨rfl, fun _ h => absurd h List.not_mem_nil⟩) (ygf118 hB _ _ (w32_w _)) (fun v1 m1 cv1 => ?_)
    refine xS_of (pc' := 25) (L' := []) (st' := [xi (w32 (32 + v1))]) (m' := m1) (fun ex ns r q => ?_) ?_
    · refine xw_iadd rfl ?_
      refine xw_goto rfl ?_
      refine xw_cst (st' := [xi (w32 (32 + v1))]) (xw_sc (xi_c rfl) rfl) ?_
      exact q
    exact xS_ret (v := (w32 (32 + v1))) rfl rfl xw_rtI (w32_w _)
  · refine xS_of (pc' := 22) (L' := []) (st' := [xi (w32 (xw_lushrf p0 32))]) (m' := m) (fun ex ns r q => ?_) ?_
    · refine xw_if_neT rfl (w32_cg (w32_w _)) h0 ?_
      refine xw_iload_n rfl rfl ?_
      refine xw_lo (L2 := []) (fun _ h => absurd h List.not_mem_nil) ?_
      exact q
    refine xS_call (q := 118) (n := 1) (kq := 1) (as := [xi (w32 (xw_lushrf p0 32))]) (st1 := []) rfl rfl rfl rfl rfl rfl rfl rfl rfl rfl (fun _ => xw_rcv0 rfl) rfl (List.forall_mem_cons.mpr ⟨rfl, fun _ h => absurd h List.not_mem_nil⟩) (ygf118 hB _ _ (w32_w _)) (fun v2 m2 cv2 => ?_)
    exact xS_ret (v := v2) rfl rfl xw_rtI cv2
theorem ygf116 {B : Nat} (hB : B ≤ 512) {xs : Nat → Int32} {SL d : Nat} : ∀ p0 m, w64 p0 = p0 → xS B xs SL (d + 2) 116 (2, (some .int), [], 0) 1 0 [(0, xj p0)] [] m (yf116 B p0 m) := by
  intro p0 m cp0
  unfold yf116
  refine xS_of (pc' := 3) (L' := []) (st' := [xj p0, xi 64]) (m' := m) (fun ex ns r q => ?_) ?_
  · refine xw_bipush (e := 64) rfl (by decide +kernel) ?_
    refine xw_lload_n rfl rfl ?_
    refine xw_lo (L2 := []) (fun _ h => absurd h List.not_mem_nil) ?_
    exact q
  refine xS_call (q := 117) (n := 1) (kq := 1) (as := [xj p0]) (st1 := [xi 64]) rfl rfl rfl rfl rfl rfl rfl rfl rfl rfl (fun _ => xw_rcv0 rfl) rfl (List.forall_mem_cons.mpr ⟨rfl, fun _ h => absurd h List.not_mem_nil⟩) (ygf117 hB _ _ cp0) (fun v1 m1 cv1 => ?_)
  refine xS_of (pc' := 7) (L' := []) (st' := [xi (w32 (64 - v1))]) (m' := m1) (fun ex ns r q => ?_) ?_
  · refine xw_isub rfl ?_
    refine xw_cst (st' := [xi (w32 (64 - v1))]) (xw_sc (xi_c rfl) rfl) ?_
    exact q
  exact xS_ret (v := (w32 (64 - v1))) rfl rfl xw_rtI (w32_w _)
theorem ysl115_54 {B : Nat} (hB : B ≤ 512) {xs : Nat → Int32} {SL d : Nat} {r54 : Int → Int → Int → Int → Int → xw_M → xP} (hr54 : ∀ x0 x1 x2 x4 x5 m, w32 x2 = x2 → w32 x4 = x4 → w32 x5 = x5 → xS B xs SL (d + 3) 115 (6, none, [], 12) 0 54 [(0, xa x0), (1, xa x1), (2, xi x2), (4, xi x4), (5, xi x5)] [] m (r54 x0 x1 x2 x4 x5 m)) : ∀ x0 x1 x2 x4 x5 m, w32 x2 = x2 → w32 x4 = x4 → w32 x5 = x5 → xS B xs SL (d + 3) 115 (6, none, [], 12) 0 54 [(0, xa x0), (1, xa x1), (2, xi x2), (4, xi x4), (5, xi x5)] [] m (yl115_54 B r54 x0 x1 x2 x4 x5 m) := by
  intro x0 x1 x2 x4 x5 m c2 c4 c5
  unfold yl115_54
  refine xS_of (pc' := 57) (L' := [(0, xa x0), (1, xa x1), (2, xi x2), (4, xi x4), (5, xi x5)]) (st' := [xi x2, xi x5]) (m' := m) (fun ex ns r q => ?_) ?_
  · refine xw_iload rfl rfl ?_
    refine xw_iload_n rfl rfl ?_
    exact q
  refine xS_if (fun h0 => ?_) (fun h0 => ?_)
  · refine xS_g (fun g1 => ?_)
    refine xS_of (pc' := 70) (L' := [(0, xa x0), (1, xa x1), (2, xi x2), (4, xi x4), (5, xi x5)]) (st' := [xi x4, xa x0, xa (xw_rf x0 5), xi x5, xa x1]) (m' := m) (fun ex ns r q => ?_) ?_
    · refine xw_ic_geF rfl (w32_cg c5) (w32_cg c2) (Int.not_le.mpr h0) ?_
      refine xw_aload_n rfl rfl rfl ?_
      refine xw_iload rfl rfl ?_
      refine xw_aload_n rfl rfl rfl ?_
      refine xw_gfV (qi := 5) rfl (xw_obd g1) xk11_5 rfl ?_
      refine xw_aload_n rfl rfl rfl ?_
      refine xw_iload rfl rfl ?_
      refine xw_lo (L2 := [(0, xa x0), (1, xa x1), (2, xi x2), (4, xi x4), (5, xi x5)]) (List.forall_mem_cons.mpr ⟨rfl, List.forall_mem_cons.mpr ⟨rfl, List.forall_mem_cons.mpr ⟨rfl, List.forall_mem_cons.mpr ⟨rfl, List.forall_mem_cons.mpr ⟨rfl, fun _ h => absurd h List.not_mem_nil⟩⟩⟩⟩⟩) ?_
      exact q
    refine xS_call (q := 19) (n := 2) (kq := 2) (as := [xa x0, xi x4]) (st1 := [xa (xw_rf x0 5), xi x5, xa x1]) rfl rfl rfl rfl rfl rfl rfl rfl rfl rfl (fun _ => xw_rcv1 (t := 11) (xw_obd g1) rfl) rfl (List.forall_mem_cons.mpr ⟨rfl, List.forall_mem_cons.mpr ⟨rfl, fun _ h => absurd h List.not_mem_nil⟩⟩) (ygf19 hB _ _ _ c4) (fun v1 m1 cv1 => ?_)
    refine xS_g (fun g2 => ?_)
    refine xS_g (fun g3 => ?_)
    refine xS_g (fun g4 => ?_)
    refine xS_g (fun g5 => ?_)
    refine xS_of (pc' := 54) (L' := [(0, xa x0), (1, xa x1), (2, xi x2), (4, xi x4), (5, xi (w32 (x5 + 1)))]) (st' := []) (m' := (xw_u m1 x1 x5 (xJ m1 (xw_rf x0 5) (min v1 1023)))) (fun ex ns r q => ?_) ?_
    · refine xw_ldc2 (e := 1023) rfl (by decide +kernel) ?_
      refine xw_minJ rfl rfl (w64_cg cv1) (w64_cg rfl) rfl ?_
      refine xw_l2i rfl ?_
      refine xw_laldc (n := (xw_le B (xw_rf x0 5))) (v := (m1 (xw_rf x0 5) (min v1 1023))) (v' := (xJ m1 (xw_rf x0 5) (min v1 1023))) rfl hB (xw_obd g3) rfl g2 rfl rfl ?_
      refine xw_last (n := (xw_le B x1)) rfl hB (xw_obd g5) rfl g4 ?_
      refine xw_iincc (z := (w32 (x5 + 1))) (L' := [(5, xi (w32 (x5 + 1))), (0, xa x0), (1, xa x1), (2, xi x2), (4, xi x4)]) rfl rfl (by decide) rfl rfl ?_
      refine xw_goto rfl ?_
      refine xw_lo (L2 := [(0, xa x0), (1, xa x1), (2, xi x2), (4, xi x4), (5, xi (w32 (x5 + 1)))]) (List.forall_mem_cons.mpr ⟨rfl, List.forall_mem_cons.mpr ⟨rfl, List.forall_mem_cons.mpr ⟨rfl, List.forall_mem_cons.mpr ⟨rfl, List.forall_mem_cons.mpr ⟨rfl, fun _ h => absurd h List.not_mem_nil⟩⟩⟩⟩⟩) ?_
      exact q
    exact hr54 _ _ _ _ _ _ c2 c4 (w32_w _)
  · refine xS_of (pc' := 88) (L' := [(0, xa x0), (1, xa x1), (2, xi x2), (4, xi x4), (5, xi x5)]) (st' := []) (m' := m) (fun ex ns r q => ?_) ?_
    · refine xw_ic_geT rfl (w32_cg c5) (w32_cg c2) (Int.not_lt.mp h0) ?_
      exact q
    exact xS_ret (v := 0) rfl rfl rfl rfl
theorem ygl115_54 {B : Nat} (hB : B ≤ 512) {xs : Nat → Int32} {SL d : Nat} : ∀ n x0 x1 x2 x4 x5 m, w32 x2 = x2 → w32 x4 = x4 → w32 x5 = x5 → xS B xs SL (d + 3) 115 (6, none, [], 12) 0 54 [(0, xa x0), (1, xa x1), (2, xi x2), (4, xi x4), (5, xi x5)] [] m (xl5 (yl115_54 B) n x0 x1 x2 x4 x5 m) := by
  intro n
  induction n with
  | zero => intro x0 x1 x2 x4 x5 m c2 c4 c5; exact xS_none
  | succ n ih => exact ysl115_54 hB ih
theorem ysl115_17 {B : Nat} (hB : B ≤ 512) {xs : Nat → Int32} {SL d : Nat} {r17 : Int → Int → Int → Int → Int → xw_M → xP} (hr17 : ∀ x0 x1 x2 x3 x4 m, w32 x2 = x2 → w32 x3 = x3 → w32 x4 = x4 → xS B xs SL (d + 3) 115 (6, none, [], 12) 0 17 [(0, xa x0), (1, xa x1), (2, xi x2), (3, xi x3), (4, xi x4)] [] m (r17 x0 x1 x2 x3 x4 m)) : ∀ x0 x1 x2 x3 x4 m, w32 x2 = x2 → w32 x3 = x3 → w32 x4 = x4 → xS B xs SL (d + 3) 115 (6, none, [], 12) 0 17 [(0, xa x0), (1, xa x1), (2, xi x2), (3, xi x3), (4, xi x4)] [] m (yl115_17 B r17 x0 x1 x2 x3 x4 m) := by
  intro x0 x1 x2 x3 x4 m c2 c3 c4
  unfold yl115_17
  refine xS_of (pc' := 20) (L' := [(0, xa x0), (1, xa x1), (2, xi x2), (3, xi x3), (4, xi x4)]) (st' := [xi x3, xi x4]) (m' := m) (fun ex ns r q => ?_) ?_
  · refine xw_iload rfl rfl ?_
    refine xw_iload_n rfl rfl ?_
    exact q
  refine xS_if (fun h0 => ?_) (fun h0 => ?_)
  · refine xS_g (fun g1 => ?_)
    refine xS_of (pc' := 32) (L' := [(0, xa x0), (1, xa x1), (2, xi x2), (3, xi x3), (4, xi x4)]) (st' := [xi 64, xa x0, xi x4, xa (xw_rf x0 5)]) (m' := m) (fun ex ns r q => ?_) ?_
    · refine xw_ic_geF rfl (w32_cg c4) (w32_cg c3) (Int.not_le.mpr h0) ?_
      refine xw_aload_n rfl rfl rfl ?_
      refine xw_gfV (qi := 5) rfl (xw_obd g1) xk11_5 rfl ?_
      refine xw_iload rfl rfl ?_
      refine xw_aload_n rfl rfl rfl ?_
      refine xw_bipush (e := 64) rfl (by decide +kernel) ?_
      refine xw_lo (L2 := [(0, xa x0), (1, xa x1), (2, xi x2), (3, xi x3), (4, xi x4)]) (List.forall_mem_cons.mpr ⟨rfl, List.forall_mem_cons.mpr ⟨rfl, List.forall_mem_cons.mpr ⟨rfl, List.forall_mem_cons.mpr ⟨rfl, List.forall_mem_cons.mpr ⟨rfl, fun _ h => absurd h List.not_mem_nil⟩⟩⟩⟩⟩) ?_
      exact q
    refine xS_call (q := 19) (n := 2) (kq := 2) (as := [xa x0, xi 64]) (st1 := [xi x4, xa (xw_rf x0 5)]) rfl rfl rfl rfl rfl rfl rfl rfl rfl rfl (fun _ => xw_rcv1 (t := 11) (xw_obd g1) rfl) rfl (List.forall_mem_cons.mpr ⟨rfl, List.forall_mem_cons.mpr ⟨rfl, fun _ h => absurd h List.not_mem_nil⟩⟩) (ygf19 hB _ _ _ rfl) (fun v1 m1 cv1 => ?_)
    refine xS_g (fun g2 => ?_)
    refine xS_g (fun g3 => ?_)
    refine xS_of (pc' := 17) (L' := [(0, xa x0), (1, xa x1), (2, xi x2), (3, xi x3), (4, xi (w32 (x4 + 1)))]) (st' := []) (m' := (xw_u m1 (xw_rf x0 5) x4 v1)) (fun ex ns r q => ?_) ?_
    · refine xw_last (n := (xw_le B (xw_rf x0 5))) rfl hB (xw_obd g3) rfl g2 ?_
      refine xw_iincc (z := (w32 (x4 + 1))) (L' := [(4, xi (w32 (x4 + 1))), (0, xa x0), (1, xa x1), (2, xi x2), (3, xi x3)]) rfl rfl (by decide) rfl rfl ?_
      refine xw_goto rfl ?_
      refine xw_lo (L2 := [(0, xa x0), (1, xa x1), (2, xi x2), (3, xi x3), (4, xi (w32 (x4 + 1)))]) (List.forall_mem_cons.mpr ⟨rfl, List.forall_mem_cons.mpr ⟨rfl, List.forall_mem_cons.mpr ⟨rfl, List.forall_mem_cons.mpr ⟨rfl, List.forall_mem_cons.mpr ⟨rfl, fun _ h => absurd h List.not_mem_nil⟩⟩⟩⟩⟩) ?_
      exact q
    exact hr17 _ _ _ _ _ _ c2 c3 (w32_w _)
  · refine xS_of (pc' := 46) (L' := [(0, xa x0), (1, xa x1), (2, xi x2)]) (st' := [xj (w32 (x3 - 1))]) (m' := m) (fun ex ns r q => ?_) ?_
    · refine xw_ic_geT rfl (w32_cg c4) (w32_cg c3) (Int.not_lt.mp h0) ?_
      refine xw_iload_n rfl rfl ?_
      refine xw_iconst rfl ?_
      refine xw_isub rfl ?_
      refine xw_cst (st' := [xi (w32 (x3 - 1))]) (xw_sc (xi_c rfl) rfl) ?_
      refine xw_i2l rfl (w32_cg (w32_w _)) ?_
      refine xw_lo (L2 := [(0, xa x0), (1, xa x1), (2, xi x2)]) (List.forall_mem_cons.mpr ⟨rfl, List.forall_mem_cons.mpr ⟨rfl, List.forall_mem_cons.mpr ⟨rfl, fun _ h => absurd h List.not_mem_nil⟩⟩⟩) ?_
      exact q
    refine xS_call (q := 116) (n := 1) (kq := 1) (as := [xj (w32 (x3 - 1))]) (st1 := []) rfl rfl rfl rfl rfl rfl rfl rfl rfl rfl (fun _ => xw_rcv0 rfl) rfl (List.forall_mem_cons.mpr ⟨rfl, fun _ h => absurd h List.not_mem_nil⟩) (ygf116 hB _ _ (w64_32 (w32_w _))) (fun v2 m2 cv2 => ?_)
    refine xS_of (pc' := 54) (L' := [(0, xa x0), (1, xa x1), (2, xi x2), (4, xi v2), (5, xi 0)]) (st' := []) (m' := m2) (fun ex ns r q => ?_) ?_
    · refine xw_istore (L' := [(4, xi v2), (0, xa x0), (1, xa x1), (2, xi x2)]) rfl (by decide) rfl ?_
      refine xw_iconst rfl ?_
      refine xw_istore (L' := [(5, xi 0), (4, xi v2), (0, xa x0), (1, xa x1), (2, xi x2)]) rfl (by decide) rfl ?_
      refine xw_lo (L2 := [(0, xa x0), (1, xa x1), (2, xi x2), (4, xi v2), (5, xi 0)]) (List.forall_mem_cons.mpr ⟨rfl, List.forall_mem_cons.mpr ⟨rfl, List.forall_mem_cons.mpr ⟨rfl, List.forall_mem_cons.mpr ⟨rfl, List.forall_mem_cons.mpr ⟨rfl, fun _ h => absurd h List.not_mem_nil⟩⟩⟩⟩⟩) ?_
      exact q
    exact ygl115_54 hB 1000000 _ _ _ _ _ _ c2 cv2 rfl
theorem ygl115_17 {B : Nat} (hB : B ≤ 512) {xs : Nat → Int32} {SL d : Nat} : ∀ n x0 x1 x2 x3 x4 m, w32 x2 = x2 → w32 x3 = x3 → w32 x4 = x4 → xS B xs SL (d + 3) 115 (6, none, [], 12) 0 17 [(0, xa x0), (1, xa x1), (2, xi x2), (3, xi x3), (4, xi x4)] [] m (xl5 (yl115_17 B) n x0 x1 x2 x3 x4 m) := by
  intro n
  induction n with
  | zero => intro x0 x1 x2 x3 x4 m c2 c3 c4; exact xS_none
  | succ n ih => exact ysl115_17 hB ih
theorem ygf115 {B : Nat} (hB : B ≤ 512) {xs : Nat → Int32} {SL d : Nat} : ∀ t p0 p1 m, w32 p1 = p1 → xS B xs SL (d + 3) 115 (6, none, [], 12) 0 0 [(0, xa t), (1, xa p0), (2, xi p1)] [] m (yf115 B t p0 p1 m) := by
  intro t p0 p1 m cp1
  unfold yf115
  refine xS_g (fun g0 => ?_)
  refine xS_of (pc' := 3) (L' := [(0, xa t), (1, xa p0), (2, xi p1)]) (st' := [xi 16, xa t]) (m' := m) (fun ex ns r q => ?_) ?_
  · refine xw_aload_n rfl rfl rfl ?_
    refine xw_bipush (e := 16) rfl (by decide +kernel) ?_
    refine xw_lo (L2 := [(0, xa t), (1, xa p0), (2, xi p1)]) (List.forall_mem_cons.mpr ⟨rfl, List.forall_mem_cons.mpr ⟨rfl, List.forall_mem_cons.mpr ⟨rfl, fun _ h => absurd h List.not_mem_nil⟩⟩⟩) ?_
    exact q
  refine xS_call (q := 19) (n := 2) (kq := 2) (as := [xa t, xi 16]) (st1 := []) rfl rfl rfl rfl rfl rfl rfl rfl rfl rfl (fun _ => xw_rcv1 (t := 11) (xw_obd g0) rfl) rfl (List.forall_mem_cons.mpr ⟨rfl, List.forall_mem_cons.mpr ⟨rfl, fun _ h => absurd h List.not_mem_nil⟩⟩) (ygf19 hB _ _ _ rfl) (fun v1 m1 cv1 => ?_)
  refine xS_of (pc' := 17) (L' := [(0, xa t), (1, xa p0), (2, xi p1), (3, xi (w32 (min v1 1024))), (4, xi 0)]) (st' := []) (m' := m1) (fun ex ns r q => ?_) ?_
  · refine xw_ldc2 (e := 1024) rfl (by decide +kernel) ?_
    refine xw_minJ rfl rfl (w64_cg cv1) (w64_cg rfl) rfl ?_
    refine xw_l2i rfl ?_
    refine xw_cst (st' := [xi (w32 (min v1 1024))]) (xw_sc (xi_c rfl) rfl) ?_
    refine xw_istore_n (L' := [(3, xi (w32 (min v1 1024))), (0, xa t), (1, xa p0), (2, xi p1)]) rfl (by decide) rfl ?_
    refine xw_iconst rfl ?_
    refine xw_istore (L' := [(4, xi 0), (3, xi (w32 (min v1 1024))), (0, xa t), (1, xa p0), (2, xi p1)]) rfl (by decide) rfl ?_
    refine xw_lo (L2 := [(0, xa t), (1, xa p0), (2, xi p1), (3, xi (w32 (min v1 1024))), (4, xi 0)]) (List.forall_mem_cons.mpr ⟨rfl, List.forall_mem_cons.mpr ⟨rfl, List.forall_mem_cons.mpr ⟨rfl, List.forall_mem_cons.mpr ⟨rfl, List.forall_mem_cons.mpr ⟨rfl, fun _ h => absurd h List.not_mem_nil⟩⟩⟩⟩⟩) ?_
    exact q
  exact ygl115_17 hB 1000000 _ _ _ _ _ _ cp1 (w32_w _) rfl
theorem ygf121 {B : Nat} (hB : B ≤ 512) {xs : Nat → Int32} {SL d : Nat} : ∀ p0 p1 p2 m, w32 p0 = p0 → w32 p1 = p1 → w32 p2 = p2 → xS B xs SL (d + 0) 121 (3, none, [], 0) 0 0 [(0, xi p0), (1, xi p1), (2, xi p2)] [] m (yf121 B p0 p1 p2 m) := by
  intro p0 p1 p2 m cp0 cp1 cp2
  unfold yf121
  refine xS_of (pc' := 2) (L' := [(0, xi p0), (1, xi p1), (2, xi p2)]) (st' := [xi p2, xi p1]) (m' := m) (fun ex ns r q => ?_) ?_
  · refine xw_iload_n rfl rfl ?_
    refine xw_iload_n rfl rfl ?_
    exact q
  refine xS_if (fun h0 => ?_) (fun h0 => ?_)
  · exact xS_none
  · refine xS_of (pc' := 47) (L' := [(0, xi p0), (1, xi p1), (2, xi p2)]) (st' := [xi p1]) (m' := m) (fun ex ns r q => ?_) ?_
    · refine xw_ic_leT rfl (w32_cg cp1) (w32_cg cp2) (Int.not_lt.mp h0) ?_
      refine xw_iload_n rfl rfl ?_
      exact q
    refine xS_if (fun h1 => ?_) (fun h1 => ?_)
    · exact xS_none
    · refine xS_of (pc' := 61) (L' := [(0, xi p0), (1, xi p1), (2, xi p2)]) (st' := [xi p0, xi p2]) (m' := m) (fun ex ns r q => ?_) ?_
      · refine xw_if_geT rfl (w32_cg cp1) (Int.not_lt.mp h1) ?_
        refine xw_iload_n rfl rfl ?_
        refine xw_iload_n rfl rfl ?_
        exact q
      refine xS_if (fun h2 => ?_) (fun h2 => ?_)
      · exact xS_none
      · refine xS_of (pc' := 73) (L' := [(0, xi p0), (1, xi p1), (2, xi p2)]) (st' := []) (m' := m) (fun ex ns r q => ?_) ?_
        · refine xw_ic_leT rfl (w32_cg cp2) (w32_cg cp0) (Int.not_lt.mp h2) ?_
          exact q
        exact xS_ret (v := 0) rfl rfl rfl rfl
theorem ysl120_10 {B : Nat} (hB : B ≤ 512) {xs : Nat → Int32} {SL d : Nat} {r10 : Int → Int → Int → Int → xw_M → xP} (hr10 : ∀ x0 x2 x3 x5 m, w32 x2 = x2 → w64 x3 = x3 → w32 x5 = x5 → xS B xs SL (d + 1) 120 (6, none, [], 0) 0 10 [(0, xa x0), (2, xi x2), (3, xj x3), (5, xi x5)] [] m (r10 x0 x2 x3 x5 m)) : ∀ x0 x2 x3 x5 m, w32 x2 = x2 → w64 x3 = x3 → w32 x5 = x5 → xS B xs SL (d + 1) 120 (6, none, [], 0) 0 10 [(0, xa x0), (2, xi x2), (3, xj x3), (5, xi x5)] [] m (yl120_10 B r10 x0 x2 x3 x5 m) := by
  intro x0 x2 x3 x5 m c2 c3 c5
  unfold yl120_10
  refine xS_of (pc' := 13) (L' := [(0, xa x0), (2, xi x2), (3, xj x3), (5, xi x5)]) (st' := [xi x2, xi x5]) (m' := m) (fun ex ns r q => ?_) ?_
  · refine xw_iload rfl rfl ?_
    refine xw_iload_n rfl rfl ?_
    exact q
  refine xS_if (fun h0 => ?_) (fun h0 => ?_)
  · refine xS_g (fun g1 => ?_)
    refine xS_g (fun g2 => ?_)
    refine xS_of (pc' := 10) (L' := [(0, xa x0), (2, xi x2), (3, xj x3), (5, xi (w32 (x5 + 1)))]) (st' := []) (m' := (xw_u m x0 x5 x3)) (fun ex ns r q => ?_) ?_
    · refine xw_ic_geF rfl (w32_cg c5) (w32_cg c2) (Int.not_le.mpr h0) ?_
      refine xw_aload_n rfl rfl rfl ?_
      refine xw_iload rfl rfl ?_
      refine xw_lload_n rfl rfl ?_
      refine xw_last (n := (xw_le B x0)) rfl hB (xw_obd g2) rfl g1 ?_
      refine xw_iincc (z := (w32 (x5 + 1))) (L' := [(5, xi (w32 (x5 + 1))), (0, xa x0), (2, xi x2), (3, xj x3)]) rfl rfl (by decide) rfl rfl ?_
      refine xw_goto rfl ?_
      refine xw_lo (L2 := [(0, xa x0), (2, xi x2), (3, xj x3), (5, xi (w32 (x5 + 1)))]) (List.forall_mem_cons.mpr ⟨rfl, List.forall_mem_cons.mpr ⟨rfl, List.forall_mem_cons.mpr ⟨rfl, List.forall_mem_cons.mpr ⟨rfl, fun _ h => absurd h List.not_mem_nil⟩⟩⟩⟩) ?_
      exact q
    exact hr10 _ _ _ _ _ c2 c3 (w32_w _)
  · refine xS_of (pc' := 27) (L' := [(0, xa x0), (2, xi x2), (3, xj x3), (5, xi x5)]) (st' := []) (m' := m) (fun ex ns r q => ?_) ?_
    · refine xw_ic_geT rfl (w32_cg c5) (w32_cg c2) (Int.not_lt.mp h0) ?_
      exact q
    exact xS_ret (v := 0) rfl rfl rfl rfl
theorem ygl120_10 {B : Nat} (hB : B ≤ 512) {xs : Nat → Int32} {SL d : Nat} : ∀ n x0 x2 x3 x5 m, w32 x2 = x2 → w64 x3 = x3 → w32 x5 = x5 → xS B xs SL (d + 1) 120 (6, none, [], 0) 0 10 [(0, xa x0), (2, xi x2), (3, xj x3), (5, xi x5)] [] m (xl4 (yl120_10 B) n x0 x2 x3 x5 m) := by
  intro n
  induction n with
  | zero => intro x0 x2 x3 x5 m c2 c3 c5; exact xS_none
  | succ n ih => exact ysl120_10 hB ih
theorem ygf120 {B : Nat} (hB : B ≤ 512) {xs : Nat → Int32} {SL d : Nat} : ∀ p0 p1 p2 p3 m, w32 p1 = p1 → w32 p2 = p2 → w64 p3 = p3 → xS B xs SL (d + 1) 120 (6, none, [], 0) 0 0 [(0, xa p0), (1, xi p1), (2, xi p2), (3, xj p3)] [] m (yf120 B p0 p1 p2 p3 m) := by
  intro p0 p1 p2 p3 m cp1 cp2 cp3
  unfold yf120
  refine xS_g (fun g0 => ?_)
  refine xS_of (pc' := 4) (L' := [(0, xa p0), (1, xi p1), (2, xi p2), (3, xj p3)]) (st' := [xi p2, xi p1, xi (w32 (xw_le B p0))]) (m' := m) (fun ex ns r q => ?_) ?_
  · refine xw_aload_n rfl rfl rfl ?_
    refine xw_lenr (t := 17) rfl (xw_obd g0) (by decide) rfl ?_
    refine xw_iload_n rfl rfl ?_
    refine xw_iload_n rfl rfl ?_
    refine xw_cst (st' := [xi p2, xi p1, xi (w32 (xw_le B p0))]) (xw_sc rfl (xw_sc rfl (xw_sc (xi_c rfl) rfl))) ?_
    refine xw_lo (L2 := [(0, xa p0), (1, xi p1), (2, xi p2), (3, xj p3)]) (List.forall_mem_cons.mpr ⟨rfl, List.forall_mem_cons.mpr ⟨rfl, List.forall_mem_cons.mpr ⟨rfl, List.forall_mem_cons.mpr ⟨rfl, fun _ h => absurd h List.not_mem_nil⟩⟩⟩⟩) ?_
    exact q
  refine xS_call (q := 121) (n := 3) (kq := 0) (as := [xi (w32 (xw_le B p0)), xi p1, xi p2]) (st1 := []) rfl rfl rfl rfl rfl rfl rfl rfl rfl rfl (fun _ => xw_rcv0 rfl) rfl (List.forall_mem_cons.mpr ⟨rfl, List.forall_mem_cons.mpr ⟨rfl, List.forall_mem_cons.mpr ⟨rfl, fun _ h => absurd h List.not_mem_nil⟩⟩⟩) (ygf121 hB _ _ _ _ (w32_w _) cp1 cp2) (fun v1 m1 cv1 => ?_)
  refine xS_of (pc' := 10) (L' := [(0, xa p0), (2, xi p2), (3, xj p3), (5, xi p1)]) (st' := []) (m' := m1) (fun ex ns r q => ?_) ?_
  · refine xw_iload_n rfl rfl ?_
    refine xw_istore (L' := [(5, xi p1), (0, xa p0), (1, xi p1), (2, xi p2), (3, xj p3)]) rfl (by decide) rfl ?_
    refine xw_lo (L2 := [(0, xa p0), (2, xi p2), (3, xj p3), (5, xi p1)]) (List.forall_mem_cons.mpr ⟨rfl, List.forall_mem_cons.mpr ⟨rfl, List.forall_mem_cons.mpr ⟨rfl, List.forall_mem_cons.mpr ⟨rfl, fun _ h => absurd h List.not_mem_nil⟩⟩⟩⟩) ?_
    exact q
  exact ygl120_10 hB 1000000 _ _ _ _ _ cp2 cp3 cp1
theorem ysl119_11 {B : Nat} (hB : B ≤ 512) {xs : Nat → Int32} {SL d : Nat} {r11 : Int → Int → Int → Int → Int → xw_M → xP} (hr11 : ∀ x0 x1 x2 x3 x4 m, w32 x2 = x2 → w32 x3 = x3 → w32 x4 = x4 → xS B xs SL (d + 2) 119 (8, none, [], 12) 0 11 [(0, xa x0), (1, xa x1), (2, xi x2), (3, xi x3), (4, xi x4)] [] m (r11 x0 x1 x2 x3 x4 m)) : ∀ x0 x1 x2 x3 x4 m, w32 x2 = x2 → w32 x3 = x3 → w32 x4 = x4 → xS B xs SL (d + 2) 119 (8, none, [], 12) 0 11 [(0, xa x0), (1, xa x1), (2, xi x2), (3, xi x3), (4, xi x4)] [] m (yl119_11 B r11 x0 x1 x2 x3 x4 m) := by
  intro x0 x1 x2 x3 x4 m c2 c3 c4
  unfold yl119_11
  refine xS_of (pc' := 12) (L' := [(0, xa x0), (1, xa x1), (2, xi x2), (3, xi x3), (4, xi x4)]) (st' := [xi x3]) (m' := m) (fun ex ns r q => ?_) ?_
  · refine xw_iload_n rfl rfl ?_
    exact q
  refine xS_if (fun h0 => ?_) (fun h0 => ?_)
  · refine xS_g (fun g1 => ?_)
    refine xS_of (pc' := 18) (L' := [(0, xa x0), (1, xa x1), (2, xi x2), (3, xi x3), (4, xi x4)]) (st' := [xi 64, xa x0]) (m' := m) (fun ex ns r q => ?_) ?_
    · refine xw_if_leF rfl (w32_cg c3) (Int.not_le.mpr h0) ?_
      refine xw_aload_n rfl rfl rfl ?_
      refine xw_bipush (e := 64) rfl (by decide +kernel) ?_
      refine xw_lo (L2 := [(0, xa x0), (1, xa x1), (2, xi x2), (3, xi x3), (4, xi x4)]) (List.forall_mem_cons.mpr ⟨rfl, List.forall_mem_cons.mpr ⟨rfl, List.forall_mem_cons.mpr ⟨rfl, List.forall_mem_cons.mpr ⟨rfl, List.forall_mem_cons.mpr ⟨rfl, fun _ h => absurd h List.not_mem_nil⟩⟩⟩⟩⟩) ?_
      exact q
    refine xS_call (q := 19) (n := 2) (kq := 2) (as := [xa x0, xi 64]) (st1 := []) rfl rfl rfl rfl rfl rfl rfl rfl rfl rfl (fun _ => xw_rcv1 (t := 11) (xw_obd g1) rfl) rfl (List.forall_mem_cons.mpr ⟨rfl, List.forall_mem_cons.mpr ⟨rfl, fun _ h => absurd h List.not_mem_nil⟩⟩) (ygf19 hB _ _ _ rfl) (fun v1 m1 cv1 => ?_)
    refine xS_of (pc' := 31) (L' := [(0, xa x0), (1, xa x1), (2, xi x2), (3, xi x3), (4, xi x4), (5, xj v1)]) (st' := [xi 16, xa x0, xj x4, xj x2]) (m' := m1) (fun ex ns r q => ?_) ?_
    · refine xw_lstore (L' := [(5, xj v1), (0, xa x0), (1, xa x1), (2, xi x2), (3, xi x3), (4, xi x4)]) rfl (by decide) rfl ?_
      refine xw_iload_n rfl rfl ?_
      refine xw_i2l rfl (w32_cg c2) ?_
      refine xw_iload rfl rfl ?_
      refine xw_i2l rfl (w32_cg c4) ?_
      refine xw_aload_n rfl rfl rfl ?_
      refine xw_bipush (e := 16) rfl (by decide +kernel) ?_
      refine xw_lo (L2 := [(0, xa x0), (1, xa x1), (2, xi x2), (3, xi x3), (4, xi x4), (5, xj v1)]) (List.forall_mem_cons.mpr ⟨rfl, List.forall_mem_cons.mpr ⟨rfl, List.forall_mem_cons.mpr ⟨rfl, List.forall_mem_cons.mpr ⟨rfl, List.forall_mem_cons.mpr ⟨rfl, List.forall_mem_cons.mpr ⟨rfl, fun _ h => absurd h List.not_mem_nil⟩⟩⟩⟩⟩⟩) ?_
      exact q
    refine xS_call (q := 19) (n := 2) (kq := 2) (as := [xa x0, xi 16]) (st1 := [xj x4, xj x2]) rfl rfl rfl rfl rfl rfl rfl rfl rfl rfl (fun _ => xw_rcv1 (t := 11) (xw_obd g1) rfl) rfl (List.forall_mem_cons.mpr ⟨rfl, List.forall_mem_cons.mpr ⟨rfl, fun _ h => absurd h List.not_mem_nil⟩⟩) (ygf19 hB _ _ _ rfl) (fun v2 m2 cv2 => ?_)
    refine xS_of (pc' := 48) (L' := [(0, xa x0), (1, xa x1), (2, xi x2), (3, xi x3), (7, xi (w32 (min x2 (w64 (x4 + v2)))))]) (st' := [xj v1, xi (w32 (min x2 (w64 (x4 + v2)))), xi x4, xa x1]) (m' := m2) (fun ex ns r q => ?_) ?_
    · refine xw_ladd rfl ?_
      refine xw_cst (st' := [xj (w64 (x4 + v2)), xj x2]) (xw_sc (xj_c rfl) (xw_sc rfl rfl)) ?_
      refine xw_minJ rfl rfl (w64_cg (w64_32 c2)) (w64_cg (w64_w _)) rfl ?_
      refine xw_l2i rfl ?_
      refine xw_cst (st' := [xi (w32 (min x2 (w64 (x4 + v2))))]) (xw_sc (xi_c rfl) rfl) ?_
      refine xw_istore (L' := [(7, xi (w32 (min x2 (w64 (x4 + v2))))), (0, xa x0), (1, xa x1), (2, xi x2), (3, xi x3), (4, xi x4), (5, xj v1)]) rfl (by decide) rfl ?_
      refine xw_aload_n rfl rfl rfl ?_
      refine xw_iload rfl rfl ?_
      refine xw_iload rfl rfl ?_
      refine xw_lload rfl rfl ?_
      refine xw_lo (L2 := [(0, xa x0), (1, xa x1), (2, xi x2), (3, xi x3), (7, xi (w32 (min x2 (w64 (x4 + v2)))))]) (List.forall_mem_cons.mpr ⟨rfl, List.forall_mem_cons.mpr ⟨rfl, List.forall_mem_cons.mpr ⟨rfl, List.forall_mem_cons.mpr ⟨rfl, List.forall_mem_cons.mpr ⟨rfl, fun _ h => absurd h List.not_mem_nil⟩⟩⟩⟩⟩) ?_
      exact q
    refine xS_call (q := 120) (n := 4) (kq := 0) (as := [xa x1, xi x4, xi (w32 (min x2 (w64 (x4 + v2)))), xj v1]) (st1 := []) rfl rfl rfl rfl rfl rfl rfl rfl rfl rfl (fun _ => xw_rcv0 rfl) rfl (List.forall_mem_cons.mpr ⟨rfl, List.forall_mem_cons.mpr ⟨rfl, List.forall_mem_cons.mpr ⟨rfl, List.forall_mem_cons.mpr ⟨rfl, fun _ h => absurd h List.not_mem_nil⟩⟩⟩⟩) (ygf120 hB _ _ _ _ _ c4 (w32_w _) cv1) (fun v3 m3 cv3 => ?_)
    refine xS_of (pc' := 11) (L' := [(0, xa x0), (1, xa x1), (2, xi x2), (3, xi (w32 (x3 + (-1)))), (4, xi (w32 (min x2 (w64 (x4 + v2)))))]) (st' := []) (m' := m3) (fun ex ns r q => ?_) ?_
    · refine xw_iload rfl rfl ?_
      refine xw_istore (L' := [(4, xi (w32 (min x2 (w64 (x4 + v2))))), (0, xa x0), (1, xa x1), (2, xi x2), (3, xi x3), (7, xi (w32 (min x2 (w64 (x4 + v2)))))]) rfl (by decide) rfl ?_
      refine xw_iincc (z := (w32 (x3 + (-1)))) (L' := [(3, xi (w32 (x3 + (-1)))), (4, xi (w32 (min x2 (w64 (x4 + v2))))), (0, xa x0), (1, xa x1), (2, xi x2), (7, xi (w32 (min x2 (w64 (x4 + v2)))))]) rfl rfl (by decide) rfl rfl ?_
      refine xw_goto rfl ?_
      refine xw_lo (L2 := [(0, xa x0), (1, xa x1), (2, xi x2), (3, xi (w32 (x3 + (-1)))), (4, xi (w32 (min x2 (w64 (x4 + v2)))))]) (List.forall_mem_cons.mpr ⟨rfl, List.forall_mem_cons.mpr ⟨rfl, List.forall_mem_cons.mpr ⟨rfl, List.forall_mem_cons.mpr ⟨rfl, List.forall_mem_cons.mpr ⟨rfl, fun _ h => absurd h List.not_mem_nil⟩⟩⟩⟩⟩) ?_
      exact q
    exact hr11 _ _ _ _ _ _ c2 (w32_w _) (w32_w _)
  · refine xS_of (pc' := 61) (L' := [(0, xa x0), (1, xa x1), (2, xi x2), (3, xi x3), (4, xi x4)]) (st' := []) (m' := m) (fun ex ns r q => ?_) ?_
    · refine xw_if_leT rfl (w32_cg c3) (Int.not_lt.mp h0) ?_
      exact q
    exact xS_ret (v := 0) rfl rfl rfl rfl
theorem ygl119_11 {B : Nat} (hB : B ≤ 512) {xs : Nat → Int32} {SL d : Nat} : ∀ n x0 x1 x2 x3 x4 m, w32 x2 = x2 → w32 x3 = x3 → w32 x4 = x4 → xS B xs SL (d + 2) 119 (8, none, [], 12) 0 11 [(0, xa x0), (1, xa x1), (2, xi x2), (3, xi x3), (4, xi x4)] [] m (xl5 (yl119_11 B) n x0 x1 x2 x3 x4 m) := by
  intro n
  induction n with
  | zero => intro x0 x1 x2 x3 x4 m c2 c3 c4; exact xS_none
  | succ n ih => exact ysl119_11 hB ih
theorem ygf119 {B : Nat} (hB : B ≤ 512) {xs : Nat → Int32} {SL d : Nat} : ∀ t p0 p1 m, w32 p1 = p1 → xS B xs SL (d + 2) 119 (8, none, [], 12) 0 0 [(0, xa t), (1, xa p0), (2, xi p1)] [] m (yf119 B t p0 p1 m) := by
  intro t p0 p1 m cp1
  unfold yf119
  refine xS_g (fun g0 => ?_)
  refine xS_of (pc' := 3) (L' := [(0, xa t), (1, xa p0), (2, xi p1)]) (st' := [xi 16, xa t]) (m' := m) (fun ex ns r q => ?_) ?_
  · refine xw_aload_n rfl rfl rfl ?_
    refine xw_bipush (e := 16) rfl (by decide +kernel) ?_
    refine xw_lo (L2 := [(0, xa t), (1, xa p0), (2, xi p1)]) (List.forall_mem_cons.mpr ⟨rfl, List.forall_mem_cons.mpr ⟨rfl, List.forall_mem_cons.mpr ⟨rfl, fun _ h => absurd h List.not_mem_nil⟩⟩⟩) ?_
    exact q
  refine xS_call (q := 19) (n := 2) (kq := 2) (as := [xa t, xi 16]) (st1 := []) rfl rfl rfl rfl rfl rfl rfl rfl rfl rfl (fun _ => xw_rcv1 (t := 11) (xw_obd g0) rfl) rfl (List.forall_mem_cons.mpr ⟨rfl, List.forall_mem_cons.mpr ⟨rfl, fun _ h => absurd h List.not_mem_nil⟩⟩) (ygf19 hB _ _ _ rfl) (fun v1 m1 cv1 => ?_)
  refine xS_of (pc' := 11) (L' := [(0, xa t), (1, xa p0), (2, xi p1), (3, xi (w32 v1)), (4, xi 0)]) (st' := []) (m' := m1) (fun ex ns r q => ?_) ?_
  · refine xw_l2i rfl ?_
    refine xw_cst (st' := [xi (w32 v1)]) (xw_sc (xi_c rfl) rfl) ?_
    refine xw_istore_n (L' := [(3, xi (w32 v1)), (0, xa t), (1, xa p0), (2, xi p1)]) rfl (by decide) rfl ?_
    refine xw_iconst rfl ?_
    refine xw_istore (L' := [(4, xi 0), (3, xi (w32 v1)), (0, xa t), (1, xa p0), (2, xi p1)]) rfl (by decide) rfl ?_
    refine xw_lo (L2 := [(0, xa t), (1, xa p0), (2, xi p1), (3, xi (w32 v1)), (4, xi 0)]) (List.forall_mem_cons.mpr ⟨rfl, List.forall_mem_cons.mpr ⟨rfl, List.forall_mem_cons.mpr ⟨rfl, List.forall_mem_cons.mpr ⟨rfl, List.forall_mem_cons.mpr ⟨rfl, fun _ h => absurd h List.not_mem_nil⟩⟩⟩⟩⟩) ?_
    exact q
  exact ygl119_11 hB 1000000 _ _ _ _ _ _ cp1 (w32_w _) rfl
