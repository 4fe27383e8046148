/-! the machine does what the functions say, 3 -/
theorem ysl122_60 {B : Nat} (hB : B ≤ 512) {xs : Nat → Int32} {SL d : Nat} {r60 : Int → Int → Int → Int → Int → Int → Int → Int → xw_M → xP} (hr60 : ∀ x0 x1 x2 x3 x4 x6 x8 x9 m, w32 x1 = x1 → w32 x3 = x3 → w64 x4 = x4 → w64 x6 = x6 → w32 x8 = x8 → w32 x9 = x9 → xS B xs SL (d + 1) 122 (10, none, [], 12) 0 60 [(0, xa x0), (1, xi x1), (2, xa x2), (3, xi x3), (4, xj x4), (6, xj x6), (8, xi x8), (9, xi x9)] [] m (r60 x0 x1 x2 x3 x4 x6 x8 x9 m)) : ∀ x0 x1 x2 x3 x4 x6 x8 x9 m, w32 x1 = x1 → w32 x3 = x3 → w64 x4 = x4 → w64 x6 = x6 → w32 x8 = x8 → w32 x9 = x9 → xS B xs SL (d + 1) 122 (10, none, [], 12) 0 60 [(0, xa x0), (1, xi x1), (2, xa x2), (3, xi x3), (4, xj x4), (6, xj x6), (8, xi x8), (9, xi x9)] [] m (yl122_60 B r60 x0 x1 x2 x3 x4 x6 x8 x9 m) := by
  intro x0 x1 x2 x3 x4 x6 x8 x9 m c1 c3 c4 c6 c8 c9
  unfold yl122_60
  refine xS_of (pc' := 63) (L' := [(0, xa x0), (1, xi x1), (2, xa x2), (3, xi x3), (4, xj x4), (6, xj x6), (8, xi x8), (9, xi x9)]) (st' := [xi x3, xi x9]) (m' := m) (fun ex ns r q => ?_) ?_
  · refine xw_iload rfl rfl ?_
    refine xw_iload_n rfl rfl ?_
    exact q
  refine xS_if (fun h0 => ?_) (fun h0 => ?_)
  · refine xS_of (pc' := 68) (L' := [(0, xa x0), (1, xi x1), (2, xa x2), (3, xi x3), (4, xj x4), (6, xj x6), (8, xi x8), (9, xi x9)]) (st' := [xi 4, xi x1]) (m' := m) (fun ex ns r q => ?_) ?_
    · refine xw_ic_geF rfl (w32_cg c9) (w32_cg c3) (Int.not_le.mpr h0) ?_
      refine xw_iload_n rfl rfl ?_
      refine xw_iconst rfl ?_
      exact q
    refine xS_if (fun h1 => ?_) (fun h1 => ?_)
    · refine xS_of (pc' := 92) (L' := [(0, xa x0), (1, xi x1), (2, xa x2), (3, xi x3), (4, xj x4), (6, xj x6), (8, xi x8), (9, xi x9)]) (st' := [xi x9, xi x9, xa x2]) (m' := m) (fun ex ns r q => ?_) ?_
      · refine xw_ic_eqT rfl (w32_cg c1) (w32_cg rfl) h1 ?_
        refine xw_aload_n rfl rfl rfl ?_
        refine xw_iload rfl rfl ?_
        refine xw_iload rfl rfl ?_
        exact q
      refine xS_if (fun h2 => ?_) (fun h2 => ?_)
      · refine xS_g (fun g3 => ?_)
        refine xS_g (fun g4 => ?_)
        refine xS_of (pc' := 60) (L' := [(0, xa x0), (1, xi x1), (2, xa x2), (3, xi x3), (4, xj x4), (6, xj x6), (8, xi x8), (9, xi (w32 (x9 + 1)))]) (st' := []) (m' := (xw_u m x2 x9 x4)) (fun ex ns r q => ?_) ?_
        · refine xw_if_neF rfl (w32_cg c9) h2 ?_
          refine xw_lload rfl rfl ?_
          refine xw_goto rfl ?_
          refine xw_last (n := (xw_le B x2)) rfl hB (xw_obd g4) rfl g3 ?_
          refine xw_iincc (z := (w32 (x9 + 1))) (L' := [(9, xi (w32 (x9 + 1))), (0, xa x0), (1, xi x1), (2, xa x2), (3, xi x3), (4, xj x4), (6, xj x6), (8, xi x8)]) rfl rfl (by decide) rfl rfl ?_
          refine xw_goto rfl ?_
          refine xw_lo (L2 := [(0, xa x0), (1, xi x1), (2, xa x2), (3, xi x3), (4, xj x4), (6, xj x6), (8, xi x8), (9, xi (w32 (x9 + 1)))]) (List.forall_mem_cons.mpr ⟨rfl, List.forall_mem_cons.mpr ⟨rfl, List.forall_mem_cons.mpr ⟨rfl, List.forall_mem_cons.mpr ⟨rfl, List.forall_mem_cons.mpr ⟨rfl, List.forall_mem_cons.mpr ⟨rfl, List.forall_mem_cons.mpr ⟨rfl, List.forall_mem_cons.mpr ⟨rfl, fun _ h => absurd h List.not_mem_nil⟩⟩⟩⟩⟩⟩⟩⟩) ?_
          exact q
        exact hr60 _ _ _ _ _ _ _ _ _ c1 c3 c4 c6 c8 (w32_w _)
      · refine xS_g (fun g3 => ?_)
        refine xS_g (fun g4 => ?_)
        refine xS_g (fun g5 => ?_)
        refine xS_of (pc' := 112) (L' := [(0, xa x0), (1, xi x1), (2, xa x2), (3, xi x3), (4, xj x4), (6, xj x6), (8, xi x8), (9, xi x9)]) (st' := [xi x8, xa x0, xj ((xJ m x2 (x9 - 1)) + x6), xi x9, xa x2]) (m' := m) (fun ex ns r q => ?_) ?_
        · refine xw_if_neT rfl (w32_cg c9) h2 ?_
          refine xw_aload_n rfl rfl rfl ?_
          refine xw_iload rfl rfl ?_
          refine xw_iconst rfl ?_
          refine xw_isub rfl ?_
          refine xw_laldc (n := (xw_le B x2)) (v := (m x2 (x9 - 1))) (v' := (xJ m x2 (x9 - 1))) rfl hB (xw_obd g4) rfl g3 rfl rfl ?_
          refine xw_lload rfl rfl ?_
          refine xw_ladd rfl ?_
          refine xw_aload_n rfl rfl rfl ?_
          refine xw_iload rfl rfl ?_
          refine xw_lo (L2 := [(0, xa x0), (1, xi x1), (2, xa x2), (3, xi x3), (4, xj x4), (6, xj x6), (8, xi x8), (9, xi x9)]) (List.forall_mem_cons.mpr ⟨rfl, List.forall_mem_cons.mpr ⟨rfl, List.forall_mem_cons.mpr ⟨rfl, List.forall_mem_cons.mpr ⟨rfl, List.forall_mem_cons.mpr ⟨rfl, List.forall_mem_cons.mpr ⟨rfl, List.forall_mem_cons.mpr ⟨rfl, List.forall_mem_cons.mpr ⟨rfl, fun _ h => absurd h List.not_mem_nil⟩⟩⟩⟩⟩⟩⟩⟩) ?_
          exact q
        refine xS_call (q := 19) (n := 2) (kq := 2) (as := [xa x0, xi x8]) (st1 := [xj ((xJ m x2 (x9 - 1)) + x6), xi x9, xa x2]) rfl rfl rfl rfl rfl rfl rfl rfl rfl rfl (fun _ => xw_rcv1 (t := 11) (xw_obd g5) rfl) rfl (List.forall_mem_cons.mpr ⟨rfl, List.forall_mem_cons.mpr ⟨rfl, fun _ h => absurd h List.not_mem_nil⟩⟩) (ygf19 hB _ _ _ c8) (fun v1 m1 cv1 => ?_)
        refine xS_g (fun g6 => ?_)
        refine xS_of (pc' := 60) (L' := [(0, xa x0), (1, xi x1), (2, xa x2), (3, xi x3), (4, xj x4), (6, xj x6), (8, xi x8), (9, xi (w32 (x9 + 1)))]) (st' := []) (m' := (xw_u m1 x2 x9 (((xJ m x2 (x9 - 1)) + x6) + v1))) (fun ex ns r q => ?_) ?_
        · refine xw_ladd rfl ?_
          refine xw_last (n := (xw_le B x2)) rfl hB (xw_obd g4) rfl g6 ?_
          refine xw_iincc (z := (w32 (x9 + 1))) (L' := [(9, xi (w32 (x9 + 1))), (0, xa x0), (1, xi x1), (2, xa x2), (3, xi x3), (4, xj x4), (6, xj x6), (8, xi x8)]) rfl rfl (by decide) rfl rfl ?_
          refine xw_goto rfl ?_
          refine xw_lo (L2 := [(0, xa x0), (1, xi x1), (2, xa x2), (3, xi x3), (4, xj x4), (6, xj x6), (8, xi x8), (9, xi (w32 (x9 + 1)))]) (List.forall_mem_cons.mpr ⟨rfl, List.forall_mem_cons.mpr ⟨rfl, List.forall_mem_cons.mpr ⟨rfl, List.forall_mem_cons.mpr ⟨rfl, List.forall_mem_cons.mpr ⟨rfl, List.forall_mem_cons.mpr ⟨rfl, List.forall_mem_cons.mpr ⟨rfl, List.forall_mem_cons.mpr ⟨rfl, fun _ h => absurd h List.not_mem_nil⟩⟩⟩⟩⟩⟩⟩⟩) ?_
          exact q
        exact hr60 _ _ _ _ _ _ _ _ _ c1 c3 c4 c6 c8 (w32_w _)
    · refine xS_g (fun g2 => ?_)
      refine xS_of (pc' := 79) (L' := [(0, xa x0), (1, xi x1), (2, xa x2), (3, xi x3), (4, xj x4), (6, xj x6), (8, xi x8), (9, xi x9)]) (st' := [xi x8, xa x0, xj x4, xi x9, xa x2]) (m' := m) (fun ex ns r q => ?_) ?_
      · refine xw_ic_eqF rfl (w32_cg c1) (w32_cg rfl) h1 ?_
        refine xw_aload_n rfl rfl rfl ?_
        refine xw_iload rfl rfl ?_
        refine xw_lload rfl rfl ?_
        refine xw_aload_n rfl rfl rfl ?_
        refine xw_iload rfl rfl ?_
        refine xw_lo (L2 := [(0, xa x0), (1, xi x1), (2, xa x2), (3, xi x3), (4, xj x4), (6, xj x6), (8, xi x8), (9, xi x9)]) (List.forall_mem_cons.mpr ⟨rfl, List.forall_mem_cons.mpr ⟨rfl, List.forall_mem_cons.mpr ⟨rfl, List.forall_mem_cons.mpr ⟨rfl, List.forall_mem_cons.mpr ⟨rfl, List.forall_mem_cons.mpr ⟨rfl, List.forall_mem_cons.mpr ⟨rfl, List.forall_mem_cons.mpr ⟨rfl, fun _ h => absurd h List.not_mem_nil⟩⟩⟩⟩⟩⟩⟩⟩) ?_
        exact q
      refine xS_call (q := 19) (n := 2) (kq := 2) (as := [xa x0, xi x8]) (st1 := [xj x4, xi x9, xa x2]) rfl rfl rfl rfl rfl rfl rfl rfl rfl rfl (fun _ => xw_rcv1 (t := 11) (xw_obd g2) rfl) rfl (List.forall_mem_cons.mpr ⟨rfl, List.forall_mem_cons.mpr ⟨rfl, fun _ h => absurd h List.not_mem_nil⟩⟩) (ygf19 hB _ _ _ c8) (fun v2 m2 cv2 => ?_)
      refine xS_g (fun g3 => ?_)
      refine xS_g (fun g4 => ?_)
      refine xS_of (pc' := 60) (L' := [(0, xa x0), (1, xi x1), (2, xa x2), (3, xi x3), (4, xj x4), (6, xj x6), (8, xi x8), (9, xi (w32 (x9 + 1)))]) (st' := []) (m' := (xw_u m2 x2 x9 (x4 + v2))) (fun ex ns r q => ?_) ?_
      · refine xw_ladd rfl ?_
        refine xw_last (n := (xw_le B x2)) rfl hB (xw_obd g4) rfl g3 ?_
        refine xw_goto rfl ?_
        refine xw_iincc (z := (w32 (x9 + 1))) (L' := [(9, xi (w32 (x9 + 1))), (0, xa x0), (1, xi x1), (2, xa x2), (3, xi x3), (4, xj x4), (6, xj x6), (8, xi x8)]) rfl rfl (by decide) rfl rfl ?_
        refine xw_goto rfl ?_
        refine xw_lo (L2 := [(0, xa x0), (1, xi x1), (2, xa x2), (3, xi x3), (4, xj x4), (6, xj x6), (8, xi x8), (9, xi (w32 (x9 + 1)))]) (List.forall_mem_cons.mpr ⟨rfl, List.forall_mem_cons.mpr ⟨rfl, List.forall_mem_cons.mpr ⟨rfl, List.forall_mem_cons.mpr ⟨rfl, List.forall_mem_cons.mpr ⟨rfl, List.forall_mem_cons.mpr ⟨rfl, List.forall_mem_cons.mpr ⟨rfl, List.forall_mem_cons.mpr ⟨rfl, fun _ h => absurd h List.not_mem_nil⟩⟩⟩⟩⟩⟩⟩⟩) ?_
        exact q
      exact hr60 _ _ _ _ _ _ _ _ _ c1 c3 c4 c6 c8 (w32_w _)
  · refine xS_of (pc' := 123) (L' := [(0, xa x0), (1, xi x1), (2, xa x2), (3, xi x3), (4, xj x4), (6, xj x6), (8, xi x8), (9, xi x9)]) (st' := []) (m' := m) (fun ex ns r q => ?_) ?_
    · refine xw_ic_geT rfl (w32_cg c9) (w32_cg c3) (Int.not_lt.mp h0) ?_
      exact q
    exact xS_ret (v := 0) rfl rfl rfl rfl
theorem ygl122_60 {B : Nat} (hB : B ≤ 512) {xs : Nat → Int32} {SL d : Nat} : ∀ n x0 x1 x2 x3 x4 x6 x8 x9 m, w32 x1 = x1 → w32 x3 = x3 → w64 x4 = x4 → w64 x6 = x6 → w32 x8 = x8 → w32 x9 = x9 → xS B xs SL (d + 1) 122 (10, none, [], 12) 0 60 [(0, xa x0), (1, xi x1), (2, xa x2), (3, xi x3), (4, xj x4), (6, xj x6), (8, xi x8), (9, xi x9)] [] m (xl8 (yl122_60 B) n x0 x1 x2 x3 x4 x6 x8 x9 m) := by
  intro n
  induction n with
  | zero => intro x0 x1 x2 x3 x4 x6 x8 x9 m c1 c3 c4 c6 c8 c9; exact xS_none
  | succ n ih => exact ysl122_60 hB ih
theorem ygf122 {B : Nat} (hB : B ≤ 512) {xs : Nat → Int32} {SL d : Nat} : ∀ t p0 p1 p2 m, w32 p0 = p0 → w32 p2 = p2 → xS B xs SL (d + 1) 122 (10, none, [], 12) 0 0 [(0, xa t), (1, xi p0), (2, xa p1), (3, xi p2)] [] m (yf122 B t p0 p1 p2 m) := by
  intro t p0 p1 p2 m cp0 cp2
  unfold yf122
  refine xS_of (pc' := 1) (L' := [(0, xa t), (1, xi p0), (2, xa p1), (3, xi p2)]) (st' := [xi p0]) (m' := m) (fun ex ns r q => ?_) ?_
  · refine xw_iload_n rfl rfl ?_
    exact q
  refine xS_if (fun h0 => ?_) (fun h0 => ?_)
  · refine xS_of (pc' := 18) (L' := [(4, xj 0), (0, xa t), (1, xi p0), (2, xa p1), (3, xi p2)]) (st' := [xi 4, xi p0]) (m' := m) (fun ex ns r q => ?_) ?_
    · refine xw_if_neF rfl (w32_cg cp0) h0 ?_
      refine xw_lconst (e := 0) rfl rfl ?_
      refine xw_goto rfl ?_
      refine xw_lstore (L' := [(4, xj 0), (0, xa t), (1, xi p0), (2, xa p1), (3, xi p2)]) rfl (by decide) rfl ?_
      refine xw_iload_n rfl rfl ?_
      refine xw_iconst rfl ?_
      exact q
    refine xS_if (fun h1 => ?_) (fun h1 => ?_)
    · refine xS_g (fun g2 => ?_)
      refine xS_of (pc' := 24) (L' := [(0, xa t), (1, xi p0), (2, xa p1), (3, xi p2), (4, xj 0)]) (st' := [xi 64, xa t]) (m' := m) (fun ex ns r q => ?_) ?_
      · refine xw_ic_neF rfl (w32_cg cp0) (w32_cg rfl) h1 ?_
        refine xw_aload_n rfl rfl rfl ?_
        refine xw_bipush (e := 64) rfl (by decide +kernel) ?_
        refine xw_lo (L2 := [(0, xa t), (1, xi p0), (2, xa p1), (3, xi p2), (4, xj 0)]) (List.forall_mem_cons.mpr ⟨rfl, List.forall_mem_cons.mpr ⟨rfl, List.forall_mem_cons.mpr ⟨rfl, List.forall_mem_cons.mpr ⟨rfl, List.forall_mem_cons.mpr ⟨rfl, fun _ h => absurd h List.not_mem_nil⟩⟩⟩⟩⟩) ?_
        exact q
      refine xS_call (q := 19) (n := 2) (kq := 2) (as := [xa t, xi 64]) (st1 := []) rfl rfl rfl rfl rfl rfl rfl rfl rfl rfl (fun _ => xw_rcv1 (t := 11) (xw_obd g2) rfl) rfl (List.forall_mem_cons.mpr ⟨rfl, List.forall_mem_cons.mpr ⟨rfl, fun _ h => absurd h List.not_mem_nil⟩⟩) (ygf19 hB _ _ _ rfl) (fun v1 m1 cv1 => ?_)
      refine xS_of (pc' := 60) (L' := [(0, xa t), (1, xi p0), (2, xa p1), (3, xi p2), (4, xj 0), (6, xj v1), (8, xi 64), (9, xi 0)]) (st' := []) (m' := m1) (fun ex ns r q => ?_) ?_
      · refine xw_goto rfl ?_
        refine xw_lstore (L' := [(6, xj v1), (0, xa t), (1, xi p0), (2, xa p1), (3, xi p2), (4, xj 0)]) rfl (by decide) rfl ?_
        refine xw_iload_n rfl rfl ?_
        refine xw_if_neF rfl (w32_cg cp0) h0 ?_
        refine xw_bipush (e := 64) rfl (by decide +kernel) ?_
        refine xw_goto rfl ?_
        refine xw_istore (L' := [(8, xi 64), (6, xj v1), (0, xa t), (1, xi p0), (2, xa p1), (3, xi p2), (4, xj 0)]) rfl (by decide) rfl ?_
        refine xw_iconst rfl ?_
        refine xw_istore (L' := [(9, xi 0), (8, xi 64), (6, xj v1), (0, xa t), (1, xi p0), (2, xa p1), (3, xi p2), (4, xj 0)]) rfl (by decide) rfl ?_
        refine xw_lo (L2 := [(0, xa t), (1, xi p0), (2, xa p1), (3, xi p2), (4, xj 0), (6, xj v1), (8, xi 64), (9, xi 0)]) (List.forall_mem_cons.mpr ⟨rfl, List.forall_mem_cons.mpr ⟨rfl, List.forall_mem_cons.mpr ⟨rfl, List.forall_mem_cons.mpr ⟨rfl, List.forall_mem_cons.mpr ⟨rfl, List.forall_mem_cons.mpr ⟨rfl, List.forall_mem_cons.mpr ⟨rfl, List.forall_mem_cons.mpr ⟨rfl, fun _ h => absurd h List.not_mem_nil⟩⟩⟩⟩⟩⟩⟩⟩) ?_
        exact q
      exact ygl122_60 hB 1000000 _ _ _ _ _ _ _ _ _ cp0 cp2 rfl cv1 rfl rfl
    · refine xS_of (pc' := 60) (L' := [(0, xa t), (1, xi p0), (2, xa p1), (3, xi p2), (4, xj 0), (6, xj 0), (8, xi 64), (9, xi 0)]) (st' := []) (m' := m) (fun ex ns r q => ?_) ?_
      · refine xw_ic_neT rfl (w32_cg cp0) (w32_cg rfl) h1 ?_
        refine xw_lconst (e := 0) rfl rfl ?_
        refine xw_lstore (L' := [(6, xj 0), (4, xj 0), (0, xa t), (1, xi p0), (2, xa p1), (3, xi p2)]) rfl (by decide) rfl ?_
        refine xw_iload_n rfl rfl ?_
        refine xw_if_neF rfl (w32_cg cp0) h0 ?_
        refine xw_bipush (e := 64) rfl (by decide +kernel) ?_
        refine xw_goto rfl ?_
        refine xw_istore (L' := [(8, xi 64), (6, xj 0), (4, xj 0), (0, xa t), (1, xi p0), (2, xa p1), (3, xi p2)]) rfl (by decide) rfl ?_
        refine xw_iconst rfl ?_
        refine xw_istore (L' := [(9, xi 0), (8, xi 64), (6, xj 0), (4, xj 0), (0, xa t), (1, xi p0), (2, xa p1), (3, xi p2)]) rfl (by decide) rfl ?_
        refine xw_lo (L2 := [(0, xa t), (1, xi p0), (2, xa p1), (3, xi p2), (4, xj 0), (6, xj 0), (8, xi 64), (9, xi 0)]) (List.forall_mem_cons.mpr ⟨rfl, List.forall_mem_cons.mpr ⟨rfl, List.forall_mem_cons.mpr ⟨rfl, List.forall_mem_cons.mpr ⟨rfl, List.forall_mem_cons.mpr ⟨rfl, List.forall_mem_cons.mpr ⟨rfl, List.forall_mem_cons.mpr ⟨rfl, List.forall_mem_cons.mpr ⟨rfl, fun _ h => absurd h List.not_mem_nil⟩⟩⟩⟩⟩⟩⟩⟩) ?_
        exact q
      exact ygl122_60 hB 1000000 _ _ _ _ _ _ _ _ _ cp0 cp2 rfl rfl rfl rfl
  · refine xS_g (fun g1 => ?_)
    refine xS_of (pc' := 11) (L' := [(0, xa t), (1, xi p0), (2, xa p1), (3, xi p2)]) (st' := [xi 64, xa t]) (m' := m) (fun ex ns r q => ?_) ?_
    · refine xw_if_neT rfl (w32_cg cp0) h0 ?_
      refine xw_aload_n rfl rfl rfl ?_
      refine xw_bipush (e := 64) rfl (by decide +kernel) ?_
      refine xw_lo (L2 := [(0, xa t), (1, xi p0), (2, xa p1), (3, xi p2)]) (List.forall_mem_cons.mpr ⟨rfl, List.forall_mem_cons.mpr ⟨rfl, List.forall_mem_cons.mpr ⟨rfl, List.forall_mem_cons.mpr ⟨rfl, fun _ h => absurd h List.not_mem_nil⟩⟩⟩⟩) ?_
      exact q
    refine xS_call (q := 19) (n := 2) (kq := 2) (as := [xa t, xi 64]) (st1 := []) rfl rfl rfl rfl rfl rfl rfl rfl rfl rfl (fun _ => xw_rcv1 (t := 11) (xw_obd g1) rfl) rfl (List.forall_mem_cons.mpr ⟨rfl, List.forall_mem_cons.mpr ⟨rfl, fun _ h => absurd h List.not_mem_nil⟩⟩) (ygf19 hB _ _ _ rfl) (fun v2 m2 cv2 => ?_)
    refine xS_of (pc' := 18) (L' := [(4, xj v2), (0, xa t), (1, xi p0), (2, xa p1), (3, xi p2)]) (st' := [xi 4, xi p0]) (m' := m2) (fun ex ns r q => ?_) ?_
    · refine xw_lstore (L' := [(4, xj v2), (0, xa t), (1, xi p0), (2, xa p1), (3, xi p2)]) rfl (by decide) rfl ?_
      refine xw_iload_n rfl rfl ?_
      refine xw_iconst rfl ?_
      exact q
    refine xS_if (fun h2 => ?_) (fun h2 => ?_)
    · refine xS_of (pc' := 24) (L' := [(0, xa t), (1, xi p0), (2, xa p1), (3, xi p2), (4, xj v2)]) (st' := [xi 64, xa t]) (m' := m2) (fun ex ns r q => ?_) ?_
      · refine xw_ic_neF rfl (w32_cg cp0) (w32_cg rfl) h2 ?_
        refine xw_aload_n rfl rfl rfl ?_
        refine xw_bipush (e := 64) rfl (by decide +kernel) ?_
        refine xw_lo (L2 := [(0, xa t), (1, xi p0), (2, xa p1), (3, xi p2), (4, xj v2)]) (List.forall_mem_cons.mpr ⟨rfl, List.forall_mem_cons.mpr ⟨rfl, List.forall_mem_cons.mpr ⟨rfl, List.forall_mem_cons.mpr ⟨rfl, List.forall_mem_cons.mpr ⟨rfl, fun _ h => absurd h List.not_mem_nil⟩⟩⟩⟩⟩) ?_
        exact q
      refine xS_call (q := 19) (n := 2) (kq := 2) (as := [xa t, xi 64]) (st1 := []) rfl rfl rfl rfl rfl rfl rfl rfl rfl rfl (fun _ => xw_rcv1 (t := 11) (xw_obd g1) rfl) rfl (List.forall_mem_cons.mpr ⟨rfl, List.forall_mem_cons.mpr ⟨rfl, fun _ h => absurd h List.not_mem_nil⟩⟩) (ygf19 hB _ _ _ rfl) (fun v3 m3 cv3 => ?_)
      refine xS_of (pc' := 45) (L' := [(0, xa t), (1, xi p0), (2, xa p1), (3, xi p2), (4, xj v2), (6, xj v3)]) (st' := [xi 8, xa t]) (m' := m3) (fun ex ns r q => ?_) ?_
      · refine xw_goto rfl ?_
        refine xw_lstore (L' := [(6, xj v3), (0, xa t), (1, xi p0), (2, xa p1), (3, xi p2), (4, xj v2)]) rfl (by decide) rfl ?_
        refine xw_iload_n rfl rfl ?_
        refine xw_if_neT rfl (w32_cg cp0) h0 ?_
        refine xw_aload_n rfl rfl rfl ?_
        refine xw_bipush (e := 8) rfl (by decide +kernel) ?_
        refine xw_lo (L2 := [(0, xa t), (1, xi p0), (2, xa p1), (3, xi p2), (4, xj v2), (6, xj v3)]) (List.forall_mem_cons.mpr ⟨rfl, List.forall_mem_cons.mpr ⟨rfl, List.forall_mem_cons.mpr ⟨rfl, List.forall_mem_cons.mpr ⟨rfl, List.forall_mem_cons.mpr ⟨rfl, List.forall_mem_cons.mpr ⟨rfl, fun _ h => absurd h List.not_mem_nil⟩⟩⟩⟩⟩⟩) ?_
        exact q
      refine xS_call (q := 19) (n := 2) (kq := 2) (as := [xa t, xi 8]) (st1 := []) rfl rfl rfl rfl rfl rfl rfl rfl rfl rfl (fun _ => xw_rcv1 (t := 11) (xw_obd g1) rfl) rfl (List.forall_mem_cons.mpr ⟨rfl, List.forall_mem_cons.mpr ⟨rfl, fun _ h => absurd h List.not_mem_nil⟩⟩) (ygf19 hB _ _ _ rfl) (fun v4 m4 cv4 => ?_)
      refine xS_of (pc' := 60) (L' := [(0, xa t), (1, xi p0), (2, xa p1), (3, xi p2), (4, xj v2), (6, xj v3), (8, xi (w32 (min v4 64))), (9, xi 0)]) (st' := []) (m' := m4) (fun ex ns r q => ?_) ?_
      · refine xw_ldc2 (e := 64) rfl (by decide +kernel) ?_
        refine xw_minJ rfl rfl (w64_cg cv4) (w64_cg rfl) rfl ?_
        refine xw_l2i rfl ?_
        refine xw_cst (st' := [xi (w32 (min v4 64))]) (xw_sc (xi_c rfl) rfl) ?_
        refine xw_istore (L' := [(8, xi (w32 (min v4 64))), (0, xa t), (1, xi p0), (2, xa p1), (3, xi p2), (4, xj v2), (6, xj v3)]) rfl (by decide) rfl ?_
        refine xw_iconst rfl ?_
        refine xw_istore (L' := [(9, xi 0), (8, xi (w32 (min v4 64))), (0, xa t), (1, xi p0), (2, xa p1), (3, xi p2), (4, xj v2), (6, xj v3)]) rfl (by decide) rfl ?_
        refine xw_lo (L2 := [(0, xa t), (1, xi p0), (2, xa p1), (3, xi p2), (4, xj v2), (6, xj v3), (8, xi (w32 (min v4 64))), (9, xi 0)]) (List.forall_mem_cons.mpr ⟨rfl, List.forall_mem_cons.mpr ⟨rfl, List.forall_mem_cons.mpr ⟨rfl, List.forall_mem_cons.mpr ⟨rfl, List.forall_mem_cons.mpr ⟨rfl, List.forall_mem_cons.mpr ⟨rfl, List.forall_mem_cons.mpr ⟨rfl, List.forall_mem_cons.mpr ⟨rfl, fun _ h => absurd h List.not_mem_nil⟩⟩⟩⟩⟩⟩⟩⟩) ?_
        exact q
      exact ygl122_60 hB 1000000 _ _ _ _ _ _ _ _ _ cp0 cp2 cv2 cv3 (w32_w _) rfl
    · refine xS_of (pc' := 45) (L' := [(0, xa t), (1, xi p0), (2, xa p1), (3, xi p2), (4, xj v2), (6, xj 0)]) (st' := [xi 8, xa t]) (m' := m2) (fun ex ns r q => ?_) ?_
      · refine xw_ic_neT rfl (w32_cg cp0) (w32_cg rfl) h2 ?_
        refine xw_lconst (e := 0) rfl rfl ?_
        refine xw_lstore (L' := [(6, xj 0), (4, xj v2), (0, xa t), (1, xi p0), (2, xa p1), (3, xi p2)]) rfl (by decide) rfl ?_
        refine xw_iload_n rfl rfl ?_
        refine xw_if_neT rfl (w32_cg cp0) h0 ?_
        refine xw_aload_n rfl rfl rfl ?_
        refine xw_bipush (e := 8) rfl (by decide +kernel) ?_
        refine xw_lo (L2 := [(0, xa t), (1, xi p0), (2, xa p1), (3, xi p2), (4, xj v2), (6, xj 0)]) (List.forall_mem_cons.mpr ⟨rfl, List.forall_mem_cons.mpr ⟨rfl, List.forall_mem_cons.mpr ⟨rfl, List.forall_mem_cons.mpr ⟨rfl, List.forall_mem_cons.mpr ⟨rfl, List.forall_mem_cons.mpr ⟨rfl, fun _ h => absurd h List.not_mem_nil⟩⟩⟩⟩⟩⟩) ?_
        exact q
      refine xS_call (q := 19) (n := 2) (kq := 2) (as := [xa t, xi 8]) (st1 := []) rfl rfl rfl rfl rfl rfl rfl rfl rfl rfl (fun _ => xw_rcv1 (t := 11) (xw_obd g1) rfl) rfl (List.forall_mem_cons.mpr ⟨rfl, List.forall_mem_cons.mpr ⟨rfl, fun _ h => absurd h List.not_mem_nil⟩⟩) (ygf19 hB _ _ _ rfl) (fun v5 m5 cv5 => ?_)
      refine xS_of (pc' := 60) (L' := [(0, xa t), (1, xi p0), (2, xa p1), (3, xi p2), (4, xj v2), (6, xj 0), (8, xi (w32 (min v5 64))), (9, xi 0)]) (st' := []) (m' := m5) (fun ex ns r q => ?_) ?_
      · refine xw_ldc2 (e := 64) rfl (by decide +kernel) ?_
        refine xw_minJ rfl rfl (w64_cg cv5) (w64_cg rfl) rfl ?_
        refine xw_l2i rfl ?_
        refine xw_cst (st' := [xi (w32 (min v5 64))]) (xw_sc (xi_c rfl) rfl) ?_
        refine xw_istore (L' := [(8, xi (w32 (min v5 64))), (0, xa t), (1, xi p0), (2, xa p1), (3, xi p2), (4, xj v2), (6, xj 0)]) rfl (by decide) rfl ?_
        refine xw_iconst rfl ?_
        refine xw_istore (L' := [(9, xi 0), (8, xi (w32 (min v5 64))), (0, xa t), (1, xi p0), (2, xa p1), (3, xi p2), (4, xj v2), (6, xj 0)]) rfl (by decide) rfl ?_
        refine xw_lo (L2 := [(0, xa t), (1, xi p0), (2, xa p1), (3, xi p2), (4, xj v2), (6, xj 0), (8, xi (w32 (min v5 64))), (9, xi 0)]) (List.forall_mem_cons.mpr ⟨rfl, List.forall_mem_cons.mpr ⟨rfl, List.forall_mem_cons.mpr ⟨rfl, List.forall_mem_cons.mpr ⟨rfl, List.forall_mem_cons.mpr ⟨rfl, List.forall_mem_cons.mpr ⟨rfl, List.forall_mem_cons.mpr ⟨rfl, List.forall_mem_cons.mpr ⟨rfl, fun _ h => absurd h List.not_mem_nil⟩⟩⟩⟩⟩⟩⟩⟩) ?_
        exact q
      exact ygl122_60 hB 1000000 _ _ _ _ _ _ _ _ _ cp0 cp2 cv2 rfl (w32_w _) rfl
theorem ygf114 {B : Nat} (hB : B ≤ 512) {xs : Nat → Int32} {SL d : Nat} : ∀ t p0 p1 m, w32 p1 = p1 → xS B xs SL (d + 4) 114 (6, none, [], 12) 0 0 [(0, xa t), (1, xa p0), (2, xi p1)] [] m (yf114 B t p0 p1 m) := by
  intro t p0 p1 m cp1
  unfold yf114
  refine xS_g (fun g0 => ?_)
  refine xS_of (pc' := 4) (L' := [(0, xa t), (1, xa p0), (2, xi p1)]) (st' := [xi 4, xi 8, xa t]) (m' := m) (fun ex ns r q => ?_) ?_
  · refine xw_aload_n rfl rfl rfl ?_
    refine xw_bipush (e := 8) rfl (by decide +kernel) ?_
    refine xw_iconst rfl ?_
    refine xw_lo (L2 := [(0, xa t), (1, xa p0), (2, xi p1)]) (List.forall_mem_cons.mpr ⟨rfl, List.forall_mem_cons.mpr ⟨rfl, List.forall_mem_cons.mpr ⟨rfl, fun _ h => absurd h List.not_mem_nil⟩⟩⟩) ?_
    exact q
  refine xS_call (q := 20) (n := 3) (kq := 1) (as := [xa t, xi 8, xi 4]) (st1 := []) rfl rfl rfl rfl rfl rfl rfl rfl rfl rfl (fun _ => xw_rcv1 (t := 11) (xw_obd g0) rfl) rfl (List.forall_mem_cons.mpr ⟨rfl, List.forall_mem_cons.mpr ⟨rfl, List.forall_mem_cons.mpr ⟨rfl, fun _ h => absurd h List.not_mem_nil⟩⟩⟩) (ygf20 hB _ _ _ _ rfl rfl) (fun v1 m1 cv1 => ?_)
  refine xS_of (pc' := 11) (L' := [(0, xa t), (1, xa p0), (2, xi p1), (3, xi v1)]) (st' := [xi 24, xa t]) (m' := m1) (fun ex ns r q => ?_) ?_
  · refine xw_istore_n (L' := [(3, xi v1), (0, xa t), (1, xa p0), (2, xi p1)]) rfl (by decide) rfl ?_
    refine xw_aload_n rfl rfl rfl ?_
    refine xw_bipush (e := 24) rfl (by decide +kernel) ?_
    refine xw_lo (L2 := [(0, xa t), (1, xa p0), (2, xi p1), (3, xi v1)]) (List.forall_mem_cons.mpr ⟨rfl, List.forall_mem_cons.mpr ⟨rfl, List.forall_mem_cons.mpr ⟨rfl, List.forall_mem_cons.mpr ⟨rfl, fun _ h => absurd h List.not_mem_nil⟩⟩⟩⟩) ?_
    exact q
  refine xS_call (q := 19) (n := 2) (kq := 2) (as := [xa t, xi 24]) (st1 := []) rfl rfl rfl rfl rfl rfl rfl rfl rfl rfl (fun _ => xw_rcv1 (t := 11) (xw_obd g0) rfl) rfl (List.forall_mem_cons.mpr ⟨rfl, List.forall_mem_cons.mpr ⟨rfl, fun _ h => absurd h List.not_mem_nil⟩⟩) (ygf19 hB _ _ _ rfl) (fun v2 m2 cv2 => ?_)
  refine xS_of (pc' := 20) (L' := [(0, xa t), (1, xa p0), (2, xi p1), (3, xi v1), (4, xi (w32 v2))]) (st' := [xi 64, xa t]) (m' := m2) (fun ex ns r q => ?_) ?_
  · refine xw_l2i rfl ?_
    refine xw_cst (st' := [xi (w32 v2)]) (xw_sc (xi_c rfl) rfl) ?_
    refine xw_istore (L' := [(4, xi (w32 v2)), (0, xa t), (1, xa p0), (2, xi p1), (3, xi v1)]) rfl (by decide) rfl ?_
    refine xw_aload_n rfl rfl rfl ?_
    refine xw_bipush (e := 64) rfl (by decide +kernel) ?_
    refine xw_lo (L2 := [(0, xa t), (1, xa p0), (2, xi p1), (3, xi v1), (4, xi (w32 v2))]) (List.forall_mem_cons.mpr ⟨rfl, List.forall_mem_cons.mpr ⟨rfl, List.forall_mem_cons.mpr ⟨rfl, List.forall_mem_cons.mpr ⟨rfl, List.forall_mem_cons.mpr ⟨rfl, fun _ h => absurd h List.not_mem_nil⟩⟩⟩⟩⟩) ?_
    exact q
  refine xS_call (q := 19) (n := 2) (kq := 2) (as := [xa t, xi 64]) (st1 := []) rfl rfl rfl rfl rfl rfl rfl rfl rfl rfl (fun _ => xw_rcv1 (t := 11) (xw_obd g0) rfl) rfl (List.forall_mem_cons.mpr ⟨rfl, List.forall_mem_cons.mpr ⟨rfl, fun _ h => absurd h List.not_mem_nil⟩⟩) (ygf19 hB _ _ _ rfl) (fun v3 m3 cv3 => ?_)
  refine xS_of (pc' := 27) (L' := [(0, xa t), (1, xa p0), (2, xi p1), (3, xi v1), (4, xi (w32 v2))]) (st' := [xi 64, xa t]) (m' := m3) (fun ex ns r q => ?_) ?_
  · refine xw_pop2J rfl (show ¬ (false = true) from Bool.false_ne_true) ?_
    refine xw_aload_n rfl rfl rfl ?_
    refine xw_bipush (e := 64) rfl (by decide +kernel) ?_
    refine xw_lo (L2 := [(0, xa t), (1, xa p0), (2, xi p1), (3, xi v1), (4, xi (w32 v2))]) (List.forall_mem_cons.mpr ⟨rfl, List.forall_mem_cons.mpr ⟨rfl, List.forall_mem_cons.mpr ⟨rfl, List.forall_mem_cons.mpr ⟨rfl, List.forall_mem_cons.mpr ⟨rfl, fun _ h => absurd h List.not_mem_nil⟩⟩⟩⟩⟩) ?_
    exact q
  refine xS_call (q := 19) (n := 2) (kq := 2) (as := [xa t, xi 64]) (st1 := []) rfl rfl rfl rfl rfl rfl rfl rfl rfl rfl (fun _ => xw_rcv1 (t := 11) (xw_obd g0) rfl) rfl (List.forall_mem_cons.mpr ⟨rfl, List.forall_mem_cons.mpr ⟨rfl, fun _ h => absurd h List.not_mem_nil⟩⟩) (ygf19 hB _ _ _ rfl) (fun v4 m4 cv4 => ?_)
  refine xS_of (pc' := 52) (L' := [(5, xi (min (xR m4 t 1) (w32 ((xR m4 t 2) + ((w32 v2) * 8))))), (0, xa t), (1, xa p0), (2, xi p1), (3, xi v1), (4, xi (w32 v2))]) (st' := [xi 2, xi v1]) (m' := m4) (fun ex ns r q => ?_) ?_
  · refine xw_pop2J rfl (show ¬ (false = true) from Bool.false_ne_true) ?_
    refine xw_aload_n rfl rfl rfl ?_
    refine xw_gfIc (v := (m4 t 1)) (v' := (xR m4 t 1)) rfl (xw_obd g0) xk11_1 (qi := 1) rfl rfl rfl ?_
    refine xw_aload_n rfl rfl rfl ?_
    refine xw_gfIc (v := (m4 t 2)) (v' := (xR m4 t 2)) rfl (xw_obd g0) xk11_2 (qi := 2) rfl rfl rfl ?_
    refine xw_iload rfl rfl ?_
    refine xw_bipush (e := 8) rfl (by decide +kernel) ?_
    refine xw_imul rfl ?_
    refine xw_iadd rfl ?_
    refine xw_cst (st' := [xi (w32 ((xR m4 t 2) + ((w32 v2) * 8))), xi (xR m4 t 1)]) (xw_sc (xi_c rfl) (xw_sc rfl rfl)) ?_
    refine xw_minI rfl rfl (w32_cg (w32_xR _ _ _)) (w32_cg (w32_w _)) rfl ?_
    refine xw_istore (L' := [(5, xi (min (xR m4 t 1) (w32 ((xR m4 t 2) + ((w32 v2) * 8))))), (0, xa t), (1, xa p0), (2, xi p1), (3, xi v1), (4, xi (w32 v2))]) rfl (by decide) rfl ?_
    refine xw_iload_n rfl rfl ?_
    refine xw_iconst rfl ?_
    exact q
  refine xS_if (fun h1 => ?_) (fun h1 => ?_)
  · refine xS_of (pc' := 58) (L' := [(0, xa t), (5, xi (min (xR m4 t 1) (w32 ((xR m4 t 2) + ((w32 v2) * 8)))))]) (st' := [xi p1, xa p0, xa t]) (m' := m4) (fun ex ns r q => ?_) ?_
    · refine xw_ic_neF rfl (w32_cg cv1) (w32_cg rfl) h1 ?_
      refine xw_aload_n rfl rfl rfl ?_
      refine xw_aload_n rfl rfl rfl ?_
      refine xw_iload_n rfl rfl ?_
      refine xw_lo (L2 := [(0, xa t), (5, xi (min (xR m4 t 1) (w32 ((xR m4 t 2) + ((w32 v2) * 8)))))]) (List.forall_mem_cons.mpr ⟨rfl, List.forall_mem_cons.mpr ⟨rfl, fun _ h => absurd h List.not_mem_nil⟩⟩) ?_
      exact q
    refine xS_call (q := 115) (n := 3) (kq := 0) (as := [xa t, xa p0, xi p1]) (st1 := []) rfl rfl rfl rfl rfl rfl rfl rfl rfl rfl (fun _ => xw_rcv1 (t := 11) (xw_obd g0) rfl) rfl (List.forall_mem_cons.mpr ⟨rfl, List.forall_mem_cons.mpr ⟨rfl, List.forall_mem_cons.mpr ⟨rfl, fun _ h => absurd h List.not_mem_nil⟩⟩⟩) (ygf115 hB _ _ _ _ cp1) (fun v5 m5 cv5 => ?_)
    refine xS_of (pc' := 91) (L' := [(0, xa t), (5, xi (min (xR m4 t 1) (w32 ((xR m4 t 2) + ((w32 v2) * 8)))))]) (st' := []) (m' := (xw_u m5 t 2 (min (xR m4 t 1) (w32 ((xR m4 t 2) + ((w32 v2) * 8)))))) (fun ex ns r q => ?_) ?_
    · refine xw_goto rfl ?_
      refine xw_aload_n rfl rfl rfl ?_
      refine xw_iload rfl rfl ?_
      refine xw_pfI rfl (xw_obd g0) xk11_2 (qi := 2) rfl (xw_okI rfl) ?_
      exact q
    exact xS_ret (v := 0) rfl rfl rfl rfl
  · refine xS_of (pc' := 66) (L' := [(5, xi (min (xR m4 t 1) (w32 ((xR m4 t 2) + ((w32 v2) * 8))))), (0, xa t), (1, xa p0), (2, xi p1), (3, xi v1), (4, xi (w32 v2))]) (st' := [xi 3, xi v1]) (m' := m4) (fun ex ns r q => ?_) ?_
    · refine xw_ic_neT rfl (w32_cg cv1) (w32_cg rfl) h1 ?_
      refine xw_iload_n rfl rfl ?_
      refine xw_iconst rfl ?_
      exact q
    refine xS_if (fun h2 => ?_) (fun h2 => ?_)
    · refine xS_of (pc' := 72) (L' := [(0, xa t), (5, xi (min (xR m4 t 1) (w32 ((xR m4 t 2) + ((w32 v2) * 8)))))]) (st' := [xi p1, xa p0, xa t]) (m' := m4) (fun ex ns r q => ?_) ?_
      · refine xw_ic_neF rfl (w32_cg cv1) (w32_cg rfl) h2 ?_
        refine xw_aload_n rfl rfl rfl ?_
        refine xw_aload_n rfl rfl rfl ?_
        refine xw_iload_n rfl rfl ?_
        refine xw_lo (L2 := [(0, xa t), (5, xi (min (xR m4 t 1) (w32 ((xR m4 t 2) + ((w32 v2) * 8)))))]) (List.forall_mem_cons.mpr ⟨rfl, List.forall_mem_cons.mpr ⟨rfl, fun _ h => absurd h List.not_mem_nil⟩⟩) ?_
        exact q
      refine xS_call (q := 119) (n := 3) (kq := 0) (as := [xa t, xa p0, xi p1]) (st1 := []) rfl rfl rfl rfl rfl rfl rfl rfl rfl rfl (fun _ => xw_rcv1 (t := 11) (xw_obd g0) rfl) rfl (List.forall_mem_cons.mpr ⟨rfl, List.forall_mem_cons.mpr ⟨rfl, List.forall_mem_cons.mpr ⟨rfl, fun _ h => absurd h List.not_mem_nil⟩⟩⟩) (ygf119 hB _ _ _ _ cp1) (fun v6 m6 cv6 => ?_)
      refine xS_of (pc' := 91) (L' := [(0, xa t), (5, xi (min (xR m4 t 1) (w32 ((xR m4 t 2) + ((w32 v2) * 8)))))]) (st' := []) (m' := (xw_u m6 t 2 (min (xR m4 t 1) (w32 ((xR m4 t 2) + ((w32 v2) * 8)))))) (fun ex ns r q => ?_) ?_
      · refine xw_goto rfl ?_
        refine xw_aload_n rfl rfl rfl ?_
        refine xw_iload rfl rfl ?_
        refine xw_pfI rfl (xw_obd g0) xk11_2 (qi := 2) rfl (xw_okI rfl) ?_
        exact q
      exact xS_ret (v := 0) rfl rfl rfl rfl
    · refine xS_of (pc' := 82) (L' := [(0, xa t), (5, xi (min (xR m4 t 1) (w32 ((xR m4 t 2) + ((w32 v2) * 8)))))]) (st' := [xi p1, xa p0, xi v1, xa t]) (m' := m4) (fun ex ns r q => ?_) ?_
      · refine xw_ic_neT rfl (w32_cg cv1) (w32_cg rfl) h2 ?_
        refine xw_aload_n rfl rfl rfl ?_
        refine xw_iload_n rfl rfl ?_
        refine xw_aload_n rfl rfl rfl ?_
        refine xw_iload_n rfl rfl ?_
        refine xw_lo (L2 := [(0, xa t), (5, xi (min (xR m4 t 1) (w32 ((xR m4 t 2) + ((w32 v2) * 8)))))]) (List.forall_mem_cons.mpr ⟨rfl, List.forall_mem_cons.mpr ⟨rfl, fun _ h => absurd h List.not_mem_nil⟩⟩) ?_
        exact q
      refine xS_call (q := 122) (n := 4) (kq := 0) (as := [xa t, xi v1, xa p0, xi p1]) (st1 := []) rfl rfl rfl rfl rfl rfl rfl rfl rfl rfl (fun _ => xw_rcv1 (t := 11) (xw_obd g0) rfl) rfl (List.forall_mem_cons.mpr ⟨rfl, List.forall_mem_cons.mpr ⟨rfl, List.forall_mem_cons.mpr ⟨rfl, List.forall_mem_cons.mpr ⟨rfl, fun _ h => absurd h List.not_mem_nil⟩⟩⟩⟩) (ygf122 hB _ _ _ _ _ cv1 cp1) (fun v7 m7 cv7 => ?_)
      refine xS_of (pc' := 91) (L' := [(0, xa t), (5, xi (min (xR m4 t 1) (w32 ((xR m4 t 2) + ((w32 v2) * 8)))))]) (st' := []) (m' := (xw_u m7 t 2 (min (xR m4 t 1) (w32 ((xR m4 t 2) + ((w32 v2) * 8)))))) (fun ex ns r q => ?_) ?_
      · refine xw_aload_n rfl rfl rfl ?_
        refine xw_iload rfl rfl ?_
        refine xw_pfI rfl (xw_obd g0) xk11_2 (qi := 2) rfl (xw_okI rfl) ?_
        exact q
      exact xS_ret (v := 0) rfl rfl rfl rfl
theorem ysl113_14 {B : Nat} (hB : B ≤ 512) {xs : Nat → Int32} {SL d : Nat} {r14 : Int → Int → Int → Int → Int → xw_M → xP} (hr14 : ∀ x1 x2 x4 x5 x6 m, w64 x2 = x2 → w32 x5 = x5 → w32 x6 = x6 → xS B xs SL (d + 5) 113 (7, (some .int), [], 8) 1 14 [(0, xa 302), (1, xa x1), (2, xj x2), (4, xa x4), (5, xi x5), (6, xi x6)] [] m (r14 x1 x2 x4 x5 x6 m)) : ∀ x1 x2 x4 x5 x6 m, w64 x2 = x2 → w32 x5 = x5 → w32 x6 = x6 → xS B xs SL (d + 5) 113 (7, (some .int), [], 8) 1 14 [(0, xa 302), (1, xa x1), (2, xj x2), (4, xa x4), (5, xi x5), (6, xi x6)] [] m (yl113_14 B r14 x1 x2 x4 x5 x6 m) := by
  intro x1 x2 x4 x5 x6 m c2 c5 c6
  unfold yl113_14
  refine xS_of (pc' := 20) (L' := [(0, xa 302), (1, xa x1), (2, xj x2), (4, xa x4), (5, xi x5), (6, xi x6)]) (st' := [xi (xR m 302 6), xi x6]) (m' := m) (fun ex ns r q => ?_) ?_
  · refine xw_iload rfl rfl ?_
    refine xw_aload_n rfl rfl rfl ?_
    refine xw_gfIc (v := (m 302 6)) (v' := (xR m 302 6)) rfl (xw_obd (by decide +kernel)) xk7_6 (qi := 6) rfl rfl rfl ?_
    exact q
  refine xS_if (fun h0 => ?_) (fun h0 => ?_)
  · refine xS_of (pc' := 30) (L' := [(0, xa 302), (1, xa x1), (2, xj x2), (4, xa x4), (5, xi x5), (6, xi x6)]) (st' := [xj 0, xj (xw_landf (xw_lshrf x2 x6) 1)]) (m' := m) (fun ex ns r q => ?_) ?_
    · refine xw_ic_geF rfl (w32_cg c6) (w32_cg (w32_xR _ _ _)) (Int.not_le.mpr h0) ?_
      refine xw_lload_n rfl rfl ?_
      refine xw_iload rfl rfl ?_
      refine xw_lshr (z := (xw_lshrf x2 x6)) rfl (xw_lshre _ _) ?_
      refine xw_lconst (e := 1) rfl rfl ?_
      refine xw_land (z := (xw_landf (xw_lshrf x2 x6) 1)) rfl (xw_lande _ _) ?_
      refine xw_lconst (e := 0) rfl rfl ?_
      exact q
    refine xS_if (fun h1 => ?_) (fun h1 => ?_)
    · refine xS_g (fun g2 => ?_)
      refine xS_of (pc' := 49) (L' := [(0, xa 302), (1, xa x1), (2, xj x2), (4, xa x4), (5, xi x5), (6, xi x6)]) (st' := [xa x1]) (m' := m) (fun ex ns r q => ?_) ?_
      · refine xw_jc_eqT rfl rfl (w64_cg (w64_ti _)) (w64_cg rfl) h1 ?_
        refine xw_aload_n rfl rfl rfl ?_
        refine xw_lo (L2 := [(0, xa 302), (1, xa x1), (2, xj x2), (4, xa x4), (5, xi x5), (6, xi x6)]) (List.forall_mem_cons.mpr ⟨rfl, List.forall_mem_cons.mpr ⟨rfl, List.forall_mem_cons.mpr ⟨rfl, List.forall_mem_cons.mpr ⟨rfl, List.forall_mem_cons.mpr ⟨rfl, List.forall_mem_cons.mpr ⟨rfl, fun _ h => absurd h List.not_mem_nil⟩⟩⟩⟩⟩⟩) ?_
        exact q
      refine xS_call (q := 108) (n := 1) (kq := 0) (as := [xa x1]) (st1 := []) rfl rfl rfl rfl rfl rfl rfl rfl rfl rfl (fun _ => xw_rcv1 (t := 11) (xw_obd g2) rfl) rfl (List.forall_mem_cons.mpr ⟨rfl, fun _ h => absurd h List.not_mem_nil⟩) (ygf108 hB _ _) (fun v1 m1 cv1 => ?_)
      refine xS_of (pc' := 14) (L' := [(0, xa 302), (1, xa x1), (2, xj x2), (4, xa x4), (5, xi x5), (6, xi (w32 (x6 + 1)))]) (st' := []) (m' := m1) (fun ex ns r q => ?_) ?_
      · refine xw_iincc (z := (w32 (x6 + 1))) (L' := [(6, xi (w32 (x6 + 1))), (0, xa 302), (1, xa x1), (2, xj x2), (4, xa x4), (5, xi x5)]) rfl rfl (by decide) rfl rfl ?_
        refine xw_goto rfl ?_
        refine xw_lo (L2 := [(0, xa 302), (1, xa x1), (2, xj x2), (4, xa x4), (5, xi x5), (6, xi (w32 (x6 + 1)))]) (List.forall_mem_cons.mpr ⟨rfl, List.forall_mem_cons.mpr ⟨rfl, List.forall_mem_cons.mpr ⟨rfl, List.forall_mem_cons.mpr ⟨rfl, List.forall_mem_cons.mpr ⟨rfl, List.forall_mem_cons.mpr ⟨rfl, fun _ h => absurd h List.not_mem_nil⟩⟩⟩⟩⟩⟩) ?_
        exact q
      exact hr14 _ _ _ _ _ _ c2 c5 (w32_w _)
    · refine xS_g (fun g2 => ?_)
      refine xS_g (fun g3 => ?_)
      refine xS_g (fun g4 => ?_)
      refine xS_g (fun g5 => ?_)
      refine xS_of (pc' := 42) (L' := [(0, xa 302), (1, xa x1), (2, xj x2), (4, xa x4), (5, xi x5), (6, xi x6)]) (st' := [xi x5, xa (xw_rf x4 x6), xa x1]) (m' := m) (fun ex ns r q => ?_) ?_
      · refine xw_jc_eqF rfl rfl (w64_cg (w64_ti _)) (w64_cg rfl) h1 ?_
        refine xw_aload_n rfl rfl rfl ?_
        refine xw_aload rfl rfl rfl ?_
        refine xw_iload rfl rfl ?_
        refine xw_aald (t := 21) (n := (xw_le B x4)) (q := xw_kd x4 x6 - 5) (e := (xw_rf x4 x6)) rfl hB (xw_obd g4) (by decide) rfl g2 (by have := g3; omega) (xw_rfn g3) ?_
        refine xw_iload rfl rfl ?_
        refine xw_lo (L2 := [(0, xa 302), (1, xa x1), (2, xj x2), (4, xa x4), (5, xi x5), (6, xi x6)]) (List.forall_mem_cons.mpr ⟨rfl, List.forall_mem_cons.mpr ⟨rfl, List.forall_mem_cons.mpr ⟨rfl, List.forall_mem_cons.mpr ⟨rfl, List.forall_mem_cons.mpr ⟨rfl, List.forall_mem_cons.mpr ⟨rfl, fun _ h => absurd h List.not_mem_nil⟩⟩⟩⟩⟩⟩) ?_
        exact q
      refine xS_call (q := 114) (n := 3) (kq := 0) (as := [xa x1, xa (xw_rf x4 x6), xi x5]) (st1 := []) rfl rfl rfl rfl rfl rfl rfl rfl rfl rfl (fun _ => xw_rcv1 (t := 11) (xw_obd g5) rfl) rfl (List.forall_mem_cons.mpr ⟨rfl, List.forall_mem_cons.mpr ⟨rfl, List.forall_mem_cons.mpr ⟨rfl, fun _ h => absurd h List.not_mem_nil⟩⟩⟩) (ygf114 hB _ _ _ _ c5) (fun v2 m2 cv2 => ?_)
      refine xS_of (pc' := 14) (L' := [(0, xa 302), (1, xa x1), (2, xj x2), (4, xa x4), (5, xi x5), (6, xi (w32 (x6 + 1)))]) (st' := []) (m' := m2) (fun ex ns r q => ?_) ?_
      · refine xw_goto rfl ?_
        refine xw_iincc (z := (w32 (x6 + 1))) (L' := [(6, xi (w32 (x6 + 1))), (0, xa 302), (1, xa x1), (2, xj x2), (4, xa x4), (5, xi x5)]) rfl rfl (by decide) rfl rfl ?_
        refine xw_goto rfl ?_
        refine xw_lo (L2 := [(0, xa 302), (1, xa x1), (2, xj x2), (4, xa x4), (5, xi x5), (6, xi (w32 (x6 + 1)))]) (List.forall_mem_cons.mpr ⟨rfl, List.forall_mem_cons.mpr ⟨rfl, List.forall_mem_cons.mpr ⟨rfl, List.forall_mem_cons.mpr ⟨rfl, List.forall_mem_cons.mpr ⟨rfl, List.forall_mem_cons.mpr ⟨rfl, fun _ h => absurd h List.not_mem_nil⟩⟩⟩⟩⟩⟩) ?_
        exact q
      exact hr14 _ _ _ _ _ _ c2 c5 (w32_w _)
  · refine xS_of (pc' := 60) (L' := [(0, xa 302), (1, xa x1), (2, xj x2), (4, xa x4), (5, xi x5), (6, xi x6)]) (st' := [xi x5]) (m' := m) (fun ex ns r q => ?_) ?_
    · refine xw_ic_geT rfl (w32_cg c6) (w32_cg (w32_xR _ _ _)) (Int.not_lt.mp h0) ?_
      refine xw_iload rfl rfl ?_
      exact q
    exact xS_ret (v := x5) rfl rfl xw_rtI c5
theorem ygl113_14 {B : Nat} (hB : B ≤ 512) {xs : Nat → Int32} {SL d : Nat} : ∀ n x1 x2 x4 x5 x6 m, w64 x2 = x2 → w32 x5 = x5 → w32 x6 = x6 → xS B xs SL (d + 5) 113 (7, (some .int), [], 8) 1 14 [(0, xa 302), (1, xa x1), (2, xj x2), (4, xa x4), (5, xi x5), (6, xi x6)] [] m (xl5 (yl113_14 B) n x1 x2 x4 x5 x6 m) := by
  intro n
  induction n with
  | zero => intro x1 x2 x4 x5 x6 m c2 c5 c6; exact xS_none
  | succ n ih => exact ysl113_14 hB ih
theorem ygf113 {B : Nat} (hB : B ≤ 512) {xs : Nat → Int32} {SL d : Nat} : ∀ p0 p1 p2 m, w64 p1 = p1 → xS B xs SL (d + 5) 113 (7, (some .int), [], 8) 1 0 [(0, xa 302), (1, xa p0), (2, xj p1), (4, xa p2)] [] m (yf113 B p0 p1 p2 m) := by
  intro p0 p1 p2 m cp1
  unfold yf113
  refine xS_g (fun g0 => ?_)
  refine xS_of (pc' := 6) (L' := [(0, xa 302), (1, xa p0), (2, xj p1), (4, xa p2)]) (st' := [xi 1024, xi 16, xa p0]) (m' := m) (fun ex ns r q => ?_) ?_
  · refine xw_aload_n rfl rfl rfl ?_
    refine xw_bipush (e := 16) rfl (by decide +kernel) ?_
    refine xw_sipush (e := 1024) rfl (by decide +kernel) ?_
    refine xw_lo (L2 := [(0, xa 302), (1, xa p0), (2, xj p1), (4, xa p2)]) (List.forall_mem_cons.mpr ⟨rfl, List.forall_mem_cons.mpr ⟨rfl, List.forall_mem_cons.mpr ⟨rfl, List.forall_mem_cons.mpr ⟨rfl, fun _ h => absurd h List.not_mem_nil⟩⟩⟩⟩) ?_
    exact q
  refine xS_call (q := 20) (n := 3) (kq := 1) (as := [xa p0, xi 16, xi 1024]) (st1 := []) rfl rfl rfl rfl rfl rfl rfl rfl rfl rfl (fun _ => xw_rcv1 (t := 11) (xw_obd g0) rfl) rfl (List.forall_mem_cons.mpr ⟨rfl, List.forall_mem_cons.mpr ⟨rfl, List.forall_mem_cons.mpr ⟨rfl, fun _ h => absurd h List.not_mem_nil⟩⟩⟩) (ygf20 hB _ _ _ _ rfl rfl) (fun v1 m1 cv1 => ?_)
  refine xS_of (pc' := 14) (L' := [(0, xa 302), (1, xa p0), (2, xj p1), (4, xa p2), (5, xi v1), (6, xi 0)]) (st' := []) (m' := m1) (fun ex ns r q => ?_) ?_
  · refine xw_istore (L' := [(5, xi v1), (0, xa 302), (1, xa p0), (2, xj p1), (4, xa p2)]) rfl (by decide) rfl ?_
    refine xw_iconst rfl ?_
    refine xw_istore (L' := [(6, xi 0), (5, xi v1), (0, xa 302), (1, xa p0), (2, xj p1), (4, xa p2)]) rfl (by decide) rfl ?_
    refine xw_lo (L2 := [(0, xa 302), (1, xa p0), (2, xj p1), (4, xa p2), (5, xi v1), (6, xi 0)]) (List.forall_mem_cons.mpr ⟨rfl, List.forall_mem_cons.mpr ⟨rfl, List.forall_mem_cons.mpr ⟨rfl, List.forall_mem_cons.mpr ⟨rfl, List.forall_mem_cons.mpr ⟨rfl, List.forall_mem_cons.mpr ⟨rfl, fun _ h => absurd h List.not_mem_nil⟩⟩⟩⟩⟩⟩) ?_
    exact q
  exact ygl113_14 hB 1000000 _ _ _ _ _ _ cp1 cv1 rfl
theorem ygf124 {B : Nat} (hB : B ≤ 512) {xs : Nat → Int32} {SL d : Nat} : ∀ p0 p1 m, w32 p0 = p0 → w32 p1 = p1 → xS B xs SL (d + 0) 124 (4, (some .int), [], 8) 1 0 [(0, xa 302), (1, xi p0), (2, xi p1)] [] m (yf124 B p0 p1 m) := by
  intro p0 p1 m cp0 cp1
  unfold yf124
  refine xS_g (fun g0 => ?_)
  refine xS_of (pc' := 7) (L' := [(0, xa 302), (1, xi p0), (2, xi p1)]) (st' := [xi (-1), xi (xR m 372 p0)]) (m' := m) (fun ex ns r q => ?_) ?_
  · refine xw_aload_n rfl rfl rfl ?_
    refine xw_gfR (n := 372) (e := 372) rfl (xw_obd (by decide +kernel)) (by decide +kernel) (by decide +kernel) rfl ?_
    refine xw_iload_n rfl rfl ?_
    refine xw_ialdc (n := 8) (v := (m 372 p0)) (v' := (xR m 372 p0)) rfl hB (xw_obd (by decide +kernel)) rfl g0 rfl rfl ?_
    refine xw_iconst rfl ?_
    exact q
  refine xS_if (fun h1 => ?_) (fun h1 => ?_)
  · refine xS_of (pc' := 11) (L' := [(0, xa 302), (1, xi p0), (2, xi p1)]) (st' := [xi 0]) (m' := m) (fun ex ns r q => ?_) ?_
    · refine xw_ic_neF rfl (w32_cg (w32_xR _ _ _)) (w32_cg rfl) h1 ?_
      refine xw_iconst rfl ?_
      exact q
    exact xS_ret (v := 0) rfl rfl xw_rtI rfl
  · refine xS_g (fun g2 => ?_)
    refine xS_g (fun g3 => ?_)
    refine xS_g (fun g4 => ?_)
    refine xS_of (pc' := 31) (L' := [(3, xi (w32 (xJ m (304 + (xR m 372 p0)) p1))), (0, xa 302), (1, xi p0), (2, xi p1)]) (st' := [xi (xR m 302 7)]) (m' := m) (fun ex ns r q => ?_) ?_
    · refine xw_ic_neT rfl (w32_cg (w32_xR _ _ _)) (w32_cg rfl) h1 ?_
      refine xw_aload_n rfl rfl rfl ?_
      refine xw_gfR (n := 303) (e := 303) rfl (xw_obd (by decide +kernel)) (by decide +kernel) (by decide +kernel) rfl ?_
      refine xw_aload_n rfl rfl rfl ?_
      refine xw_gfR (n := 372) (e := 372) rfl (xw_obd (by decide +kernel)) (by decide +kernel) (by decide +kernel) rfl ?_
      refine xw_iload_n rfl rfl ?_
      refine xw_ialdc (n := 8) (v := (m 372 p0)) (v' := (xR m 372 p0)) rfl hB (xw_obd (by decide +kernel)) rfl g0 rfl rfl ?_
      refine xw_aald (t := 21) (n := 33) (q := 304 + 1 * ((xR m 372 p0)).toNat) (e := (304 + (xR m 372 p0))) rfl hB (xw_obd (by decide +kernel)) (by decide) rfl g2 (show 309 + 1 * ((xR m 372 p0) : Int).toNat = 304 + 1 * ((xR m 372 p0) : Int).toNat + 5 from by omega) (by have := g2; omega) ?_
      refine xw_iload_n rfl rfl ?_
      refine xw_laldc (n := (xw_le B (304 + (xR m 372 p0)))) (v := (m (304 + (xR m 372 p0)) p1)) (v' := (xJ m (304 + (xR m 372 p0)) p1)) rfl hB (xw_obd g4) rfl g3 rfl rfl ?_
      refine xw_l2i rfl ?_
      refine xw_cst (st' := [xi (w32 (xJ m (304 + (xR m 372 p0)) p1))]) (xw_sc (xi_c rfl) rfl) ?_
      refine xw_istore_n (L' := [(3, xi (w32 (xJ m (304 + (xR m 372 p0)) p1))), (0, xa 302), (1, xi p0), (2, xi p1)]) rfl (by decide) rfl ?_
      refine xw_aload_n rfl rfl rfl ?_
      refine xw_gfIc (v := (m 302 7)) (v' := (xR m 302 7)) rfl (xw_obd (by decide +kernel)) xk7_7 (qi := 7) rfl rfl rfl ?_
      exact q
    refine xS_if (fun h5 => ?_) (fun h5 => ?_)
    · refine xS_of (pc' := 59) (L' := [(3, xi (w32 (xJ m (304 + (xR m 372 p0)) p1))), (0, xa 302), (1, xi p0), (2, xi p1)]) (st' := [xi (w32 (xJ m (304 + (xR m 372 p0)) p1))]) (m' := m) (fun ex ns r q => ?_) ?_
      · refine xw_if_eqT rfl (w32_cg (w32_xR _ _ _)) h5 ?_
        refine xw_iload_n rfl rfl ?_
        exact q
      exact xS_ret (v := (w32 (xJ m (304 + (xR m 372 p0)) p1))) rfl rfl xw_rtI (w32_w _)
    · refine xS_g (fun g6 => ?_)
      refine xS_g (fun g7 => ?_)
      refine xS_g (fun g8 => ?_)
      refine xS_g (fun g9 => ?_)
      refine xS_g (fun g10 => ?_)
      refine xS_g (fun g11 => ?_)
      refine xS_of (pc' := 59) (L' := [(3, xi (w32 (xJ m (304 + (xR m 372 p0)) p1))), (0, xa 302), (1, xi p0), (2, xi p1)]) (st' := [xi (xR m (xw_rf (xw_rf (15 + (26 * p0)) 5) (xR m 371 p0)) (w32 (xJ m (304 + (xR m 372 p0)) p1)))]) (m' := m) (fun ex ns r q => ?_) ?_
      · refine xw_if_eqF rfl (w32_cg (w32_xR _ _ _)) h5 ?_
        refine xw_aload_n rfl rfl rfl ?_
        refine xw_gfR (n := 3) (e := 3) rfl (xw_obd (by decide +kernel)) (by decide +kernel) (by decide +kernel) rfl ?_
        refine xw_gfR (n := 4) (e := 4) rfl (xw_obd (by decide +kernel)) (by decide +kernel) (by decide +kernel) rfl ?_
        refine xw_iload_n rfl rfl ?_
        refine xw_aald (t := 23) (n := 8) (q := 15 + 26 * (p0).toNat) (e := (15 + (26 * p0))) rfl hB (xw_obd (by decide +kernel)) (by decide) rfl g0 (show 20 + 26 * (p0 : Int).toNat = 15 + 26 * (p0 : Int).toNat + 5 from by omega) (by have := g0; omega) ?_
        refine xw_gfV (qi := 5) rfl (xw_obd g6) xk3_5 rfl ?_
        refine xw_aload_n rfl rfl rfl ?_
        refine xw_gfR (n := 371) (e := 371) rfl (xw_obd (by decide +kernel)) (by decide +kernel) (by decide +kernel) rfl ?_
        refine xw_iload_n rfl rfl ?_
        refine xw_ialdc (n := 8) (v := (m 371 p0)) (v' := (xR m 371 p0)) rfl hB (xw_obd (by decide +kernel)) rfl g0 rfl rfl ?_
        refine xw_aald (t := 20) (n := (xw_le B (xw_rf (15 + (26 * p0)) 5))) (q := xw_kd (xw_rf (15 + (26 * p0)) 5) (xR m 371 p0) - 5) (e := (xw_rf (xw_rf (15 + (26 * p0)) 5) (xR m 371 p0))) rfl hB (xw_obd g9) (by decide) rfl g7 (by have := g8; omega) (xw_rfn g8) ?_
        refine xw_iload_n rfl rfl ?_
        refine xw_ialdc (n := (xw_le B (xw_rf (xw_rf (15 + (26 * p0)) 5) (xR m 371 p0)))) (v := (m (xw_rf (xw_rf (15 + (26 * p0)) 5) (xR m 371 p0)) (w32 (xJ m (304 + (xR m 372 p0)) p1)))) (v' := (xR m (xw_rf (xw_rf (15 + (26 * p0)) 5) (xR m 371 p0)) (w32 (xJ m (304 + (xR m 372 p0)) p1)))) rfl hB (xw_obd g11) rfl g10 rfl rfl ?_
        refine xw_goto rfl ?_
        exact q
      exact xS_ret (v := (xR m (xw_rf (xw_rf (15 + (26 * p0)) 5) (xR m 371 p0)) (w32 (xJ m (304 + (xR m 372 p0)) p1)))) rfl rfl xw_rtI (w32_xR _ _ _)
theorem ysl123_5 {B : Nat} (hB : B ≤ 512) {xs : Nat → Int32} {SL d : Nat} {r5 : Int → Int → Int → xw_M → xP} (hr5 : ∀ x2 x3 x5 m, w32 x2 = x2 → w64 x3 = x3 → w32 x5 = x5 → xS B xs SL (d + 1) 123 (8, (some .boolean), [], 5) 4 5 [(0, xa 223), (1, xa 302), (2, xi x2), (3, xj x3), (5, xi x5)] [] m (r5 x2 x3 x5 m)) : ∀ x2 x3 x5 m, w32 x2 = x2 → w64 x3 = x3 → w32 x5 = x5 → xS B xs SL (d + 1) 123 (8, (some .boolean), [], 5) 4 5 [(0, xa 223), (1, xa 302), (2, xi x2), (3, xj x3), (5, xi x5)] [] m (yl123_5 B r5 x2 x3 x5 m) := by
  intro x2 x3 x5 m c2 c3 c5
  unfold yl123_5
  refine xS_of (pc' := 11) (L' := [(0, xa 223), (1, xa 302), (2, xi x2), (3, xj x3), (5, xi x5)]) (st' := [xi (xR m 223 13), xi x5]) (m' := m) (fun ex ns r q => ?_) ?_
  · refine xw_iload rfl rfl ?_
    refine xw_aload_n rfl rfl rfl ?_
    refine xw_gfIc (v := (m 223 13)) (v' := (xR m 223 13)) rfl (xw_obd (by decide +kernel)) xk4_13 (qi := 13) rfl rfl rfl ?_
    exact q
  refine xS_if (fun h0 => ?_) (fun h0 => ?_)
  · refine xS_g (fun g1 => ?_)
    refine xS_of (pc' := 27) (L' := [(6, xi (xR m 291 x5)), (0, xa 223), (1, xa 302), (2, xi x2), (3, xj x3), (5, xi x5)]) (st' := [xi 60, xi (xR m 291 x5)]) (m' := m) (fun ex ns r q => ?_) ?_
    · refine xw_ic_geF rfl (w32_cg c5) (w32_cg (w32_xR _ _ _)) (Int.not_le.mpr h0) ?_
      refine xw_aload_n rfl rfl rfl ?_
      refine xw_gfR (n := 291) (e := 291) rfl (xw_obd (by decide +kernel)) (by decide +kernel) (by decide +kernel) rfl ?_
      refine xw_iload rfl rfl ?_
      refine xw_ialdc (n := 240) (v := (m 291 x5)) (v' := (xR m 291 x5)) rfl hB (xw_obd (by decide +kernel)) rfl g1 rfl rfl ?_
      refine xw_istore (L' := [(6, xi (xR m 291 x5)), (0, xa 223), (1, xa 302), (2, xi x2), (3, xj x3), (5, xi x5)]) rfl (by decide) rfl ?_
      refine xw_iload rfl rfl ?_
      refine xw_bipush (e := 60) rfl (by decide +kernel) ?_
      exact q
    refine xS_if (fun h2 => ?_) (fun h2 => ?_)
    · refine xS_g (fun g3 => ?_)
      refine xS_g (fun g4 => ?_)
      refine xS_of (pc' := 41) (L' := [(0, xa 223), (1, xa 302), (2, xi x2), (3, xj x3), (5, xi x5), (6, xi (xR m 291 x5))]) (st' := [xi x2, xi ((xR m 229 (xR m 291 x5)) / 4), xa 302]) (m' := m) (fun ex ns r q => ?_) ?_
      · refine xw_ic_geF rfl (w32_cg (w32_xR _ _ _)) (w32_cg rfl) (Int.not_le.mpr h2) ?_
        refine xw_aload_n rfl rfl rfl ?_
        refine xw_aload_n rfl rfl rfl ?_
        refine xw_gfR (n := 229) (e := 229) rfl (xw_obd (by decide +kernel)) (by decide +kernel) (by decide +kernel) rfl ?_
        refine xw_iload rfl rfl ?_
        refine xw_ialdc (n := 60) (v := (m 229 (xR m 291 x5))) (v' := (xR m 229 (xR m 291 x5))) rfl hB (xw_obd (by decide +kernel)) rfl g3 rfl rfl ?_
        refine xw_iconst rfl ?_
        refine xw_idiv (z := ((xR m 229 (xR m 291 x5)) / 4)) rfl (xw_idivn ⟨(by decide), (w32_cg rfl).2⟩) (xw_idive ⟨g4, (w32_cg (w32_xR _ _ _)).2⟩ ⟨(by decide), (w32_cg rfl).2⟩) ?_
        refine xw_iload_n rfl rfl ?_
        refine xw_lo (L2 := [(0, xa 223), (1, xa 302), (2, xi x2), (3, xj x3), (5, xi x5), (6, xi (xR m 291 x5))]) (List.forall_mem_cons.mpr ⟨rfl, List.forall_mem_cons.mpr ⟨rfl, List.forall_mem_cons.mpr ⟨rfl, List.forall_mem_cons.mpr ⟨rfl, List.forall_mem_cons.mpr ⟨rfl, List.forall_mem_cons.mpr ⟨rfl, fun _ h => absurd h List.not_mem_nil⟩⟩⟩⟩⟩⟩) ?_
        exact q
      refine xS_call (q := 124) (n := 3) (kq := 1) (as := [xa 302, xi ((xR m 229 (xR m 291 x5)) / 4), xi x2]) (st1 := []) rfl rfl rfl rfl rfl rfl rfl rfl rfl rfl (fun _ => xw_rcv1 (t := 7) (xw_obd (by decide +kernel)) rfl) rfl (List.forall_mem_cons.mpr ⟨rfl, List.forall_mem_cons.mpr ⟨rfl, List.forall_mem_cons.mpr ⟨rfl, fun _ h => absurd h List.not_mem_nil⟩⟩⟩) (ygf124 hB _ _ _ (w32_dv (w32_xR _ _ _) ⟨g4, (by decide)⟩) c2) (fun v1 m1 cv1 => ?_)
      refine xS_g (fun g5 => ?_)
      refine xS_g (fun g6 => ?_)
      refine xS_of (pc' := 5) (L' := [(0, xa 223), (1, xa 302), (2, xi x2), (3, xj (xw_lorf (xw_lshlf x3 1) (xR m1 (231 + (xR m 291 x5)) v1))), (5, xi (w32 (x5 + 1)))]) (st' := []) (m' := m1) (fun ex ns r q => ?_) ?_
      · refine xw_istore (L' := [(7, xi v1), (0, xa 223), (1, xa 302), (2, xi x2), (3, xj x3), (5, xi x5), (6, xi (xR m 291 x5))]) rfl (by decide) rfl ?_
        refine xw_lload_n rfl rfl ?_
        refine xw_iconst rfl ?_
        refine xw_lshl (z := (xw_lshlf x3 1)) rfl (xw_lshle _ _) ?_
        refine xw_aload_n rfl rfl rfl ?_
        refine xw_gfR (n := 230) (e := 230) rfl (xw_obd (by decide +kernel)) (by decide +kernel) (by decide +kernel) rfl ?_
        refine xw_iload rfl rfl ?_
        refine xw_aald (t := 22) (n := 60) (q := 231 + 1 * ((xR m 291 x5)).toNat) (e := (231 + (xR m 291 x5))) rfl hB (xw_obd (by decide +kernel)) (by decide) rfl g3 (show 236 + 1 * ((xR m 291 x5) : Int).toNat = 231 + 1 * ((xR m 291 x5) : Int).toNat + 5 from by omega) (by have := g3; omega) ?_
        refine xw_iload rfl rfl ?_
        refine xw_baldc (n := (xw_le B (231 + (xR m 291 x5)))) (v := (m1 (231 + (xR m 291 x5)) v1)) (v' := (xR m1 (231 + (xR m 291 x5)) v1)) rfl hB (xw_obd g6) rfl g5 rfl rfl ?_
        refine xw_i2l rfl (w32_cg (w32_xR _ _ _)) ?_
        refine xw_lor (z := (xw_lorf (xw_lshlf x3 1) (xR m1 (231 + (xR m 291 x5)) v1))) rfl (xw_lore _ _) ?_
        refine xw_lstore_n (L' := [(3, xj (xw_lorf (xw_lshlf x3 1) (xR m1 (231 + (xR m 291 x5)) v1))), (7, xi v1), (0, xa 223), (1, xa 302), (2, xi x2), (5, xi x5), (6, xi (xR m 291 x5))]) rfl (by decide) rfl ?_
        refine xw_goto rfl ?_
        refine xw_iincc (z := (w32 (x5 + 1))) (L' := [(5, xi (w32 (x5 + 1))), (3, xj (xw_lorf (xw_lshlf x3 1) (xR m1 (231 + (xR m 291 x5)) v1))), (7, xi v1), (0, xa 223), (1, xa 302), (2, xi x2), (6, xi (xR m 291 x5))]) rfl rfl (by decide) rfl rfl ?_
        refine xw_goto rfl ?_
        refine xw_lo (L2 := [(0, xa 223), (1, xa 302), (2, xi x2), (3, xj (xw_lorf (xw_lshlf x3 1) (xR m1 (231 + (xR m 291 x5)) v1))), (5, xi (w32 (x5 + 1)))]) (List.forall_mem_cons.mpr ⟨rfl, List.forall_mem_cons.mpr ⟨rfl, List.forall_mem_cons.mpr ⟨rfl, List.forall_mem_cons.mpr ⟨rfl, List.forall_mem_cons.mpr ⟨rfl, fun _ h => absurd h List.not_mem_nil⟩⟩⟩⟩⟩) ?_
        exact q
      exact hr5 _ _ _ _ c2 (w64_ti _) (w32_w _)
    · refine xS_of (pc' := 70) (L' := [(6, xi (xR m 291 x5)), (0, xa 223), (1, xa 302), (2, xi x2), (3, xj x3), (5, xi x5)]) (st' := [xi 216, xi (xR m 291 x5)]) (m' := m) (fun ex ns r q => ?_) ?_
      · refine xw_ic_geT rfl (w32_cg (w32_xR _ _ _)) (w32_cg rfl) (Int.not_lt.mp h2) ?_
        refine xw_iload rfl rfl ?_
        refine xw_sipush (e := 216) rfl (by decide +kernel) ?_
        exact q
      refine xS_if (fun h3 => ?_) (fun h3 => ?_)
      · refine xS_of (pc' := 5) (L' := [(0, xa 223), (1, xa 302), (2, xi x2), (3, xj (xw_lxorf x3 1)), (5, xi (w32 (x5 + 1)))]) (st' := []) (m' := m) (fun ex ns r q => ?_) ?_
        · refine xw_ic_neF rfl (w32_cg (w32_xR _ _ _)) (w32_cg rfl) h3 ?_
          refine xw_lload_n rfl rfl ?_
          refine xw_lconst (e := 1) rfl rfl ?_
          refine xw_lxor (z := (xw_lxorf x3 1)) rfl (xw_lxore _ _) ?_
          refine xw_lstore_n (L' := [(3, xj (xw_lxorf x3 1)), (6, xi (xR m 291 x5)), (0, xa 223), (1, xa 302), (2, xi x2), (5, xi x5)]) rfl (by decide) rfl ?_
          refine xw_goto rfl ?_
          refine xw_iincc (z := (w32 (x5 + 1))) (L' := [(5, xi (w32 (x5 + 1))), (3, xj (xw_lxorf x3 1)), (6, xi (xR m 291 x5)), (0, xa 223), (1, xa 302), (2, xi x2)]) rfl rfl (by decide) rfl rfl ?_
          refine xw_goto rfl ?_
          refine xw_lo (L2 := [(0, xa 223), (1, xa 302), (2, xi x2), (3, xj (xw_lxorf x3 1)), (5, xi (w32 (x5 + 1)))]) (List.forall_mem_cons.mpr ⟨rfl, List.forall_mem_cons.mpr ⟨rfl, List.forall_mem_cons.mpr ⟨rfl, List.forall_mem_cons.mpr ⟨rfl, List.forall_mem_cons.mpr ⟨rfl, fun _ h => absurd h List.not_mem_nil⟩⟩⟩⟩⟩) ?_
          exact q
        exact hr5 _ _ _ _ c2 (w64_ti _) (w32_w _)
      · refine xS_of (pc' := 85) (L' := [(6, xi (xR m 291 x5)), (0, xa 223), (1, xa 302), (2, xi x2), (3, xj x3), (5, xi x5)]) (st' := [xi 214, xi (xR m 291 x5)]) (m' := m) (fun ex ns r q => ?_) ?_
        · refine xw_ic_neT rfl (w32_cg (w32_xR _ _ _)) (w32_cg rfl) h3 ?_
          refine xw_iload rfl rfl ?_
          refine xw_sipush (e := 214) rfl (by decide +kernel) ?_
          exact q
        refine xS_if (fun h4 => ?_) (fun h4 => ?_)
        · refine xS_of (pc' := 5) (L' := [(0, xa 223), (1, xa 302), (2, xi x2), (3, xj (xw_landf (xw_lshrf x3 1) (xw_lorf x3 (-2)))), (5, xi (w32 (x5 + 1)))]) (st' := []) (m' := m) (fun ex ns r q => ?_) ?_
          · refine xw_ic_neF rfl (w32_cg (w32_xR _ _ _)) (w32_cg rfl) h4 ?_
            refine xw_lload_n rfl rfl ?_
            refine xw_iconst rfl ?_
            refine xw_lshr (z := (xw_lshrf x3 1)) rfl (xw_lshre _ _) ?_
            refine xw_lload_n rfl rfl ?_
            refine xw_ldc2 (e := (-2)) rfl (by decide +kernel) ?_
            refine xw_lor (z := (xw_lorf x3 (-2))) rfl (xw_lore _ _) ?_
            refine xw_land (z := (xw_landf (xw_lshrf x3 1) (xw_lorf x3 (-2)))) rfl (xw_lande _ _) ?_
            refine xw_lstore_n (L' := [(3, xj (xw_landf (xw_lshrf x3 1) (xw_lorf x3 (-2)))), (6, xi (xR m 291 x5)), (0, xa 223), (1, xa 302), (2, xi x2), (5, xi x5)]) rfl (by decide) rfl ?_
            refine xw_goto rfl ?_
            refine xw_iincc (z := (w32 (x5 + 1))) (L' := [(5, xi (w32 (x5 + 1))), (3, xj (xw_landf (xw_lshrf x3 1) (xw_lorf x3 (-2)))), (6, xi (xR m 291 x5)), (0, xa 223), (1, xa 302), (2, xi x2)]) rfl rfl (by decide) rfl rfl ?_
            refine xw_goto rfl ?_
            refine xw_lo (L2 := [(0, xa 223), (1, xa 302), (2, xi x2), (3, xj (xw_landf (xw_lshrf x3 1) (xw_lorf x3 (-2)))), (5, xi (w32 (x5 + 1)))]) (List.forall_mem_cons.mpr ⟨rfl, List.forall_mem_cons.mpr ⟨rfl, List.forall_mem_cons.mpr ⟨rfl, List.forall_mem_cons.mpr ⟨rfl, List.forall_mem_cons.mpr ⟨rfl, fun _ h => absurd h List.not_mem_nil⟩⟩⟩⟩⟩) ?_
            exact q
          exact hr5 _ _ _ _ c2 (w64_ti _) (w32_w _)
        · refine xS_of (pc' := 5) (L' := [(0, xa 223), (1, xa 302), (2, xi x2), (3, xj (xw_lorf (xw_lshrf x3 1) (xw_landf x3 1))), (5, xi (w32 (x5 + 1)))]) (st' := []) (m' := m) (fun ex ns r q => ?_) ?_
          · refine xw_ic_neT rfl (w32_cg (w32_xR _ _ _)) (w32_cg rfl) h4 ?_
            refine xw_lload_n rfl rfl ?_
            refine xw_iconst rfl ?_
            refine xw_lshr (z := (xw_lshrf x3 1)) rfl (xw_lshre _ _) ?_
            refine xw_lload_n rfl rfl ?_
            refine xw_lconst (e := 1) rfl rfl ?_
            refine xw_land (z := (xw_landf x3 1)) rfl (xw_lande _ _) ?_
            refine xw_lor (z := (xw_lorf (xw_lshrf x3 1) (xw_landf x3 1))) rfl (xw_lore _ _) ?_
            refine xw_lstore_n (L' := [(3, xj (xw_lorf (xw_lshrf x3 1) (xw_landf x3 1))), (6, xi (xR m 291 x5)), (0, xa 223), (1, xa 302), (2, xi x2), (5, xi x5)]) rfl (by decide) rfl ?_
            refine xw_iincc (z := (w32 (x5 + 1))) (L' := [(5, xi (w32 (x5 + 1))), (3, xj (xw_lorf (xw_lshrf x3 1) (xw_landf x3 1))), (6, xi (xR m 291 x5)), (0, xa 223), (1, xa 302), (2, xi x2)]) rfl rfl (by decide) rfl rfl ?_
            refine xw_goto rfl ?_
            refine xw_lo (L2 := [(0, xa 223), (1, xa 302), (2, xi x2), (3, xj (xw_lorf (xw_lshrf x3 1) (xw_landf x3 1))), (5, xi (w32 (x5 + 1)))]) (List.forall_mem_cons.mpr ⟨rfl, List.forall_mem_cons.mpr ⟨rfl, List.forall_mem_cons.mpr ⟨rfl, List.forall_mem_cons.mpr ⟨rfl, List.forall_mem_cons.mpr ⟨rfl, fun _ h => absurd h List.not_mem_nil⟩⟩⟩⟩⟩) ?_
            exact q
          exact hr5 _ _ _ _ c2 (w64_ti _) (w32_w _)
  · refine xS_of (pc' := 119) (L' := [(0, xa 223), (1, xa 302), (2, xi x2), (3, xj x3), (5, xi x5)]) (st' := [xj 0, xj (xw_landf x3 1)]) (m' := m) (fun ex ns r q => ?_) ?_
    · refine xw_ic_geT rfl (w32_cg c5) (w32_cg (w32_xR _ _ _)) (Int.not_lt.mp h0) ?_
      refine xw_lload_n rfl rfl ?_
      refine xw_lconst (e := 1) rfl rfl ?_
      refine xw_land (z := (xw_landf x3 1)) rfl (xw_lande _ _) ?_
      refine xw_lconst (e := 0) rfl rfl ?_
      exact q
    refine xS_if (fun h1 => ?_) (fun h1 => ?_)
    · refine xS_of (pc' := 128) (L' := [(0, xa 223), (1, xa 302), (2, xi x2), (3, xj x3), (5, xi x5)]) (st' := [xi 0]) (m' := m) (fun ex ns r q => ?_) ?_
      · refine xw_jc_eqT rfl rfl (w64_cg (w64_ti _)) (w64_cg rfl) h1 ?_
        refine xw_iconst rfl ?_
        exact q
      exact xS_ret (v := 0) rfl rfl (xw_rtZ (Or.inl rfl)) (Or.inl rfl)
    · refine xS_of (pc' := 128) (L' := [(0, xa 223), (1, xa 302), (2, xi x2), (3, xj x3), (5, xi x5)]) (st' := [xi 1]) (m' := m) (fun ex ns r q => ?_) ?_
      · refine xw_jc_eqF rfl rfl (w64_cg (w64_ti _)) (w64_cg rfl) h1 ?_
        refine xw_iconst rfl ?_
        refine xw_goto rfl ?_
        exact q
      exact xS_ret (v := 1) rfl rfl (xw_rtZ (Or.inr rfl)) (Or.inr rfl)
theorem ygl123_5 {B : Nat} (hB : B ≤ 512) {xs : Nat → Int32} {SL d : Nat} : ∀ n x2 x3 x5 m, w32 x2 = x2 → w64 x3 = x3 → w32 x5 = x5 → xS B xs SL (d + 1) 123 (8, (some .boolean), [], 5) 4 5 [(0, xa 223), (1, xa 302), (2, xi x2), (3, xj x3), (5, xi x5)] [] m (xl3 (yl123_5 B) n x2 x3 x5 m) := by
  intro n
  induction n with
  | zero => intro x2 x3 x5 m c2 c3 c5; exact xS_none
  | succ n ih => exact ysl123_5 hB ih
theorem ygf123 {B : Nat} (hB : B ≤ 512) {xs : Nat → Int32} {SL d : Nat} : ∀ p1 m, w32 p1 = p1 → xS B xs SL (d + 1) 123 (8, (some .boolean), [], 5) 4 0 [(0, xa 223), (1, xa 302), (2, xi p1)] [] m (yf123 B p1 m) := by
  intro p1 m cp1
  unfold yf123
  refine xS_of (pc' := 5) (L' := [(0, xa 223), (1, xa 302), (2, xi p1), (3, xj 1), (5, xi 0)]) (st' := []) (m' := m) (fun ex ns r q => ?_) ?_
  · refine xw_lconst (e := 1) rfl rfl ?_
    refine xw_lstore_n (L' := [(3, xj 1), (0, xa 223), (1, xa 302), (2, xi p1)]) rfl (by decide) rfl ?_
    refine xw_iconst rfl ?_
    refine xw_istore (L' := [(5, xi 0), (3, xj 1), (0, xa 223), (1, xa 302), (2, xi p1)]) rfl (by decide) rfl ?_
    refine xw_lo (L2 := [(0, xa 223), (1, xa 302), (2, xi p1), (3, xj 1), (5, xi 0)]) (List.forall_mem_cons.mpr ⟨rfl, List.forall_mem_cons.mpr ⟨rfl, List.forall_mem_cons.mpr ⟨rfl, List.forall_mem_cons.mpr ⟨rfl, List.forall_mem_cons.mpr ⟨rfl, fun _ h => absurd h List.not_mem_nil⟩⟩⟩⟩⟩) ?_
    exact q
  exact ygl123_5 hB 1000000 _ _ _ _ cp1 rfl rfl
theorem ygf127 {B : Nat} (hB : B ≤ 512) {xs : Nat → Int32} {SL d : Nat} : ∀ p0 m, w32 p0 = p0 → xS B xs SL (d + 0) 127 (2, (some .long), [], 8) 2 0 [(0, xa 302), (1, xi p0)] [] m (yf127 B p0 m) := by
  intro p0 m cp0
  unfold yf127
  refine xS_of (pc' := 4) (L' := [(0, xa 302), (1, xi p0)]) (st' := [xi (xR m 302 7)]) (m' := m) (fun ex ns r q => ?_) ?_
  · refine xw_aload_n rfl rfl rfl ?_
    refine xw_gfIc (v := (m 302 7)) (v' := (xR m 302 7)) rfl (xw_obd (by decide +kernel)) xk7_7 (qi := 7) rfl rfl rfl ?_
    exact q
  refine xS_if (fun h0 => ?_) (fun h0 => ?_)
  · refine xS_of (pc' := 22) (L' := [(0, xa 302), (1, xi p0)]) (st' := [xj 1]) (m' := m) (fun ex ns r q => ?_) ?_
    · refine xw_if_eqT rfl (w32_cg (w32_xR _ _ _)) h0 ?_
      refine xw_lconst (e := 1) rfl rfl ?_
      exact q
    exact xS_ret (v := 1) rfl rfl rfl rfl
  · refine xS_g (fun g1 => ?_)
    refine xS_g (fun g2 => ?_)
    refine xS_g (fun g3 => ?_)
    refine xS_of (pc' := 22) (L' := [(0, xa 302), (1, xi p0)]) (st' := [xj (xJ m (304 + (xR m 302 5)) p0)]) (m' := m) (fun ex ns r q => ?_) ?_
    · refine xw_if_eqF rfl (w32_cg (w32_xR _ _ _)) h0 ?_
      refine xw_aload_n rfl rfl rfl ?_
      refine xw_gfR (n := 303) (e := 303) rfl (xw_obd (by decide +kernel)) (by decide +kernel) (by decide +kernel) rfl ?_
      refine xw_aload_n rfl rfl rfl ?_
      refine xw_gfIc (v := (m 302 5)) (v' := (xR m 302 5)) rfl (xw_obd (by decide +kernel)) xk7_5 (qi := 5) rfl rfl rfl ?_
      refine xw_aald (t := 21) (n := 33) (q := 304 + 1 * ((xR m 302 5)).toNat) (e := (304 + (xR m 302 5))) rfl hB (xw_obd (by decide +kernel)) (by decide) rfl g1 (show 309 + 1 * ((xR m 302 5) : Int).toNat = 304 + 1 * ((xR m 302 5) : Int).toNat + 5 from by omega) (by have := g1; omega) ?_
      refine xw_iload_n rfl rfl ?_
      refine xw_laldc (n := (xw_le B (304 + (xR m 302 5)))) (v := (m (304 + (xR m 302 5)) p0)) (v' := (xJ m (304 + (xR m 302 5)) p0)) rfl hB (xw_obd g3) rfl g2 rfl rfl ?_
      refine xw_goto rfl ?_
      exact q
    exact xS_ret (v := (xJ m (304 + (xR m 302 5)) p0)) rfl rfl rfl (w64_xJ _ _ _)
theorem ygk126_108 {B : Nat} (hB : B ≤ 512) {xs : Nat → Int32} {SL d : Nat} {r3 : Int → Int → Int → Int → xw_M → xP} (hr3 : ∀ x0 x1 x4 x5 m, w32 x1 = x1 → w32 x4 = x4 → w32 x5 = x5 → xS B xs SL (d + 1) 126 (10, none, [], 10) 0 3 [(0, xa x0), (1, xi x1), (2, xa 223), (3, xa 302), (4, xi x4), (5, xi x5)] [] m (r3 x0 x1 x4 x5 m)) : ∀ x0 x1 x4 x5 x7 x8 m, w32 x1 = x1 → w32 x4 = x4 → w32 x5 = x5 → w64 x8 = x8 → xS B xs SL (d + 1) 126 (10, none, [], 10) 0 108 [(0, xa x0), (1, xi x1), (2, xa 223), (3, xa 302), (4, xi x4), (5, xi x5), (7, xa x7), (8, xj x8)] [] m (yk126_108 B r3 x0 x1 x4 x5 x7 x8 m) := by
  intro x0 x1 x4 x5 x7 x8 m c1 c4 c5 c8
  unfold yk126_108
  refine xS_g (fun g0 => ?_)
  refine xS_g (fun g1 => ?_)
  refine xS_of (pc' := 3) (L' := [(0, xa x0), (1, xi x1), (2, xa 223), (3, xa 302), (4, xi x4), (5, xi (w32 (x5 + 1)))]) (st' := []) (m' := (xw_u m x7 x1 ((xJ m x7 x1) + x8))) (fun ex ns r q => ?_) ?_
  · refine xw_aload rfl rfl rfl ?_
    refine xw_iload_n rfl rfl ?_
    refine xw_dup2 rfl rfl rfl ?_
    refine xw_laldc (n := (xw_le B x7)) (v := (m x7 x1)) (v' := (xJ m x7 x1)) rfl hB (xw_obd g1) rfl g0 rfl rfl ?_
    refine xw_lload rfl rfl ?_
    refine xw_ladd rfl ?_
    refine xw_last (n := (xw_le B x7)) rfl hB (xw_obd g1) rfl g0 ?_
    refine xw_goto rfl ?_
    refine xw_iincc (z := (w32 (x5 + 1))) (L' := [(5, xi (w32 (x5 + 1))), (0, xa x0), (1, xi x1), (2, xa 223), (3, xa 302), (4, xi x4), (7, xa x7), (8, xj x8)]) rfl rfl (by decide) rfl rfl ?_
    refine xw_goto rfl ?_
    refine xw_lo (L2 := [(0, xa x0), (1, xi x1), (2, xa 223), (3, xa 302), (4, xi x4), (5, xi (w32 (x5 + 1)))]) (List.forall_mem_cons.mpr ⟨rfl, List.forall_mem_cons.mpr ⟨rfl, List.forall_mem_cons.mpr ⟨rfl, List.forall_mem_cons.mpr ⟨rfl, List.forall_mem_cons.mpr ⟨rfl, List.forall_mem_cons.mpr ⟨rfl, fun _ h => absurd h List.not_mem_nil⟩⟩⟩⟩⟩⟩) ?_
    exact q
  exact hr3 _ _ _ _ _ c1 c4 (w32_w _)
theorem ysl126_3 {B : Nat} (hB : B ≤ 512) {xs : Nat → Int32} {SL d : Nat} {r3 : Int → Int → Int → Int → xw_M → xP} (hr3 : ∀ x0 x1 x4 x5 m, w32 x1 = x1 → w32 x4 = x4 → w32 x5 = x5 → xS B xs SL (d + 1) 126 (10, none, [], 10) 0 3 [(0, xa x0), (1, xi x1), (2, xa 223), (3, xa 302), (4, xi x4), (5, xi x5)] [] m (r3 x0 x1 x4 x5 m)) : ∀ x0 x1 x4 x5 m, w32 x1 = x1 → w32 x4 = x4 → w32 x5 = x5 → xS B xs SL (d + 1) 126 (10, none, [], 10) 0 3 [(0, xa x0), (1, xi x1), (2, xa 223), (3, xa 302), (4, xi x4), (5, xi x5)] [] m (yl126_3 B r3 x0 x1 x4 x5 m) := by
  intro x0 x1 x4 x5 m c1 c4 c5
  unfold yl126_3
  refine xS_g (fun g0 => ?_)
  refine xS_of (pc' := 9) (L' := [(0, xa x0), (1, xi x1), (2, xa 223), (3, xa 302), (4, xi x4), (5, xi x5)]) (st' := [xi (xR m x0 6), xi x5]) (m' := m) (fun ex ns r q => ?_) ?_
  · refine xw_iload rfl rfl ?_
    refine xw_aload_n rfl rfl rfl ?_
    refine xw_gfIc (v := (m x0 6)) (v' := (xR m x0 6)) rfl (xw_obd g0) xk9_6 (qi := 6) rfl rfl rfl ?_
    exact q
  refine xS_if (fun h1 => ?_) (fun h1 => ?_)
  · refine xS_g (fun g2 => ?_)
    refine xS_of (pc' := 26) (L' := [(6, xi (xR m 224 x5)), (0, xa x0), (1, xi x1), (2, xa 223), (3, xa 302), (4, xi x4), (5, xi x5)]) (st' := [xi 210, xi (xR m 224 x5)]) (m' := m) (fun ex ns r q => ?_) ?_
    · refine xw_ic_geF rfl (w32_cg c5) (w32_cg (w32_xR _ _ _)) (Int.not_le.mpr h1) ?_
      refine xw_aload_n rfl rfl rfl ?_
      refine xw_gfR (n := 224) (e := 224) rfl (xw_obd (by decide +kernel)) (by decide +kernel) (by decide +kernel) rfl ?_
      refine xw_iload rfl rfl ?_
      refine xw_ialdc (n := 24) (v := (m 224 x5)) (v' := (xR m 224 x5)) rfl hB (xw_obd (by decide +kernel)) rfl g2 rfl rfl ?_
      refine xw_istore (L' := [(6, xi (xR m 224 x5)), (0, xa x0), (1, xi x1), (2, xa 223), (3, xa 302), (4, xi x4), (5, xi x5)]) rfl (by decide) rfl ?_
      refine xw_iload rfl rfl ?_
      refine xw_sipush (e := 210) rfl (by decide +kernel) ?_
      exact q
    refine xS_if (fun h3 => ?_) (fun h3 => ?_)
    · refine xS_of (pc' := 3) (L' := [(0, xa x0), (1, xi x1), (2, xa 223), (3, xa 302), (4, xi x4), (5, xi (w32 (x5 + 1)))]) (st' := []) (m' := m) (fun ex ns r q => ?_) ?_
      · refine xw_ic_ltT rfl (w32_cg (w32_xR _ _ _)) (w32_cg rfl) h3 ?_
        refine xw_iincc (z := (w32 (x5 + 1))) (L' := [(5, xi (w32 (x5 + 1))), (6, xi (xR m 224 x5)), (0, xa x0), (1, xi x1), (2, xa 223), (3, xa 302), (4, xi x4)]) rfl rfl (by decide) rfl rfl ?_
        refine xw_goto rfl ?_
        refine xw_lo (L2 := [(0, xa x0), (1, xi x1), (2, xa 223), (3, xa 302), (4, xi x4), (5, xi (w32 (x5 + 1)))]) (List.forall_mem_cons.mpr ⟨rfl, List.forall_mem_cons.mpr ⟨rfl, List.forall_mem_cons.mpr ⟨rfl, List.forall_mem_cons.mpr ⟨rfl, List.forall_mem_cons.mpr ⟨rfl, List.forall_mem_cons.mpr ⟨rfl, fun _ h => absurd h List.not_mem_nil⟩⟩⟩⟩⟩⟩) ?_
        exact q
      exact hr3 _ _ _ _ _ c1 c4 (w32_w _)
    · refine xS_of (pc' := 34) (L' := [(6, xi (xR m 224 x5)), (0, xa x0), (1, xi x1), (2, xa 223), (3, xa 302), (4, xi x4), (5, xi x5)]) (st' := [xi 213, xi (xR m 224 x5)]) (m' := m) (fun ex ns r q => ?_) ?_
      · refine xw_ic_ltF rfl (w32_cg (w32_xR _ _ _)) (w32_cg rfl) h3 ?_
        refine xw_iload rfl rfl ?_
        refine xw_sipush (e := 213) rfl (by decide +kernel) ?_
        exact q
      refine xS_if (fun h4 => ?_) (fun h4 => ?_)
      · refine xS_of (pc' := 3) (L' := [(0, xa x0), (1, xi x1), (2, xa 223), (3, xa 302), (4, xi x4), (5, xi (w32 (x5 + 1)))]) (st' := []) (m' := m) (fun ex ns r q => ?_) ?_
        · refine xw_ic_leF rfl (w32_cg (w32_xR _ _ _)) (w32_cg rfl) (Int.not_le.mpr h4) ?_
          refine xw_goto rfl ?_
          refine xw_iincc (z := (w32 (x5 + 1))) (L' := [(5, xi (w32 (x5 + 1))), (6, xi (xR m 224 x5)), (0, xa x0), (1, xi x1), (2, xa 223), (3, xa 302), (4, xi x4)]) rfl rfl (by decide) rfl rfl ?_
          refine xw_goto rfl ?_
          refine xw_lo (L2 := [(0, xa x0), (1, xi x1), (2, xa 223), (3, xa 302), (4, xi x4), (5, xi (w32 (x5 + 1)))]) (List.forall_mem_cons.mpr ⟨rfl, List.forall_mem_cons.mpr ⟨rfl, List.forall_mem_cons.mpr ⟨rfl, List.forall_mem_cons.mpr ⟨rfl, List.forall_mem_cons.mpr ⟨rfl, List.forall_mem_cons.mpr ⟨rfl, fun _ h => absurd h List.not_mem_nil⟩⟩⟩⟩⟩⟩) ?_
          exact q
        exact hr3 _ _ _ _ _ c1 c4 (w32_w _)
      · refine xS_g (fun g5 => ?_)
        refine xS_g (fun g6 => ?_)
        refine xS_g (fun g7 => ?_)
        refine xS_g (fun g8 => ?_)
        refine xS_of (pc' := 57) (L' := [(7, xa (xw_rf (xw_rf (xw_rf x0 0) 1) x5)), (6, xi (xR m 224 x5)), (0, xa x0), (1, xi x1), (2, xa 223), (3, xa 302), (4, xi x4), (5, xi x5)]) (st' := [xi 211, xi (xR m 224 x5)]) (m' := m) (fun ex ns r q => ?_) ?_
        · refine xw_ic_leT rfl (w32_cg (w32_xR _ _ _)) (w32_cg rfl) (Int.not_lt.mp h4) ?_
          refine xw_aload_n rfl rfl rfl ?_
          refine xw_gfV (qi := 0) rfl (xw_obd g0) xk9_0 rfl ?_
          refine xw_gfV (qi := 1) rfl (xw_obd g5) xk8_1 rfl ?_
          refine xw_iload rfl rfl ?_
          refine xw_aald (t := 21) (n := (xw_le B (xw_rf (xw_rf x0 0) 1))) (q := xw_kd (xw_rf (xw_rf x0 0) 1) x5 - 5) (e := (xw_rf (xw_rf (xw_rf x0 0) 1) x5)) rfl hB (xw_obd g8) (by decide) rfl g6 (by have := g7; omega) (xw_rfn g7) ?_
          refine xw_astore (L' := [(7, xa (xw_rf (xw_rf (xw_rf x0 0) 1) x5)), (6, xi (xR m 224 x5)), (0, xa x0), (1, xi x1), (2, xa 223), (3, xa 302), (4, xi x4), (5, xi x5)]) rfl rfl (by decide) rfl ?_
          refine xw_iload rfl rfl ?_
          refine xw_sipush (e := 211) rfl (by decide +kernel) ?_
          exact q
        refine xS_if (fun h9 => ?_) (fun h9 => ?_)
        · refine xS_of (pc' := 63) (L' := [(0, xa x0), (1, xi x1), (2, xa 223), (3, xa 302), (4, xi x4), (5, xi x5), (6, xi (xR m 224 x5)), (7, xa (xw_rf (xw_rf (xw_rf x0 0) 1) x5))]) (st' := [xi x4, xa 302]) (m' := m) (fun ex ns r q => ?_) ?_
          · refine xw_ic_neF rfl (w32_cg (w32_xR _ _ _)) (w32_cg rfl) h9 ?_
            refine xw_aload_n rfl rfl rfl ?_
            refine xw_iload rfl rfl ?_
            refine xw_lo (L2 := [(0, xa x0), (1, xi x1), (2, xa 223), (3, xa 302), (4, xi x4), (5, xi x5), (6, xi (xR m 224 x5)), (7, xa (xw_rf (xw_rf (xw_rf x0 0) 1) x5))]) (List.forall_mem_cons.mpr ⟨rfl, List.forall_mem_cons.mpr ⟨rfl, List.forall_mem_cons.mpr ⟨rfl, List.forall_mem_cons.mpr ⟨rfl, List.forall_mem_cons.mpr ⟨rfl, List.forall_mem_cons.mpr ⟨rfl, List.forall_mem_cons.mpr ⟨rfl, List.forall_mem_cons.mpr ⟨rfl, fun _ h => absurd h List.not_mem_nil⟩⟩⟩⟩⟩⟩⟩⟩) ?_
            exact q
          refine xS_call (q := 127) (n := 2) (kq := 2) (as := [xa 302, xi x4]) (st1 := []) rfl rfl rfl rfl rfl rfl rfl rfl rfl rfl (fun _ => xw_rcv1 (t := 7) (xw_obd (by decide +kernel)) rfl) rfl (List.forall_mem_cons.mpr ⟨rfl, List.forall_mem_cons.mpr ⟨rfl, fun _ h => absurd h List.not_mem_nil⟩⟩) (ygf127 hB _ _ c4) (fun v1 m1 cv1 => ?_)
          refine xS_of (pc' := 97) (L' := [(8, xj v1), (0, xa x0), (1, xi x1), (2, xa 223), (3, xa 302), (4, xi x4), (5, xi x5), (6, xi (xR m 224 x5)), (7, xa (xw_rf (xw_rf (xw_rf x0 0) 1) x5))]) (st' := [xi 210, xi (xR m 224 x5)]) (m' := m1) (fun ex ns r q => ?_) ?_
          · refine xw_goto rfl ?_
            refine xw_lstore (L' := [(8, xj v1), (0, xa x0), (1, xi x1), (2, xa 223), (3, xa 302), (4, xi x4), (5, xi x5), (6, xi (xR m 224 x5)), (7, xa (xw_rf (xw_rf (xw_rf x0 0) 1) x5))]) rfl (by decide) rfl ?_
            refine xw_iload rfl rfl ?_
            refine xw_sipush (e := 210) rfl (by decide +kernel) ?_
            exact q
          refine xS_if (fun h10 => ?_) (fun h10 => ?_)
          · refine xS_of (pc' := 108) (L' := [(0, xa x0), (1, xi x1), (2, xa 223), (3, xa 302), (4, xi x4), (5, xi x5), (7, xa (xw_rf (xw_rf (xw_rf x0 0) 1) x5)), (8, xj v1)]) (st' := []) (m' := m1) (fun ex ns r q => ?_) ?_
            · refine xw_ic_eqT rfl (w32_cg (w32_xR _ _ _)) (w32_cg rfl) h10 ?_
              refine xw_lo (L2 := [(0, xa x0), (1, xi x1), (2, xa 223), (3, xa 302), (4, xi x4), (5, xi x5), (7, xa (xw_rf (xw_rf (xw_rf x0 0) 1) x5)), (8, xj v1)]) (List.forall_mem_cons.mpr ⟨rfl, List.forall_mem_cons.mpr ⟨rfl, List.forall_mem_cons.mpr ⟨rfl, List.forall_mem_cons.mpr ⟨rfl, List.forall_mem_cons.mpr ⟨rfl, List.forall_mem_cons.mpr ⟨rfl, List.forall_mem_cons.mpr ⟨rfl, List.forall_mem_cons.mpr ⟨rfl, fun _ h => absurd h List.not_mem_nil⟩⟩⟩⟩⟩⟩⟩⟩) ?_
              exact q
            exact ygk126_108 hB hr3 _ _ _ _ _ _ _ c1 c4 c5 cv1
          · refine xS_of (pc' := 108) (L' := [(0, xa x0), (1, xi x1), (2, xa 223), (3, xa 302), (4, xi x4), (5, xi x5), (7, xa (xw_rf (xw_rf (xw_rf x0 0) 1) x5)), (8, xj v1)]) (st' := []) (m' := m1) (fun ex ns r q => ?_) ?_
            · refine xw_ic_eqF rfl (w32_cg (w32_xR _ _ _)) (w32_cg rfl) h10 ?_
              refine xw_iload rfl rfl ?_
              refine xw_sipush (e := 211) rfl (by decide +kernel) ?_
              refine xw_ic_neF rfl (w32_cg (w32_xR _ _ _)) (w32_cg rfl) h9 ?_
              refine xw_lo (L2 := [(0, xa x0), (1, xi x1), (2, xa 223), (3, xa 302), (4, xi x4), (5, xi x5), (7, xa (xw_rf (xw_rf (xw_rf x0 0) 1) x5)), (8, xj v1)]) (List.forall_mem_cons.mpr ⟨rfl, List.forall_mem_cons.mpr ⟨rfl, List.forall_mem_cons.mpr ⟨rfl, List.forall_mem_cons.mpr ⟨rfl, List.forall_mem_cons.mpr ⟨rfl, List.forall_mem_cons.mpr ⟨rfl, List.forall_mem_cons.mpr ⟨rfl, List.forall_mem_cons.mpr ⟨rfl, fun _ h => absurd h List.not_mem_nil⟩⟩⟩⟩⟩⟩⟩⟩) ?_
              exact q
            exact ygk126_108 hB hr3 _ _ _ _ _ _ _ c1 c4 c5 cv1
        · refine xS_of (pc' := 83) (L' := [(0, xa x0), (1, xi x1), (2, xa 223), (3, xa 302), (4, xi x4), (5, xi x5), (6, xi (xR m 224 x5)), (7, xa (xw_rf (xw_rf (xw_rf x0 0) 1) x5))]) (st' := [xi (xR m 225 x5), xi (xR m 224 x5), xa 302, xa 303]) (m' := m) (fun ex ns r q => ?_) ?_
          · refine xw_ic_neT rfl (w32_cg (w32_xR _ _ _)) (w32_cg rfl) h9 ?_
            refine xw_aload_n rfl rfl rfl ?_
            refine xw_gfR (n := 303) (e := 303) rfl (xw_obd (by decide +kernel)) (by decide +kernel) (by decide +kernel) rfl ?_
            refine xw_aload_n rfl rfl rfl ?_
            refine xw_iload rfl rfl ?_
            refine xw_aload_n rfl rfl rfl ?_
            refine xw_gfR (n := 225) (e := 225) rfl (xw_obd (by decide +kernel)) (by decide +kernel) (by decide +kernel) rfl ?_
            refine xw_iload rfl rfl ?_
            refine xw_ialdc (n := 24) (v := (m 225 x5)) (v' := (xR m 225 x5)) rfl hB (xw_obd (by decide +kernel)) rfl g2 rfl rfl ?_
            refine xw_lo (L2 := [(0, xa x0), (1, xi x1), (2, xa 223), (3, xa 302), (4, xi x4), (5, xi x5), (6, xi (xR m 224 x5)), (7, xa (xw_rf (xw_rf (xw_rf x0 0) 1) x5))]) (List.forall_mem_cons.mpr ⟨rfl, List.forall_mem_cons.mpr ⟨rfl, List.forall_mem_cons.mpr ⟨rfl, List.forall_mem_cons.mpr ⟨rfl, List.forall_mem_cons.mpr ⟨rfl, List.forall_mem_cons.mpr ⟨rfl, List.forall_mem_cons.mpr ⟨rfl, List.forall_mem_cons.mpr ⟨rfl, fun _ h => absurd h List.not_mem_nil⟩⟩⟩⟩⟩⟩⟩⟩) ?_
            exact q
          refine xS_call (q := 112) (n := 3) (kq := 1) (as := [xa 302, xi (xR m 224 x5), xi (xR m 225 x5)]) (st1 := [xa 303]) rfl rfl rfl rfl rfl rfl rfl rfl rfl rfl (fun _ => xw_rcv1 (t := 7) (xw_obd (by decide +kernel)) rfl) rfl (List.forall_mem_cons.mpr ⟨rfl, List.forall_mem_cons.mpr ⟨rfl, List.forall_mem_cons.mpr ⟨rfl, fun _ h => absurd h List.not_mem_nil⟩⟩⟩) (ygf112 hB _ _ _ (w32_xR _ _ _) (w32_xR _ _ _)) (fun v2 m2 cv2 => ?_)
          refine xS_g (fun g10 => ?_)
          refine xS_g (fun g11 => ?_)
          refine xS_g (fun g12 => ?_)
          refine xS_of (pc' := 97) (L' := [(8, xj (xJ m2 (304 + v2) x4)), (0, xa x0), (1, xi x1), (2, xa 223), (3, xa 302), (4, xi x4), (5, xi x5), (6, xi (xR m 224 x5)), (7, xa (xw_rf (xw_rf (xw_rf x0 0) 1) x5))]) (st' := [xi 210, xi (xR m 224 x5)]) (m' := m2) (fun ex ns r q => ?_) ?_
          · refine xw_aald (t := 21) (n := 33) (q := 304 + 1 * (v2).toNat) (e := (304 + v2)) rfl hB (xw_obd (by decide +kernel)) (by decide) rfl g10 (show 309 + 1 * (v2 : Int).toNat = 304 + 1 * (v2 : Int).toNat + 5 from by omega) (by have := g10; omega) ?_
            refine xw_iload rfl rfl ?_
            refine xw_laldc (n := (xw_le B (304 + v2))) (v := (m2 (304 + v2) x4)) (v' := (xJ m2 (304 + v2) x4)) rfl hB (xw_obd g12) rfl g11 rfl rfl ?_
            refine xw_lstore (L' := [(8, xj (xJ m2 (304 + v2) x4)), (0, xa x0), (1, xi x1), (2, xa 223), (3, xa 302), (4, xi x4), (5, xi x5), (6, xi (xR m 224 x5)), (7, xa (xw_rf (xw_rf (xw_rf x0 0) 1) x5))]) rfl (by decide) rfl ?_
            refine xw_iload rfl rfl ?_
            refine xw_sipush (e := 210) rfl (by decide +kernel) ?_
            exact q
          refine xS_if (fun h13 => ?_) (fun h13 => ?_)
          · refine xS_of (pc' := 108) (L' := [(0, xa x0), (1, xi x1), (2, xa 223), (3, xa 302), (4, xi x4), (5, xi x5), (7, xa (xw_rf (xw_rf (xw_rf x0 0) 1) x5)), (8, xj (xJ m2 (304 + v2) x4))]) (st' := []) (m' := m2) (fun ex ns r q => ?_) ?_
            · refine xw_ic_eqT rfl (w32_cg (w32_xR _ _ _)) (w32_cg rfl) h13 ?_
              refine xw_lo (L2 := [(0, xa x0), (1, xi x1), (2, xa 223), (3, xa 302), (4, xi x4), (5, xi x5), (7, xa (xw_rf (xw_rf (xw_rf x0 0) 1) x5)), (8, xj (xJ m2 (304 + v2) x4))]) (List.forall_mem_cons.mpr ⟨rfl, List.forall_mem_cons.mpr ⟨rfl, List.forall_mem_cons.mpr ⟨rfl, List.forall_mem_cons.mpr ⟨rfl, List.forall_mem_cons.mpr ⟨rfl, List.forall_mem_cons.mpr ⟨rfl, List.forall_mem_cons.mpr ⟨rfl, List.forall_mem_cons.mpr ⟨rfl, fun _ h => absurd h List.not_mem_nil⟩⟩⟩⟩⟩⟩⟩⟩) ?_
              exact q
            exact ygk126_108 hB hr3 _ _ _ _ _ _ _ c1 c4 c5 (w64_xJ _ _ _)
          · refine xS_g (fun g14 => ?_)
            refine xS_g (fun g15 => ?_)
            refine xS_of (pc' := 127) (L' := [(8, xj (xJ m2 (304 + v2) x4)), (0, xa x0), (1, xi x1), (2, xa 223), (3, xa 302), (4, xi x4), (5, xi x5), (6, xi (xR m 224 x5)), (7, xa (xw_rf (xw_rf (xw_rf x0 0) 1) x5))]) (st' := [xj 0, xj (xJ m2 (xw_rf x0 1) x1)]) (m' := m2) (fun ex ns r q => ?_) ?_
            · refine xw_ic_eqF rfl (w32_cg (w32_xR _ _ _)) (w32_cg rfl) h13 ?_
              refine xw_iload rfl rfl ?_
              refine xw_sipush (e := 211) rfl (by decide +kernel) ?_
              refine xw_ic_neT rfl (w32_cg (w32_xR _ _ _)) (w32_cg rfl) h9 ?_
              refine xw_aload_n rfl rfl rfl ?_
              refine xw_gfV (qi := 1) rfl (xw_obd g0) xk9_1 rfl ?_
              refine xw_iload_n rfl rfl ?_
              refine xw_laldc (n := (xw_le B (xw_rf x0 1))) (v := (m2 (xw_rf x0 1) x1)) (v' := (xJ m2 (xw_rf x0 1) x1)) rfl hB (xw_obd g15) rfl g14 rfl rfl ?_
              refine xw_lconst (e := 0) rfl rfl ?_
              exact q
            refine xS_if (fun h16 => ?_) (fun h16 => ?_)
            · refine xS_g (fun g17 => ?_)
              refine xS_g (fun g18 => ?_)
              refine xS_of (pc' := 3) (L' := [(0, xa x0), (1, xi x1), (2, xa 223), (3, xa 302), (4, xi x4), (5, xi (w32 (x5 + 1)))]) (st' := []) (m' := (xw_u m2 (xw_rf (xw_rf (xw_rf x0 0) 1) x5) x1 (xJ m2 (304 + v2) x4))) (fun ex ns r q => ?_) ?_
              · refine xw_jc_neF rfl rfl (w64_cg (w64_xJ _ _ _)) (w64_cg rfl) h16 ?_
                refine xw_aload rfl rfl rfl ?_
                refine xw_iload_n rfl rfl ?_
                refine xw_lload rfl rfl ?_
                refine xw_last (n := (xw_le B (xw_rf (xw_rf (xw_rf x0 0) 1) x5))) rfl hB (xw_obd g18) rfl g17 ?_
                refine xw_goto rfl ?_
                refine xw_iincc (z := (w32 (x5 + 1))) (L' := [(5, xi (w32 (x5 + 1))), (8, xj (xJ m2 (304 + v2) x4)), (0, xa x0), (1, xi x1), (2, xa 223), (3, xa 302), (4, xi x4), (6, xi (xR m 224 x5)), (7, xa (xw_rf (xw_rf (xw_rf x0 0) 1) x5))]) rfl rfl (by decide) rfl rfl ?_
                refine xw_goto rfl ?_
                refine xw_lo (L2 := [(0, xa x0), (1, xi x1), (2, xa 223), (3, xa 302), (4, xi x4), (5, xi (w32 (x5 + 1)))]) (List.forall_mem_cons.mpr ⟨rfl, List.forall_mem_cons.mpr ⟨rfl, List.forall_mem_cons.mpr ⟨rfl, List.forall_mem_cons.mpr ⟨rfl, List.forall_mem_cons.mpr ⟨rfl, List.forall_mem_cons.mpr ⟨rfl, fun _ h => absurd h List.not_mem_nil⟩⟩⟩⟩⟩⟩) ?_
                exact q
              exact hr3 _ _ _ _ _ c1 c4 (w32_w _)
            · refine xS_of (pc' := 148) (L' := [(8, xj (xJ m2 (304 + v2) x4)), (0, xa x0), (1, xi x1), (2, xa 223), (3, xa 302), (4, xi x4), (5, xi x5), (6, xi (xR m 224 x5)), (7, xa (xw_rf (xw_rf (xw_rf x0 0) 1) x5))]) (st' := [xi 212, xi (xR m 224 x5), xi x1, xa (xw_rf (xw_rf (xw_rf x0 0) 1) x5)]) (m' := m2) (fun ex ns r q => ?_) ?_
              · refine xw_jc_neT rfl rfl (w64_cg (w64_xJ _ _ _)) (w64_cg rfl) h16 ?_
                refine xw_aload rfl rfl rfl ?_
                refine xw_iload_n rfl rfl ?_
                refine xw_iload rfl rfl ?_
                refine xw_sipush (e := 212) rfl (by decide +kernel) ?_
                exact q
              refine xS_if (fun h17 => ?_) (fun h17 => ?_)
              · refine xS_g (fun g18 => ?_)
                refine xS_g (fun g19 => ?_)
                refine xS_of (pc' := 3) (L' := [(0, xa x0), (1, xi x1), (2, xa 223), (3, xa 302), (4, xi x4), (5, xi (w32 (x5 + 1)))]) (st' := []) (m' := (xw_u m2 (xw_rf (xw_rf (xw_rf x0 0) 1) x5) x1 (min (xJ m2 (xw_rf (xw_rf (xw_rf x0 0) 1) x5) x1) (xJ m2 (304 + v2) x4)))) (fun ex ns r q => ?_) ?_
                · refine xw_ic_neF rfl (w32_cg (w32_xR _ _ _)) (w32_cg rfl) h17 ?_
                  refine xw_aload rfl rfl rfl ?_
                  refine xw_iload_n rfl rfl ?_
                  refine xw_laldc (n := (xw_le B (xw_rf (xw_rf (xw_rf x0 0) 1) x5))) (v := (m2 (xw_rf (xw_rf (xw_rf x0 0) 1) x5) x1)) (v' := (xJ m2 (xw_rf (xw_rf (xw_rf x0 0) 1) x5) x1)) rfl hB (xw_obd g19) rfl g18 rfl rfl ?_
                  refine xw_lload rfl rfl ?_
                  refine xw_minJ rfl rfl (w64_cg (w64_xJ _ _ _)) (w64_cg (w64_xJ _ _ _)) rfl ?_
                  refine xw_goto rfl ?_
                  refine xw_last (n := (xw_le B (xw_rf (xw_rf (xw_rf x0 0) 1) x5))) rfl hB (xw_obd g19) rfl g18 ?_
                  refine xw_iincc (z := (w32 (x5 + 1))) (L' := [(5, xi (w32 (x5 + 1))), (8, xj (xJ m2 (304 + v2) x4)), (0, xa x0), (1, xi x1), (2, xa 223), (3, xa 302), (4, xi x4), (6, xi (xR m 224 x5)), (7, xa (xw_rf (xw_rf (xw_rf x0 0) 1) x5))]) rfl rfl (by decide) rfl rfl ?_
                  refine xw_goto rfl ?_
                  refine xw_lo (L2 := [(0, xa x0), (1, xi x1), (2, xa 223), (3, xa 302), (4, xi x4), (5, xi (w32 (x5 + 1)))]) (List.forall_mem_cons.mpr ⟨rfl, List.forall_mem_cons.mpr ⟨rfl, List.forall_mem_cons.mpr ⟨rfl, List.forall_mem_cons.mpr ⟨rfl, List.forall_mem_cons.mpr ⟨rfl, List.forall_mem_cons.mpr ⟨rfl, fun _ h => absurd h List.not_mem_nil⟩⟩⟩⟩⟩⟩) ?_
                  exact q
                exact hr3 _ _ _ _ _ c1 c4 (w32_w _)
              · refine xS_g (fun g18 => ?_)
                refine xS_g (fun g19 => ?_)
                refine xS_of (pc' := 3) (L' := [(0, xa x0), (1, xi x1), (2, xa 223), (3, xa 302), (4, xi x4), (5, xi (w32 (x5 + 1)))]) (st' := []) (m' := (xw_u m2 (xw_rf (xw_rf (xw_rf x0 0) 1) x5) x1 (max (xJ m2 (xw_rf (xw_rf (xw_rf x0 0) 1) x5) x1) (xJ m2 (304 + v2) x4)))) (fun ex ns r q => ?_) ?_
                · refine xw_ic_neT rfl (w32_cg (w32_xR _ _ _)) (w32_cg rfl) h17 ?_
                  refine xw_aload rfl rfl rfl ?_
                  refine xw_iload_n rfl rfl ?_
                  refine xw_laldc (n := (xw_le B (xw_rf (xw_rf (xw_rf x0 0) 1) x5))) (v := (m2 (xw_rf (xw_rf (xw_rf x0 0) 1) x5) x1)) (v' := (xJ m2 (xw_rf (xw_rf (xw_rf x0 0) 1) x5) x1)) rfl hB (xw_obd g19) rfl g18 rfl rfl ?_
                  refine xw_lload rfl rfl ?_
                  refine xw_maxJ rfl rfl (w64_cg (w64_xJ _ _ _)) (w64_cg (w64_xJ _ _ _)) rfl ?_
                  refine xw_last (n := (xw_le B (xw_rf (xw_rf (xw_rf x0 0) 1) x5))) rfl hB (xw_obd g19) rfl g18 ?_
                  refine xw_iincc (z := (w32 (x5 + 1))) (L' := [(5, xi (w32 (x5 + 1))), (8, xj (xJ m2 (304 + v2) x4)), (0, xa x0), (1, xi x1), (2, xa 223), (3, xa 302), (4, xi x4), (6, xi (xR m 224 x5)), (7, xa (xw_rf (xw_rf (xw_rf x0 0) 1) x5))]) rfl rfl (by decide) rfl rfl ?_
                  refine xw_goto rfl ?_
                  refine xw_lo (L2 := [(0, xa x0), (1, xi x1), (2, xa 223), (3, xa 302), (4, xi x4), (5, xi (w32 (x5 + 1)))]) (List.forall_mem_cons.mpr ⟨rfl, List.forall_mem_cons.mpr ⟨rfl, List.forall_mem_cons.mpr ⟨rfl, List.forall_mem_cons.mpr ⟨rfl, List.forall_mem_cons.mpr ⟨rfl, List.forall_mem_cons.mpr ⟨rfl, fun _ h => absurd h List.not_mem_nil⟩⟩⟩⟩⟩⟩) ?_
                  exact q
                exact hr3 _ _ _ _ _ c1 c4 (w32_w _)
  · refine xS_g (fun g2 => ?_)
    refine xS_g (fun g3 => ?_)
    refine xS_of (pc' := 189) (L' := []) (st' := [xi x4, xa 302, xj (xJ m (xw_rf x0 1) x1), xi x1, xa (xw_rf x0 1)]) (m' := m) (fun ex ns r q => ?_) ?_
    · refine xw_ic_geT rfl (w32_cg c5) (w32_cg (w32_xR _ _ _)) (Int.not_lt.mp h1) ?_
      refine xw_aload_n rfl rfl rfl ?_
      refine xw_gfV (qi := 1) rfl (xw_obd g0) xk9_1 rfl ?_
      refine xw_iload_n rfl rfl ?_
      refine xw_dup2 rfl rfl rfl ?_
      refine xw_laldc (n := (xw_le B (xw_rf x0 1))) (v := (m (xw_rf x0 1) x1)) (v' := (xJ m (xw_rf x0 1) x1)) rfl hB (xw_obd g3) rfl g2 rfl rfl ?_
      refine xw_aload_n rfl rfl rfl ?_
      refine xw_iload rfl rfl ?_
      refine xw_lo (L2 := []) (fun _ h => absurd h List.not_mem_nil) ?_
      exact q
    refine xS_call (q := 127) (n := 2) (kq := 2) (as := [xa 302, xi x4]) (st1 := [xj (xJ m (xw_rf x0 1) x1), xi x1, xa (xw_rf x0 1)]) rfl rfl rfl rfl rfl rfl rfl rfl rfl rfl (fun _ => xw_rcv1 (t := 7) (xw_obd (by decide +kernel)) rfl) rfl (List.forall_mem_cons.mpr ⟨rfl, List.forall_mem_cons.mpr ⟨rfl, fun _ h => absurd h List.not_mem_nil⟩⟩) (ygf127 hB _ _ c4) (fun v3 m3 cv3 => ?_)
    refine xS_of (pc' := 194) (L' := []) (st' := []) (m' := (xw_u m3 (xw_rf x0 1) x1 ((xJ m (xw_rf x0 1) x1) + v3))) (fun ex ns r q => ?_) ?_
    · refine xw_ladd rfl ?_
      refine xw_last (n := (xw_le B (xw_rf x0 1))) rfl hB (xw_obd g3) rfl g2 ?_
      exact q
    exact xS_ret (v := 0) rfl rfl rfl rfl
theorem ygl126_3 {B : Nat} (hB : B ≤ 512) {xs : Nat → Int32} {SL d : Nat} : ∀ n x0 x1 x4 x5 m, w32 x1 = x1 → w32 x4 = x4 → w32 x5 = x5 → xS B xs SL (d + 1) 126 (10, none, [], 10) 0 3 [(0, xa x0), (1, xi x1), (2, xa 223), (3, xa 302), (4, xi x4), (5, xi x5)] [] m (xl4 (yl126_3 B) n x0 x1 x4 x5 m) := by
  intro n
  induction n with
  | zero => intro x0 x1 x4 x5 m c1 c4 c5; exact xS_none
  | succ n ih => exact ysl126_3 hB ih
theorem ygf126 {B : Nat} (hB : B ≤ 512) {xs : Nat → Int32} {SL d : Nat} : ∀ t p0 p3 m, w32 p0 = p0 → w32 p3 = p3 → xS B xs SL (d + 1) 126 (10, none, [], 10) 0 0 [(0, xa t), (1, xi p0), (2, xa 223), (3, xa 302), (4, xi p3)] [] m (yf126 B t p0 p3 m) := by
  intro t p0 p3 m cp0 cp3
  unfold yf126
  refine xS_of (pc' := 3) (L' := [(0, xa t), (1, xi p0), (2, xa 223), (3, xa 302), (4, xi p3), (5, xi 0)]) (st' := []) (m' := m) (fun ex ns r q => ?_) ?_
  · refine xw_iconst rfl ?_
    refine xw_istore (L' := [(5, xi 0), (0, xa t), (1, xi p0), (2, xa 223), (3, xa 302), (4, xi p3)]) rfl (by decide) rfl ?_
    refine xw_lo (L2 := [(0, xa t), (1, xi p0), (2, xa 223), (3, xa 302), (4, xi p3), (5, xi 0)]) (List.forall_mem_cons.mpr ⟨rfl, List.forall_mem_cons.mpr ⟨rfl, List.forall_mem_cons.mpr ⟨rfl, List.forall_mem_cons.mpr ⟨rfl, List.forall_mem_cons.mpr ⟨rfl, List.forall_mem_cons.mpr ⟨rfl, fun _ h => absurd h List.not_mem_nil⟩⟩⟩⟩⟩⟩) ?_
    exact q
  exact ygl126_3 hB 1000000 _ _ _ _ _ cp0 cp3 rfl
theorem ysl125_70 {B : Nat} (hB : B ≤ 512) {xs : Nat → Int32} {SL d : Nat} {r70 : Int → Int → Int → xw_M → xP} (hr70 : ∀ x0 x3 x4 m, w32 x3 = x3 → w32 x4 = x4 → xS B xs SL (d + 2) 125 (6, none, [], 10) 0 70 [(0, xa x0), (1, xa 223), (2, xa 302), (3, xi x3), (4, xi x4)] [] m (r70 x0 x3 x4 m)) : ∀ x0 x3 x4 m, w32 x3 = x3 → w32 x4 = x4 → xS B xs SL (d + 2) 125 (6, none, [], 10) 0 70 [(0, xa x0), (1, xa 223), (2, xa 302), (3, xi x3), (4, xi x4)] [] m (yl125_70 B r70 x0 x3 x4 m) := by
  intro x0 x3 x4 m c3 c4
  unfold yl125_70
  refine xS_of (pc' := 76) (L' := [(0, xa x0), (1, xa 223), (2, xa 302), (3, xi x3), (4, xi x4)]) (st' := [xi (xR m 223 8), xi x4]) (m' := m) (fun ex ns r q => ?_) ?_
  · refine xw_iload rfl rfl ?_
    refine xw_aload_n rfl rfl rfl ?_
    refine xw_gfIc (v := (m 223 8)) (v' := (xR m 223 8)) rfl (xw_obd (by decide +kernel)) xk4_8 (qi := 8) rfl rfl rfl ?_
    exact q
  refine xS_if (fun h0 => ?_) (fun h0 => ?_)
  · refine xS_g (fun g1 => ?_)
    refine xS_g (fun g2 => ?_)
    refine xS_of (pc' := 88) (L' := [(0, xa x0), (1, xa 223), (2, xa 302), (3, xi x3), (4, xi x4)]) (st' := [xi (xR m 228 x4), xa 223, xa x0]) (m' := m) (fun ex ns r q => ?_) ?_
    · refine xw_ic_geF rfl (w32_cg c4) (w32_cg (w32_xR _ _ _)) (Int.not_le.mpr h0) ?_
      refine xw_aload_n rfl rfl rfl ?_
      refine xw_aload_n rfl rfl rfl ?_
      refine xw_aload_n rfl rfl rfl ?_
      refine xw_gfR (n := 228) (e := 228) rfl (xw_obd (by decide +kernel)) (by decide +kernel) (by decide +kernel) rfl ?_
      refine xw_iload rfl rfl ?_
      refine xw_ialdc (n := 32) (v := (m 228 x4)) (v' := (xR m 228 x4)) rfl hB (xw_obd (by decide +kernel)) rfl g1 rfl rfl ?_
      refine xw_lo (L2 := [(0, xa x0), (1, xa 223), (2, xa 302), (3, xi x3), (4, xi x4)]) (List.forall_mem_cons.mpr ⟨rfl, List.forall_mem_cons.mpr ⟨rfl, List.forall_mem_cons.mpr ⟨rfl, List.forall_mem_cons.mpr ⟨rfl, List.forall_mem_cons.mpr ⟨rfl, fun _ h => absurd h List.not_mem_nil⟩⟩⟩⟩⟩) ?_
      exact q
    refine xS_call (q := 99) (n := 3) (kq := 1) (as := [xa x0, xa 223, xi (xR m 228 x4)]) (st1 := []) rfl rfl rfl rfl rfl rfl rfl rfl rfl rfl (fun _ => xw_rcv1 (t := 9) (xw_obd g2) rfl) rfl (List.forall_mem_cons.mpr ⟨rfl, List.forall_mem_cons.mpr ⟨rfl, List.forall_mem_cons.mpr ⟨rfl, fun _ h => absurd h List.not_mem_nil⟩⟩⟩) (ygf99 hB _ _ _ (w32_xR _ _ _)) (fun v1 m1 cv1 => ?_)
    refine xS_of (pc' := 96) (L' := [(5, xi v1), (0, xa x0), (1, xa 223), (2, xa 302), (3, xi x3), (4, xi x4)]) (st' := [xi (-1), xi v1]) (m' := m1) (fun ex ns r q => ?_) ?_
    · refine xw_istore (L' := [(5, xi v1), (0, xa x0), (1, xa 223), (2, xa 302), (3, xi x3), (4, xi x4)]) rfl (by decide) rfl ?_
      refine xw_iload rfl rfl ?_
      refine xw_iconst rfl ?_
      exact q
    refine xS_if (fun h3 => ?_) (fun h3 => ?_)
    · refine xS_of (pc' := 104) (L' := [(5, xi v1), (0, xa x0), (1, xa 223), (2, xa 302), (3, xi x3), (4, xi x4)]) (st' := []) (m' := (xw_u m1 x0 8 1)) (fun ex ns r q => ?_) ?_
      · refine xw_ic_neF rfl (w32_cg cv1) (w32_cg rfl) h3 ?_
        refine xw_aload_n rfl rfl rfl ?_
        refine xw_iconst rfl ?_
        refine xw_pfI rfl (xw_obd g2) xk9_8 (qi := 8) rfl (xw_okZ rfl (Or.inr rfl)) ?_
        exact q
      exact xS_ret (v := 0) rfl rfl rfl rfl
    · refine xS_of (pc' := 111) (L' := [(0, xa x0), (1, xa 223), (2, xa 302), (3, xi x3), (4, xi x4)]) (st' := [xi x3, xa 302, xa 223, xi v1, xa x0]) (m' := m1) (fun ex ns r q => ?_) ?_
      · refine xw_ic_neT rfl (w32_cg cv1) (w32_cg rfl) h3 ?_
        refine xw_aload_n rfl rfl rfl ?_
        refine xw_iload rfl rfl ?_
        refine xw_aload_n rfl rfl rfl ?_
        refine xw_aload_n rfl rfl rfl ?_
        refine xw_iload_n rfl rfl ?_
        refine xw_lo (L2 := [(0, xa x0), (1, xa 223), (2, xa 302), (3, xi x3), (4, xi x4)]) (List.forall_mem_cons.mpr ⟨rfl, List.forall_mem_cons.mpr ⟨rfl, List.forall_mem_cons.mpr ⟨rfl, List.forall_mem_cons.mpr ⟨rfl, List.forall_mem_cons.mpr ⟨rfl, fun _ h => absurd h List.not_mem_nil⟩⟩⟩⟩⟩) ?_
        exact q
      refine xS_call (q := 126) (n := 5) (kq := 0) (as := [xa x0, xi v1, xa 223, xa 302, xi x3]) (st1 := []) rfl rfl rfl rfl rfl rfl rfl rfl rfl rfl (fun _ => xw_rcv1 (t := 9) (xw_obd g2) rfl) rfl (List.forall_mem_cons.mpr ⟨rfl, List.forall_mem_cons.mpr ⟨rfl, List.forall_mem_cons.mpr ⟨rfl, List.forall_mem_cons.mpr ⟨rfl, List.forall_mem_cons.mpr ⟨rfl, fun _ h => absurd h List.not_mem_nil⟩⟩⟩⟩⟩) (ygf126 hB _ _ _ _ cv1 c3) (fun v2 m2 cv2 => ?_)
      refine xS_of (pc' := 70) (L' := [(0, xa x0), (1, xa 223), (2, xa 302), (3, xi x3), (4, xi (w32 (x4 + 1)))]) (st' := []) (m' := m2) (fun ex ns r q => ?_) ?_
      · refine xw_iincc (z := (w32 (x4 + 1))) (L' := [(4, xi (w32 (x4 + 1))), (0, xa x0), (1, xa 223), (2, xa 302), (3, xi x3)]) rfl rfl (by decide) rfl rfl ?_
        refine xw_goto rfl ?_
        refine xw_lo (L2 := [(0, xa x0), (1, xa 223), (2, xa 302), (3, xi x3), (4, xi (w32 (x4 + 1)))]) (List.forall_mem_cons.mpr ⟨rfl, List.forall_mem_cons.mpr ⟨rfl, List.forall_mem_cons.mpr ⟨rfl, List.forall_mem_cons.mpr ⟨rfl, List.forall_mem_cons.mpr ⟨rfl, fun _ h => absurd h List.not_mem_nil⟩⟩⟩⟩⟩) ?_
        exact q
      exact hr70 _ _ _ _ c3 (w32_w _)
  · refine xS_of (pc' := 120) (L' := [(0, xa x0), (1, xa 223), (2, xa 302), (3, xi x3), (4, xi x4)]) (st' := []) (m' := m) (fun ex ns r q => ?_) ?_
    · refine xw_ic_geT rfl (w32_cg c4) (w32_cg (w32_xR _ _ _)) (Int.not_lt.mp h0) ?_
      exact q
    exact xS_ret (v := 0) rfl rfl rfl rfl
theorem ygl125_70 {B : Nat} (hB : B ≤ 512) {xs : Nat → Int32} {SL d : Nat} : ∀ n x0 x3 x4 m, w32 x3 = x3 → w32 x4 = x4 → xS B xs SL (d + 2) 125 (6, none, [], 10) 0 70 [(0, xa x0), (1, xa 223), (2, xa 302), (3, xi x3), (4, xi x4)] [] m (xl3 (yl125_70 B) n x0 x3 x4 m) := by
  intro n
  induction n with
  | zero => intro x0 x3 x4 m c3 c4; exact xS_none
  | succ n ih => exact ysl125_70 hB ih
theorem ysl125_3 {B : Nat} (hB : B ≤ 512) {xs : Nat → Int32} {SL d : Nat} {r3 : Int → Int → Int → xw_M → xP} (hr3 : ∀ x0 x3 x4 m, w32 x3 = x3 → w32 x4 = x4 → xS B xs SL (d + 2) 125 (6, none, [], 10) 0 3 [(0, xa x0), (1, xa 223), (2, xa 302), (3, xi x3), (4, xi x4)] [] m (r3 x0 x3 x4 m)) : ∀ x0 x3 x4 m, w32 x3 = x3 → w32 x4 = x4 → xS B xs SL (d + 2) 125 (6, none, [], 10) 0 3 [(0, xa x0), (1, xa 223), (2, xa 302), (3, xi x3), (4, xi x4)] [] m (yl125_3 B r3 x0 x3 x4 m) := by
  intro x0 x3 x4 m c3 c4
  unfold yl125_3
  refine xS_of (pc' := 9) (L' := [(0, xa x0), (1, xa 223), (2, xa 302), (3, xi x3), (4, xi x4)]) (st' := [xi (xR m 223 6), xi x4]) (m' := m) (fun ex ns r q => ?_) ?_
  · refine xw_iload rfl rfl ?_
    refine xw_aload_n rfl rfl rfl ?_
    refine xw_gfIc (v := (m 223 6)) (v' := (xR m 223 6)) rfl (xw_obd (by decide +kernel)) xk4_6 (qi := 6) rfl rfl rfl ?_
    exact q
  refine xS_if (fun h0 => ?_) (fun h0 => ?_)
  · refine xS_g (fun g1 => ?_)
    refine xS_g (fun g2 => ?_)
    refine xS_g (fun g3 => ?_)
    refine xS_g (fun g4 => ?_)
    refine xS_g (fun g5 => ?_)
    refine xS_g (fun g6 => ?_)
    refine xS_g (fun g7 => ?_)
    refine xS_g (fun g8 => ?_)
    refine xS_of (pc' := 56) (L' := [(0, xa x0), (1, xa 223), (2, xa 302), (3, xi x3), (4, xi x4)]) (st' := [xi x3, xi ((xR m 227 x4) / 4), xa 302, xa (xw_rf (xw_rf (15 + (26 * ((xR m 227 x4) / 4))) 4) ((xR m 227 x4) % 4)), xi x4, xa (xw_rf x0 4)]) (m' := m) (fun ex ns r q => ?_) ?_
    · refine xw_ic_geF rfl (w32_cg c4) (w32_cg (w32_xR _ _ _)) (Int.not_le.mpr h0) ?_
      refine xw_aload_n rfl rfl rfl ?_
      refine xw_gfR (n := 227) (e := 227) rfl (xw_obd (by decide +kernel)) (by decide +kernel) (by decide +kernel) rfl ?_
      refine xw_iload rfl rfl ?_
      refine xw_ialdc (n := 8) (v := (m 227 x4)) (v' := (xR m 227 x4)) rfl hB (xw_obd (by decide +kernel)) rfl g1 rfl rfl ?_
      refine xw_iconst rfl ?_
      refine xw_idiv (z := ((xR m 227 x4) / 4)) rfl (xw_idivn ⟨(by decide), (w32_cg rfl).2⟩) (xw_idive ⟨g2, (w32_cg (w32_xR _ _ _)).2⟩ ⟨(by decide), (w32_cg rfl).2⟩) ?_
      refine xw_istore (L' := [(5, xi ((xR m 227 x4) / 4)), (0, xa x0), (1, xa 223), (2, xa 302), (3, xi x3), (4, xi x4)]) rfl (by decide) rfl ?_
      refine xw_aload_n rfl rfl rfl ?_
      refine xw_gfV (qi := 4) rfl (xw_obd g3) xk9_4 rfl ?_
      refine xw_iload rfl rfl ?_
      refine xw_aload_n rfl rfl rfl ?_
      refine xw_gfR (n := 3) (e := 3) rfl (xw_obd (by decide +kernel)) (by decide +kernel) (by decide +kernel) rfl ?_
      refine xw_gfR (n := 4) (e := 4) rfl (xw_obd (by decide +kernel)) (by decide +kernel) (by decide +kernel) rfl ?_
      refine xw_iload rfl rfl ?_
      refine xw_aald (t := 23) (n := 8) (q := 15 + 26 * (((xR m 227 x4) / 4)).toNat) (e := (15 + (26 * ((xR m 227 x4) / 4)))) rfl hB (xw_obd (by decide +kernel)) (by decide) rfl g4 (show 20 + 26 * (((xR m 227 x4) / 4) : Int).toNat = 15 + 26 * (((xR m 227 x4) / 4) : Int).toNat + 5 from by omega) (by have := g4; omega) ?_
      refine xw_gfV (qi := 4) rfl (xw_obd g5) xk3_4 rfl ?_
      refine xw_aload_n rfl rfl rfl ?_
      refine xw_gfR (n := 227) (e := 227) rfl (xw_obd (by decide +kernel)) (by decide +kernel) (by decide +kernel) rfl ?_
      refine xw_iload rfl rfl ?_
      refine xw_ialdc (n := 8) (v := (m 227 x4)) (v' := (xR m 227 x4)) rfl hB (xw_obd (by decide +kernel)) rfl g1 rfl rfl ?_
      refine xw_iconst rfl ?_
      refine xw_irem (z := ((xR m 227 x4) % 4)) rfl (xw_iremn ⟨(by decide), (w32_cg rfl).2⟩) (xw_ireme ⟨g2, (w32_cg (w32_xR _ _ _)).2⟩ ⟨(by decide), (w32_cg rfl).2⟩) ?_
      refine xw_aald (t := 20) (n := (xw_le B (xw_rf (15 + (26 * ((xR m 227 x4) / 4))) 4))) (q := xw_kd (xw_rf (15 + (26 * ((xR m 227 x4) / 4))) 4) ((xR m 227 x4) % 4) - 5) (e := (xw_rf (xw_rf (15 + (26 * ((xR m 227 x4) / 4))) 4) ((xR m 227 x4) % 4))) rfl hB (xw_obd g8) (by decide) rfl g6 (by have := g7; omega) (xw_rfn g7) ?_
      refine xw_aload_n rfl rfl rfl ?_
      refine xw_iload rfl rfl ?_
      refine xw_iload_n rfl rfl ?_
      refine xw_lo (L2 := [(0, xa x0), (1, xa 223), (2, xa 302), (3, xi x3), (4, xi x4)]) (List.forall_mem_cons.mpr ⟨rfl, List.forall_mem_cons.mpr ⟨rfl, List.forall_mem_cons.mpr ⟨rfl, List.forall_mem_cons.mpr ⟨rfl, List.forall_mem_cons.mpr ⟨rfl, fun _ h => absurd h List.not_mem_nil⟩⟩⟩⟩⟩) ?_
      exact q
    refine xS_call (q := 124) (n := 3) (kq := 1) (as := [xa 302, xi ((xR m 227 x4) / 4), xi x3]) (st1 := [xa (xw_rf (xw_rf (15 + (26 * ((xR m 227 x4) / 4))) 4) ((xR m 227 x4) % 4)), xi x4, xa (xw_rf x0 4)]) rfl rfl rfl rfl rfl rfl rfl rfl rfl rfl (fun _ => xw_rcv1 (t := 7) (xw_obd (by decide +kernel)) rfl) rfl (List.forall_mem_cons.mpr ⟨rfl, List.forall_mem_cons.mpr ⟨rfl, List.forall_mem_cons.mpr ⟨rfl, fun _ h => absurd h List.not_mem_nil⟩⟩⟩) (ygf124 hB _ _ _ (w32_dv (w32_xR _ _ _) ⟨g2, (by decide)⟩) c3) (fun v1 m1 cv1 => ?_)
    refine xS_g (fun g9 => ?_)
    refine xS_g (fun g10 => ?_)
    refine xS_g (fun g11 => ?_)
    refine xS_g (fun g12 => ?_)
    refine xS_of (pc' := 3) (L' := [(0, xa x0), (1, xa 223), (2, xa 302), (3, xi x3), (4, xi (w32 (x4 + 1)))]) (st' := []) (m' := (xw_u m1 (xw_rf x0 4) x4 (xR m1 (xw_rf (xw_rf (15 + (26 * ((xR m 227 x4) / 4))) 4) ((xR m 227 x4) % 4)) v1))) (fun ex ns r q => ?_) ?_
    · refine xw_ialdc (n := (xw_le B (xw_rf (xw_rf (15 + (26 * ((xR m 227 x4) / 4))) 4) ((xR m 227 x4) % 4)))) (v := (m1 (xw_rf (xw_rf (15 + (26 * ((xR m 227 x4) / 4))) 4) ((xR m 227 x4) % 4)) v1)) (v' := (xR m1 (xw_rf (xw_rf (15 + (26 * ((xR m 227 x4) / 4))) 4) ((xR m 227 x4) % 4)) v1)) rfl hB (xw_obd g10) rfl g9 rfl rfl ?_
      refine xw_iast (n := (xw_le B (xw_rf x0 4))) rfl hB (xw_obd g12) rfl g11 ?_
      refine xw_iincc (z := (w32 (x4 + 1))) (L' := [(4, xi (w32 (x4 + 1))), (0, xa x0), (1, xa 223), (2, xa 302), (3, xi x3)]) rfl rfl (by decide) rfl rfl ?_
      refine xw_goto rfl ?_
      refine xw_lo (L2 := [(0, xa x0), (1, xa 223), (2, xa 302), (3, xi x3), (4, xi (w32 (x4 + 1)))]) (List.forall_mem_cons.mpr ⟨rfl, List.forall_mem_cons.mpr ⟨rfl, List.forall_mem_cons.mpr ⟨rfl, List.forall_mem_cons.mpr ⟨rfl, List.forall_mem_cons.mpr ⟨rfl, fun _ h => absurd h List.not_mem_nil⟩⟩⟩⟩⟩) ?_
      exact q
    exact hr3 _ _ _ _ c3 (w32_w _)
  · refine xS_of (pc' := 70) (L' := [(0, xa x0), (1, xa 223), (2, xa 302), (3, xi x3), (4, xi 0)]) (st' := []) (m' := m) (fun ex ns r q => ?_) ?_
    · refine xw_ic_geT rfl (w32_cg c4) (w32_cg (w32_xR _ _ _)) (Int.not_lt.mp h0) ?_
      refine xw_iconst rfl ?_
      refine xw_istore (L' := [(4, xi 0), (0, xa x0), (1, xa 223), (2, xa 302), (3, xi x3)]) rfl (by decide) rfl ?_
      refine xw_lo (L2 := [(0, xa x0), (1, xa 223), (2, xa 302), (3, xi x3), (4, xi 0)]) (List.forall_mem_cons.mpr ⟨rfl, List.forall_mem_cons.mpr ⟨rfl, List.forall_mem_cons.mpr ⟨rfl, List.forall_mem_cons.mpr ⟨rfl, List.forall_mem_cons.mpr ⟨rfl, fun _ h => absurd h List.not_mem_nil⟩⟩⟩⟩⟩) ?_
      exact q
    exact ygl125_70 hB 1000000 _ _ _ _ c3 rfl
theorem ygl125_3 {B : Nat} (hB : B ≤ 512) {xs : Nat → Int32} {SL d : Nat} : ∀ n x0 x3 x4 m, w32 x3 = x3 → w32 x4 = x4 → xS B xs SL (d + 2) 125 (6, none, [], 10) 0 3 [(0, xa x0), (1, xa 223), (2, xa 302), (3, xi x3), (4, xi x4)] [] m (xl3 (yl125_3 B) n x0 x3 x4 m) := by
  intro n
  induction n with
  | zero => intro x0 x3 x4 m c3 c4; exact xS_none
  | succ n ih => exact ysl125_3 hB ih
theorem ygf125 {B : Nat} (hB : B ≤ 512) {xs : Nat → Int32} {SL d : Nat} : ∀ t p2 m, w32 p2 = p2 → xS B xs SL (d + 2) 125 (6, none, [], 10) 0 0 [(0, xa t), (1, xa 223), (2, xa 302), (3, xi p2)] [] m (yf125 B t p2 m) := by
  intro t p2 m cp2
  unfold yf125
  refine xS_of (pc' := 3) (L' := [(0, xa t), (1, xa 223), (2, xa 302), (3, xi p2), (4, xi 0)]) (st' := []) (m' := m) (fun ex ns r q => ?_) ?_
  · refine xw_iconst rfl ?_
    refine xw_istore (L' := [(4, xi 0), (0, xa t), (1, xa 223), (2, xa 302), (3, xi p2)]) rfl (by decide) rfl ?_
    refine xw_lo (L2 := [(0, xa t), (1, xa 223), (2, xa 302), (3, xi p2), (4, xi 0)]) (List.forall_mem_cons.mpr ⟨rfl, List.forall_mem_cons.mpr ⟨rfl, List.forall_mem_cons.mpr ⟨rfl, List.forall_mem_cons.mpr ⟨rfl, List.forall_mem_cons.mpr ⟨rfl, fun _ h => absurd h List.not_mem_nil⟩⟩⟩⟩⟩) ?_
    exact q
  exact ygl125_3 hB 1000000 _ _ _ _ cp2 rfl
theorem ysl110_42 {B : Nat} (hB : B ≤ 512) {xs : Nat → Int32} {SL d : Nat} {r14 : Int → Int → Int → Int → xw_M → xP} (hr14 : ∀ x0 x3 x4 x5 m, w32 x4 = x4 → w64 x5 = x5 → xS B xs SL (d + 6) 110 (9, none, [], 10) 0 14 [(0, xa x0), (1, xa 223), (2, xa 302), (3, xa x3), (4, xi x4), (5, xj x5)] [] m (r14 x0 x3 x4 x5 m)) {r42 : Int → Int → Int → Int → Int → Int → xw_M → xP} (hr42 : ∀ x0 x3 x4 x5 x7 x8 m, w32 x4 = x4 → w64 x5 = x5 → w32 x7 = x7 → w32 x8 = x8 → xS B xs SL (d + 6) 110 (9, none, [], 10) 0 42 [(0, xa x0), (1, xa 223), (2, xa 302), (3, xa x3), (4, xi x4), (5, xj x5), (7, xi x7), (8, xi x8)] [] m (r42 x0 x3 x4 x5 x7 x8 m)) : ∀ x0 x3 x4 x5 x7 x8 m, w32 x4 = x4 → w64 x5 = x5 → w32 x7 = x7 → w32 x8 = x8 → xS B xs SL (d + 6) 110 (9, none, [], 10) 0 42 [(0, xa x0), (1, xa 223), (2, xa 302), (3, xa x3), (4, xi x4), (5, xj x5), (7, xi x7), (8, xi x8)] [] m (yl110_42 B r14 r42 x0 x3 x4 x5 x7 x8 m) := by
  intro x0 x3 x4 x5 x7 x8 m c4 c5 c7 c8
  unfold yl110_42
  refine xS_of (pc' := 46) (L' := [(0, xa x0), (1, xa 223), (2, xa 302), (3, xa x3), (4, xi x4), (5, xj x5), (7, xi x7), (8, xi x8)]) (st' := [xi x7, xi x8]) (m' := m) (fun ex ns r q => ?_) ?_
  · refine xw_iload rfl rfl ?_
    refine xw_iload rfl rfl ?_
    exact q
  refine xS_if (fun h0 => ?_) (fun h0 => ?_)
  · refine xS_g (fun g1 => ?_)
    refine xS_of (pc' := 53) (L' := [(0, xa x0), (1, xa 223), (2, xa 302), (3, xa x3), (4, xi x4), (5, xj x5), (7, xi x7), (8, xi x8)]) (st' := [xi (xR m x0 8)]) (m' := m) (fun ex ns r q => ?_) ?_
    · refine xw_ic_geF rfl (w32_cg c8) (w32_cg c7) (Int.not_le.mpr h0) ?_
      refine xw_aload_n rfl rfl rfl ?_
      refine xw_gfIc (v := (m x0 8)) (v' := (xR m x0 8)) rfl (xw_obd g1) xk9_8 (qi := 8) rfl rfl rfl ?_
      exact q
    refine xS_if (fun h2 => ?_) (fun h2 => ?_)
    · refine xS_of (pc' := 60) (L' := [(0, xa x0), (1, xa 223), (2, xa 302), (3, xa x3), (4, xi x4), (5, xj x5), (7, xi x7), (8, xi x8)]) (st' := [xi x8, xa 302, xa 223]) (m' := m) (fun ex ns r q => ?_) ?_
      · refine xw_if_neF rfl (w32_cg (w32_xR _ _ _)) h2 ?_
        refine xw_aload_n rfl rfl rfl ?_
        refine xw_aload_n rfl rfl rfl ?_
        refine xw_iload rfl rfl ?_
        refine xw_lo (L2 := [(0, xa x0), (1, xa 223), (2, xa 302), (3, xa x3), (4, xi x4), (5, xj x5), (7, xi x7), (8, xi x8)]) (List.forall_mem_cons.mpr ⟨rfl, List.forall_mem_cons.mpr ⟨rfl, List.forall_mem_cons.mpr ⟨rfl, List.forall_mem_cons.mpr ⟨rfl, List.forall_mem_cons.mpr ⟨rfl, List.forall_mem_cons.mpr ⟨rfl, List.forall_mem_cons.mpr ⟨rfl, List.forall_mem_cons.mpr ⟨rfl, fun _ h => absurd h List.not_mem_nil⟩⟩⟩⟩⟩⟩⟩⟩) ?_
        exact q
      refine xS_call (q := 123) (n := 3) (kq := 4) (as := [xa 223, xa 302, xi x8]) (st1 := []) rfl rfl rfl rfl rfl rfl rfl rfl rfl rfl (fun _ => xw_rcv1 (t := 4) (xw_obd (by decide +kernel)) rfl) rfl (List.forall_mem_cons.mpr ⟨rfl, List.forall_mem_cons.mpr ⟨rfl, List.forall_mem_cons.mpr ⟨rfl, fun _ h => absurd h List.not_mem_nil⟩⟩⟩) (ygf123 hB _ _ c8) (fun v1 m1 cv1 => ?_)
      refine xS_if (fun h3 => ?_) (fun h3 => ?_)
      · refine xS_of (pc' := 42) (L' := [(0, xa x0), (1, xa 223), (2, xa 302), (3, xa x3), (4, xi x4), (5, xj x5), (7, xi x7), (8, xi (w32 (x8 + 1)))]) (st' := []) (m' := m1) (fun ex ns r q => ?_) ?_
        · refine xw_if_eqT rfl (w32_cg (w32_of (xw_zr cv1))) h3 ?_
          refine xw_iincc (z := (w32 (x8 + 1))) (L' := [(8, xi (w32 (x8 + 1))), (0, xa x0), (1, xa 223), (2, xa 302), (3, xa x3), (4, xi x4), (5, xj x5), (7, xi x7)]) rfl rfl (by decide) rfl rfl ?_
          refine xw_goto rfl ?_
          refine xw_lo (L2 := [(0, xa x0), (1, xa 223), (2, xa 302), (3, xa x3), (4, xi x4), (5, xj x5), (7, xi x7), (8, xi (w32 (x8 + 1)))]) (List.forall_mem_cons.mpr ⟨rfl, List.forall_mem_cons.mpr ⟨rfl, List.forall_mem_cons.mpr ⟨rfl, List.forall_mem_cons.mpr ⟨rfl, List.forall_mem_cons.mpr ⟨rfl, List.forall_mem_cons.mpr ⟨rfl, List.forall_mem_cons.mpr ⟨rfl, List.forall_mem_cons.mpr ⟨rfl, fun _ h => absurd h List.not_mem_nil⟩⟩⟩⟩⟩⟩⟩⟩) ?_
          exact q
        exact hr42 _ _ _ _ _ _ _ c4 c5 c7 (w32_w _)
      · refine xS_of (pc' := 71) (L' := [(0, xa x0), (1, xa 223), (2, xa 302), (3, xa x3), (4, xi x4), (5, xj x5), (7, xi x7), (8, xi x8)]) (st' := [xi x8, xa 302, xa 223, xa x0]) (m' := m1) (fun ex ns r q => ?_) ?_
        · refine xw_if_eqF rfl (w32_cg (w32_of (xw_zr cv1))) h3 ?_
          refine xw_aload_n rfl rfl rfl ?_
          refine xw_aload_n rfl rfl rfl ?_
          refine xw_aload_n rfl rfl rfl ?_
          refine xw_iload rfl rfl ?_
          refine xw_lo (L2 := [(0, xa x0), (1, xa 223), (2, xa 302), (3, xa x3), (4, xi x4), (5, xj x5), (7, xi x7), (8, xi x8)]) (List.forall_mem_cons.mpr ⟨rfl, List.forall_mem_cons.mpr ⟨rfl, List.forall_mem_cons.mpr ⟨rfl, List.forall_mem_cons.mpr ⟨rfl, List.forall_mem_cons.mpr ⟨rfl, List.forall_mem_cons.mpr ⟨rfl, List.forall_mem_cons.mpr ⟨rfl, List.forall_mem_cons.mpr ⟨rfl, fun _ h => absurd h List.not_mem_nil⟩⟩⟩⟩⟩⟩⟩⟩) ?_
          exact q
        refine xS_call (q := 125) (n := 4) (kq := 0) (as := [xa x0, xa 223, xa 302, xi x8]) (st1 := []) rfl rfl rfl rfl rfl rfl rfl rfl rfl rfl (fun _ => xw_rcv1 (t := 9) (xw_obd g1) rfl) rfl (List.forall_mem_cons.mpr ⟨rfl, List.forall_mem_cons.mpr ⟨rfl, List.forall_mem_cons.mpr ⟨rfl, List.forall_mem_cons.mpr ⟨rfl, fun _ h => absurd h List.not_mem_nil⟩⟩⟩⟩) (ygf125 hB _ _ _ c8) (fun v2 m2 cv2 => ?_)
        refine xS_of (pc' := 42) (L' := [(0, xa x0), (1, xa 223), (2, xa 302), (3, xa x3), (4, xi x4), (5, xj x5), (7, xi x7), (8, xi (w32 (x8 + 1)))]) (st' := []) (m' := m2) (fun ex ns r q => ?_) ?_
        · refine xw_iincc (z := (w32 (x8 + 1))) (L' := [(8, xi (w32 (x8 + 1))), (0, xa x0), (1, xa 223), (2, xa 302), (3, xa x3), (4, xi x4), (5, xj x5), (7, xi x7)]) rfl rfl (by decide) rfl rfl ?_
          refine xw_goto rfl ?_
          refine xw_lo (L2 := [(0, xa x0), (1, xa 223), (2, xa 302), (3, xa x3), (4, xi x4), (5, xj x5), (7, xi x7), (8, xi (w32 (x8 + 1)))]) (List.forall_mem_cons.mpr ⟨rfl, List.forall_mem_cons.mpr ⟨rfl, List.forall_mem_cons.mpr ⟨rfl, List.forall_mem_cons.mpr ⟨rfl, List.forall_mem_cons.mpr ⟨rfl, List.forall_mem_cons.mpr ⟨rfl, List.forall_mem_cons.mpr ⟨rfl, List.forall_mem_cons.mpr ⟨rfl, fun _ h => absurd h List.not_mem_nil⟩⟩⟩⟩⟩⟩⟩⟩) ?_
          exact q
        exact hr42 _ _ _ _ _ _ _ c4 c5 c7 (w32_w _)
    · refine xS_of (pc' := 14) (L' := [(0, xa x0), (1, xa 223), (2, xa 302), (3, xa x3), (4, xi (w32 (x4 + (-1024)))), (5, xj x5)]) (st' := []) (m' := m) (fun ex ns r q => ?_) ?_
      · refine xw_if_neT rfl (w32_cg (w32_xR _ _ _)) h2 ?_
        refine xw_iincc (z := (w32 (x4 + (-1024)))) (L' := [(4, xi (w32 (x4 + (-1024)))), (0, xa x0), (1, xa 223), (2, xa 302), (3, xa x3), (5, xj x5), (7, xi x7), (8, xi x8)]) rfl rfl (by decide) rfl rfl ?_
        refine xw_goto rfl ?_
        refine xw_lo (L2 := [(0, xa x0), (1, xa 223), (2, xa 302), (3, xa x3), (4, xi (w32 (x4 + (-1024)))), (5, xj x5)]) (List.forall_mem_cons.mpr ⟨rfl, List.forall_mem_cons.mpr ⟨rfl, List.forall_mem_cons.mpr ⟨rfl, List.forall_mem_cons.mpr ⟨rfl, List.forall_mem_cons.mpr ⟨rfl, List.forall_mem_cons.mpr ⟨rfl, fun _ h => absurd h List.not_mem_nil⟩⟩⟩⟩⟩⟩) ?_
        exact q
      exact hr14 _ _ _ _ _ (w32_w _) c5
  · refine xS_of (pc' := 14) (L' := [(0, xa x0), (1, xa 223), (2, xa 302), (3, xa x3), (4, xi (w32 (x4 + (-1024)))), (5, xj x5)]) (st' := []) (m' := m) (fun ex ns r q => ?_) ?_
    · refine xw_ic_geT rfl (w32_cg c8) (w32_cg c7) (Int.not_lt.mp h0) ?_
      refine xw_iincc (z := (w32 (x4 + (-1024)))) (L' := [(4, xi (w32 (x4 + (-1024)))), (0, xa x0), (1, xa 223), (2, xa 302), (3, xa x3), (5, xj x5), (7, xi x7), (8, xi x8)]) rfl rfl (by decide) rfl rfl ?_
      refine xw_goto rfl ?_
      refine xw_lo (L2 := [(0, xa x0), (1, xa 223), (2, xa 302), (3, xa x3), (4, xi (w32 (x4 + (-1024)))), (5, xj x5)]) (List.forall_mem_cons.mpr ⟨rfl, List.forall_mem_cons.mpr ⟨rfl, List.forall_mem_cons.mpr ⟨rfl, List.forall_mem_cons.mpr ⟨rfl, List.forall_mem_cons.mpr ⟨rfl, List.forall_mem_cons.mpr ⟨rfl, fun _ h => absurd h List.not_mem_nil⟩⟩⟩⟩⟩⟩) ?_
      exact q
    exact hr14 _ _ _ _ _ (w32_w _) c5
theorem ygl110_42 {B : Nat} (hB : B ≤ 512) {xs : Nat → Int32} {SL d : Nat} {r14 : Int → Int → Int → Int → xw_M → xP} (hr14 : ∀ x0 x3 x4 x5 m, w32 x4 = x4 → w64 x5 = x5 → xS B xs SL (d + 6) 110 (9, none, [], 10) 0 14 [(0, xa x0), (1, xa 223), (2, xa 302), (3, xa x3), (4, xi x4), (5, xj x5)] [] m (r14 x0 x3 x4 x5 m)) : ∀ n x0 x3 x4 x5 x7 x8 m, w32 x4 = x4 → w64 x5 = x5 → w32 x7 = x7 → w32 x8 = x8 → xS B xs SL (d + 6) 110 (9, none, [], 10) 0 42 [(0, xa x0), (1, xa 223), (2, xa 302), (3, xa x3), (4, xi x4), (5, xj x5), (7, xi x7), (8, xi x8)] [] m (xl6 (yl110_42 B r14) n x0 x3 x4 x5 x7 x8 m) := by
  intro n
  induction n with
  | zero => intro x0 x3 x4 x5 x7 x8 m c4 c5 c7 c8; exact xS_none
  | succ n ih => exact ysl110_42 hB hr14 ih
theorem ysl110_14 {B : Nat} (hB : B ≤ 512) {xs : Nat → Int32} {SL d : Nat} {r14 : Int → Int → Int → Int → xw_M → xP} (hr14 : ∀ x0 x3 x4 x5 m, w32 x4 = x4 → w64 x5 = x5 → xS B xs SL (d + 6) 110 (9, none, [], 10) 0 14 [(0, xa x0), (1, xa 223), (2, xa 302), (3, xa x3), (4, xi x4), (5, xj x5)] [] m (r14 x0 x3 x4 x5 m)) : ∀ x0 x3 x4 x5 m, w32 x4 = x4 → w64 x5 = x5 → xS B xs SL (d + 6) 110 (9, none, [], 10) 0 14 [(0, xa x0), (1, xa 223), (2, xa 302), (3, xa x3), (4, xi x4), (5, xj x5)] [] m (yl110_14 B r14 x0 x3 x4 x5 m) := by
  intro x0 x3 x4 x5 m c4 c5
  unfold yl110_14
  refine xS_of (pc' := 16) (L' := [(0, xa x0), (1, xa 223), (2, xa 302), (3, xa x3), (4, xi x4), (5, xj x5)]) (st' := [xi x4]) (m' := m) (fun ex ns r q => ?_) ?_
  · refine xw_iload rfl rfl ?_
    exact q
  refine xS_if (fun h0 => ?_) (fun h0 => ?_)
  · refine xS_g (fun g1 => ?_)
    refine xS_of (pc' := 23) (L' := [(0, xa x0), (1, xa 223), (2, xa 302), (3, xa x3), (4, xi x4), (5, xj x5)]) (st' := [xi (xR m x0 8)]) (m' := m) (fun ex ns r q => ?_) ?_
    · refine xw_if_leF rfl (w32_cg c4) (Int.not_le.mpr h0) ?_
      refine xw_aload_n rfl rfl rfl ?_
      refine xw_gfIc (v := (m x0 8)) (v' := (xR m x0 8)) rfl (xw_obd g1) xk9_8 (qi := 8) rfl rfl rfl ?_
      exact q
    refine xS_if (fun h2 => ?_) (fun h2 => ?_)
    · refine xS_of (pc' := 34) (L' := [(0, xa x0), (1, xa 223), (2, xa 302), (3, xa x3), (4, xi x4), (5, xj x5)]) (st' := [xa 303, xj x5, xa x3, xa 302]) (m' := m) (fun ex ns r q => ?_) ?_
      · refine xw_if_neF rfl (w32_cg (w32_xR _ _ _)) h2 ?_
        refine xw_aload_n rfl rfl rfl ?_
        refine xw_aload_n rfl rfl rfl ?_
        refine xw_lload rfl rfl ?_
        refine xw_aload_n rfl rfl rfl ?_
        refine xw_gfR (n := 303) (e := 303) rfl (xw_obd (by decide +kernel)) (by decide +kernel) (by decide +kernel) rfl ?_
        refine xw_lo (L2 := [(0, xa x0), (1, xa 223), (2, xa 302), (3, xa x3), (4, xi x4), (5, xj x5)]) (List.forall_mem_cons.mpr ⟨rfl, List.forall_mem_cons.mpr ⟨rfl, List.forall_mem_cons.mpr ⟨rfl, List.forall_mem_cons.mpr ⟨rfl, List.forall_mem_cons.mpr ⟨rfl, List.forall_mem_cons.mpr ⟨rfl, fun _ h => absurd h List.not_mem_nil⟩⟩⟩⟩⟩⟩) ?_
        exact q
      refine xS_call (q := 113) (n := 4) (kq := 1) (as := [xa 302, xa x3, xj x5, xa 303]) (st1 := []) rfl rfl rfl rfl rfl rfl rfl rfl rfl rfl (fun _ => xw_rcv1 (t := 7) (xw_obd (by decide +kernel)) rfl) rfl (List.forall_mem_cons.mpr ⟨rfl, List.forall_mem_cons.mpr ⟨rfl, List.forall_mem_cons.mpr ⟨rfl, List.forall_mem_cons.mpr ⟨rfl, fun _ h => absurd h List.not_mem_nil⟩⟩⟩⟩) (ygf113 hB _ _ _ _ c5) (fun v1 m1 cv1 => ?_)
      refine xS_of (pc' := 42) (L' := [(0, xa x0), (1, xa 223), (2, xa 302), (3, xa x3), (4, xi x4), (5, xj x5), (7, xi v1), (8, xi 0)]) (st' := []) (m' := m1) (fun ex ns r q => ?_) ?_
      · refine xw_istore (L' := [(7, xi v1), (0, xa x0), (1, xa 223), (2, xa 302), (3, xa x3), (4, xi x4), (5, xj x5)]) rfl (by decide) rfl ?_
        refine xw_iconst rfl ?_
        refine xw_istore (L' := [(8, xi 0), (7, xi v1), (0, xa x0), (1, xa 223), (2, xa 302), (3, xa x3), (4, xi x4), (5, xj x5)]) rfl (by decide) rfl ?_
        refine xw_lo (L2 := [(0, xa x0), (1, xa 223), (2, xa 302), (3, xa x3), (4, xi x4), (5, xj x5), (7, xi v1), (8, xi 0)]) (List.forall_mem_cons.mpr ⟨rfl, List.forall_mem_cons.mpr ⟨rfl, List.forall_mem_cons.mpr ⟨rfl, List.forall_mem_cons.mpr ⟨rfl, List.forall_mem_cons.mpr ⟨rfl, List.forall_mem_cons.mpr ⟨rfl, List.forall_mem_cons.mpr ⟨rfl, List.forall_mem_cons.mpr ⟨rfl, fun _ h => absurd h List.not_mem_nil⟩⟩⟩⟩⟩⟩⟩⟩) ?_
        exact q
      exact ygl110_42 hB hr14 1000000 _ _ _ _ _ _ _ c4 c5 cv1 rfl
    · refine xS_of (pc' := 89) (L' := [(0, xa x0), (1, xa 223), (2, xa 302), (3, xa x3), (4, xi x4), (5, xj x5)]) (st' := []) (m' := m) (fun ex ns r q => ?_) ?_
      · refine xw_if_neT rfl (w32_cg (w32_xR _ _ _)) h2 ?_
        exact q
      exact xS_ret (v := 0) rfl rfl rfl rfl
  · refine xS_of (pc' := 89) (L' := [(0, xa x0), (1, xa 223), (2, xa 302), (3, xa x3), (4, xi x4), (5, xj x5)]) (st' := []) (m' := m) (fun ex ns r q => ?_) ?_
    · refine xw_if_leT rfl (w32_cg c4) (Int.not_lt.mp h0) ?_
      exact q
    exact xS_ret (v := 0) rfl rfl rfl rfl
theorem ygl110_14 {B : Nat} (hB : B ≤ 512) {xs : Nat → Int32} {SL d : Nat} : ∀ n x0 x3 x4 x5 m, w32 x4 = x4 → w64 x5 = x5 → xS B xs SL (d + 6) 110 (9, none, [], 10) 0 14 [(0, xa x0), (1, xa 223), (2, xa 302), (3, xa x3), (4, xi x4), (5, xj x5)] [] m (xl4 (yl110_14 B) n x0 x3 x4 x5 m) := by
  intro n
  induction n with
  | zero => intro x0 x3 x4 x5 m c4 c5; exact xS_none
  | succ n ih => exact ysl110_14 hB ih
theorem ygf110 {B : Nat} (hB : B ≤ 512) {xs : Nat → Int32} {SL d : Nat} : ∀ t p2 m, xS B xs SL (d + 6) 110 (9, none, [], 10) 0 0 [(0, xa t), (1, xa 223), (2, xa 302), (3, xa p2)] [] m (yf110 B t p2 m) := by
  intro t p2 m
  unfold yf110
  refine xS_of (pc' := 2) (L' := [(0, xa t), (1, xa 223), (2, xa 302), (3, xa p2)]) (st' := [xa p2, xa 302]) (m' := m) (fun ex ns r q => ?_) ?_
  · refine xw_aload_n rfl rfl rfl ?_
    refine xw_aload_n rfl rfl rfl ?_
    refine xw_lo (L2 := [(0, xa t), (1, xa 223), (2, xa 302), (3, xa p2)]) (List.forall_mem_cons.mpr ⟨rfl, List.forall_mem_cons.mpr ⟨rfl, List.forall_mem_cons.mpr ⟨rfl, List.forall_mem_cons.mpr ⟨rfl, fun _ h => absurd h List.not_mem_nil⟩⟩⟩⟩) ?_
    exact q
  refine xS_call (q := 107) (n := 2) (kq := 1) (as := [xa 302, xa p2]) (st1 := []) rfl rfl rfl rfl rfl rfl rfl rfl rfl rfl (fun _ => xw_rcv1 (t := 7) (xw_obd (by decide +kernel)) rfl) rfl (List.forall_mem_cons.mpr ⟨rfl, List.forall_mem_cons.mpr ⟨rfl, fun _ h => absurd h List.not_mem_nil⟩⟩) (ygf107 hB _ _) (fun v1 m1 cv1 => ?_)
  refine xS_of (pc' := 9) (L' := [(0, xa t), (1, xa 223), (2, xa 302), (3, xa p2), (4, xi v1)]) (st' := [xa 223, xa 302]) (m' := m1) (fun ex ns r q => ?_) ?_
  · refine xw_istore (L' := [(4, xi v1), (0, xa t), (1, xa 223), (2, xa 302), (3, xa p2)]) rfl (by decide) rfl ?_
    refine xw_aload_n rfl rfl rfl ?_
    refine xw_aload_n rfl rfl rfl ?_
    refine xw_lo (L2 := [(0, xa t), (1, xa 223), (2, xa 302), (3, xa p2), (4, xi v1)]) (List.forall_mem_cons.mpr ⟨rfl, List.forall_mem_cons.mpr ⟨rfl, List.forall_mem_cons.mpr ⟨rfl, List.forall_mem_cons.mpr ⟨rfl, List.forall_mem_cons.mpr ⟨rfl, fun _ h => absurd h List.not_mem_nil⟩⟩⟩⟩⟩) ?_
    exact q
  refine xS_call (q := 111) (n := 2) (kq := 2) (as := [xa 302, xa 223]) (st1 := []) rfl rfl rfl rfl rfl rfl rfl rfl rfl rfl (fun _ => xw_rcv1 (t := 7) (xw_obd (by decide +kernel)) rfl) rfl (List.forall_mem_cons.mpr ⟨rfl, List.forall_mem_cons.mpr ⟨rfl, fun _ h => absurd h List.not_mem_nil⟩⟩) (ygf111 hB _) (fun v2 m2 cv2 => ?_)
  refine xS_of (pc' := 14) (L' := [(0, xa t), (1, xa 223), (2, xa 302), (3, xa p2), (4, xi v1), (5, xj v2)]) (st' := []) (m' := m2) (fun ex ns r q => ?_) ?_
  · refine xw_lstore (L' := [(5, xj v2), (0, xa t), (1, xa 223), (2, xa 302), (3, xa p2), (4, xi v1)]) rfl (by decide) rfl ?_
    refine xw_lo (L2 := [(0, xa t), (1, xa 223), (2, xa 302), (3, xa p2), (4, xi v1), (5, xj v2)]) (List.forall_mem_cons.mpr ⟨rfl, List.forall_mem_cons.mpr ⟨rfl, List.forall_mem_cons.mpr ⟨rfl, List.forall_mem_cons.mpr ⟨rfl, List.forall_mem_cons.mpr ⟨rfl, List.forall_mem_cons.mpr ⟨rfl, fun _ h => absurd h List.not_mem_nil⟩⟩⟩⟩⟩⟩) ?_
    exact q
  exact ygl110_14 hB 1000000 _ _ _ _ _ cv1 cv2
theorem ygk129_30 {B : Nat} (hB : B ≤ 512) {xs : Nat → Int32} {SL d : Nat} : ∀ x0 x2 x3 x4 x5 m, w32 x2 = x2 → w32 x3 = x3 → w32 x4 = x4 → w32 x5 = x5 → xS B xs SL (d + 0) 129 (10, none, [], 10) 0 30 [(0, xa x0), (1, xa 223), (2, xi x2), (3, xi x3), (4, xi x4), (5, xi x5)] [] m (yk129_30 B x0 x2 x3 x4 x5 m) := by
  intro x0 x2 x3 x4 x5 m c2 c3 c4 c5
  unfold yk129_30
  refine xS_g (fun g0 => ?_)
  refine xS_g (fun g1 => ?_)
  refine xS_g (fun g2 => ?_)
  refine xS_g (fun g3 => ?_)
  refine xS_g (fun g4 => ?_)
  refine xS_g (fun g5 => ?_)
  refine xS_g (fun g6 => ?_)
  refine xS_g (fun g7 => ?_)
  refine xS_g (fun g8 => ?_)
  refine xS_of (pc' := 53) (L' := [(6, xi (xR m (xw_rf (xw_rf (xw_rf x0 0) 0) x5) x2)), (0, xa x0), (1, xa 223), (2, xi x2), (3, xi x3), (4, xi x4), (5, xi x5)]) (st' := [xi (xR m (xw_rf x0 5) x5), xi (xR m (xw_rf (xw_rf (xw_rf x0 0) 0) x5) x2)]) (m' := m) (fun ex ns r q => ?_) ?_
  · refine xw_aload_n rfl rfl rfl ?_
    refine xw_gfV (qi := 0) rfl (xw_obd g0) xk9_0 rfl ?_
    refine xw_gfV (qi := 0) rfl (xw_obd g1) xk8_0 rfl ?_
    refine xw_iload rfl rfl ?_
    refine xw_aald (t := 20) (n := (xw_le B (xw_rf (xw_rf x0 0) 0))) (q := xw_kd (xw_rf (xw_rf x0 0) 0) x5 - 5) (e := (xw_rf (xw_rf (xw_rf x0 0) 0) x5)) rfl hB (xw_obd g4) (by decide) rfl g2 (by have := g3; omega) (xw_rfn g3) ?_
    refine xw_iload_n rfl rfl ?_
    refine xw_ialdc (n := (xw_le B (xw_rf (xw_rf (xw_rf x0 0) 0) x5))) (v := (m (xw_rf (xw_rf (xw_rf x0 0) 0) x5) x2)) (v' := (xR m (xw_rf (xw_rf (xw_rf x0 0) 0) x5) x2)) rfl hB (xw_obd g6) rfl g5 rfl rfl ?_
    refine xw_istore (L' := [(6, xi (xR m (xw_rf (xw_rf (xw_rf x0 0) 0) x5) x2)), (0, xa x0), (1, xa 223), (2, xi x2), (3, xi x3), (4, xi x4), (5, xi x5)]) rfl (by decide) rfl ?_
    refine xw_iload rfl rfl ?_
    refine xw_aload_n rfl rfl rfl ?_
    refine xw_gfV (qi := 5) rfl (xw_obd g0) xk9_5 rfl ?_
    refine xw_iload rfl rfl ?_
    refine xw_ialdc (n := (xw_le B (xw_rf x0 5))) (v := (m (xw_rf x0 5) x5)) (v' := (xR m (xw_rf x0 5) x5)) rfl hB (xw_obd g8) rfl g7 rfl rfl ?_
    exact q
  refine xS_if (fun h9 => ?_) (fun h9 => ?_)
  · refine xS_of (pc' := 68) (L' := [(7, xi 1), (6, xi (xR m (xw_rf (xw_rf (xw_rf x0 0) 0) x5) x2)), (0, xa x0), (1, xa 223), (2, xi x2), (3, xi x3), (4, xi x4), (5, xi x5)]) (st' := [xi 209, xi x4]) (m' := m) (fun ex ns r q => ?_) ?_
    · refine xw_ic_neF rfl (w32_cg (w32_xR _ _ _)) (w32_cg (w32_xR _ _ _)) h9 ?_
      refine xw_iconst rfl ?_
      refine xw_goto rfl ?_
      refine xw_istore (L' := [(7, xi 1), (6, xi (xR m (xw_rf (xw_rf (xw_rf x0 0) 0) x5) x2)), (0, xa x0), (1, xa 223), (2, xi x2), (3, xi x3), (4, xi x4), (5, xi x5)]) rfl (by decide) rfl ?_
      refine xw_iload rfl rfl ?_
      refine xw_sipush (e := 209) rfl (by decide +kernel) ?_
      exact q
    refine xS_if (fun h10 => ?_) (fun h10 => ?_)
    · refine xS_g (fun g11 => ?_)
      refine xS_g (fun g12 => ?_)
      refine xS_g (fun g13 => ?_)
      refine xS_g (fun g14 => ?_)
      refine xS_g (fun g15 => ?_)
      refine xS_of (pc' := 219) (L' := [(7, xi 1), (6, xi (xR m (xw_rf (xw_rf (xw_rf x0 0) 0) x5) x2)), (0, xa x0), (1, xa 223), (2, xi x2), (3, xi x3), (4, xi x4), (5, xi x5)]) (st' := []) (m' := (xw_u m (xw_rf (xw_rf (xw_rf x0 0) 1) x3) x2 1)) (fun ex ns r q => ?_) ?_
      · refine xw_ic_neF rfl (w32_cg c4) (w32_cg rfl) h10 ?_
        refine xw_aload_n rfl rfl rfl ?_
        refine xw_gfV (qi := 0) rfl (xw_obd g0) xk9_0 rfl ?_
        refine xw_gfV (qi := 1) rfl (xw_obd g1) xk8_1 rfl ?_
        refine xw_iload_n rfl rfl ?_
        refine xw_aald (t := 21) (n := (xw_le B (xw_rf (xw_rf x0 0) 1))) (q := xw_kd (xw_rf (xw_rf x0 0) 1) x3 - 5) (e := (xw_rf (xw_rf (xw_rf x0 0) 1) x3)) rfl hB (xw_obd g13) (by decide) rfl g11 (by have := g12; omega) (xw_rfn g12) ?_
        refine xw_iload_n rfl rfl ?_
        refine xw_iload rfl rfl ?_
        refine xw_if_eqF rfl (w32_cg rfl) (by decide) ?_
        refine xw_lconst (e := 1) rfl rfl ?_
        refine xw_goto rfl ?_
        refine xw_last (n := (xw_le B (xw_rf (xw_rf (xw_rf x0 0) 1) x3))) rfl hB (xw_obd g15) rfl g14 ?_
        refine xw_goto rfl ?_
        refine xw_goto rfl ?_
        exact q
      exact xS_ret (v := 0) rfl rfl rfl rfl
    · refine xS_g (fun g11 => ?_)
      refine xS_g (fun g12 => ?_)
      refine xS_of (pc' := 219) (L' := [(7, xi 1), (6, xi (xR m (xw_rf (xw_rf (xw_rf x0 0) 0) x5) x2)), (0, xa x0), (1, xa 223), (2, xi x2), (3, xi x3), (4, xi x4), (5, xi x5)]) (st' := []) (m' := (xw_u m (xw_rf x0 2) x2 (xw_iorf (xR m (xw_rf x0 2) x2) (xw_ishlf 1 x3)))) (fun ex ns r q => ?_) ?_
      · refine xw_ic_neT rfl (w32_cg c4) (w32_cg rfl) h10 ?_
        refine xw_iload rfl rfl ?_
        refine xw_if_eqF rfl (w32_cg rfl) (by decide) ?_
        refine xw_aload_n rfl rfl rfl ?_
        refine xw_gfV (qi := 2) rfl (xw_obd g0) xk9_2 rfl ?_
        refine xw_iload_n rfl rfl ?_
        refine xw_dup2 rfl rfl rfl ?_
        refine xw_ialdc (n := (xw_le B (xw_rf x0 2))) (v := (m (xw_rf x0 2) x2)) (v' := (xR m (xw_rf x0 2) x2)) rfl hB (xw_obd g12) rfl g11 rfl rfl ?_
        refine xw_iconst rfl ?_
        refine xw_iload_n rfl rfl ?_
        refine xw_ishl (z := (xw_ishlf 1 x3)) rfl (xw_ishle _ _) ?_
        refine xw_ior (z := (xw_iorf (xR m (xw_rf x0 2) x2) (xw_ishlf 1 x3))) rfl (xw_iore _ _) ?_
        refine xw_iast (n := (xw_le B (xw_rf x0 2))) rfl hB (xw_obd g12) rfl g11 ?_
        refine xw_goto rfl ?_
        refine xw_goto rfl ?_
        exact q
      exact xS_ret (v := 0) rfl rfl rfl rfl
  · refine xS_of (pc' := 68) (L' := [(7, xi 0), (6, xi (xR m (xw_rf (xw_rf (xw_rf x0 0) 0) x5) x2)), (0, xa x0), (1, xa 223), (2, xi x2), (3, xi x3), (4, xi x4), (5, xi x5)]) (st' := [xi 209, xi x4]) (m' := m) (fun ex ns r q => ?_) ?_
    · refine xw_ic_neT rfl (w32_cg (w32_xR _ _ _)) (w32_cg (w32_xR _ _ _)) h9 ?_
      refine xw_iconst rfl ?_
      refine xw_istore (L' := [(7, xi 0), (6, xi (xR m (xw_rf (xw_rf (xw_rf x0 0) 0) x5) x2)), (0, xa x0), (1, xa 223), (2, xi x2), (3, xi x3), (4, xi x4), (5, xi x5)]) rfl (by decide) rfl ?_
      refine xw_iload rfl rfl ?_
      refine xw_sipush (e := 209) rfl (by decide +kernel) ?_
      exact q
    refine xS_if (fun h10 => ?_) (fun h10 => ?_)
    · refine xS_g (fun g11 => ?_)
      refine xS_g (fun g12 => ?_)
      refine xS_g (fun g13 => ?_)
      refine xS_g (fun g14 => ?_)
      refine xS_g (fun g15 => ?_)
      refine xS_of (pc' := 219) (L' := [(7, xi 0), (6, xi (xR m (xw_rf (xw_rf (xw_rf x0 0) 0) x5) x2)), (0, xa x0), (1, xa 223), (2, xi x2), (3, xi x3), (4, xi x4), (5, xi x5)]) (st' := []) (m' := (xw_u m (xw_rf (xw_rf (xw_rf x0 0) 1) x3) x2 0)) (fun ex ns r q => ?_) ?_
      · refine xw_ic_neF rfl (w32_cg c4) (w32_cg rfl) h10 ?_
        refine xw_aload_n rfl rfl rfl ?_
        refine xw_gfV (qi := 0) rfl (xw_obd g0) xk9_0 rfl ?_
        refine xw_gfV (qi := 1) rfl (xw_obd g1) xk8_1 rfl ?_
        refine xw_iload_n rfl rfl ?_
        refine xw_aald (t := 21) (n := (xw_le B (xw_rf (xw_rf x0 0) 1))) (q := xw_kd (xw_rf (xw_rf x0 0) 1) x3 - 5) (e := (xw_rf (xw_rf (xw_rf x0 0) 1) x3)) rfl hB (xw_obd g13) (by decide) rfl g11 (by have := g12; omega) (xw_rfn g12) ?_
        refine xw_iload_n rfl rfl ?_
        refine xw_iload rfl rfl ?_
        refine xw_if_eqT rfl (w32_cg rfl) (by decide) ?_
        refine xw_lconst (e := 0) rfl rfl ?_
        refine xw_last (n := (xw_le B (xw_rf (xw_rf (xw_rf x0 0) 1) x3))) rfl hB (xw_obd g15) rfl g14 ?_
        refine xw_goto rfl ?_
        refine xw_goto rfl ?_
        exact q
      exact xS_ret (v := 0) rfl rfl rfl rfl
    · refine xS_g (fun g11 => ?_)
      refine xS_g (fun g12 => ?_)
      refine xS_g (fun g13 => ?_)
      refine xS_g (fun g14 => ?_)
      refine xS_g (fun g15 => ?_)
      refine xS_g (fun g16 => ?_)
      refine xS_g (fun g17 => ?_)
      refine xS_g (fun g18 => ?_)
      refine xS_g (fun g19 => ?_)
      refine xS_g (fun g20 => ?_)
      refine xS_g (fun g21 => ?_)
      refine xS_g (fun g22 => ?_)
      refine xS_g (fun g23 => ?_)
      refine xS_g (fun g24 => ?_)
      refine xS_g (fun g25 => ?_)
      refine xS_g (fun g26 => ?_)
      refine xS_g (fun g27 => ?_)
      refine xS_g (fun g28 => ?_)
      refine xS_g (fun g29 => ?_)
      refine xS_of (pc' := 219) (L' := [(9, xi ((xR m 227 x5) % 4)), (8, xa (15 + (26 * ((xR m 227 x5) / 4)))), (7, xi 0), (6, xi (xR m (xw_rf (xw_rf (xw_rf x0 0) 0) x5) x2)), (0, xa x0), (1, xa 223), (2, xi x2), (3, xi x3), (4, xi x4), (5, xi x5)]) (st' := []) (m' := (xw_u m (xw_rf (xw_rf (xw_rf x0 0) 1) x3) x2 (xR m (xw_rf (xw_rf (15 + (26 * ((xR m 227 x5) / 4))) 3) ((xR m 227 x5) % 4)) (xR m (xw_rf (xw_rf (15 + (26 * ((xR m 227 x5) / 4))) 5) ((xR m 227 x5) % 4)) (xR m (xw_rf (xw_rf (xw_rf x0 0) 0) x5) x2))))) (fun ex ns r q => ?_) ?_
      · refine xw_ic_neT rfl (w32_cg c4) (w32_cg rfl) h10 ?_
        refine xw_iload rfl rfl ?_
        refine xw_if_eqT rfl (w32_cg rfl) (by decide) ?_
        refine xw_aload_n rfl rfl rfl ?_
        refine xw_gfR (n := 3) (e := 3) rfl (xw_obd (by decide +kernel)) (by decide +kernel) (by decide +kernel) rfl ?_
        refine xw_gfR (n := 4) (e := 4) rfl (xw_obd (by decide +kernel)) (by decide +kernel) (by decide +kernel) rfl ?_
        refine xw_aload_n rfl rfl rfl ?_
        refine xw_gfR (n := 227) (e := 227) rfl (xw_obd (by decide +kernel)) (by decide +kernel) (by decide +kernel) rfl ?_
        refine xw_iload rfl rfl ?_
        refine xw_ialdc (n := 8) (v := (m 227 x5)) (v' := (xR m 227 x5)) rfl hB (xw_obd (by decide +kernel)) rfl g11 rfl rfl ?_
        refine xw_iconst rfl ?_
        refine xw_idiv (z := ((xR m 227 x5) / 4)) rfl (xw_idivn ⟨(by decide), (w32_cg rfl).2⟩) (xw_idive ⟨g12, (w32_cg (w32_xR _ _ _)).2⟩ ⟨(by decide), (w32_cg rfl).2⟩) ?_
        refine xw_aald (t := 23) (n := 8) (q := 15 + 26 * (((xR m 227 x5) / 4)).toNat) (e := (15 + (26 * ((xR m 227 x5) / 4)))) rfl hB (xw_obd (by decide +kernel)) (by decide) rfl g13 (show 20 + 26 * (((xR m 227 x5) / 4) : Int).toNat = 15 + 26 * (((xR m 227 x5) / 4) : Int).toNat + 5 from by omega) (by have := g13; omega) ?_
        refine xw_astore (L' := [(8, xa (15 + (26 * ((xR m 227 x5) / 4)))), (7, xi 0), (6, xi (xR m (xw_rf (xw_rf (xw_rf x0 0) 0) x5) x2)), (0, xa x0), (1, xa 223), (2, xi x2), (3, xi x3), (4, xi x4), (5, xi x5)]) rfl rfl (by decide) rfl ?_
        refine xw_aload_n rfl rfl rfl ?_
        refine xw_gfR (n := 227) (e := 227) rfl (xw_obd (by decide +kernel)) (by decide +kernel) (by decide +kernel) rfl ?_
        refine xw_iload rfl rfl ?_
        refine xw_ialdc (n := 8) (v := (m 227 x5)) (v' := (xR m 227 x5)) rfl hB (xw_obd (by decide +kernel)) rfl g11 rfl rfl ?_
        refine xw_iconst rfl ?_
        refine xw_irem (z := ((xR m 227 x5) % 4)) rfl (xw_iremn ⟨(by decide), (w32_cg rfl).2⟩) (xw_ireme ⟨g12, (w32_cg (w32_xR _ _ _)).2⟩ ⟨(by decide), (w32_cg rfl).2⟩) ?_
        refine xw_istore (L' := [(9, xi ((xR m 227 x5) % 4)), (8, xa (15 + (26 * ((xR m 227 x5) / 4)))), (7, xi 0), (6, xi (xR m (xw_rf (xw_rf (xw_rf x0 0) 0) x5) x2)), (0, xa x0), (1, xa 223), (2, xi x2), (3, xi x3), (4, xi x4), (5, xi x5)]) rfl (by decide) rfl ?_
        refine xw_aload_n rfl rfl rfl ?_
        refine xw_gfV (qi := 0) rfl (xw_obd g0) xk9_0 rfl ?_
        refine xw_gfV (qi := 1) rfl (xw_obd g1) xk8_1 rfl ?_
        refine xw_iload_n rfl rfl ?_
        refine xw_aald (t := 21) (n := (xw_le B (xw_rf (xw_rf x0 0) 1))) (q := xw_kd (xw_rf (xw_rf x0 0) 1) x3 - 5) (e := (xw_rf (xw_rf (xw_rf x0 0) 1) x3)) rfl hB (xw_obd g16) (by decide) rfl g14 (by have := g15; omega) (xw_rfn g15) ?_
        refine xw_iload_n rfl rfl ?_
        refine xw_aload rfl rfl rfl ?_
        refine xw_gfV (qi := 3) rfl (xw_obd g17) xk3_3 rfl ?_
        refine xw_iload rfl rfl ?_
        refine xw_aald (t := 20) (n := (xw_le B (xw_rf (15 + (26 * ((xR m 227 x5) / 4))) 3))) (q := xw_kd (xw_rf (15 + (26 * ((xR m 227 x5) / 4))) 3) ((xR m 227 x5) % 4) - 5) (e := (xw_rf (xw_rf (15 + (26 * ((xR m 227 x5) / 4))) 3) ((xR m 227 x5) % 4))) rfl hB (xw_obd g20) (by decide) rfl g18 (by have := g19; omega) (xw_rfn g19) ?_
        refine xw_aload rfl rfl rfl ?_
        refine xw_gfV (qi := 5) rfl (xw_obd g17) xk3_5 rfl ?_
        refine xw_iload rfl rfl ?_
        refine xw_aald (t := 20) (n := (xw_le B (xw_rf (15 + (26 * ((xR m 227 x5) / 4))) 5))) (q := xw_kd (xw_rf (15 + (26 * ((xR m 227 x5) / 4))) 5) ((xR m 227 x5) % 4) - 5) (e := (xw_rf (xw_rf (15 + (26 * ((xR m 227 x5) / 4))) 5) ((xR m 227 x5) % 4))) rfl hB (xw_obd g23) (by decide) rfl g21 (by have := g22; omega) (xw_rfn g22) ?_
        refine xw_iload rfl rfl ?_
        refine xw_ialdc (n := (xw_le B (xw_rf (xw_rf (15 + (26 * ((xR m 227 x5) / 4))) 5) ((xR m 227 x5) % 4)))) (v := (m (xw_rf (xw_rf (15 + (26 * ((xR m 227 x5) / 4))) 5) ((xR m 227 x5) % 4)) (xR m (xw_rf (xw_rf (xw_rf x0 0) 0) x5) x2))) (v' := (xR m (xw_rf (xw_rf (15 + (26 * ((xR m 227 x5) / 4))) 5) ((xR m 227 x5) % 4)) (xR m (xw_rf (xw_rf (xw_rf x0 0) 0) x5) x2))) rfl hB (xw_obd g25) rfl g24 rfl rfl ?_
        refine xw_ialdc (n := (xw_le B (xw_rf (xw_rf (15 + (26 * ((xR m 227 x5) / 4))) 3) ((xR m 227 x5) % 4)))) (v := (m (xw_rf (xw_rf (15 + (26 * ((xR m 227 x5) / 4))) 3) ((xR m 227 x5) % 4)) (xR m (xw_rf (xw_rf (15 + (26 * ((xR m 227 x5) / 4))) 5) ((xR m 227 x5) % 4)) (xR m (xw_rf (xw_rf (xw_rf x0 0) 0) x5) x2)))) (v' := (xR m (xw_rf (xw_rf (15 + (26 * ((xR m 227 x5) / 4))) 3) ((xR m 227 x5) % 4)) (xR m (xw_rf (xw_rf (15 + (26 * ((xR m 227 x5) / 4))) 5) ((xR m 227 x5) % 4)) (xR m (xw_rf (xw_rf (xw_rf x0 0) 0) x5) x2)))) rfl hB (xw_obd g27) rfl g26 rfl rfl ?_
        refine xw_i2l rfl (w32_cg (w32_xR _ _ _)) ?_
        refine xw_last (n := (xw_le B (xw_rf (xw_rf (xw_rf x0 0) 1) x3))) rfl hB (xw_obd g29) rfl g28 ?_
        refine xw_goto rfl ?_
        exact q
      exact xS_ret (v := 0) rfl rfl rfl rfl
theorem ygk129_196 {B : Nat} (hB : B ≤ 512) {xs : Nat → Int32} {SL d : Nat} : ∀ x0 x2 x3 m, w32 x2 = x2 → w32 x3 = x3 → xS B xs SL (d + 0) 129 (10, none, [], 10) 0 196 [(0, xa x0), (2, xi x2), (3, xi x3)] [] m (yk129_196 B x0 x2 x3 m) := by
  intro x0 x2 x3 m c2 c3
  unfold yk129_196
  refine xS_g (fun g0 => ?_)
  refine xS_g (fun g1 => ?_)
  refine xS_g (fun g2 => ?_)
  refine xS_of (pc' := 203) (L' := [(0, xa x0), (2, xi x2), (3, xi x3)]) (st' := [xj 0, xj (xJ m (xw_rf x0 1) x2)]) (m' := m) (fun ex ns r q => ?_) ?_
  · refine xw_aload_n rfl rfl rfl ?_
    refine xw_gfV (qi := 1) rfl (xw_obd g0) xk9_1 rfl ?_
    refine xw_iload_n rfl rfl ?_
    refine xw_laldc (n := (xw_le B (xw_rf x0 1))) (v := (m (xw_rf x0 1) x2)) (v' := (xJ m (xw_rf x0 1) x2)) rfl hB (xw_obd g2) rfl g1 rfl rfl ?_
    refine xw_lconst (e := 0) rfl rfl ?_
    exact q
  refine xS_if (fun h3 => ?_) (fun h3 => ?_)
  · refine xS_g (fun g4 => ?_)
    refine xS_g (fun g5 => ?_)
    refine xS_of (pc' := 219) (L' := [(0, xa x0), (2, xi x2), (3, xi x3)]) (st' := []) (m' := (xw_u m (xw_rf x0 2) x2 (xw_iorf (xR m (xw_rf x0 2) x2) (xw_ishlf 1 x3)))) (fun ex ns r q => ?_) ?_
    · refine xw_jc_neF rfl rfl (w64_cg (w64_xJ _ _ _)) (w64_cg rfl) h3 ?_
      refine xw_aload_n rfl rfl rfl ?_
      refine xw_gfV (qi := 2) rfl (xw_obd g0) xk9_2 rfl ?_
      refine xw_iload_n rfl rfl ?_
      refine xw_dup2 rfl rfl rfl ?_
      refine xw_ialdc (n := (xw_le B (xw_rf x0 2))) (v := (m (xw_rf x0 2) x2)) (v' := (xR m (xw_rf x0 2) x2)) rfl hB (xw_obd g5) rfl g4 rfl rfl ?_
      refine xw_iconst rfl ?_
      refine xw_iload_n rfl rfl ?_
      refine xw_ishl (z := (xw_ishlf 1 x3)) rfl (xw_ishle _ _) ?_
      refine xw_ior (z := (xw_iorf (xR m (xw_rf x0 2) x2) (xw_ishlf 1 x3))) rfl (xw_iore _ _) ?_
      refine xw_iast (n := (xw_le B (xw_rf x0 2))) rfl hB (xw_obd g5) rfl g4 ?_
      exact q
    exact xS_ret (v := 0) rfl rfl rfl rfl
  · refine xS_of (pc' := 219) (L' := [(0, xa x0), (2, xi x2), (3, xi x3)]) (st' := []) (m' := m) (fun ex ns r q => ?_) ?_
    · refine xw_jc_neT rfl rfl (w64_cg (w64_xJ _ _ _)) (w64_cg rfl) h3 ?_
      exact q
    exact xS_ret (v := 0) rfl rfl rfl rfl
theorem ygf129 {B : Nat} (hB : B ≤ 512) {xs : Nat → Int32} {SL d : Nat} : ∀ t p1 p2 m, w32 p1 = p1 → w32 p2 = p2 → xS B xs SL (d + 0) 129 (10, none, [], 10) 0 0 [(0, xa t), (1, xa 223), (2, xi p1), (3, xi p2)] [] m (yf129 B t p1 p2 m) := by
  intro t p1 p2 m cp1 cp2
  unfold yf129
  refine xS_g (fun g0 => ?_)
  refine xS_of (pc' := 19) (L' := [(5, xi (xR m 225 p2)), (4, xi (xR m 224 p2)), (0, xa t), (1, xa 223), (2, xi p1), (3, xi p2)]) (st' := [xi 1, xi (xR m 224 p2)]) (m' := m) (fun ex ns r q => ?_) ?_
  · refine xw_aload_n rfl rfl rfl ?_
    refine xw_gfR (n := 224) (e := 224) rfl (xw_obd (by decide +kernel)) (by decide +kernel) (by decide +kernel) rfl ?_
    refine xw_iload_n rfl rfl ?_
    refine xw_ialdc (n := 24) (v := (m 224 p2)) (v' := (xR m 224 p2)) rfl hB (xw_obd (by decide +kernel)) rfl g0 rfl rfl ?_
    refine xw_istore (L' := [(4, xi (xR m 224 p2)), (0, xa t), (1, xa 223), (2, xi p1), (3, xi p2)]) rfl (by decide) rfl ?_
    refine xw_aload_n rfl rfl rfl ?_
    refine xw_gfR (n := 225) (e := 225) rfl (xw_obd (by decide +kernel)) (by decide +kernel) (by decide +kernel) rfl ?_
    refine xw_iload_n rfl rfl ?_
    refine xw_ialdc (n := 24) (v := (m 225 p2)) (v' := (xR m 225 p2)) rfl hB (xw_obd (by decide +kernel)) rfl g0 rfl rfl ?_
    refine xw_istore (L' := [(5, xi (xR m 225 p2)), (4, xi (xR m 224 p2)), (0, xa t), (1, xa 223), (2, xi p1), (3, xi p2)]) rfl (by decide) rfl ?_
    refine xw_iload rfl rfl ?_
    refine xw_iconst rfl ?_
    exact q
  refine xS_if (fun h1 => ?_) (fun h1 => ?_)
  · refine xS_of (pc' := 30) (L' := [(0, xa t), (1, xa 223), (2, xi p1), (3, xi p2), (4, xi (xR m 224 p2)), (5, xi (xR m 225 p2))]) (st' := []) (m' := m) (fun ex ns r q => ?_) ?_
    · refine xw_ic_eqT rfl (w32_cg (w32_xR _ _ _)) (w32_cg rfl) h1 ?_
      refine xw_lo (L2 := [(0, xa t), (1, xa 223), (2, xi p1), (3, xi p2), (4, xi (xR m 224 p2)), (5, xi (xR m 225 p2))]) (List.forall_mem_cons.mpr ⟨rfl, List.forall_mem_cons.mpr ⟨rfl, List.forall_mem_cons.mpr ⟨rfl, List.forall_mem_cons.mpr ⟨rfl, List.forall_mem_cons.mpr ⟨rfl, List.forall_mem_cons.mpr ⟨rfl, fun _ h => absurd h List.not_mem_nil⟩⟩⟩⟩⟩⟩) ?_
      exact q
    exact ygk129_30 hB _ _ _ _ _ _ cp1 cp2 (w32_xR _ _ _) (w32_xR _ _ _)
  · refine xS_of (pc' := 27) (L' := [(5, xi (xR m 225 p2)), (4, xi (xR m 224 p2)), (0, xa t), (1, xa 223), (2, xi p1), (3, xi p2)]) (st' := [xi 209, xi (xR m 224 p2)]) (m' := m) (fun ex ns r q => ?_) ?_
    · refine xw_ic_eqF rfl (w32_cg (w32_xR _ _ _)) (w32_cg rfl) h1 ?_
      refine xw_iload rfl rfl ?_
      refine xw_sipush (e := 209) rfl (by decide +kernel) ?_
      exact q
    refine xS_if (fun h2 => ?_) (fun h2 => ?_)
    · refine xS_of (pc' := 30) (L' := [(0, xa t), (1, xa 223), (2, xi p1), (3, xi p2), (4, xi (xR m 224 p2)), (5, xi (xR m 225 p2))]) (st' := []) (m' := m) (fun ex ns r q => ?_) ?_
      · refine xw_ic_neF rfl (w32_cg (w32_xR _ _ _)) (w32_cg rfl) h2 ?_
        refine xw_lo (L2 := [(0, xa t), (1, xa 223), (2, xi p1), (3, xi p2), (4, xi (xR m 224 p2)), (5, xi (xR m 225 p2))]) (List.forall_mem_cons.mpr ⟨rfl, List.forall_mem_cons.mpr ⟨rfl, List.forall_mem_cons.mpr ⟨rfl, List.forall_mem_cons.mpr ⟨rfl, List.forall_mem_cons.mpr ⟨rfl, List.forall_mem_cons.mpr ⟨rfl, fun _ h => absurd h List.not_mem_nil⟩⟩⟩⟩⟩⟩) ?_
        exact q
      exact ygk129_30 hB _ _ _ _ _ _ cp1 cp2 (w32_xR _ _ _) (w32_xR _ _ _)
    · refine xS_of (pc' := 185) (L' := [(5, xi (xR m 225 p2)), (4, xi (xR m 224 p2)), (0, xa t), (1, xa 223), (2, xi p1), (3, xi p2)]) (st' := [xi 212, xi (xR m 224 p2)]) (m' := m) (fun ex ns r q => ?_) ?_
      · refine xw_ic_neT rfl (w32_cg (w32_xR _ _ _)) (w32_cg rfl) h2 ?_
        refine xw_iload rfl rfl ?_
        refine xw_sipush (e := 212) rfl (by decide +kernel) ?_
        exact q
      refine xS_if (fun h3 => ?_) (fun h3 => ?_)
      · refine xS_of (pc' := 196) (L' := [(0, xa t), (2, xi p1), (3, xi p2)]) (st' := []) (m' := m) (fun ex ns r q => ?_) ?_
        · refine xw_ic_eqT rfl (w32_cg (w32_xR _ _ _)) (w32_cg rfl) h3 ?_
          refine xw_lo (L2 := [(0, xa t), (2, xi p1), (3, xi p2)]) (List.forall_mem_cons.mpr ⟨rfl, List.forall_mem_cons.mpr ⟨rfl, List.forall_mem_cons.mpr ⟨rfl, fun _ h => absurd h List.not_mem_nil⟩⟩⟩) ?_
          exact q
        exact ygk129_196 hB _ _ _ _ cp1 cp2
      · refine xS_of (pc' := 193) (L' := [(5, xi (xR m 225 p2)), (4, xi (xR m 224 p2)), (0, xa t), (1, xa 223), (2, xi p1), (3, xi p2)]) (st' := [xi 213, xi (xR m 224 p2)]) (m' := m) (fun ex ns r q => ?_) ?_
        · refine xw_ic_eqF rfl (w32_cg (w32_xR _ _ _)) (w32_cg rfl) h3 ?_
          refine xw_iload rfl rfl ?_
          refine xw_sipush (e := 213) rfl (by decide +kernel) ?_
          exact q
        refine xS_if (fun h4 => ?_) (fun h4 => ?_)
        · refine xS_of (pc' := 196) (L' := [(0, xa t), (2, xi p1), (3, xi p2)]) (st' := []) (m' := m) (fun ex ns r q => ?_) ?_
          · refine xw_ic_neF rfl (w32_cg (w32_xR _ _ _)) (w32_cg rfl) h4 ?_
            refine xw_lo (L2 := [(0, xa t), (2, xi p1), (3, xi p2)]) (List.forall_mem_cons.mpr ⟨rfl, List.forall_mem_cons.mpr ⟨rfl, List.forall_mem_cons.mpr ⟨rfl, fun _ h => absurd h List.not_mem_nil⟩⟩⟩) ?_
            exact q
          exact ygk129_196 hB _ _ _ _ cp1 cp2
        · refine xS_of (pc' := 219) (L' := [(5, xi (xR m 225 p2)), (4, xi (xR m 224 p2)), (0, xa t), (1, xa 223), (2, xi p1), (3, xi p2)]) (st' := []) (m' := m) (fun ex ns r q => ?_) ?_
          · refine xw_ic_neT rfl (w32_cg (w32_xR _ _ _)) (w32_cg rfl) h4 ?_
            exact q
          exact xS_ret (v := 0) rfl rfl rfl rfl
theorem ysl130_2 {B : Nat} (hB : B ≤ 512) {xs : Nat → Int32} {SL d : Nat} {r2 : Int → Int → xw_M → xP} (hr2 : ∀ x0 x1 m, w32 x1 = x1 → xS B xs SL (d + 0) 130 (2, none, [], 9) 0 2 [(0, xa x0), (1, xi x1)] [] m (r2 x0 x1 m)) : ∀ x0 x1 m, w32 x1 = x1 → xS B xs SL (d + 0) 130 (2, none, [], 9) 0 2 [(0, xa x0), (1, xi x1)] [] m (yl130_2 B r2 x0 x1 m) := by
  intro x0 x1 m c1
  unfold yl130_2
  refine xS_g (fun g0 => ?_)
  refine xS_of (pc' := 7) (L' := [(0, xa x0), (1, xi x1)]) (st' := [xi (xR m x0 5), xi x1]) (m' := m) (fun ex ns r q => ?_) ?_
  · refine xw_iload_n rfl rfl ?_
    refine xw_aload_n rfl rfl rfl ?_
    refine xw_gfIc (v := (m x0 5)) (v' := (xR m x0 5)) rfl (xw_obd g0) xk8_5 (qi := 5) rfl rfl rfl ?_
    exact q
  refine xS_if (fun h1 => ?_) (fun h1 => ?_)
  · refine xS_g (fun g2 => ?_)
    refine xS_g (fun g3 => ?_)
    refine xS_of (pc' := 2) (L' := [(0, xa x0), (1, xi (w32 (x1 + 1)))]) (st' := []) (m' := (xw_u m (xw_rf x0 2) x1 x1)) (fun ex ns r q => ?_) ?_
    · refine xw_ic_geF rfl (w32_cg c1) (w32_cg (w32_xR _ _ _)) (Int.not_le.mpr h1) ?_
      refine xw_aload_n rfl rfl rfl ?_
      refine xw_gfV (qi := 2) rfl (xw_obd g0) xk8_2 rfl ?_
      refine xw_iload_n rfl rfl ?_
      refine xw_iload_n rfl rfl ?_
      refine xw_iast (n := (xw_le B (xw_rf x0 2))) rfl hB (xw_obd g3) rfl g2 ?_
      refine xw_iincc (z := (w32 (x1 + 1))) (L' := [(1, xi (w32 (x1 + 1))), (0, xa x0)]) rfl rfl (by decide) rfl rfl ?_
      refine xw_goto rfl ?_
      refine xw_lo (L2 := [(0, xa x0), (1, xi (w32 (x1 + 1)))]) (List.forall_mem_cons.mpr ⟨rfl, List.forall_mem_cons.mpr ⟨rfl, fun _ h => absurd h List.not_mem_nil⟩⟩) ?_
      exact q
    exact hr2 _ _ _ (w32_w _)
  · refine xS_of (pc' := 23) (L' := [(0, xa x0), (1, xi x1)]) (st' := []) (m' := m) (fun ex ns r q => ?_) ?_
    · refine xw_ic_geT rfl (w32_cg c1) (w32_cg (w32_xR _ _ _)) (Int.not_lt.mp h1) ?_
      exact q
    exact xS_ret (v := 0) rfl rfl rfl rfl
theorem ygl130_2 {B : Nat} (hB : B ≤ 512) {xs : Nat → Int32} {SL d : Nat} : ∀ n x0 x1 m, w32 x1 = x1 → xS B xs SL (d + 0) 130 (2, none, [], 9) 0 2 [(0, xa x0), (1, xi x1)] [] m (xl2 (yl130_2 B) n x0 x1 m) := by
  intro n
  induction n with
  | zero => intro x0 x1 m c1; exact xS_none
  | succ n ih => exact ysl130_2 hB ih
theorem ygf130 {B : Nat} (hB : B ≤ 512) {xs : Nat → Int32} {SL d : Nat} : ∀ t m, xS B xs SL (d + 0) 130 (2, none, [], 9) 0 0 [(0, xa t)] [] m (yf130 B t m) := by
  intro t m
  unfold yf130
  refine xS_of (pc' := 2) (L' := [(0, xa t), (1, xi 0)]) (st' := []) (m' := m) (fun ex ns r q => ?_) ?_
  · refine xw_iconst rfl ?_
    refine xw_istore_n (L' := [(1, xi 0), (0, xa t)]) rfl (by decide) rfl ?_
    refine xw_lo (L2 := [(0, xa t), (1, xi 0)]) (List.forall_mem_cons.mpr ⟨rfl, List.forall_mem_cons.mpr ⟨rfl, fun _ h => absurd h List.not_mem_nil⟩⟩) ?_
    exact q
  exact ygl130_2 hB 1000000 _ _ _ rfl
theorem ysl132_10 {B : Nat} (hB : B ≤ 512) {xs : Nat → Int32} {SL d : Nat} {r10 : Int → Int → Int → Int → xw_M → xP} (hr10 : ∀ x0 x2 x3 x4 m, w32 x2 = x2 → w32 x3 = x3 → w32 x4 = x4 → xS B xs SL (d + 1) 132 (5, none, [], 0) 0 10 [(0, xa x0), (2, xi x2), (3, xi x3), (4, xi x4)] [] m (r10 x0 x2 x3 x4 m)) : ∀ x0 x2 x3 x4 m, w32 x2 = x2 → w32 x3 = x3 → w32 x4 = x4 → xS B xs SL (d + 1) 132 (5, none, [], 0) 0 10 [(0, xa x0), (2, xi x2), (3, xi x3), (4, xi x4)] [] m (yl132_10 B r10 x0 x2 x3 x4 m) := by
  intro x0 x2 x3 x4 m c2 c3 c4
  unfold yl132_10
  refine xS_of (pc' := 13) (L' := [(0, xa x0), (2, xi x2), (3, xi x3), (4, xi x4)]) (st' := [xi x2, xi x4]) (m' := m) (fun ex ns r q => ?_) ?_
  · refine xw_iload rfl rfl ?_
    refine xw_iload_n rfl rfl ?_
    exact q
  refine xS_if (fun h0 => ?_) (fun h0 => ?_)
  · refine xS_g (fun g1 => ?_)
    refine xS_g (fun g2 => ?_)
    refine xS_of (pc' := 10) (L' := [(0, xa x0), (2, xi x2), (3, xi x3), (4, xi (w32 (x4 + 1)))]) (st' := []) (m' := (xw_u m x0 x4 x3)) (fun ex ns r q => ?_) ?_
    · refine xw_ic_geF rfl (w32_cg c4) (w32_cg c2) (Int.not_le.mpr h0) ?_
      refine xw_aload_n rfl rfl rfl ?_
      refine xw_iload rfl rfl ?_
      refine xw_iload_n rfl rfl ?_
      refine xw_iast (n := (xw_le B x0)) rfl hB (xw_obd g2) rfl g1 ?_
      refine xw_iincc (z := (w32 (x4 + 1))) (L' := [(4, xi (w32 (x4 + 1))), (0, xa x0), (2, xi x2), (3, xi x3)]) rfl rfl (by decide) rfl rfl ?_
      refine xw_goto rfl ?_
      refine xw_lo (L2 := [(0, xa x0), (2, xi x2), (3, xi x3), (4, xi (w32 (x4 + 1)))]) (List.forall_mem_cons.mpr ⟨rfl, List.forall_mem_cons.mpr ⟨rfl, List.forall_mem_cons.mpr ⟨rfl, List.forall_mem_cons.mpr ⟨rfl, fun _ h => absurd h List.not_mem_nil⟩⟩⟩⟩) ?_
      exact q
    exact hr10 _ _ _ _ _ c2 c3 (w32_w _)
  · refine xS_of (pc' := 27) (L' := [(0, xa x0), (2, xi x2), (3, xi x3), (4, xi x4)]) (st' := []) (m' := m) (fun ex ns r q => ?_) ?_
    · refine xw_ic_geT rfl (w32_cg c4) (w32_cg c2) (Int.not_lt.mp h0) ?_
      exact q
    exact xS_ret (v := 0) rfl rfl rfl rfl
theorem ygl132_10 {B : Nat} (hB : B ≤ 512) {xs : Nat → Int32} {SL d : Nat} : ∀ n x0 x2 x3 x4 m, w32 x2 = x2 → w32 x3 = x3 → w32 x4 = x4 → xS B xs SL (d + 1) 132 (5, none, [], 0) 0 10 [(0, xa x0), (2, xi x2), (3, xi x3), (4, xi x4)] [] m (xl4 (yl132_10 B) n x0 x2 x3 x4 m) := by
  intro n
  induction n with
  | zero => intro x0 x2 x3 x4 m c2 c3 c4; exact xS_none
  | succ n ih => exact ysl132_10 hB ih
theorem ygf132 {B : Nat} (hB : B ≤ 512) {xs : Nat → Int32} {SL d : Nat} : ∀ p0 p1 p2 p3 m, w32 p1 = p1 → w32 p2 = p2 → w32 p3 = p3 → xS B xs SL (d + 1) 132 (5, none, [], 0) 0 0 [(0, xa p0), (1, xi p1), (2, xi p2), (3, xi p3)] [] m (yf132 B p0 p1 p2 p3 m) := by
  intro p0 p1 p2 p3 m cp1 cp2 cp3
  unfold yf132
  refine xS_g (fun g0 => ?_)
  refine xS_of (pc' := 4) (L' := [(0, xa p0), (1, xi p1), (2, xi p2), (3, xi p3)]) (st' := [xi p2, xi p1, xi (w32 (xw_le B p0))]) (m' := m) (fun ex ns r q => ?_) ?_
  · refine xw_aload_n rfl rfl rfl ?_
    refine xw_lenr (t := 16) rfl (xw_obd g0) (by decide) rfl ?_
    refine xw_iload_n rfl rfl ?_
    refine xw_iload_n rfl rfl ?_
    refine xw_cst (st' := [xi p2, xi p1, xi (w32 (xw_le B p0))]) (xw_sc rfl (xw_sc rfl (xw_sc (xi_c rfl) rfl))) ?_
    refine xw_lo (L2 := [(0, xa p0), (1, xi p1), (2, xi p2), (3, xi p3)]) (List.forall_mem_cons.mpr ⟨rfl, List.forall_mem_cons.mpr ⟨rfl, List.forall_mem_cons.mpr ⟨rfl, List.forall_mem_cons.mpr ⟨rfl, fun _ h => absurd h List.not_mem_nil⟩⟩⟩⟩) ?_
    exact q
  refine xS_call (q := 121) (n := 3) (kq := 0) (as := [xi (w32 (xw_le B p0)), xi p1, xi p2]) (st1 := []) rfl rfl rfl rfl rfl rfl rfl rfl rfl rfl (fun _ => xw_rcv0 rfl) rfl (List.forall_mem_cons.mpr ⟨rfl, List.forall_mem_cons.mpr ⟨rfl, List.forall_mem_cons.mpr ⟨rfl, fun _ h => absurd h List.not_mem_nil⟩⟩⟩) (ygf121 hB _ _ _ _ (w32_w _) cp1 cp2) (fun v1 m1 cv1 => ?_)
  refine xS_of (pc' := 10) (L' := [(0, xa p0), (2, xi p2), (3, xi p3), (4, xi p1)]) (st' := []) (m' := m1) (fun ex ns r q => ?_) ?_
  · refine xw_iload_n rfl rfl ?_
    refine xw_istore (L' := [(4, xi p1), (0, xa p0), (1, xi p1), (2, xi p2), (3, xi p3)]) rfl (by decide) rfl ?_
    refine xw_lo (L2 := [(0, xa p0), (2, xi p2), (3, xi p3), (4, xi p1)]) (List.forall_mem_cons.mpr ⟨rfl, List.forall_mem_cons.mpr ⟨rfl, List.forall_mem_cons.mpr ⟨rfl, List.forall_mem_cons.mpr ⟨rfl, fun _ h => absurd h List.not_mem_nil⟩⟩⟩⟩) ?_
    exact q
  exact ygl132_10 hB 1000000 _ _ _ _ _ cp2 cp3 cp1
theorem ysl131_105 {B : Nat} (hB : B ≤ 512) {xs : Nat → Int32} {SL d : Nat} {r105 : Int → Int → Int → Int → xw_M → xP} (hr105 : ∀ x0 x2 x4 x5 m, w32 x5 = x5 → xS B xs SL (d + 2) 131 (8, none, [], 9) 0 105 [(0, xa x0), (2, xa x2), (4, xa x4), (5, xi x5)] [] m (r105 x0 x2 x4 x5 m)) : ∀ x0 x2 x4 x5 m, w32 x5 = x5 → xS B xs SL (d + 2) 131 (8, none, [], 9) 0 105 [(0, xa x0), (2, xa x2), (4, xa x4), (5, xi x5)] [] m (yl131_105 B r105 x0 x2 x4 x5 m) := by
  intro x0 x2 x4 x5 m c5
  unfold yl131_105
  refine xS_g (fun g0 => ?_)
  refine xS_of (pc' := 111) (L' := [(0, xa x0), (2, xa x2), (4, xa x4), (5, xi x5)]) (st' := [xi (xR m x0 5), xi x5]) (m' := m) (fun ex ns r q => ?_) ?_
  · refine xw_iload rfl rfl ?_
    refine xw_aload_n rfl rfl rfl ?_
    refine xw_gfIc (v := (m x0 5)) (v' := (xR m x0 5)) rfl (xw_obd g0) xk8_5 (qi := 5) rfl rfl rfl ?_
    exact q
  refine xS_if (fun h1 => ?_) (fun h1 => ?_)
  · refine xS_g (fun g2 => ?_)
    refine xS_g (fun g3 => ?_)
    refine xS_g (fun g4 => ?_)
    refine xS_g (fun g5 => ?_)
    refine xS_g (fun g6 => ?_)
    refine xS_g (fun g7 => ?_)
    refine xS_g (fun g8 => ?_)
    refine xS_g (fun g9 => ?_)
    refine xS_g (fun g10 => ?_)
    refine xS_g (fun g11 => ?_)
    refine xS_of (pc' := 105) (L' := [(0, xa x0), (2, xa x2), (4, xa x4), (5, xi (w32 (x5 + 1)))]) (st' := []) (m' := (xw_u (xw_u m (xw_rf x0 4) (xR m x2 (xR m x4 (xR m (xw_rf x0 2) x5))) ((xR m (xw_rf x0 4) (xR m x2 (xR m x4 (xR m (xw_rf x0 2) x5)))) + 1)) (xw_rf x0 3) (xR m (xw_rf x0 4) (xR m x2 (xR m x4 (xR m (xw_rf x0 2) x5)))) (xR m (xw_rf x0 2) x5))) (fun ex ns r q => ?_) ?_
    · refine xw_ic_geF rfl (w32_cg c5) (w32_cg (w32_xR _ _ _)) (Int.not_le.mpr h1) ?_
      refine xw_aload_n rfl rfl rfl ?_
      refine xw_gfV (qi := 2) rfl (xw_obd g0) xk8_2 rfl ?_
      refine xw_iload rfl rfl ?_
      refine xw_ialdc (n := (xw_le B (xw_rf x0 2))) (v := (m (xw_rf x0 2) x5)) (v' := (xR m (xw_rf x0 2) x5)) rfl hB (xw_obd g3) rfl g2 rfl rfl ?_
      refine xw_istore (L' := [(6, xi (xR m (xw_rf x0 2) x5)), (0, xa x0), (2, xa x2), (4, xa x4), (5, xi x5)]) rfl (by decide) rfl ?_
      refine xw_aload_n rfl rfl rfl ?_
      refine xw_nnR rfl ?_
      refine xw_aload_n rfl rfl rfl ?_
      refine xw_aload rfl rfl rfl ?_
      refine xw_iload rfl rfl ?_
      refine xw_ialdc (n := (xw_le B x4)) (v := (m x4 (xR m (xw_rf x0 2) x5))) (v' := (xR m x4 (xR m (xw_rf x0 2) x5))) rfl hB (xw_obd g5) rfl g4 rfl rfl ?_
      refine xw_ialdc (n := (xw_le B x2)) (v := (m x2 (xR m x4 (xR m (xw_rf x0 2) x5)))) (v' := (xR m x2 (xR m x4 (xR m (xw_rf x0 2) x5)))) rfl hB (xw_obd g7) rfl g6 rfl rfl ?_
      refine xw_istore (L' := [(7, xi (xR m x2 (xR m x4 (xR m (xw_rf x0 2) x5)))), (6, xi (xR m (xw_rf x0 2) x5)), (0, xa x0), (2, xa x2), (4, xa x4), (5, xi x5)]) rfl (by decide) rfl ?_
      refine xw_aload_n rfl rfl rfl ?_
      refine xw_gfV (qi := 3) rfl (xw_obd g0) xk8_3 rfl ?_
      refine xw_aload_n rfl rfl rfl ?_
      refine xw_gfV (qi := 4) rfl (xw_obd g0) xk8_4 rfl ?_
      refine xw_iload rfl rfl ?_
      refine xw_dup2 rfl rfl rfl ?_
      refine xw_ialdc (n := (xw_le B (xw_rf x0 4))) (v := (m (xw_rf x0 4) (xR m x2 (xR m x4 (xR m (xw_rf x0 2) x5))))) (v' := (xR m (xw_rf x0 4) (xR m x2 (xR m x4 (xR m (xw_rf x0 2) x5))))) rfl hB (xw_obd g9) rfl g8 rfl rfl ?_
      refine xw_dup_x2 rfl rfl ?_
      refine xw_iconst rfl ?_
      refine xw_iadd rfl ?_
      refine xw_iast (n := (xw_le B (xw_rf x0 4))) rfl hB (xw_obd g9) rfl g8 ?_
      refine xw_iload rfl rfl ?_
      refine xw_iast (n := (xw_le B (xw_rf x0 3))) rfl hB (xw_obd g11) rfl g10 ?_
      refine xw_iincc (z := (w32 (x5 + 1))) (L' := [(5, xi (w32 (x5 + 1))), (7, xi (xR m x2 (xR m x4 (xR m (xw_rf x0 2) x5)))), (6, xi (xR m (xw_rf x0 2) x5)), (0, xa x0), (2, xa x2), (4, xa x4)]) rfl rfl (by decide) rfl rfl ?_
      refine xw_goto rfl ?_
      refine xw_lo (L2 := [(0, xa x0), (2, xa x2), (4, xa x4), (5, xi (w32 (x5 + 1)))]) (List.forall_mem_cons.mpr ⟨rfl, List.forall_mem_cons.mpr ⟨rfl, List.forall_mem_cons.mpr ⟨rfl, List.forall_mem_cons.mpr ⟨rfl, fun _ h => absurd h List.not_mem_nil⟩⟩⟩⟩) ?_
      exact q
    exact hr105 _ _ _ _ _ (w32_w _)
  · refine xS_g (fun g2 => ?_)
    refine xS_g (fun g3 => ?_)
    refine xS_g (fun g4 => ?_)
    refine xS_of (pc' := 186) (L' := [(0, xa x0), (2, xa x2), (4, xa x4), (5, xi x5)]) (st' := []) (m' := (xw_cp m (xw_rf x0 3) 0 (xw_rf x0 2) 0 (xR m x0 5))) (fun ex ns r q => ?_) ?_
    · refine xw_ic_geT rfl (w32_cg c5) (w32_cg (w32_xR _ _ _)) (Int.not_lt.mp h1) ?_
      refine xw_aload_n rfl rfl rfl ?_
      refine xw_gfV (qi := 3) rfl (xw_obd g0) xk8_3 rfl ?_
      refine xw_iconst rfl ?_
      refine xw_aload_n rfl rfl rfl ?_
      refine xw_gfV (qi := 2) rfl (xw_obd g0) xk8_2 rfl ?_
      refine xw_iconst rfl ?_
      refine xw_aload_n rfl rfl rfl ?_
      refine xw_gfIc (v := (m x0 5)) (v' := (xR m x0 5)) rfl (xw_obd g0) xk8_5 (qi := 5) rfl rfl rfl ?_
      refine xw_acopy (t := 16) (ls := (xw_le B (xw_rf x0 3))) (ld := (xw_le B (xw_rf x0 2))) rfl rfl hB (xw_obd g3) (xw_obd g4) rfl rfl g2 rfl ?_
      exact q
    exact xS_ret (v := 0) rfl rfl rfl rfl
theorem ygl131_105 {B : Nat} (hB : B ≤ 512) {xs : Nat → Int32} {SL d : Nat} : ∀ n x0 x2 x4 x5 m, w32 x5 = x5 → xS B xs SL (d + 2) 131 (8, none, [], 9) 0 105 [(0, xa x0), (2, xa x2), (4, xa x4), (5, xi x5)] [] m (xl4 (yl131_105 B) n x0 x2 x4 x5 m) := by
  intro n
  induction n with
  | zero => intro x0 x2 x4 x5 m c5; exact xS_none
  | succ n ih => exact ysl131_105 hB ih
theorem ysl131_71 {B : Nat} (hB : B ≤ 512) {xs : Nat → Int32} {SL d : Nat} {r71 : Int → Int → Int → Int → Int → xw_M → xP} (hr71 : ∀ x0 x2 x3 x4 x5 m, w32 x3 = x3 → w32 x5 = x5 → xS B xs SL (d + 2) 131 (8, none, [], 9) 0 71 [(0, xa x0), (2, xa x2), (3, xi x3), (4, xa x4), (5, xi x5)] [] m (r71 x0 x2 x3 x4 x5 m)) : ∀ x0 x2 x3 x4 x5 m, w32 x3 = x3 → w32 x5 = x5 → xS B xs SL (d + 2) 131 (8, none, [], 9) 0 71 [(0, xa x0), (2, xa x2), (3, xi x3), (4, xa x4), (5, xi x5)] [] m (yl131_71 B r71 x0 x2 x3 x4 x5 m) := by
  intro x0 x2 x3 x4 x5 m c3 c5
  unfold yl131_71
  refine xS_of (pc' := 74) (L' := [(0, xa x0), (2, xa x2), (3, xi x3), (4, xa x4), (5, xi x5)]) (st' := [xi x3, xi x5]) (m' := m) (fun ex ns r q => ?_) ?_
  · refine xw_iload rfl rfl ?_
    refine xw_iload_n rfl rfl ?_
    exact q
  refine xS_if (fun h0 => ?_) (fun h0 => ?_)
  · refine xS_of (pc' := 105) (L' := [(0, xa x0), (2, xa x2), (4, xa x4), (5, xi 0)]) (st' := []) (m' := m) (fun ex ns r q => ?_) ?_
    · refine xw_ic_gtT rfl (w32_cg c5) (w32_cg c3) h0 ?_
      refine xw_iconst rfl ?_
      refine xw_istore (L' := [(5, xi 0), (0, xa x0), (2, xa x2), (3, xi x3), (4, xa x4)]) rfl (by decide) rfl ?_
      refine xw_lo (L2 := [(0, xa x0), (2, xa x2), (4, xa x4), (5, xi 0)]) (List.forall_mem_cons.mpr ⟨rfl, List.forall_mem_cons.mpr ⟨rfl, List.forall_mem_cons.mpr ⟨rfl, List.forall_mem_cons.mpr ⟨rfl, fun _ h => absurd h List.not_mem_nil⟩⟩⟩⟩) ?_
      exact q
    exact ygl131_105 hB 1000000 _ _ _ _ _ rfl
  · refine xS_g (fun g1 => ?_)
    refine xS_g (fun g2 => ?_)
    refine xS_g (fun g3 => ?_)
    refine xS_g (fun g4 => ?_)
    refine xS_of (pc' := 71) (L' := [(0, xa x0), (2, xa x2), (3, xi x3), (4, xa x4), (5, xi (w32 (x5 + 1)))]) (st' := []) (m' := (xw_u m (xw_rf x0 4) x5 ((xR m (xw_rf x0 4) x5) + (xR m (xw_rf x0 4) (x5 - 1))))) (fun ex ns r q => ?_) ?_
    · refine xw_ic_gtF rfl (w32_cg c5) (w32_cg c3) h0 ?_
      refine xw_aload_n rfl rfl rfl ?_
      refine xw_gfV (qi := 4) rfl (xw_obd g1) xk8_4 rfl ?_
      refine xw_iload rfl rfl ?_
      refine xw_dup2 rfl rfl rfl ?_
      refine xw_ialdc (n := (xw_le B (xw_rf x0 4))) (v := (m (xw_rf x0 4) x5)) (v' := (xR m (xw_rf x0 4) x5)) rfl hB (xw_obd g3) rfl g2 rfl rfl ?_
      refine xw_aload_n rfl rfl rfl ?_
      refine xw_gfV (qi := 4) rfl (xw_obd g1) xk8_4 rfl ?_
      refine xw_iload rfl rfl ?_
      refine xw_iconst rfl ?_
      refine xw_isub rfl ?_
      refine xw_ialdc (n := (xw_le B (xw_rf x0 4))) (v := (m (xw_rf x0 4) (x5 - 1))) (v' := (xR m (xw_rf x0 4) (x5 - 1))) rfl hB (xw_obd g3) rfl g4 rfl rfl ?_
      refine xw_iadd rfl ?_
      refine xw_iast (n := (xw_le B (xw_rf x0 4))) rfl hB (xw_obd g3) rfl g2 ?_
      refine xw_iincc (z := (w32 (x5 + 1))) (L' := [(5, xi (w32 (x5 + 1))), (0, xa x0), (2, xa x2), (3, xi x3), (4, xa x4)]) rfl rfl (by decide) rfl rfl ?_
      refine xw_goto rfl ?_
      refine xw_lo (L2 := [(0, xa x0), (2, xa x2), (3, xi x3), (4, xa x4), (5, xi (w32 (x5 + 1)))]) (List.forall_mem_cons.mpr ⟨rfl, List.forall_mem_cons.mpr ⟨rfl, List.forall_mem_cons.mpr ⟨rfl, List.forall_mem_cons.mpr ⟨rfl, List.forall_mem_cons.mpr ⟨rfl, fun _ h => absurd h List.not_mem_nil⟩⟩⟩⟩⟩) ?_
      exact q
    exact hr71 _ _ _ _ _ _ c3 (w32_w _)
theorem ygl131_71 {B : Nat} (hB : B ≤ 512) {xs : Nat → Int32} {SL d : Nat} : ∀ n x0 x2 x3 x4 x5 m, w32 x3 = x3 → w32 x5 = x5 → xS B xs SL (d + 2) 131 (8, none, [], 9) 0 71 [(0, xa x0), (2, xa x2), (3, xi x3), (4, xa x4), (5, xi x5)] [] m (xl5 (yl131_71 B) n x0 x2 x3 x4 x5 m) := by
  intro n
  induction n with
  | zero => intro x0 x2 x3 x4 x5 m c3 c5; exact xS_none
  | succ n ih => exact ysl131_71 hB ih
theorem ysl131_23 {B : Nat} (hB : B ≤ 512) {xs : Nat → Int32} {SL d : Nat} {r23 : Int → Int → Int → Int → Int → xw_M → xP} (hr23 : ∀ x0 x2 x3 x4 x5 m, w32 x3 = x3 → w32 x5 = x5 → xS B xs SL (d + 2) 131 (8, none, [], 9) 0 23 [(0, xa x0), (2, xa x2), (3, xi x3), (4, xa x4), (5, xi x5)] [] m (r23 x0 x2 x3 x4 x5 m)) : ∀ x0 x2 x3 x4 x5 m, w32 x3 = x3 → w32 x5 = x5 → xS B xs SL (d + 2) 131 (8, none, [], 9) 0 23 [(0, xa x0), (2, xa x2), (3, xi x3), (4, xa x4), (5, xi x5)] [] m (yl131_23 B r23 x0 x2 x3 x4 x5 m) := by
  intro x0 x2 x3 x4 x5 m c3 c5
  unfold yl131_23
  refine xS_g (fun g0 => ?_)
  refine xS_of (pc' := 29) (L' := [(0, xa x0), (2, xa x2), (3, xi x3), (4, xa x4), (5, xi x5)]) (st' := [xi (xR m x0 5), xi x5]) (m' := m) (fun ex ns r q => ?_) ?_
  · refine xw_iload rfl rfl ?_
    refine xw_aload_n rfl rfl rfl ?_
    refine xw_gfIc (v := (m x0 5)) (v' := (xR m x0 5)) rfl (xw_obd g0) xk8_5 (qi := 5) rfl rfl rfl ?_
    exact q
  refine xS_if (fun h1 => ?_) (fun h1 => ?_)
  · refine xS_g (fun g2 => ?_)
    refine xS_g (fun g3 => ?_)
    refine xS_g (fun g4 => ?_)
    refine xS_g (fun g5 => ?_)
    refine xS_g (fun g6 => ?_)
    refine xS_g (fun g7 => ?_)
    refine xS_of (pc' := 23) (L' := [(0, xa x0), (2, xa x2), (3, xi x3), (4, xa x4), (5, xi (w32 (x5 + 1)))]) (st' := []) (m' := (xw_u m (xw_rf x0 4) ((xR m x2 (xR m x4 x5)) + 1) ((xR m (xw_rf x0 4) ((xR m x2 (xR m x4 x5)) + 1)) + 1))) (fun ex ns r q => ?_) ?_
    · refine xw_ic_geF rfl (w32_cg c5) (w32_cg (w32_xR _ _ _)) (Int.not_le.mpr h1) ?_
      refine xw_aload_n rfl rfl rfl ?_
      refine xw_gfV (qi := 4) rfl (xw_obd g0) xk8_4 rfl ?_
      refine xw_aload_n rfl rfl rfl ?_
      refine xw_nnR rfl ?_
      refine xw_aload_n rfl rfl rfl ?_
      refine xw_aload rfl rfl rfl ?_
      refine xw_iload rfl rfl ?_
      refine xw_ialdc (n := (xw_le B x4)) (v := (m x4 x5)) (v' := (xR m x4 x5)) rfl hB (xw_obd g3) rfl g2 rfl rfl ?_
      refine xw_ialdc (n := (xw_le B x2)) (v := (m x2 (xR m x4 x5))) (v' := (xR m x2 (xR m x4 x5))) rfl hB (xw_obd g5) rfl g4 rfl rfl ?_
      refine xw_iconst rfl ?_
      refine xw_iadd rfl ?_
      refine xw_dup2 rfl rfl rfl ?_
      refine xw_ialdc (n := (xw_le B (xw_rf x0 4))) (v := (m (xw_rf x0 4) ((xR m x2 (xR m x4 x5)) + 1))) (v' := (xR m (xw_rf x0 4) ((xR m x2 (xR m x4 x5)) + 1))) rfl hB (xw_obd g7) rfl g6 rfl rfl ?_
      refine xw_iconst rfl ?_
      refine xw_iadd rfl ?_
      refine xw_iast (n := (xw_le B (xw_rf x0 4))) rfl hB (xw_obd g7) rfl g6 ?_
      refine xw_iincc (z := (w32 (x5 + 1))) (L' := [(5, xi (w32 (x5 + 1))), (0, xa x0), (2, xa x2), (3, xi x3), (4, xa x4)]) rfl rfl (by decide) rfl rfl ?_
      refine xw_goto rfl ?_
      refine xw_lo (L2 := [(0, xa x0), (2, xa x2), (3, xi x3), (4, xa x4), (5, xi (w32 (x5 + 1)))]) (List.forall_mem_cons.mpr ⟨rfl, List.forall_mem_cons.mpr ⟨rfl, List.forall_mem_cons.mpr ⟨rfl, List.forall_mem_cons.mpr ⟨rfl, List.forall_mem_cons.mpr ⟨rfl, fun _ h => absurd h List.not_mem_nil⟩⟩⟩⟩⟩) ?_
      exact q
    exact hr23 _ _ _ _ _ _ c3 (w32_w _)
  · refine xS_of (pc' := 71) (L' := [(0, xa x0), (2, xa x2), (3, xi x3), (4, xa x4), (5, xi 1)]) (st' := []) (m' := m) (fun ex ns r q => ?_) ?_
    · refine xw_ic_geT rfl (w32_cg c5) (w32_cg (w32_xR _ _ _)) (Int.not_lt.mp h1) ?_
      refine xw_iconst rfl ?_
      refine xw_istore (L' := [(5, xi 1), (0, xa x0), (2, xa x2), (3, xi x3), (4, xa x4)]) rfl (by decide) rfl ?_
      refine xw_lo (L2 := [(0, xa x0), (2, xa x2), (3, xi x3), (4, xa x4), (5, xi 1)]) (List.forall_mem_cons.mpr ⟨rfl, List.forall_mem_cons.mpr ⟨rfl, List.forall_mem_cons.mpr ⟨rfl, List.forall_mem_cons.mpr ⟨rfl, List.forall_mem_cons.mpr ⟨rfl, fun _ h => absurd h List.not_mem_nil⟩⟩⟩⟩⟩) ?_
      exact q
    exact ygl131_71 hB 1000000 _ _ _ _ _ _ c3 rfl
theorem ygl131_23 {B : Nat} (hB : B ≤ 512) {xs : Nat → Int32} {SL d : Nat} : ∀ n x0 x2 x3 x4 x5 m, w32 x3 = x3 → w32 x5 = x5 → xS B xs SL (d + 2) 131 (8, none, [], 9) 0 23 [(0, xa x0), (2, xa x2), (3, xi x3), (4, xa x4), (5, xi x5)] [] m (xl5 (yl131_23 B) n x0 x2 x3 x4 x5 m) := by
  intro n
  induction n with
  | zero => intro x0 x2 x3 x4 x5 m c3 c5; exact xS_none
  | succ n ih => exact ysl131_23 hB ih
theorem ygf131 {B : Nat} (hB : B ≤ 512) {xs : Nat → Int32} {SL d : Nat} : ∀ t p0 p1 p2 m, w32 p0 = p0 → w32 p2 = p2 → xS B xs SL (d + 2) 131 (8, none, [], 9) 0 0 [(0, xa t), (1, xi p0), (2, xa p1), (3, xi p2)] [] m (yf131 B t p0 p1 p2 m) := by
  intro t p0 p1 p2 m cp0 cp2
  unfold yf131
  refine xS_g (fun g0 => ?_)
  refine xS_g (fun g1 => ?_)
  refine xS_g (fun g2 => ?_)
  refine xS_g (fun g3 => ?_)
  refine xS_of (pc' := 17) (L' := [(0, xa t), (2, xa p1), (3, xi p2), (4, xa (xw_rf (xw_rf t 0) p0))]) (st' := [xi 0, xi (w32 (p2 + 1)), xi 0, xa (xw_rf t 4)]) (m' := m) (fun ex ns r q => ?_) ?_
  · refine xw_aload_n rfl rfl rfl ?_
    refine xw_gfV (qi := 0) rfl (xw_obd g0) xk8_0 rfl ?_
    refine xw_iload_n rfl rfl ?_
    refine xw_aald (t := 20) (n := (xw_le B (xw_rf t 0))) (q := xw_kd (xw_rf t 0) p0 - 5) (e := (xw_rf (xw_rf t 0) p0)) rfl hB (xw_obd g3) (by decide) rfl g1 (by have := g2; omega) (xw_rfn g2) ?_
    refine xw_astore (L' := [(4, xa (xw_rf (xw_rf t 0) p0)), (0, xa t), (1, xi p0), (2, xa p1), (3, xi p2)]) rfl rfl (by decide) rfl ?_
    refine xw_aload_n rfl rfl rfl ?_
    refine xw_gfV (qi := 4) rfl (xw_obd g0) xk8_4 rfl ?_
    refine xw_iconst rfl ?_
    refine xw_iload_n rfl rfl ?_
    refine xw_iconst rfl ?_
    refine xw_iadd rfl ?_
    refine xw_iconst rfl ?_
    refine xw_cst (st' := [xi 0, xi (w32 (p2 + 1)), xi 0, xa (xw_rf t 4)]) (xw_sc rfl (xw_sc (xi_c rfl) (xw_sc rfl (xw_sc rfl rfl)))) ?_
    refine xw_lo (L2 := [(0, xa t), (2, xa p1), (3, xi p2), (4, xa (xw_rf (xw_rf t 0) p0))]) (List.forall_mem_cons.mpr ⟨rfl, List.forall_mem_cons.mpr ⟨rfl, List.forall_mem_cons.mpr ⟨rfl, List.forall_mem_cons.mpr ⟨rfl, fun _ h => absurd h List.not_mem_nil⟩⟩⟩⟩) ?_
    exact q
  refine xS_call (q := 132) (n := 4) (kq := 0) (as := [xa (xw_rf t 4), xi 0, xi (w32 (p2 + 1)), xi 0]) (st1 := []) rfl rfl rfl rfl rfl rfl rfl rfl rfl rfl (fun _ => xw_rcv0 rfl) rfl (List.forall_mem_cons.mpr ⟨rfl, List.forall_mem_cons.mpr ⟨rfl, List.forall_mem_cons.mpr ⟨rfl, List.forall_mem_cons.mpr ⟨rfl, fun _ h => absurd h List.not_mem_nil⟩⟩⟩⟩) (ygf132 hB _ _ _ _ _ rfl (w32_w _) rfl) (fun v1 m1 cv1 => ?_)
  refine xS_of (pc' := 23) (L' := [(0, xa t), (2, xa p1), (3, xi p2), (4, xa (xw_rf (xw_rf t 0) p0)), (5, xi 0)]) (st' := []) (m' := m1) (fun ex ns r q => ?_) ?_
  · refine xw_iconst rfl ?_
    refine xw_istore (L' := [(5, xi 0), (0, xa t), (2, xa p1), (3, xi p2), (4, xa (xw_rf (xw_rf t 0) p0))]) rfl (by decide) rfl ?_
    refine xw_lo (L2 := [(0, xa t), (2, xa p1), (3, xi p2), (4, xa (xw_rf (xw_rf t 0) p0)), (5, xi 0)]) (List.forall_mem_cons.mpr ⟨rfl, List.forall_mem_cons.mpr ⟨rfl, List.forall_mem_cons.mpr ⟨rfl, List.forall_mem_cons.mpr ⟨rfl, List.forall_mem_cons.mpr ⟨rfl, fun _ h => absurd h List.not_mem_nil⟩⟩⟩⟩⟩) ?_
    exact q
  exact ygl131_23 hB 1000000 _ _ _ _ _ _ cp2 rfl
theorem ysl131n_105 {B : Nat} (hB : B ≤ 512) {xs : Nat → Int32} {SL d : Nat} {r105 : Int → Int → Int → xw_M → xP} (hr105 : ∀ x0 x4 x5 m, w32 x5 = x5 → xS B xs SL (d + 2) 131 (8, none, [], 9) 0 105 [(0, xa x0), (2, .null), (4, xa x4), (5, xi x5)] [] m (r105 x0 x4 x5 m)) : ∀ x0 x4 x5 m, w32 x5 = x5 → xS B xs SL (d + 2) 131 (8, none, [], 9) 0 105 [(0, xa x0), (2, .null), (4, xa x4), (5, xi x5)] [] m (yl131n_105 B r105 x0 x4 x5 m) := by
  intro x0 x4 x5 m c5
  unfold yl131n_105
  refine xS_g (fun g0 => ?_)
  refine xS_of (pc' := 111) (L' := [(0, xa x0), (2, .null), (4, xa x4), (5, xi x5)]) (st' := [xi (xR m x0 5), xi x5]) (m' := m) (fun ex ns r q => ?_) ?_
  · refine xw_iload rfl rfl ?_
    refine xw_aload_n rfl rfl rfl ?_
    refine xw_gfIc (v := (m x0 5)) (v' := (xR m x0 5)) rfl (xw_obd g0) xk8_5 (qi := 5) rfl rfl rfl ?_
    exact q
  refine xS_if (fun h1 => ?_) (fun h1 => ?_)
  · refine xS_g (fun g2 => ?_)
    refine xS_g (fun g3 => ?_)
    refine xS_g (fun g4 => ?_)
    refine xS_g (fun g5 => ?_)
    refine xS_g (fun g6 => ?_)
    refine xS_g (fun g7 => ?_)
    refine xS_g (fun g8 => ?_)
    refine xS_g (fun g9 => ?_)
    refine xS_of (pc' := 105) (L' := [(0, xa x0), (2, .null), (4, xa x4), (5, xi (w32 (x5 + 1)))]) (st' := []) (m' := (xw_u (xw_u m (xw_rf x0 4) (xR m x4 (xR m (xw_rf x0 2) x5)) ((xR m (xw_rf x0 4) (xR m x4 (xR m (xw_rf x0 2) x5))) + 1)) (xw_rf x0 3) (xR m (xw_rf x0 4) (xR m x4 (xR m (xw_rf x0 2) x5))) (xR m (xw_rf x0 2) x5))) (fun ex ns r q => ?_) ?_
    · refine xw_ic_geF rfl (w32_cg c5) (w32_cg (w32_xR _ _ _)) (Int.not_le.mpr h1) ?_
      refine xw_aload_n rfl rfl rfl ?_
      refine xw_gfV (qi := 2) rfl (xw_obd g0) xk8_2 rfl ?_
      refine xw_iload rfl rfl ?_
      refine xw_ialdc (n := (xw_le B (xw_rf x0 2))) (v := (m (xw_rf x0 2) x5)) (v' := (xR m (xw_rf x0 2) x5)) rfl hB (xw_obd g3) rfl g2 rfl rfl ?_
      refine xw_istore (L' := [(6, xi (xR m (xw_rf x0 2) x5)), (0, xa x0), (2, .null), (4, xa x4), (5, xi x5)]) rfl (by decide) rfl ?_
      refine xw_aload_n rfl rfl rfl ?_
      refine xw_nnN rfl ?_
      refine xw_aload rfl rfl rfl ?_
      refine xw_iload rfl rfl ?_
      refine xw_ialdc (n := (xw_le B x4)) (v := (m x4 (xR m (xw_rf x0 2) x5))) (v' := (xR m x4 (xR m (xw_rf x0 2) x5))) rfl hB (xw_obd g5) rfl g4 rfl rfl ?_
      refine xw_goto rfl ?_
      refine xw_istore (L' := [(7, xi (xR m x4 (xR m (xw_rf x0 2) x5))), (6, xi (xR m (xw_rf x0 2) x5)), (0, xa x0), (2, .null), (4, xa x4), (5, xi x5)]) rfl (by decide) rfl ?_
      refine xw_aload_n rfl rfl rfl ?_
      refine xw_gfV (qi := 3) rfl (xw_obd g0) xk8_3 rfl ?_
      refine xw_aload_n rfl rfl rfl ?_
      refine xw_gfV (qi := 4) rfl (xw_obd g0) xk8_4 rfl ?_
      refine xw_iload rfl rfl ?_
      refine xw_dup2 rfl rfl rfl ?_
      refine xw_ialdc (n := (xw_le B (xw_rf x0 4))) (v := (m (xw_rf x0 4) (xR m x4 (xR m (xw_rf x0 2) x5)))) (v' := (xR m (xw_rf x0 4) (xR m x4 (xR m (xw_rf x0 2) x5)))) rfl hB (xw_obd g7) rfl g6 rfl rfl ?_
      refine xw_dup_x2 rfl rfl ?_
      refine xw_iconst rfl ?_
      refine xw_iadd rfl ?_
      refine xw_iast (n := (xw_le B (xw_rf x0 4))) rfl hB (xw_obd g7) rfl g6 ?_
      refine xw_iload rfl rfl ?_
      refine xw_iast (n := (xw_le B (xw_rf x0 3))) rfl hB (xw_obd g9) rfl g8 ?_
      refine xw_iincc (z := (w32 (x5 + 1))) (L' := [(5, xi (w32 (x5 + 1))), (7, xi (xR m x4 (xR m (xw_rf x0 2) x5))), (6, xi (xR m (xw_rf x0 2) x5)), (0, xa x0), (2, .null), (4, xa x4)]) rfl rfl (by decide) rfl rfl ?_
      refine xw_goto rfl ?_
      refine xw_lo (L2 := [(0, xa x0), (2, .null), (4, xa x4), (5, xi (w32 (x5 + 1)))]) (List.forall_mem_cons.mpr ⟨rfl, List.forall_mem_cons.mpr ⟨rfl, List.forall_mem_cons.mpr ⟨rfl, List.forall_mem_cons.mpr ⟨rfl, fun _ h => absurd h List.not_mem_nil⟩⟩⟩⟩) ?_
      exact q
    exact hr105 _ _ _ _ (w32_w _)
  · refine xS_g (fun g2 => ?_)
    refine xS_g (fun g3 => ?_)
    refine xS_g (fun g4 => ?_)
    refine xS_of (pc' := 186) (L' := [(0, xa x0), (2, .null), (4, xa x4), (5, xi x5)]) (st' := []) (m' := (xw_cp m (xw_rf x0 3) 0 (xw_rf x0 2) 0 (xR m x0 5))) (fun ex ns r q => ?_) ?_
    · refine xw_ic_geT rfl (w32_cg c5) (w32_cg (w32_xR _ _ _)) (Int.not_lt.mp h1) ?_
      refine xw_aload_n rfl rfl rfl ?_
      refine xw_gfV (qi := 3) rfl (xw_obd g0) xk8_3 rfl ?_
      refine xw_iconst rfl ?_
      refine xw_aload_n rfl rfl rfl ?_
      refine xw_gfV (qi := 2) rfl (xw_obd g0) xk8_2 rfl ?_
      refine xw_iconst rfl ?_
      refine xw_aload_n rfl rfl rfl ?_
      refine xw_gfIc (v := (m x0 5)) (v' := (xR m x0 5)) rfl (xw_obd g0) xk8_5 (qi := 5) rfl rfl rfl ?_
      refine xw_acopy (t := 16) (ls := (xw_le B (xw_rf x0 3))) (ld := (xw_le B (xw_rf x0 2))) rfl rfl hB (xw_obd g3) (xw_obd g4) rfl rfl g2 rfl ?_
      exact q
    exact xS_ret (v := 0) rfl rfl rfl rfl
theorem ygl131n_105 {B : Nat} (hB : B ≤ 512) {xs : Nat → Int32} {SL d : Nat} : ∀ n x0 x4 x5 m, w32 x5 = x5 → xS B xs SL (d + 2) 131 (8, none, [], 9) 0 105 [(0, xa x0), (2, .null), (4, xa x4), (5, xi x5)] [] m (xl3 (yl131n_105 B) n x0 x4 x5 m) := by
  intro n
  induction n with
  | zero => intro x0 x4 x5 m c5; exact xS_none
  | succ n ih => exact ysl131n_105 hB ih
theorem ysl131n_71 {B : Nat} (hB : B ≤ 512) {xs : Nat → Int32} {SL d : Nat} {r71 : Int → Int → Int → Int → xw_M → xP} (hr71 : ∀ x0 x3 x4 x5 m, w32 x3 = x3 → w32 x5 = x5 → xS B xs SL (d + 2) 131 (8, none, [], 9) 0 71 [(0, xa x0), (2, .null), (3, xi x3), (4, xa x4), (5, xi x5)] [] m (r71 x0 x3 x4 x5 m)) : ∀ x0 x3 x4 x5 m, w32 x3 = x3 → w32 x5 = x5 → xS B xs SL (d + 2) 131 (8, none, [], 9) 0 71 [(0, xa x0), (2, .null), (3, xi x3), (4, xa x4), (5, xi x5)] [] m (yl131n_71 B r71 x0 x3 x4 x5 m) := by
  intro x0 x3 x4 x5 m c3 c5
  unfold yl131n_71
  refine xS_of (pc' := 74) (L' := [(0, xa x0), (2, .null), (3, xi x3), (4, xa x4), (5, xi x5)]) (st' := [xi x3, xi x5]) (m' := m) (fun ex ns r q => ?_) ?_
  · refine xw_iload rfl rfl ?_
    refine xw_iload_n rfl rfl ?_
    exact q
  refine xS_if (fun h0 => ?_) (fun h0 => ?_)
  · refine xS_of (pc' := 105) (L' := [(0, xa x0), (2, .null), (4, xa x4), (5, xi 0)]) (st' := []) (m' := m) (fun ex ns r q => ?_) ?_
    · refine xw_ic_gtT rfl (w32_cg c5) (w32_cg c3) h0 ?_
      refine xw_iconst rfl ?_
      refine xw_istore (L' := [(5, xi 0), (0, xa x0), (2, .null), (3, xi x3), (4, xa x4)]) rfl (by decide) rfl ?_
      refine xw_lo (L2 := [(0, xa x0), (2, .null), (4, xa x4), (5, xi 0)]) (List.forall_mem_cons.mpr ⟨rfl, List.forall_mem_cons.mpr ⟨rfl, List.forall_mem_cons.mpr ⟨rfl, List.forall_mem_cons.mpr ⟨rfl, fun _ h => absurd h List.not_mem_nil⟩⟩⟩⟩) ?_
      exact q
    exact ygl131n_105 hB 1000000 _ _ _ _ rfl
  · refine xS_g (fun g1 => ?_)
    refine xS_g (fun g2 => ?_)
    refine xS_g (fun g3 => ?_)
    refine xS_g (fun g4 => ?_)
    refine xS_of (pc' := 71) (L' := [(0, xa x0), (2, .null), (3, xi x3), (4, xa x4), (5, xi (w32 (x5 + 1)))]) (st' := []) (m' := (xw_u m (xw_rf x0 4) x5 ((xR m (xw_rf x0 4) x5) + (xR m (xw_rf x0 4) (x5 - 1))))) (fun ex ns r q => ?_) ?_
    · refine xw_ic_gtF rfl (w32_cg c5) (w32_cg c3) h0 ?_
      refine xw_aload_n rfl rfl rfl ?_
      refine xw_gfV (qi := 4) rfl (xw_obd g1) xk8_4 rfl ?_
      refine xw_iload rfl rfl ?_
      refine xw_dup2 rfl rfl rfl ?_
      refine xw_ialdc (n := (xw_le B (xw_rf x0 4))) (v := (m (xw_rf x0 4) x5)) (v' := (xR m (xw_rf x0 4) x5)) rfl hB (xw_obd g3) rfl g2 rfl rfl ?_
      refine xw_aload_n rfl rfl rfl ?_
      refine xw_gfV (qi := 4) rfl (xw_obd g1) xk8_4 rfl ?_
      refine xw_iload rfl rfl ?_
      refine xw_iconst rfl ?_
      refine xw_isub rfl ?_
      refine xw_ialdc (n := (xw_le B (xw_rf x0 4))) (v := (m (xw_rf x0 4) (x5 - 1))) (v' := (xR m (xw_rf x0 4) (x5 - 1))) rfl hB (xw_obd g3) rfl g4 rfl rfl ?_
      refine xw_iadd rfl ?_
      refine xw_iast (n := (xw_le B (xw_rf x0 4))) rfl hB (xw_obd g3) rfl g2 ?_
      refine xw_iincc (z := (w32 (x5 + 1))) (L' := [(5, xi (w32 (x5 + 1))), (0, xa x0), (2, .null), (3, xi x3), (4, xa x4)]) rfl rfl (by decide) rfl rfl ?_
      refine xw_goto rfl ?_
      refine xw_lo (L2 := [(0, xa x0), (2, .null), (3, xi x3), (4, xa x4), (5, xi (w32 (x5 + 1)))]) (List.forall_mem_cons.mpr ⟨rfl, List.forall_mem_cons.mpr ⟨rfl, List.forall_mem_cons.mpr ⟨rfl, List.forall_mem_cons.mpr ⟨rfl, List.forall_mem_cons.mpr ⟨rfl, fun _ h => absurd h List.not_mem_nil⟩⟩⟩⟩⟩) ?_
      exact q
    exact hr71 _ _ _ _ _ c3 (w32_w _)
theorem ygl131n_71 {B : Nat} (hB : B ≤ 512) {xs : Nat → Int32} {SL d : Nat} : ∀ n x0 x3 x4 x5 m, w32 x3 = x3 → w32 x5 = x5 → xS B xs SL (d + 2) 131 (8, none, [], 9) 0 71 [(0, xa x0), (2, .null), (3, xi x3), (4, xa x4), (5, xi x5)] [] m (xl4 (yl131n_71 B) n x0 x3 x4 x5 m) := by
  intro n
  induction n with
  | zero => intro x0 x3 x4 x5 m c3 c5; exact xS_none
  | succ n ih => exact ysl131n_71 hB ih
theorem ysl131n_23 {B : Nat} (hB : B ≤ 512) {xs : Nat → Int32} {SL d : Nat} {r23 : Int → Int → Int → Int → xw_M → xP} (hr23 : ∀ x0 x3 x4 x5 m, w32 x3 = x3 → w32 x5 = x5 → xS B xs SL (d + 2) 131 (8, none, [], 9) 0 23 [(0, xa x0), (2, .null), (3, xi x3), (4, xa x4), (5, xi x5)] [] m (r23 x0 x3 x4 x5 m)) : ∀ x0 x3 x4 x5 m, w32 x3 = x3 → w32 x5 = x5 → xS B xs SL (d + 2) 131 (8, none, [], 9) 0 23 [(0, xa x0), (2, .null), (3, xi x3), (4, xa x4), (5, xi x5)] [] m (yl131n_23 B r23 x0 x3 x4 x5 m) := by
  intro x0 x3 x4 x5 m c3 c5
  unfold yl131n_23
  refine xS_g (fun g0 => ?_)
  refine xS_of (pc' := 29) (L' := [(0, xa x0), (2, .null), (3, xi x3), (4, xa x4), (5, xi x5)]) (st' := [xi (xR m x0 5), xi x5]) (m' := m) (fun ex ns r q => ?_) ?_
  · refine xw_iload rfl rfl ?_
    refine xw_aload_n rfl rfl rfl ?_
    refine xw_gfIc (v := (m x0 5)) (v' := (xR m x0 5)) rfl (xw_obd g0) xk8_5 (qi := 5) rfl rfl rfl ?_
    exact q
  refine xS_if (fun h1 => ?_) (fun h1 => ?_)
  · refine xS_g (fun g2 => ?_)
    refine xS_g (fun g3 => ?_)
    refine xS_g (fun g4 => ?_)
    refine xS_g (fun g5 => ?_)
    refine xS_of (pc' := 23) (L' := [(0, xa x0), (2, .null), (3, xi x3), (4, xa x4), (5, xi (w32 (x5 + 1)))]) (st' := []) (m' := (xw_u m (xw_rf x0 4) ((xR m x4 x5) + 1) ((xR m (xw_rf x0 4) ((xR m x4 x5) + 1)) + 1))) (fun ex ns r q => ?_) ?_
    · refine xw_ic_geF rfl (w32_cg c5) (w32_cg (w32_xR _ _ _)) (Int.not_le.mpr h1) ?_
      refine xw_aload_n rfl rfl rfl ?_
      refine xw_gfV (qi := 4) rfl (xw_obd g0) xk8_4 rfl ?_
      refine xw_aload_n rfl rfl rfl ?_
      refine xw_nnN rfl ?_
      refine xw_aload rfl rfl rfl ?_
      refine xw_iload rfl rfl ?_
      refine xw_ialdc (n := (xw_le B x4)) (v := (m x4 x5)) (v' := (xR m x4 x5)) rfl hB (xw_obd g3) rfl g2 rfl rfl ?_
      refine xw_goto rfl ?_
      refine xw_iconst rfl ?_
      refine xw_iadd rfl ?_
      refine xw_dup2 rfl rfl rfl ?_
      refine xw_ialdc (n := (xw_le B (xw_rf x0 4))) (v := (m (xw_rf x0 4) ((xR m x4 x5) + 1))) (v' := (xR m (xw_rf x0 4) ((xR m x4 x5) + 1))) rfl hB (xw_obd g5) rfl g4 rfl rfl ?_
      refine xw_iconst rfl ?_
      refine xw_iadd rfl ?_
      refine xw_iast (n := (xw_le B (xw_rf x0 4))) rfl hB (xw_obd g5) rfl g4 ?_
      refine xw_iincc (z := (w32 (x5 + 1))) (L' := [(5, xi (w32 (x5 + 1))), (0, xa x0), (2, .null), (3, xi x3), (4, xa x4)]) rfl rfl (by decide) rfl rfl ?_
      refine xw_goto rfl ?_
      refine xw_lo (L2 := [(0, xa x0), (2, .null), (3, xi x3), (4, xa x4), (5, xi (w32 (x5 + 1)))]) (List.forall_mem_cons.mpr ⟨rfl, List.forall_mem_cons.mpr ⟨rfl, List.forall_mem_cons.mpr ⟨rfl, List.forall_mem_cons.mpr ⟨rfl, List.forall_mem_cons.mpr ⟨rfl, fun _ h => absurd h List.not_mem_nil⟩⟩⟩⟩⟩) ?_
      exact q
    exact hr23 _ _ _ _ _ c3 (w32_w _)
  · refine xS_of (pc' := 71) (L' := [(0, xa x0), (2, .null), (3, xi x3), (4, xa x4), (5, xi 1)]) (st' := []) (m' := m) (fun ex ns r q => ?_) ?_
    · refine xw_ic_geT rfl (w32_cg c5) (w32_cg (w32_xR _ _ _)) (Int.not_lt.mp h1) ?_
      refine xw_iconst rfl ?_
      refine xw_istore (L' := [(5, xi 1), (0, xa x0), (2, .null), (3, xi x3), (4, xa x4)]) rfl (by decide) rfl ?_
      refine xw_lo (L2 := [(0, xa x0), (2, .null), (3, xi x3), (4, xa x4), (5, xi 1)]) (List.forall_mem_cons.mpr ⟨rfl, List.forall_mem_cons.mpr ⟨rfl, List.forall_mem_cons.mpr ⟨rfl, List.forall_mem_cons.mpr ⟨rfl, List.forall_mem_cons.mpr ⟨rfl, fun _ h => absurd h List.not_mem_nil⟩⟩⟩⟩⟩) ?_
      exact q
    exact ygl131n_71 hB 1000000 _ _ _ _ _ c3 rfl
theorem ygl131n_23 {B : Nat} (hB : B ≤ 512) {xs : Nat → Int32} {SL d : Nat} : ∀ n x0 x3 x4 x5 m, w32 x3 = x3 → w32 x5 = x5 → xS B xs SL (d + 2) 131 (8, none, [], 9) 0 23 [(0, xa x0), (2, .null), (3, xi x3), (4, xa x4), (5, xi x5)] [] m (xl4 (yl131n_23 B) n x0 x3 x4 x5 m) := by
  intro n
  induction n with
  | zero => intro x0 x3 x4 x5 m c3 c5; exact xS_none
  | succ n ih => exact ysl131n_23 hB ih
theorem ygf131n {B : Nat} (hB : B ≤ 512) {xs : Nat → Int32} {SL d : Nat} : ∀ t p0 p2 m, w32 p0 = p0 → w32 p2 = p2 → xS B xs SL (d + 2) 131 (8, none, [], 9) 0 0 [(0, xa t), (1, xi p0), (2, .null), (3, xi p2)] [] m (yf131n B t p0 p2 m) := by
  intro t p0 p2 m cp0 cp2
  unfold yf131n
  refine xS_g (fun g0 => ?_)
  refine xS_g (fun g1 => ?_)
  refine xS_g (fun g2 => ?_)
  refine xS_g (fun g3 => ?_)
  refine xS_of (pc' := 17) (L' := [(0, xa t), (2, .null), (3, xi p2), (4, xa (xw_rf (xw_rf t 0) p0))]) (st' := [xi 0, xi (w32 (p2 + 1)), xi 0, xa (xw_rf t 4)]) (m' := m) (fun ex ns r q => ?_) ?_
  · refine xw_aload_n rfl rfl rfl ?_
    refine xw_gfV (qi := 0) rfl (xw_obd g0) xk8_0 rfl ?_
    refine xw_iload_n rfl rfl ?_
    refine xw_aald (t := 20) (n := (xw_le B (xw_rf t 0))) (q := xw_kd (xw_rf t 0) p0 - 5) (e := (xw_rf (xw_rf t 0) p0)) rfl hB (xw_obd g3) (by decide) rfl g1 (by have := g2; omega) (xw_rfn g2) ?_
    refine xw_astore (L' := [(4, xa (xw_rf (xw_rf t 0) p0)), (0, xa t), (1, xi p0), (2, .null), (3, xi p2)]) rfl rfl (by decide) rfl ?_
    refine xw_aload_n rfl rfl rfl ?_
    refine xw_gfV (qi := 4) rfl (xw_obd g0) xk8_4 rfl ?_
    refine xw_iconst rfl ?_
    refine xw_iload_n rfl rfl ?_
    refine xw_iconst rfl ?_
    refine xw_iadd rfl ?_
    refine xw_iconst rfl ?_
    refine xw_cst (st' := [xi 0, xi (w32 (p2 + 1)), xi 0, xa (xw_rf t 4)]) (xw_sc rfl (xw_sc (xi_c rfl) (xw_sc rfl (xw_sc rfl rfl)))) ?_
    refine xw_lo (L2 := [(0, xa t), (2, .null), (3, xi p2), (4, xa (xw_rf (xw_rf t 0) p0))]) (List.forall_mem_cons.mpr ⟨rfl, List.forall_mem_cons.mpr ⟨rfl, List.forall_mem_cons.mpr ⟨rfl, List.forall_mem_cons.mpr ⟨rfl, fun _ h => absurd h List.not_mem_nil⟩⟩⟩⟩) ?_
    exact q
  refine xS_call (q := 132) (n := 4) (kq := 0) (as := [xa (xw_rf t 4), xi 0, xi (w32 (p2 + 1)), xi 0]) (st1 := []) rfl rfl rfl rfl rfl rfl rfl rfl rfl rfl (fun _ => xw_rcv0 rfl) rfl (List.forall_mem_cons.mpr ⟨rfl, List.forall_mem_cons.mpr ⟨rfl, List.forall_mem_cons.mpr ⟨rfl, List.forall_mem_cons.mpr ⟨rfl, fun _ h => absurd h List.not_mem_nil⟩⟩⟩⟩) (ygf132 hB _ _ _ _ _ rfl (w32_w _) rfl) (fun v1 m1 cv1 => ?_)
  refine xS_of (pc' := 23) (L' := [(0, xa t), (2, .null), (3, xi p2), (4, xa (xw_rf (xw_rf t 0) p0)), (5, xi 0)]) (st' := []) (m' := m1) (fun ex ns r q => ?_) ?_
  · refine xw_iconst rfl ?_
    refine xw_istore (L' := [(5, xi 0), (0, xa t), (2, .null), (3, xi p2), (4, xa (xw_rf (xw_rf t 0) p0))]) rfl (by decide) rfl ?_
    refine xw_lo (L2 := [(0, xa t), (2, .null), (3, xi p2), (4, xa (xw_rf (xw_rf t 0) p0)), (5, xi 0)]) (List.forall_mem_cons.mpr ⟨rfl, List.forall_mem_cons.mpr ⟨rfl, List.forall_mem_cons.mpr ⟨rfl, List.forall_mem_cons.mpr ⟨rfl, List.forall_mem_cons.mpr ⟨rfl, fun _ h => absurd h List.not_mem_nil⟩⟩⟩⟩⟩) ?_
    exact q
  exact ygl131n_23 hB 1000000 _ _ _ _ _ cp2 rfl
theorem ysl128_23 {B : Nat} (hB : B ≤ 512) {xs : Nat → Int32} {SL d : Nat} {r2 : Int → Int → Int → xw_M → xP} (hr2 : ∀ x0 x2 x3 m, w32 x2 = x2 → w32 x3 = x3 → xS B xs SL (d + 3) 128 (5, none, [], 10) 0 2 [(0, xa x0), (1, xa 223), (2, xi x2), (3, xi x3)] [] m (r2 x0 x2 x3 m)) {r23 : Int → Int → Int → Int → xw_M → xP} (hr23 : ∀ x0 x2 x3 x4 m, w32 x2 = x2 → w32 x3 = x3 → w32 x4 = x4 → xS B xs SL (d + 3) 128 (5, none, [], 10) 0 23 [(0, xa x0), (1, xa 223), (2, xi x2), (3, xi x3), (4, xi x4)] [] m (r23 x0 x2 x3 x4 m)) : ∀ x0 x2 x3 x4 m, w32 x2 = x2 → w32 x3 = x3 → w32 x4 = x4 → xS B xs SL (d + 3) 128 (5, none, [], 10) 0 23 [(0, xa x0), (1, xa 223), (2, xi x2), (3, xi x3), (4, xi x4)] [] m (yl128_23 B r2 r23 x0 x2 x3 x4 m) := by
  intro x0 x2 x3 x4 m c2 c3 c4
  unfold yl128_23
  refine xS_g (fun g0 => ?_)
  refine xS_of (pc' := 29) (L' := [(0, xa x0), (1, xa 223), (2, xi x2), (3, xi x3), (4, xi x4)]) (st' := [xi (xR m x0 6), xi x4]) (m' := m) (fun ex ns r q => ?_) ?_
  · refine xw_iload rfl rfl ?_
    refine xw_aload_n rfl rfl rfl ?_
    refine xw_gfIc (v := (m x0 6)) (v' := (xR m x0 6)) rfl (xw_obd g0) xk9_6 (qi := 6) rfl rfl rfl ?_
    exact q
  refine xS_if (fun h1 => ?_) (fun h1 => ?_)
  · refine xS_of (pc' := 37) (L' := [(0, xa x0), (1, xa 223), (2, xi x2), (3, xi x3), (4, xi x4)]) (st' := [xi x4, xi x3, xa 223, xa x0]) (m' := m) (fun ex ns r q => ?_) ?_
    · refine xw_ic_geF rfl (w32_cg c4) (w32_cg (w32_xR _ _ _)) (Int.not_le.mpr h1) ?_
      refine xw_aload_n rfl rfl rfl ?_
      refine xw_aload_n rfl rfl rfl ?_
      refine xw_iload_n rfl rfl ?_
      refine xw_iload rfl rfl ?_
      refine xw_lo (L2 := [(0, xa x0), (1, xa 223), (2, xi x2), (3, xi x3), (4, xi x4)]) (List.forall_mem_cons.mpr ⟨rfl, List.forall_mem_cons.mpr ⟨rfl, List.forall_mem_cons.mpr ⟨rfl, List.forall_mem_cons.mpr ⟨rfl, List.forall_mem_cons.mpr ⟨rfl, fun _ h => absurd h List.not_mem_nil⟩⟩⟩⟩⟩) ?_
      exact q
    refine xS_call (q := 129) (n := 4) (kq := 0) (as := [xa x0, xa 223, xi x3, xi x4]) (st1 := []) rfl rfl rfl rfl rfl rfl rfl rfl rfl rfl (fun _ => xw_rcv1 (t := 9) (xw_obd g0) rfl) rfl (List.forall_mem_cons.mpr ⟨rfl, List.forall_mem_cons.mpr ⟨rfl, List.forall_mem_cons.mpr ⟨rfl, List.forall_mem_cons.mpr ⟨rfl, fun _ h => absurd h List.not_mem_nil⟩⟩⟩⟩) (ygf129 hB _ _ _ _ c3 c4) (fun v1 m1 cv1 => ?_)
    refine xS_of (pc' := 23) (L' := [(0, xa x0), (1, xa 223), (2, xi x2), (3, xi x3), (4, xi (w32 (x4 + 1)))]) (st' := []) (m' := m1) (fun ex ns r q => ?_) ?_
    · refine xw_iincc (z := (w32 (x4 + 1))) (L' := [(4, xi (w32 (x4 + 1))), (0, xa x0), (1, xa 223), (2, xi x2), (3, xi x3)]) rfl rfl (by decide) rfl rfl ?_
      refine xw_goto rfl ?_
      refine xw_lo (L2 := [(0, xa x0), (1, xa 223), (2, xi x2), (3, xi x3), (4, xi (w32 (x4 + 1)))]) (List.forall_mem_cons.mpr ⟨rfl, List.forall_mem_cons.mpr ⟨rfl, List.forall_mem_cons.mpr ⟨rfl, List.forall_mem_cons.mpr ⟨rfl, List.forall_mem_cons.mpr ⟨rfl, fun _ h => absurd h List.not_mem_nil⟩⟩⟩⟩⟩) ?_
      exact q
    exact hr23 _ _ _ _ _ c2 c3 (w32_w _)
  · refine xS_of (pc' := 2) (L' := [(0, xa x0), (1, xa 223), (2, xi x2), (3, xi (w32 (x3 + 1)))]) (st' := []) (m' := m) (fun ex ns r q => ?_) ?_
    · refine xw_ic_geT rfl (w32_cg c4) (w32_cg (w32_xR _ _ _)) (Int.not_lt.mp h1) ?_
      refine xw_iincc (z := (w32 (x3 + 1))) (L' := [(3, xi (w32 (x3 + 1))), (0, xa x0), (1, xa 223), (2, xi x2), (4, xi x4)]) rfl rfl (by decide) rfl rfl ?_
      refine xw_goto rfl ?_
      refine xw_lo (L2 := [(0, xa x0), (1, xa 223), (2, xi x2), (3, xi (w32 (x3 + 1)))]) (List.forall_mem_cons.mpr ⟨rfl, List.forall_mem_cons.mpr ⟨rfl, List.forall_mem_cons.mpr ⟨rfl, List.forall_mem_cons.mpr ⟨rfl, fun _ h => absurd h List.not_mem_nil⟩⟩⟩⟩) ?_
      exact q
    exact hr2 _ _ _ _ c2 (w32_w _)
theorem ygl128_23 {B : Nat} (hB : B ≤ 512) {xs : Nat → Int32} {SL d : Nat} {r2 : Int → Int → Int → xw_M → xP} (hr2 : ∀ x0 x2 x3 m, w32 x2 = x2 → w32 x3 = x3 → xS B xs SL (d + 3) 128 (5, none, [], 10) 0 2 [(0, xa x0), (1, xa 223), (2, xi x2), (3, xi x3)] [] m (r2 x0 x2 x3 m)) : ∀ n x0 x2 x3 x4 m, w32 x2 = x2 → w32 x3 = x3 → w32 x4 = x4 → xS B xs SL (d + 3) 128 (5, none, [], 10) 0 23 [(0, xa x0), (1, xa 223), (2, xi x2), (3, xi x3), (4, xi x4)] [] m (xl4 (yl128_23 B r2) n x0 x2 x3 x4 m) := by
  intro n
  induction n with
  | zero => intro x0 x2 x3 x4 m c2 c3 c4; exact xS_none
  | succ n ih => exact ysl128_23 hB hr2 ih
theorem ysl128_66 {B : Nat} (hB : B ≤ 512) {xs : Nat → Int32} {SL d : Nat} {r66 : Int → Int → Int → xw_M → xP} (hr66 : ∀ x0 x2 x3 m, w32 x2 = x2 → w32 x3 = x3 → xS B xs SL (d + 3) 128 (5, none, [], 10) 0 66 [(0, xa x0), (2, xi x2), (3, xi x3)] [] m (r66 x0 x2 x3 m)) : ∀ x0 x2 x3 m, w32 x2 = x2 → w32 x3 = x3 → xS B xs SL (d + 3) 128 (5, none, [], 10) 0 66 [(0, xa x0), (2, xi x2), (3, xi x3)] [] m (yl128_66 B r66 x0 x2 x3 m) := by
  intro x0 x2 x3 m c2 c3
  unfold yl128_66
  refine xS_of (pc' := 67) (L' := [(0, xa x0), (2, xi x2), (3, xi x3)]) (st' := [xi x3]) (m' := m) (fun ex ns r q => ?_) ?_
  · refine xw_iload_n rfl rfl ?_
    exact q
  refine xS_if (fun h0 => ?_) (fun h0 => ?_)
  · refine xS_g (fun g1 => ?_)
    refine xS_of (pc' := 103) (L' := [(0, xa x0), (2, xi x2), (3, xi x3)]) (st' := []) (m' := (xw_u (xw_u m x0 9 x2) x0 7 1)) (fun ex ns r q => ?_) ?_
    · refine xw_if_ltT rfl (w32_cg c3) h0 ?_
      refine xw_aload_n rfl rfl rfl ?_
      refine xw_iload_n rfl rfl ?_
      refine xw_pfI rfl (xw_obd g1) xk9_9 (qi := 9) rfl (xw_okI rfl) ?_
      refine xw_aload_n rfl rfl rfl ?_
      refine xw_iconst rfl ?_
      refine xw_pfI rfl (xw_obd g1) xk9_7 (qi := 7) rfl (xw_okZ rfl (Or.inr rfl)) ?_
      exact q
    exact xS_ret (v := 0) rfl rfl rfl rfl
  · refine xS_g (fun g1 => ?_)
    refine xS_g (fun g2 => ?_)
    refine xS_g (fun g3 => ?_)
    refine xS_g (fun g4 => ?_)
    refine xS_of (pc' := 84) (L' := [(0, xa x0), (2, xi x2), (3, xi x3)]) (st' := [xi (w32 ((xR m (xw_rf x0 5) x3) + 1)), .null, xi x3, xa (xw_rf x0 0)]) (m' := m) (fun ex ns r q => ?_) ?_
    · refine xw_if_ltF rfl (w32_cg c3) h0 ?_
      refine xw_aload_n rfl rfl rfl ?_
      refine xw_gfV (qi := 0) rfl (xw_obd g1) xk9_0 rfl ?_
      refine xw_iload_n rfl rfl ?_
      refine xw_null rfl ?_
      refine xw_aload_n rfl rfl rfl ?_
      refine xw_gfV (qi := 5) rfl (xw_obd g1) xk9_5 rfl ?_
      refine xw_iload_n rfl rfl ?_
      refine xw_ialdc (n := (xw_le B (xw_rf x0 5))) (v := (m (xw_rf x0 5) x3)) (v' := (xR m (xw_rf x0 5) x3)) rfl hB (xw_obd g3) rfl g2 rfl rfl ?_
      refine xw_iconst rfl ?_
      refine xw_iadd rfl ?_
      refine xw_cst (st' := [xi (w32 ((xR m (xw_rf x0 5) x3) + 1)), .null, xi x3, xa (xw_rf x0 0)]) (xw_sc (xi_c rfl) (xw_sc rfl (xw_sc rfl (xw_sc rfl rfl)))) ?_
      refine xw_lo (L2 := [(0, xa x0), (2, xi x2), (3, xi x3)]) (List.forall_mem_cons.mpr ⟨rfl, List.forall_mem_cons.mpr ⟨rfl, List.forall_mem_cons.mpr ⟨rfl, fun _ h => absurd h List.not_mem_nil⟩⟩⟩) ?_
      exact q
    refine xS_call (q := 131) (n := 4) (kq := 0) (as := [xa (xw_rf x0 0), xi x3, .null, xi (w32 ((xR m (xw_rf x0 5) x3) + 1))]) (st1 := []) rfl rfl rfl rfl rfl rfl rfl rfl rfl rfl (fun _ => xw_rcv1 (t := 8) (xw_obd g4) rfl) rfl (List.forall_mem_cons.mpr ⟨rfl, List.forall_mem_cons.mpr ⟨rfl, List.forall_mem_cons.mpr ⟨rfl, List.forall_mem_cons.mpr ⟨rfl, fun _ h => absurd h List.not_mem_nil⟩⟩⟩⟩) (ygf131n hB _ _ _ _ c3 (w32_w _)) (fun v1 m1 cv1 => ?_)
    refine xS_of (pc' := 66) (L' := [(0, xa x0), (2, xi x2), (3, xi (w32 (x3 + (-1))))]) (st' := []) (m' := m1) (fun ex ns r q => ?_) ?_
    · refine xw_iincc (z := (w32 (x3 + (-1)))) (L' := [(3, xi (w32 (x3 + (-1)))), (0, xa x0), (2, xi x2)]) rfl rfl (by decide) rfl rfl ?_
      refine xw_goto rfl ?_
      refine xw_lo (L2 := [(0, xa x0), (2, xi x2), (3, xi (w32 (x3 + (-1))))]) (List.forall_mem_cons.mpr ⟨rfl, List.forall_mem_cons.mpr ⟨rfl, List.forall_mem_cons.mpr ⟨rfl, fun _ h => absurd h List.not_mem_nil⟩⟩⟩) ?_
      exact q
    exact hr66 _ _ _ _ c2 (w32_w _)
theorem ygl128_66 {B : Nat} (hB : B ≤ 512) {xs : Nat → Int32} {SL d : Nat} : ∀ n x0 x2 x3 m, w32 x2 = x2 → w32 x3 = x3 → xS B xs SL (d + 3) 128 (5, none, [], 10) 0 66 [(0, xa x0), (2, xi x2), (3, xi x3)] [] m (xl3 (yl128_66 B) n x0 x2 x3 m) := by
  intro n
  induction n with
  | zero => intro x0 x2 x3 m c2 c3; exact xS_none
  | succ n ih => exact ysl128_66 hB ih
theorem ysl128_2 {B : Nat} (hB : B ≤ 512) {xs : Nat → Int32} {SL d : Nat} {r2 : Int → Int → Int → xw_M → xP} (hr2 : ∀ x0 x2 x3 m, w32 x2 = x2 → w32 x3 = x3 → xS B xs SL (d + 3) 128 (5, none, [], 10) 0 2 [(0, xa x0), (1, xa 223), (2, xi x2), (3, xi x3)] [] m (r2 x0 x2 x3 m)) : ∀ x0 x2 x3 m, w32 x2 = x2 → w32 x3 = x3 → xS B xs SL (d + 3) 128 (5, none, [], 10) 0 2 [(0, xa x0), (1, xa 223), (2, xi x2), (3, xi x3)] [] m (yl128_2 B r2 x0 x2 x3 m) := by
  intro x0 x2 x3 m c2 c3
  unfold yl128_2
  refine xS_g (fun g0 => ?_)
  refine xS_g (fun g1 => ?_)
  refine xS_of (pc' := 10) (L' := [(0, xa x0), (1, xa 223), (2, xi x2), (3, xi x3)]) (st' := [xi (xR m (xw_rf x0 0) 5), xi x3]) (m' := m) (fun ex ns r q => ?_) ?_
  · refine xw_iload_n rfl rfl ?_
    refine xw_aload_n rfl rfl rfl ?_
    refine xw_gfV (qi := 0) rfl (xw_obd g0) xk9_0 rfl ?_
    refine xw_gfIc (v := (m (xw_rf x0 0) 5)) (v' := (xR m (xw_rf x0 0) 5)) rfl (xw_obd g1) xk8_5 (qi := 5) rfl rfl rfl ?_
    exact q
  refine xS_if (fun h2 => ?_) (fun h2 => ?_)
  · refine xS_g (fun g3 => ?_)
    refine xS_g (fun g4 => ?_)
    refine xS_of (pc' := 23) (L' := [(0, xa x0), (1, xa 223), (2, xi x2), (3, xi x3), (4, xi 0)]) (st' := []) (m' := (xw_u m (xw_rf x0 2) x3 0)) (fun ex ns r q => ?_) ?_
    · refine xw_ic_geF rfl (w32_cg c3) (w32_cg (w32_xR _ _ _)) (Int.not_le.mpr h2) ?_
      refine xw_aload_n rfl rfl rfl ?_
      refine xw_gfV (qi := 2) rfl (xw_obd g0) xk9_2 rfl ?_
      refine xw_iload_n rfl rfl ?_
      refine xw_iconst rfl ?_
      refine xw_iast (n := (xw_le B (xw_rf x0 2))) rfl hB (xw_obd g4) rfl g3 ?_
      refine xw_iconst rfl ?_
      refine xw_istore (L' := [(4, xi 0), (0, xa x0), (1, xa 223), (2, xi x2), (3, xi x3)]) rfl (by decide) rfl ?_
      refine xw_lo (L2 := [(0, xa x0), (1, xa 223), (2, xi x2), (3, xi x3), (4, xi 0)]) (List.forall_mem_cons.mpr ⟨rfl, List.forall_mem_cons.mpr ⟨rfl, List.forall_mem_cons.mpr ⟨rfl, List.forall_mem_cons.mpr ⟨rfl, List.forall_mem_cons.mpr ⟨rfl, fun _ h => absurd h List.not_mem_nil⟩⟩⟩⟩⟩) ?_
      exact q
    exact ygl128_23 hB hr2 1000000 _ _ _ _ _ c2 c3 rfl
  · refine xS_of (pc' := 56) (L' := [(0, xa x0), (1, xa 223), (2, xi x2)]) (st' := [xa (xw_rf x0 0)]) (m' := m) (fun ex ns r q => ?_) ?_
    · refine xw_ic_geT rfl (w32_cg c3) (w32_cg (w32_xR _ _ _)) (Int.not_lt.mp h2) ?_
      refine xw_aload_n rfl rfl rfl ?_
      refine xw_gfV (qi := 0) rfl (xw_obd g0) xk9_0 rfl ?_
      refine xw_lo (L2 := [(0, xa x0), (1, xa 223), (2, xi x2)]) (List.forall_mem_cons.mpr ⟨rfl, List.forall_mem_cons.mpr ⟨rfl, List.forall_mem_cons.mpr ⟨rfl, fun _ h => absurd h List.not_mem_nil⟩⟩⟩) ?_
      exact q
    refine xS_call (q := 130) (n := 1) (kq := 0) (as := [xa (xw_rf x0 0)]) (st1 := []) rfl rfl rfl rfl rfl rfl rfl rfl rfl rfl (fun _ => xw_rcv1 (t := 8) (xw_obd g1) rfl) rfl (List.forall_mem_cons.mpr ⟨rfl, fun _ h => absurd h List.not_mem_nil⟩) (ygf130 hB _ _) (fun v1 m1 cv1 => ?_)
    refine xS_of (pc' := 66) (L' := [(0, xa x0), (2, xi x2), (3, xi (w32 ((xR m1 223 6) - 1)))]) (st' := []) (m' := m1) (fun ex ns r q => ?_) ?_
    · refine xw_aload_n rfl rfl rfl ?_
      refine xw_gfIc (v := (m1 223 6)) (v' := (xR m1 223 6)) rfl (xw_obd (by decide +kernel)) xk4_6 (qi := 6) rfl rfl rfl ?_
      refine xw_iconst rfl ?_
      refine xw_isub rfl ?_
      refine xw_cst (st' := [xi (w32 ((xR m1 223 6) - 1))]) (xw_sc (xi_c rfl) rfl) ?_
      refine xw_istore_n (L' := [(3, xi (w32 ((xR m1 223 6) - 1))), (0, xa x0), (1, xa 223), (2, xi x2)]) rfl (by decide) rfl ?_
      refine xw_lo (L2 := [(0, xa x0), (2, xi x2), (3, xi (w32 ((xR m1 223 6) - 1)))]) (List.forall_mem_cons.mpr ⟨rfl, List.forall_mem_cons.mpr ⟨rfl, List.forall_mem_cons.mpr ⟨rfl, fun _ h => absurd h List.not_mem_nil⟩⟩⟩) ?_
      exact q
    exact ygl128_66 hB 1000000 _ _ _ _ c2 (w32_w _)
theorem ygl128_2 {B : Nat} (hB : B ≤ 512) {xs : Nat → Int32} {SL d : Nat} : ∀ n x0 x2 x3 m, w32 x2 = x2 → w32 x3 = x3 → xS B xs SL (d + 3) 128 (5, none, [], 10) 0 2 [(0, xa x0), (1, xa 223), (2, xi x2), (3, xi x3)] [] m (xl3 (yl128_2 B) n x0 x2 x3 m) := by
  intro n
  induction n with
  | zero => intro x0 x2 x3 m c2 c3; exact xS_none
  | succ n ih => exact ysl128_2 hB ih
theorem ygf128 {B : Nat} (hB : B ≤ 512) {xs : Nat → Int32} {SL d : Nat} : ∀ t p1 m, w32 p1 = p1 → xS B xs SL (d + 3) 128 (5, none, [], 10) 0 0 [(0, xa t), (1, xa 223), (2, xi p1)] [] m (yf128 B t p1 m) := by
  intro t p1 m cp1
  unfold yf128
  refine xS_of (pc' := 2) (L' := [(0, xa t), (1, xa 223), (2, xi p1), (3, xi 0)]) (st' := []) (m' := m) (fun ex ns r q => ?_) ?_
  · refine xw_iconst rfl ?_
    refine xw_istore_n (L' := [(3, xi 0), (0, xa t), (1, xa 223), (2, xi p1)]) rfl (by decide) rfl ?_
    refine xw_lo (L2 := [(0, xa t), (1, xa 223), (2, xi p1), (3, xi 0)]) (List.forall_mem_cons.mpr ⟨rfl, List.forall_mem_cons.mpr ⟨rfl, List.forall_mem_cons.mpr ⟨rfl, List.forall_mem_cons.mpr ⟨rfl, fun _ h => absurd h List.not_mem_nil⟩⟩⟩⟩) ?_
    exact q
  exact ygl128_2 hB 1000000 _ _ _ _ cp1 rfl
theorem ygk93_74 {B : Nat} (hB : B ≤ 512) {xs : Nat → Int32} {SL d : Nat} {r38 : Int → Int → Int → xw_M → xP} (hr38 : ∀ x1 x2 x4 m, w32 x1 = x1 → w32 x4 = x4 → xS B xs SL (d + 7) 93 (5, none, [], 1) 0 38 [(0, xa 0), (1, xi x1), (2, xa x2), (4, xi x4)] [] m (r38 x1 x2 x4 m)) : ∀ x1 x2 x4 m, w32 x1 = x1 → w32 x4 = x4 → xS B xs SL (d + 7) 93 (5, none, [], 1) 0 74 [(0, xa 0), (1, xi x1), (2, xa x2), (4, xi x4)] [] m (yk93_74 B r38 x1 x2 x4 m) := by
  intro x1 x2 x4 m c1 c4
  unfold yk93_74
  refine xS_of (pc' := 87) (L' := [(0, xa 0), (1, xi x1), (2, xa x2), (4, xi x4)]) (st' := [xi x1, xi x4, xa 0, xa 302, xa 223, xa x2]) (m' := m) (fun ex ns r q => ?_) ?_
  · refine xw_aload_n rfl rfl rfl ?_
    refine xw_aload_n rfl rfl rfl ?_
    refine xw_gfR (n := 223) (e := 223) rfl (xw_obd (by decide +kernel)) (by decide +kernel) (by decide +kernel) rfl ?_
    refine xw_aload_n rfl rfl rfl ?_
    refine xw_gfR (n := 302) (e := 302) rfl (xw_obd (by decide +kernel)) (by decide +kernel) (by decide +kernel) rfl ?_
    refine xw_aload_n rfl rfl rfl ?_
    refine xw_iload rfl rfl ?_
    refine xw_iload_n rfl rfl ?_
    refine xw_lo (L2 := [(0, xa 0), (1, xi x1), (2, xa x2), (4, xi x4)]) (List.forall_mem_cons.mpr ⟨rfl, List.forall_mem_cons.mpr ⟨rfl, List.forall_mem_cons.mpr ⟨rfl, List.forall_mem_cons.mpr ⟨rfl, fun _ h => absurd h List.not_mem_nil⟩⟩⟩⟩) ?_
    exact q
  refine xS_call (q := 104) (n := 3) (kq := 3) (as := [xa 0, xi x4, xi x1]) (st1 := [xa 302, xa 223, xa x2]) rfl rfl rfl rfl rfl rfl rfl rfl rfl rfl (fun _ => xw_rcv1 (t := 0) (xw_obd (by decide +kernel)) rfl) rfl (List.forall_mem_cons.mpr ⟨rfl, List.forall_mem_cons.mpr ⟨rfl, List.forall_mem_cons.mpr ⟨rfl, fun _ h => absurd h List.not_mem_nil⟩⟩⟩) (ygf104 hB _ _ _ c4 c1) (fun v1 m1 cv1 => ?_)
  refine xS_g (fun g0 => ?_)
  refine xS_of (pc' := 90) (L' := [(0, xa 0), (1, xi x1), (2, xa x2), (4, xi x4)]) (st' := [xa v1, xa 302, xa 223, xa x2]) (m' := m1) (fun ex ns r q => ?_) ?_
  · refine xw_lo (L2 := [(0, xa 0), (1, xi x1), (2, xa x2), (4, xi x4)]) (List.forall_mem_cons.mpr ⟨rfl, List.forall_mem_cons.mpr ⟨rfl, List.forall_mem_cons.mpr ⟨rfl, List.forall_mem_cons.mpr ⟨rfl, fun _ h => absurd h List.not_mem_nil⟩⟩⟩⟩) ?_
    exact q
  refine xS_call (q := 110) (n := 4) (kq := 0) (as := [xa x2, xa 223, xa 302, xa v1]) (st1 := []) rfl rfl rfl rfl rfl rfl rfl rfl rfl rfl (fun _ => xw_rcv1 (t := 9) (xw_obd g0) rfl) rfl (List.forall_mem_cons.mpr ⟨rfl, List.forall_mem_cons.mpr ⟨rfl, List.forall_mem_cons.mpr ⟨rfl, List.forall_mem_cons.mpr ⟨rfl, fun _ h => absurd h List.not_mem_nil⟩⟩⟩⟩) (ygf110 hB _ _ _) (fun v2 m2 cv2 => ?_)
  refine xS_of (pc' := 38) (L' := [(0, xa 0), (1, xi x1), (2, xa x2), (4, xi (w32 (x4 + 1)))]) (st' := []) (m' := m2) (fun ex ns r q => ?_) ?_
  · refine xw_iincc (z := (w32 (x4 + 1))) (L' := [(4, xi (w32 (x4 + 1))), (0, xa 0), (1, xi x1), (2, xa x2)]) rfl rfl (by decide) rfl rfl ?_
    refine xw_goto rfl ?_
    refine xw_lo (L2 := [(0, xa 0), (1, xi x1), (2, xa x2), (4, xi (w32 (x4 + 1)))]) (List.forall_mem_cons.mpr ⟨rfl, List.forall_mem_cons.mpr ⟨rfl, List.forall_mem_cons.mpr ⟨rfl, List.forall_mem_cons.mpr ⟨rfl, fun _ h => absurd h List.not_mem_nil⟩⟩⟩⟩) ?_
    exact q
  exact hr38 _ _ _ _ c1 (w32_w _)
theorem ygk93_122 {B : Nat} (hB : B ≤ 512) {xs : Nat → Int32} {SL d : Nat} : ∀ x1 x2 m, w32 x1 = x1 → xS B xs SL (d + 7) 93 (5, none, [], 1) 0 122 [(0, xa 0), (1, xi x1), (2, xa x2)] [] m (yk93_122 B x1 x2 m) := by
  intro x1 x2 m c1
  unfold yk93_122
  refine xS_g (fun g0 => ?_)
  refine xS_of (pc' := 128) (L' := [(0, xa 0), (2, xa x2)]) (st' := [xi x1, xa 223, xa x2]) (m' := m) (fun ex ns r q => ?_) ?_
  · refine xw_aload_n rfl rfl rfl ?_
    refine xw_aload_n rfl rfl rfl ?_
    refine xw_gfR (n := 223) (e := 223) rfl (xw_obd (by decide +kernel)) (by decide +kernel) (by decide +kernel) rfl ?_
    refine xw_iload_n rfl rfl ?_
    refine xw_lo (L2 := [(0, xa 0), (2, xa x2)]) (List.forall_mem_cons.mpr ⟨rfl, List.forall_mem_cons.mpr ⟨rfl, fun _ h => absurd h List.not_mem_nil⟩⟩) ?_
    exact q
  refine xS_call (q := 128) (n := 3) (kq := 0) (as := [xa x2, xa 223, xi x1]) (st1 := []) rfl rfl rfl rfl rfl rfl rfl rfl rfl rfl (fun _ => xw_rcv1 (t := 9) (xw_obd g0) rfl) rfl (List.forall_mem_cons.mpr ⟨rfl, List.forall_mem_cons.mpr ⟨rfl, List.forall_mem_cons.mpr ⟨rfl, fun _ h => absurd h List.not_mem_nil⟩⟩⟩) (ygf128 hB _ _ _ c1) (fun v1 m1 cv1 => ?_)
  refine xS_of (pc' := 144) (L' := [(0, xa 0), (2, xa x2)]) (st' := []) (m' := (xw_u (xw_u m1 0 13 (m1 0 12)) 0 12 x2)) (fun ex ns r q => ?_) ?_
  · refine xw_aload_n rfl rfl rfl ?_
    refine xw_aload_n rfl rfl rfl ?_
    refine xw_gfM (v := (m1 0 12)) rfl (xw_obd (by decide +kernel)) xk0_12 (qi := 12) rfl rfl ?_
    refine xw_pfM rfl (xw_obd (by decide +kernel)) xk0_13 (qi := 13) rfl (xw_okM rfl rfl rfl) ?_
    refine xw_aload_n rfl rfl rfl ?_
    refine xw_aload_n rfl rfl rfl ?_
    refine xw_pfM rfl (xw_obd (by decide +kernel)) xk0_12 (qi := 12) rfl (xw_okM rfl rfl rfl) ?_
    exact q
  exact xS_ret (v := 0) rfl rfl rfl rfl
theorem ygk93_99 {B : Nat} (hB : B ≤ 512) {xs : Nat → Int32} {SL d : Nat} : ∀ x1 x2 m, w32 x1 = x1 → xS B xs SL (d + 7) 93 (5, none, [], 1) 0 99 [(0, xa 0), (1, xi x1), (2, xa x2)] [] m (yk93_99 B x1 x2 m) := by
  intro x1 x2 m c1
  unfold yk93_99
  refine xS_g (fun g0 => ?_)
  refine xS_of (pc' := 103) (L' := [(0, xa 0), (1, xi x1), (2, xa x2)]) (st' := [xi (xR m x2 8)]) (m' := m) (fun ex ns r q => ?_) ?_
  · refine xw_aload_n rfl rfl rfl ?_
    refine xw_gfIc (v := (m x2 8)) (v' := (xR m x2 8)) rfl (xw_obd g0) xk9_8 (qi := 8) rfl rfl rfl ?_
    exact q
  refine xS_if (fun h1 => ?_) (fun h1 => ?_)
  · refine xS_of (pc' := 122) (L' := [(0, xa 0), (1, xi x1), (2, xa x2)]) (st' := []) (m' := m) (fun ex ns r q => ?_) ?_
    · refine xw_if_eqT rfl (w32_cg (w32_xR _ _ _)) h1 ?_
      refine xw_lo (L2 := [(0, xa 0), (1, xi x1), (2, xa x2)]) (List.forall_mem_cons.mpr ⟨rfl, List.forall_mem_cons.mpr ⟨rfl, List.forall_mem_cons.mpr ⟨rfl, fun _ h => absurd h List.not_mem_nil⟩⟩⟩) ?_
      exact q
    exact ygk93_122 hB _ _ _ c1
  · refine xS_of (pc' := 119) (L' := [(0, xa 0), (1, xi x1), (2, xa x2)]) (st' := [xi (xR m 223 1), xi 12, xa 1]) (m' := m) (fun ex ns r q => ?_) ?_
    · refine xw_if_eqF rfl (w32_cg (w32_xR _ _ _)) h1 ?_
      refine xw_aload_n rfl rfl rfl ?_
      refine xw_gfR (n := 1) (e := 1) rfl (xw_obd (by decide +kernel)) (by decide +kernel) (by decide +kernel) rfl ?_
      refine xw_bipush (e := 12) rfl (by decide +kernel) ?_
      refine xw_aload_n rfl rfl rfl ?_
      refine xw_gfR (n := 223) (e := 223) rfl (xw_obd (by decide +kernel)) (by decide +kernel) (by decide +kernel) rfl ?_
      refine xw_gfIc (v := (m 223 1)) (v' := (xR m 223 1)) rfl (xw_obd (by decide +kernel)) xk4_1 (qi := 1) rfl rfl rfl ?_
      refine xw_lo (L2 := [(0, xa 0), (1, xi x1), (2, xa x2)]) (List.forall_mem_cons.mpr ⟨rfl, List.forall_mem_cons.mpr ⟨rfl, List.forall_mem_cons.mpr ⟨rfl, fun _ h => absurd h List.not_mem_nil⟩⟩⟩) ?_
      exact q
    refine xS_call (q := 54) (n := 3) (kq := 0) (as := [xa 1, xi 12, xi (xR m 223 1)]) (st1 := []) rfl rfl rfl rfl rfl rfl rfl rfl rfl rfl (fun _ => xw_rcv1 (t := 1) (xw_obd (by decide +kernel)) rfl) rfl (List.forall_mem_cons.mpr ⟨rfl, List.forall_mem_cons.mpr ⟨rfl, List.forall_mem_cons.mpr ⟨rfl, fun _ h => absurd h List.not_mem_nil⟩⟩⟩) (ygf54 hB _ _ _ rfl (w32_xR _ _ _)) (fun v1 m1 cv1 => ?_)
    refine xS_of (pc' := 122) (L' := [(0, xa 0), (1, xi x1), (2, xa x2)]) (st' := []) (m' := m1) (fun ex ns r q => ?_) ?_
    · refine xw_lo (L2 := [(0, xa 0), (1, xi x1), (2, xa x2)]) (List.forall_mem_cons.mpr ⟨rfl, List.forall_mem_cons.mpr ⟨rfl, List.forall_mem_cons.mpr ⟨rfl, fun _ h => absurd h List.not_mem_nil⟩⟩⟩) ?_
      exact q
    exact ygk93_122 hB _ _ _ c1
theorem ysl93_38 {B : Nat} (hB : B ≤ 512) {xs : Nat → Int32} {SL d : Nat} {r38 : Int → Int → Int → xw_M → xP} (hr38 : ∀ x1 x2 x4 m, w32 x1 = x1 → w32 x4 = x4 → xS B xs SL (d + 7) 93 (5, none, [], 1) 0 38 [(0, xa 0), (1, xi x1), (2, xa x2), (4, xi x4)] [] m (r38 x1 x2 x4 m)) : ∀ x1 x2 x4 m, w32 x1 = x1 → w32 x4 = x4 → xS B xs SL (d + 7) 93 (5, none, [], 1) 0 38 [(0, xa 0), (1, xi x1), (2, xa x2), (4, xi x4)] [] m (yl93_38 B r38 x1 x2 x4 m) := by
  intro x1 x2 x4 m c1 c4
  unfold yl93_38
  refine xS_of (pc' := 47) (L' := [(0, xa 0), (1, xi x1), (2, xa x2), (4, xi x4)]) (st' := [xi (xR m 508 14), xi x4]) (m' := m) (fun ex ns r q => ?_) ?_
  · refine xw_iload rfl rfl ?_
    refine xw_aload_n rfl rfl rfl ?_
    refine xw_gfR (n := 508) (e := 508) rfl (xw_obd (by decide +kernel)) (by decide +kernel) (by decide +kernel) rfl ?_
    refine xw_gfIc (v := (m 508 14)) (v' := (xR m 508 14)) rfl (xw_obd (by decide +kernel)) xk10_14 (qi := 14) rfl rfl rfl ?_
    exact q
  refine xS_if (fun h0 => ?_) (fun h0 => ?_)
  · refine xS_g (fun g1 => ?_)
    refine xS_of (pc' := 54) (L' := [(0, xa 0), (1, xi x1), (2, xa x2), (4, xi x4)]) (st' := [xi (xR m x2 8)]) (m' := m) (fun ex ns r q => ?_) ?_
    · refine xw_ic_geF rfl (w32_cg c4) (w32_cg (w32_xR _ _ _)) (Int.not_le.mpr h0) ?_
      refine xw_aload_n rfl rfl rfl ?_
      refine xw_gfIc (v := (m x2 8)) (v' := (xR m x2 8)) rfl (xw_obd g1) xk9_8 (qi := 8) rfl rfl rfl ?_
      exact q
    refine xS_if (fun h2 => ?_) (fun h2 => ?_)
    · refine xS_of (pc' := 59) (L' := [(0, xa 0), (1, xi x1), (2, xa x2), (4, xi x4)]) (st' := [xi (-1), xi x1]) (m' := m) (fun ex ns r q => ?_) ?_
      · refine xw_if_neF rfl (w32_cg (w32_xR _ _ _)) h2 ?_
        refine xw_iload_n rfl rfl ?_
        refine xw_iconst rfl ?_
        exact q
      refine xS_if (fun h3 => ?_) (fun h3 => ?_)
      · refine xS_of (pc' := 68) (L' := [(0, xa 0), (1, xi x1), (2, xa x2), (4, xi x4)]) (st' := [xi x4, xa 508]) (m' := m) (fun ex ns r q => ?_) ?_
        · refine xw_ic_neF rfl (w32_cg c1) (w32_cg rfl) h3 ?_
          refine xw_aload_n rfl rfl rfl ?_
          refine xw_gfR (n := 508) (e := 508) rfl (xw_obd (by decide +kernel)) (by decide +kernel) (by decide +kernel) rfl ?_
          refine xw_iload rfl rfl ?_
          refine xw_lo (L2 := [(0, xa 0), (1, xi x1), (2, xa x2), (4, xi x4)]) (List.forall_mem_cons.mpr ⟨rfl, List.forall_mem_cons.mpr ⟨rfl, List.forall_mem_cons.mpr ⟨rfl, List.forall_mem_cons.mpr ⟨rfl, fun _ h => absurd h List.not_mem_nil⟩⟩⟩⟩) ?_
          exact q
        refine xS_call (q := 103) (n := 2) (kq := 4) (as := [xa 508, xi x4]) (st1 := []) rfl rfl rfl rfl rfl rfl rfl rfl rfl rfl (fun _ => xw_rcv1 (t := 10) (xw_obd (by decide +kernel)) rfl) rfl (List.forall_mem_cons.mpr ⟨rfl, List.forall_mem_cons.mpr ⟨rfl, fun _ h => absurd h List.not_mem_nil⟩⟩) (ygf103 hB _ _ c4) (fun v1 m1 cv1 => ?_)
        refine xS_if (fun h4 => ?_) (fun h4 => ?_)
        · refine xS_of (pc' := 38) (L' := [(0, xa 0), (1, xi x1), (2, xa x2), (4, xi (w32 (x4 + 1)))]) (st' := []) (m' := m1) (fun ex ns r q => ?_) ?_
          · refine xw_if_eqT rfl (w32_cg (w32_of (xw_zr cv1))) h4 ?_
            refine xw_iincc (z := (w32 (x4 + 1))) (L' := [(4, xi (w32 (x4 + 1))), (0, xa 0), (1, xi x1), (2, xa x2)]) rfl rfl (by decide) rfl rfl ?_
            refine xw_goto rfl ?_
            refine xw_lo (L2 := [(0, xa 0), (1, xi x1), (2, xa x2), (4, xi (w32 (x4 + 1)))]) (List.forall_mem_cons.mpr ⟨rfl, List.forall_mem_cons.mpr ⟨rfl, List.forall_mem_cons.mpr ⟨rfl, List.forall_mem_cons.mpr ⟨rfl, fun _ h => absurd h List.not_mem_nil⟩⟩⟩⟩) ?_
            exact q
          exact hr38 _ _ _ _ c1 (w32_w _)
        · refine xS_of (pc' := 74) (L' := [(0, xa 0), (1, xi x1), (2, xa x2), (4, xi x4)]) (st' := []) (m' := m1) (fun ex ns r q => ?_) ?_
          · refine xw_if_eqF rfl (w32_cg (w32_of (xw_zr cv1))) h4 ?_
            refine xw_lo (L2 := [(0, xa 0), (1, xi x1), (2, xa x2), (4, xi x4)]) (List.forall_mem_cons.mpr ⟨rfl, List.forall_mem_cons.mpr ⟨rfl, List.forall_mem_cons.mpr ⟨rfl, List.forall_mem_cons.mpr ⟨rfl, fun _ h => absurd h List.not_mem_nil⟩⟩⟩⟩) ?_
            exact q
          exact ygk93_74 hB hr38 _ _ _ _ c1 c4
      · refine xS_of (pc' := 74) (L' := [(0, xa 0), (1, xi x1), (2, xa x2), (4, xi x4)]) (st' := []) (m' := m) (fun ex ns r q => ?_) ?_
        · refine xw_ic_neT rfl (w32_cg c1) (w32_cg rfl) h3 ?_
          refine xw_lo (L2 := [(0, xa 0), (1, xi x1), (2, xa x2), (4, xi x4)]) (List.forall_mem_cons.mpr ⟨rfl, List.forall_mem_cons.mpr ⟨rfl, List.forall_mem_cons.mpr ⟨rfl, List.forall_mem_cons.mpr ⟨rfl, fun _ h => absurd h List.not_mem_nil⟩⟩⟩⟩) ?_
          exact q
        exact ygk93_74 hB hr38 _ _ _ _ c1 c4
    · refine xS_of (pc' := 99) (L' := [(0, xa 0), (1, xi x1), (2, xa x2)]) (st' := []) (m' := m) (fun ex ns r q => ?_) ?_
      · refine xw_if_neT rfl (w32_cg (w32_xR _ _ _)) h2 ?_
        refine xw_lo (L2 := [(0, xa 0), (1, xi x1), (2, xa x2)]) (List.forall_mem_cons.mpr ⟨rfl, List.forall_mem_cons.mpr ⟨rfl, List.forall_mem_cons.mpr ⟨rfl, fun _ h => absurd h List.not_mem_nil⟩⟩⟩) ?_
        exact q
      exact ygk93_99 hB _ _ _ c1
  · refine xS_of (pc' := 99) (L' := [(0, xa 0), (1, xi x1), (2, xa x2)]) (st' := []) (m' := m) (fun ex ns r q => ?_) ?_
    · refine xw_ic_geT rfl (w32_cg c4) (w32_cg (w32_xR _ _ _)) (Int.not_lt.mp h0) ?_
      refine xw_lo (L2 := [(0, xa 0), (1, xi x1), (2, xa x2)]) (List.forall_mem_cons.mpr ⟨rfl, List.forall_mem_cons.mpr ⟨rfl, List.forall_mem_cons.mpr ⟨rfl, fun _ h => absurd h List.not_mem_nil⟩⟩⟩) ?_
      exact q
    exact ygk93_99 hB _ _ _ c1
theorem ygl93_38 {B : Nat} (hB : B ≤ 512) {xs : Nat → Int32} {SL d : Nat} : ∀ n x1 x2 x4 m, w32 x1 = x1 → w32 x4 = x4 → xS B xs SL (d + 7) 93 (5, none, [], 1) 0 38 [(0, xa 0), (1, xi x1), (2, xa x2), (4, xi x4)] [] m (xl3 (yl93_38 B) n x1 x2 x4 m) := by
  intro n
  induction n with
  | zero => intro x1 x2 x4 m c1 c4; exact xS_none
  | succ n ih => exact ysl93_38 hB ih
theorem ygf93 {B : Nat} (hB : B ≤ 512) {xs : Nat → Int32} {SL d : Nat} : ∀ m, xS B xs SL (d + 7) 93 (5, none, [], 1) 0 0 [(0, xa 0)] [] m (yf93 B m) := by
  intro m
  unfold yf93
  refine xS_of (pc' := 1) (L' := [(0, xa 0)]) (st' := [xa 0]) (m' := m) (fun ex ns r q => ?_) ?_
  · refine xw_aload_n rfl rfl rfl ?_
    refine xw_lo (L2 := [(0, xa 0)]) (List.forall_mem_cons.mpr ⟨rfl, fun _ h => absurd h List.not_mem_nil⟩) ?_
    exact q
  refine xS_call (q := 94) (n := 1) (kq := 1) (as := [xa 0]) (st1 := []) rfl rfl rfl rfl rfl rfl rfl rfl rfl rfl (fun _ => xw_rcv1 (t := 0) (xw_obd (by decide +kernel)) rfl) rfl (List.forall_mem_cons.mpr ⟨rfl, fun _ h => absurd h List.not_mem_nil⟩) (ygf94 hB _) (fun v1 m1 cv1 => ?_)
  refine xS_g (fun g0 => ?_)
  refine xS_of (pc' := 15) (L' := [(0, xa 0), (1, xi v1), (2, xa (m1 0 13))]) (st' := [xa 223, xa (m1 0 13)]) (m' := m1) (fun ex ns r q => ?_) ?_
  · refine xw_istore_n (L' := [(1, xi v1), (0, xa 0)]) rfl (by decide) rfl ?_
    refine xw_aload_n rfl rfl rfl ?_
    refine xw_gfM (v := (m1 0 13)) rfl (xw_obd (by decide +kernel)) xk0_13 (qi := 13) rfl rfl ?_
    refine xw_astore_n (L' := [(2, xa (m1 0 13)), (1, xi v1), (0, xa 0)]) rfl rfl (by decide) rfl ?_
    refine xw_aload_n rfl rfl rfl ?_
    refine xw_aload_n rfl rfl rfl ?_
    refine xw_gfR (n := 223) (e := 223) rfl (xw_obd (by decide +kernel)) (by decide +kernel) (by decide +kernel) rfl ?_
    refine xw_lo (L2 := [(0, xa 0), (1, xi v1), (2, xa (m1 0 13))]) (List.forall_mem_cons.mpr ⟨rfl, List.forall_mem_cons.mpr ⟨rfl, List.forall_mem_cons.mpr ⟨rfl, fun _ h => absurd h List.not_mem_nil⟩⟩⟩) ?_
    exact q
  refine xS_call (q := 98) (n := 2) (kq := 0) (as := [xa (m1 0 13), xa 223]) (st1 := []) rfl rfl rfl rfl rfl rfl rfl rfl rfl rfl (fun _ => xw_rcv1 (t := 9) (xw_obd g0) rfl) rfl (List.forall_mem_cons.mpr ⟨rfl, List.forall_mem_cons.mpr ⟨rfl, fun _ h => absurd h List.not_mem_nil⟩⟩) (ygf98 hB _ _) (fun v2 m2 cv2 => ?_)
  refine xS_of (pc' := 20) (L' := [(0, xa 0), (1, xi v1), (2, xa (m1 0 13))]) (st' := [xi (-1), xi v1]) (m' := m2) (fun ex ns r q => ?_) ?_
  · refine xw_iload_n rfl rfl ?_
    refine xw_iconst rfl ?_
    exact q
  refine xS_if (fun h1 => ?_) (fun h1 => ?_)
  · refine xS_of (pc' := 38) (L' := [(0, xa 0), (1, xi v1), (2, xa (m1 0 13)), (4, xi 0)]) (st' := []) (m' := m2) (fun ex ns r q => ?_) ?_
    · refine xw_ic_neF rfl (w32_cg cv1) (w32_cg rfl) h1 ?_
      refine xw_iconst rfl ?_
      refine xw_goto rfl ?_
      refine xw_istore_n (L' := [(3, xi 0), (0, xa 0), (1, xi v1), (2, xa (m1 0 13))]) rfl (by decide) rfl ?_
      refine xw_iload_n rfl rfl ?_
      refine xw_istore (L' := [(4, xi 0), (3, xi 0), (0, xa 0), (1, xi v1), (2, xa (m1 0 13))]) rfl (by decide) rfl ?_
      refine xw_lo (L2 := [(0, xa 0), (1, xi v1), (2, xa (m1 0 13)), (4, xi 0)]) (List.forall_mem_cons.mpr ⟨rfl, List.forall_mem_cons.mpr ⟨rfl, List.forall_mem_cons.mpr ⟨rfl, List.forall_mem_cons.mpr ⟨rfl, fun _ h => absurd h List.not_mem_nil⟩⟩⟩⟩) ?_
      exact q
    exact ygl93_38 hB 1000000 _ _ _ _ cv1 rfl
  · refine xS_of (pc' := 31) (L' := [(0, xa 0), (1, xi v1), (2, xa (m1 0 13))]) (st' := [xa 508]) (m' := m2) (fun ex ns r q => ?_) ?_
    · refine xw_ic_neT rfl (w32_cg cv1) (w32_cg rfl) h1 ?_
      refine xw_aload_n rfl rfl rfl ?_
      refine xw_gfR (n := 508) (e := 508) rfl (xw_obd (by decide +kernel)) (by decide +kernel) (by decide +kernel) rfl ?_
      refine xw_lo (L2 := [(0, xa 0), (1, xi v1), (2, xa (m1 0 13))]) (List.forall_mem_cons.mpr ⟨rfl, List.forall_mem_cons.mpr ⟨rfl, List.forall_mem_cons.mpr ⟨rfl, fun _ h => absurd h List.not_mem_nil⟩⟩⟩) ?_
      exact q
    refine xS_call (q := 102) (n := 1) (kq := 1) (as := [xa 508]) (st1 := []) rfl rfl rfl rfl rfl rfl rfl rfl rfl rfl (fun _ => xw_rcv1 (t := 10) (xw_obd (by decide +kernel)) rfl) rfl (List.forall_mem_cons.mpr ⟨rfl, fun _ h => absurd h List.not_mem_nil⟩) (ygf102 hB _) (fun v3 m3 cv3 => ?_)
    refine xS_of (pc' := 38) (L' := [(0, xa 0), (1, xi v1), (2, xa (m1 0 13)), (4, xi v3)]) (st' := []) (m' := m3) (fun ex ns r q => ?_) ?_
    · refine xw_istore_n (L' := [(3, xi v3), (0, xa 0), (1, xi v1), (2, xa (m1 0 13))]) rfl (by decide) rfl ?_
      refine xw_iload_n rfl rfl ?_
      refine xw_istore (L' := [(4, xi v3), (3, xi v3), (0, xa 0), (1, xi v1), (2, xa (m1 0 13))]) rfl (by decide) rfl ?_
      refine xw_lo (L2 := [(0, xa 0), (1, xi v1), (2, xa (m1 0 13)), (4, xi v3)]) (List.forall_mem_cons.mpr ⟨rfl, List.forall_mem_cons.mpr ⟨rfl, List.forall_mem_cons.mpr ⟨rfl, List.forall_mem_cons.mpr ⟨rfl, fun _ h => absurd h List.not_mem_nil⟩⟩⟩⟩) ?_
      exact q
    exact ygl93_38 hB 1000000 _ _ _ _ cv1 cv3
theorem ygk135_37 {B : Nat} (hB : B ≤ 512) {xs : Nat → Int32} {SL d : Nat} : ∀ m, xS B xs SL (d + 2) 135 (1, none, [], 6) 0 37 [(0, xa 293)] [] m (yk135_37 B m) := by
  intro m
  unfold yk135_37
  refine xS_of (pc' := 50) (L' := []) (st' := [xi (xR m 1 4), xi 6, xa 1]) (m' := m) (fun ex ns r q => ?_) ?_
  · refine xw_aload_n rfl rfl rfl ?_
    refine xw_gfR (n := 1) (e := 1) rfl (xw_obd (by decide +kernel)) (by decide +kernel) (by decide +kernel) rfl ?_
    refine xw_bipush (e := 6) rfl (by decide +kernel) ?_
    refine xw_aload_n rfl rfl rfl ?_
    refine xw_gfR (n := 1) (e := 1) rfl (xw_obd (by decide +kernel)) (by decide +kernel) (by decide +kernel) rfl ?_
    refine xw_gfIc (v := (m 1 4)) (v' := (xR m 1 4)) rfl (xw_obd (by decide +kernel)) xk1_4 (qi := 4) rfl rfl rfl ?_
    refine xw_lo (L2 := []) (fun _ h => absurd h List.not_mem_nil) ?_
    exact q
  refine xS_call (q := 54) (n := 3) (kq := 0) (as := [xa 1, xi 6, xi (xR m 1 4)]) (st1 := []) rfl rfl rfl rfl rfl rfl rfl rfl rfl rfl (fun _ => xw_rcv1 (t := 1) (xw_obd (by decide +kernel)) rfl) rfl (List.forall_mem_cons.mpr ⟨rfl, List.forall_mem_cons.mpr ⟨rfl, List.forall_mem_cons.mpr ⟨rfl, fun _ h => absurd h List.not_mem_nil⟩⟩⟩) (ygf54 hB _ _ _ rfl (w32_xR _ _ _)) (fun v1 m1 cv1 => ?_)
  exact xS_ret (v := 0) rfl rfl rfl rfl
theorem ygf135 {B : Nat} (hB : B ≤ 512) {xs : Nat → Int32} {SL d : Nat} : ∀ m, xS B xs SL (d + 2) 135 (1, none, [], 6) 0 0 [(0, xa 293)] [] m (yf135 B m) := by
  intro m
  unfold yf135
  refine xS_of (pc' := 4) (L' := [(0, xa 293)]) (st' := [xa 1]) (m' := m) (fun ex ns r q => ?_) ?_
  · refine xw_aload_n rfl rfl rfl ?_
    refine xw_gfR (n := 1) (e := 1) rfl (xw_obd (by decide +kernel)) (by decide +kernel) (by decide +kernel) rfl ?_
    refine xw_lo (L2 := [(0, xa 293)]) (List.forall_mem_cons.mpr ⟨rfl, fun _ h => absurd h List.not_mem_nil⟩) ?_
    exact q
  refine xS_call (q := 61) (n := 1) (kq := 0) (as := [xa 1]) (st1 := []) rfl rfl rfl rfl rfl rfl rfl rfl rfl rfl (fun _ => xw_rcv1 (t := 1) (xw_obd (by decide +kernel)) rfl) rfl (List.forall_mem_cons.mpr ⟨rfl, fun _ h => absurd h List.not_mem_nil⟩) (ygf61 hB _) (fun v1 m1 cv1 => ?_)
  refine xS_of (pc' := 15) (L' := [(0, xa 293)]) (st' := [xa 1, xa 3]) (m' := m1) (fun ex ns r q => ?_) ?_
  · refine xw_aload_n rfl rfl rfl ?_
    refine xw_gfR (n := 3) (e := 3) rfl (xw_obd (by decide +kernel)) (by decide +kernel) (by decide +kernel) rfl ?_
    refine xw_aload_n rfl rfl rfl ?_
    refine xw_gfR (n := 1) (e := 1) rfl (xw_obd (by decide +kernel)) (by decide +kernel) (by decide +kernel) rfl ?_
    refine xw_lo (L2 := [(0, xa 293)]) (List.forall_mem_cons.mpr ⟨rfl, fun _ h => absurd h List.not_mem_nil⟩) ?_
    exact q
  refine xS_call (q := 62) (n := 2) (kq := 1) (as := [xa 3, xa 1]) (st1 := []) rfl rfl rfl rfl rfl rfl rfl rfl rfl rfl (fun _ => xw_rcv1 (t := 2) (xw_obd (by decide +kernel)) rfl) rfl (List.forall_mem_cons.mpr ⟨rfl, List.forall_mem_cons.mpr ⟨rfl, fun _ h => absurd h List.not_mem_nil⟩⟩) (ygf62 hB _) (fun v2 m2 cv2 => ?_)
  refine xS_of (pc' := 19) (L' := [(0, xa 293)]) (st' := [xi (-1), xi v2]) (m' := m2) (fun ex ns r q => ?_) ?_
  · refine xw_iconst rfl ?_
    exact q
  refine xS_if (fun h0 => ?_) (fun h0 => ?_)
  · refine xS_of (pc' := 30) (L' := [(0, xa 293)]) (st' := [xa 1, xa 3]) (m' := m2) (fun ex ns r q => ?_) ?_
    · refine xw_ic_neF rfl (w32_cg cv2) (w32_cg rfl) h0 ?_
      refine xw_aload_n rfl rfl rfl ?_
      refine xw_gfR (n := 3) (e := 3) rfl (xw_obd (by decide +kernel)) (by decide +kernel) (by decide +kernel) rfl ?_
      refine xw_aload_n rfl rfl rfl ?_
      refine xw_gfR (n := 1) (e := 1) rfl (xw_obd (by decide +kernel)) (by decide +kernel) (by decide +kernel) rfl ?_
      refine xw_lo (L2 := [(0, xa 293)]) (List.forall_mem_cons.mpr ⟨rfl, fun _ h => absurd h List.not_mem_nil⟩) ?_
      exact q
    refine xS_call (q := 70) (n := 2) (kq := 1) (as := [xa 3, xa 1]) (st1 := []) rfl rfl rfl rfl rfl rfl rfl rfl rfl rfl (fun _ => xw_rcv1 (t := 2) (xw_obd (by decide +kernel)) rfl) rfl (List.forall_mem_cons.mpr ⟨rfl, List.forall_mem_cons.mpr ⟨rfl, fun _ h => absurd h List.not_mem_nil⟩⟩) (ygf70 hB _) (fun v3 m3 cv3 => ?_)
    refine xS_of (pc' := 34) (L' := [(0, xa 293)]) (st' := [xi (-1), xi v3]) (m' := m3) (fun ex ns r q => ?_) ?_
    · refine xw_iconst rfl ?_
      exact q
    refine xS_if (fun h1 => ?_) (fun h1 => ?_)
    · refine xS_of (pc' := 53) (L' := [(0, xa 293)]) (st' := []) (m' := m3) (fun ex ns r q => ?_) ?_
      · refine xw_ic_eqT rfl (w32_cg cv3) (w32_cg rfl) h1 ?_
        exact q
      exact xS_ret (v := 0) rfl rfl rfl rfl
    · refine xS_of (pc' := 37) (L' := [(0, xa 293)]) (st' := []) (m' := m3) (fun ex ns r q => ?_) ?_
      · refine xw_ic_eqF rfl (w32_cg cv3) (w32_cg rfl) h1 ?_
        refine xw_lo (L2 := [(0, xa 293)]) (List.forall_mem_cons.mpr ⟨rfl, fun _ h => absurd h List.not_mem_nil⟩) ?_
        exact q
      exact ygk135_37 hB _
  · refine xS_of (pc' := 37) (L' := [(0, xa 293)]) (st' := []) (m' := m2) (fun ex ns r q => ?_) ?_
    · refine xw_ic_neT rfl (w32_cg cv2) (w32_cg rfl) h0 ?_
      refine xw_lo (L2 := [(0, xa 293)]) (List.forall_mem_cons.mpr ⟨rfl, fun _ h => absurd h List.not_mem_nil⟩) ?_
      exact q
    exact ygk135_37 hB _
theorem ygf137 {B : Nat} (hB : B ≤ 512) {xs : Nat → Int32} {SL d : Nat} : ∀ p0 m, xS B xs SL (d + 0) 137 (3, (some .int), [], 2) 1 0 [(0, xa 1), (1, xa p0)] [] m (yf137 B p0 m) := by
  intro p0 m
  unfold yf137
  refine xS_g (fun g0 => ?_)
  refine xS_g (fun g1 => ?_)
  refine xS_g (fun g2 => ?_)
  refine xS_of (pc' := 30) (L' := [(2, xi (min (w32 ((xR m 1 2) - (xR m 1 4))) 40)), (0, xa 1), (1, xa p0)]) (st' := [xi (min (w32 ((xR m 1 2) - (xR m 1 4))) 40)]) (m' := (xw_cp m 2 (xR m 1 4) p0 0 (min (w32 ((xR m 1 2) - (xR m 1 4))) 40))) (fun ex ns r q => ?_) ?_
  · refine xw_aload_n rfl rfl rfl ?_
    refine xw_gfIc (v := (m 1 2)) (v' := (xR m 1 2)) rfl (xw_obd (by decide +kernel)) xk1_2 (qi := 2) rfl rfl rfl ?_
    refine xw_aload_n rfl rfl rfl ?_
    refine xw_gfIc (v := (m 1 4)) (v' := (xR m 1 4)) rfl (xw_obd (by decide +kernel)) xk1_4 (qi := 4) rfl rfl rfl ?_
    refine xw_isub rfl ?_
    refine xw_bipush (e := 40) rfl (by decide +kernel) ?_
    refine xw_cst (st' := [xi 40, xi (w32 ((xR m 1 2) - (xR m 1 4)))]) (xw_sc rfl (xw_sc (xi_c rfl) rfl)) ?_
    refine xw_minI rfl rfl (w32_cg (w32_w _)) (w32_cg rfl) rfl ?_
    refine xw_istore_n (L' := [(2, xi (min (w32 ((xR m 1 2) - (xR m 1 4))) 40)), (0, xa 1), (1, xa p0)]) rfl (by decide) rfl ?_
    refine xw_aload_n rfl rfl rfl ?_
    refine xw_gfR (n := 2) (e := 2) rfl (xw_obd (by decide +kernel)) (by decide +kernel) (by decide +kernel) rfl ?_
    refine xw_aload_n rfl rfl rfl ?_
    refine xw_gfIc (v := (m 1 4)) (v' := (xR m 1 4)) rfl (xw_obd (by decide +kernel)) xk1_4 (qi := 4) rfl rfl rfl ?_
    refine xw_aload_n rfl rfl rfl ?_
    refine xw_iconst rfl ?_
    refine xw_iload_n rfl rfl ?_
    refine xw_acopy (t := 18) (ls := 65536) (ld := (xw_le B p0)) rfl rfl hB (xw_obd (by decide +kernel)) (xw_obd g1) rfl rfl g0 g2 ?_
    refine xw_iload_n rfl rfl ?_
    exact q
  exact xS_ret (v := (min (w32 ((xR m 1 2) - (xR m 1 4))) 40)) rfl rfl xw_rtI (w32_mn (w32_w _) rfl)
theorem ygf136 {B : Nat} (hB : B ≤ 512) {xs : Nat → Int32} {SL d : Nat} : ∀ t m, xS B xs SL (d + 1) 136 (2, none, [], 4) 0 0 [(0, xa t), (1, xa 1)] [] m (yf136 B t m) := by
  intro t m
  unfold yf136
  refine xS_g (fun g0 => ?_)
  refine xS_of (pc' := 6) (L' := [(0, xa t)]) (st' := [xa (xw_rf t 0), xa 1, xa t]) (m' := m) (fun ex ns r q => ?_) ?_
  · refine xw_aload_n rfl rfl rfl ?_
    refine xw_aload_n rfl rfl rfl ?_
    refine xw_aload_n rfl rfl rfl ?_
    refine xw_gfV (qi := 0) rfl (xw_obd g0) xk3_0 rfl ?_
    refine xw_lo (L2 := [(0, xa t)]) (List.forall_mem_cons.mpr ⟨rfl, fun _ h => absurd h List.not_mem_nil⟩) ?_
    exact q
  refine xS_call (q := 137) (n := 2) (kq := 1) (as := [xa 1, xa (xw_rf t 0)]) (st1 := [xa t]) rfl rfl rfl rfl rfl rfl rfl rfl rfl rfl (fun _ => xw_rcv1 (t := 1) (xw_obd (by decide +kernel)) rfl) rfl (List.forall_mem_cons.mpr ⟨rfl, List.forall_mem_cons.mpr ⟨rfl, fun _ h => absurd h List.not_mem_nil⟩⟩) (ygf137 hB _ _) (fun v1 m1 cv1 => ?_)
  refine xS_of (pc' := 22) (L' := [(0, xa t)]) (st' := []) (m' := (xw_u (xw_u (xw_u m1 t 9 v1) t 10 0) t 11 0)) (fun ex ns r q => ?_) ?_
  · refine xw_pfI rfl (xw_obd g0) xk3_9 (qi := 9) rfl (xw_okI rfl) ?_
    refine xw_aload_n rfl rfl rfl ?_
    refine xw_iconst rfl ?_
    refine xw_pfI rfl (xw_obd g0) xk3_10 (qi := 10) rfl (xw_okI rfl) ?_
    refine xw_aload_n rfl rfl rfl ?_
    refine xw_iconst rfl ?_
    refine xw_pfI rfl (xw_obd g0) xk3_11 (qi := 11) rfl (xw_okI rfl) ?_
    exact q
  exact xS_ret (v := 0) rfl rfl rfl rfl
theorem ygf138 {B : Nat} (hB : B ≤ 512) {xs : Nat → Int32} {SL d : Nat} : ∀ t m, xS B xs SL (d + 1) 138 (2, none, [], 4) 0 0 [(0, xa t), (1, xa 1)] [] m (yf138 B t m) := by
  intro t m
  unfold yf138
  refine xS_g (fun g0 => ?_)
  refine xS_g (fun g1 => ?_)
  refine xS_g (fun g2 => ?_)
  refine xS_g (fun g3 => ?_)
  refine xS_of (pc' := 18) (L' := [(0, xa t)]) (st' := [xa (xw_rf (xw_rf t 1) (xR m t 10)), xa 1, xi (xR m t 10), xa (xw_rf t 2)]) (m' := m) (fun ex ns r q => ?_) ?_
  · refine xw_aload_n rfl rfl rfl ?_
    refine xw_gfV (qi := 2) rfl (xw_obd g0) xk3_2 rfl ?_
    refine xw_aload_n rfl rfl rfl ?_
    refine xw_gfIc (v := (m t 10)) (v' := (xR m t 10)) rfl (xw_obd g0) xk3_10 (qi := 10) rfl rfl rfl ?_
    refine xw_aload_n rfl rfl rfl ?_
    refine xw_aload_n rfl rfl rfl ?_
    refine xw_gfV (qi := 1) rfl (xw_obd g0) xk3_1 rfl ?_
    refine xw_aload_n rfl rfl rfl ?_
    refine xw_gfIc (v := (m t 10)) (v' := (xR m t 10)) rfl (xw_obd g0) xk3_10 (qi := 10) rfl rfl rfl ?_
    refine xw_aald (t := 22) (n := (xw_le B (xw_rf t 1))) (q := xw_kd (xw_rf t 1) (xR m t 10) - 5) (e := (xw_rf (xw_rf t 1) (xR m t 10))) rfl hB (xw_obd g3) (by decide) rfl g1 (by have := g2; omega) (xw_rfn g2) ?_
    refine xw_lo (L2 := [(0, xa t)]) (List.forall_mem_cons.mpr ⟨rfl, fun _ h => absurd h List.not_mem_nil⟩) ?_
    exact q
  refine xS_call (q := 137) (n := 2) (kq := 1) (as := [xa 1, xa (xw_rf (xw_rf t 1) (xR m t 10))]) (st1 := [xi (xR m t 10), xa (xw_rf t 2)]) rfl rfl rfl rfl rfl rfl rfl rfl rfl rfl (fun _ => xw_rcv1 (t := 1) (xw_obd (by decide +kernel)) rfl) rfl (List.forall_mem_cons.mpr ⟨rfl, List.forall_mem_cons.mpr ⟨rfl, fun _ h => absurd h List.not_mem_nil⟩⟩) (ygf137 hB _ _) (fun v1 m1 cv1 => ?_)
  refine xS_g (fun g4 => ?_)
  refine xS_g (fun g5 => ?_)
  refine xS_of (pc' := 32) (L' := [(0, xa t)]) (st' := []) (m' := (xw_u (xw_u m1 (xw_rf t 2) (xR m t 10) v1) t 10 ((xR m1 t 10) + 1))) (fun ex ns r q => ?_) ?_
  · refine xw_iast (n := (xw_le B (xw_rf t 2))) rfl hB (xw_obd g5) rfl g4 ?_
    refine xw_aload_n rfl rfl rfl ?_
    refine xw_dup rfl rfl ?_
    refine xw_gfIc (v := (m1 t 10)) (v' := (xR m1 t 10)) rfl (xw_obd g0) xk3_10 (qi := 10) rfl (xw_un (xw_obne (t := 16) (t' := 3) (xw_obd g5) (xw_obd g0) (by decide)) rfl) rfl ?_
    refine xw_iconst rfl ?_
    refine xw_iadd rfl ?_
    refine xw_pfI rfl (xw_obd g0) xk3_10 (qi := 10) rfl (xw_okI rfl) ?_
    exact q
  exact xS_ret (v := 0) rfl rfl rfl rfl
theorem ygk134_170 {B : Nat} (hB : B ≤ 512) {xs : Nat → Int32} {SL d : Nat} : ∀ m, xS B xs SL (d + 3) 134 (3, none, [], 6) 0 170 [(0, xa 293)] [] m (yk134_170 B m) := by
  intro m
  unfold yk134_170
  refine xS_of (pc' := 176) (L' := [(0, xa 293)]) (st' := [xi 59, xa 1]) (m' := m) (fun ex ns r q => ?_) ?_
  · refine xw_aload_n rfl rfl rfl ?_
    refine xw_gfR (n := 1) (e := 1) rfl (xw_obd (by decide +kernel)) (by decide +kernel) (by decide +kernel) rfl ?_
    refine xw_bipush (e := 59) rfl (by decide +kernel) ?_
    refine xw_lo (L2 := [(0, xa 293)]) (List.forall_mem_cons.mpr ⟨rfl, fun _ h => absurd h List.not_mem_nil⟩) ?_
    exact q
  refine xS_call (q := 68) (n := 2) (kq := 0) (as := [xa 1, xi 59]) (st1 := []) rfl rfl rfl rfl rfl rfl rfl rfl rfl rfl (fun _ => xw_rcv1 (t := 1) (xw_obd (by decide +kernel)) rfl) rfl (List.forall_mem_cons.mpr ⟨rfl, List.forall_mem_cons.mpr ⟨rfl, fun _ h => absurd h List.not_mem_nil⟩⟩) (ygf68 hB _ _ rfl) (fun v1 m1 cv1 => ?_)
  refine xS_of (pc' := 192) (L' := [(0, xa 293)]) (st' := []) (m' := (xw_u m1 3 1 ((xR m1 3 1) + 1))) (fun ex ns r q => ?_) ?_
  · refine xw_aload_n rfl rfl rfl ?_
    refine xw_gfR (n := 3) (e := 3) rfl (xw_obd (by decide +kernel)) (by decide +kernel) (by decide +kernel) rfl ?_
    refine xw_dup rfl rfl ?_
    refine xw_gfIc (v := (m1 3 1)) (v' := (xR m1 3 1)) rfl (xw_obd (by decide +kernel)) xk2_1 (qi := 1) rfl rfl rfl ?_
    refine xw_iconst rfl ?_
    refine xw_iadd rfl ?_
    refine xw_pfI rfl (xw_obd (by decide +kernel)) xk2_1 (qi := 1) rfl (xw_okI rfl) ?_
    exact q
  exact xS_ret (v := 0) rfl rfl rfl rfl
theorem ygk134_151 {B : Nat} (hB : B ≤ 512) {xs : Nat → Int32} {SL d : Nat} : ∀ m, xS B xs SL (d + 3) 134 (3, none, [], 6) 0 151 [(0, xa 293)] [] m (yk134_151 B m) := by
  intro m
  unfold yk134_151
  refine xS_of (pc' := 160) (L' := [(0, xa 293)]) (st' := [xi 41, xi (xR m 1 3)]) (m' := m) (fun ex ns r q => ?_) ?_
  · refine xw_aload_n rfl rfl rfl ?_
    refine xw_gfR (n := 1) (e := 1) rfl (xw_obd (by decide +kernel)) (by decide +kernel) (by decide +kernel) rfl ?_
    refine xw_gfIc (v := (m 1 3)) (v' := (xR m 1 3)) rfl (xw_obd (by decide +kernel)) xk1_3 (qi := 3) rfl rfl rfl ?_
    refine xw_bipush (e := 41) rfl (by decide +kernel) ?_
    exact q
  refine xS_if (fun h0 => ?_) (fun h0 => ?_)
  · refine xS_of (pc' := 170) (L' := [(0, xa 293)]) (st' := []) (m' := m) (fun ex ns r q => ?_) ?_
    · refine xw_ic_eqT rfl (w32_cg (w32_xR _ _ _)) (w32_cg rfl) h0 ?_
      refine xw_lo (L2 := [(0, xa 293)]) (List.forall_mem_cons.mpr ⟨rfl, fun _ h => absurd h List.not_mem_nil⟩) ?_
      exact q
    exact ygk134_170 hB _
  · refine xS_of (pc' := 167) (L' := [(0, xa 293)]) (st' := [xa 1]) (m' := m) (fun ex ns r q => ?_) ?_
    · refine xw_ic_eqF rfl (w32_cg (w32_xR _ _ _)) (w32_cg rfl) h0 ?_
      refine xw_aload_n rfl rfl rfl ?_
      refine xw_gfR (n := 1) (e := 1) rfl (xw_obd (by decide +kernel)) (by decide +kernel) (by decide +kernel) rfl ?_
      refine xw_lo (L2 := [(0, xa 293)]) (List.forall_mem_cons.mpr ⟨rfl, fun _ h => absurd h List.not_mem_nil⟩) ?_
      exact q
    refine xS_call (q := 56) (n := 1) (kq := 0) (as := [xa 1]) (st1 := []) rfl rfl rfl rfl rfl rfl rfl rfl rfl rfl (fun _ => xw_rcv1 (t := 1) (xw_obd (by decide +kernel)) rfl) rfl (List.forall_mem_cons.mpr ⟨rfl, fun _ h => absurd h List.not_mem_nil⟩) (ygf56 hB _) (fun v1 m1 cv1 => ?_)
    refine xS_of (pc' := 170) (L' := [(0, xa 293)]) (st' := []) (m' := m1) (fun ex ns r q => ?_) ?_
    · refine xw_lo (L2 := [(0, xa 293)]) (List.forall_mem_cons.mpr ⟨rfl, fun _ h => absurd h List.not_mem_nil⟩) ?_
      exact q
    exact ygk134_170 hB _
theorem ygk134_106 {B : Nat} (hB : B ≤ 512) {xs : Nat → Int32} {SL d : Nat} {r59 : Int → Int → xw_M → xP} (hr59 : ∀ x1 x2 m, w32 x2 = x2 → xS B xs SL (d + 3) 134 (3, none, [], 6) 0 59 [(0, xa 293), (1, xa x1), (2, xi x2)] [] m (r59 x1 x2 m)) : ∀ x1 x2 m, w32 x2 = x2 → xS B xs SL (d + 3) 134 (3, none, [], 6) 0 106 [(0, xa 293), (1, xa x1), (2, xi x2)] [] m (yk134_106 B r59 x1 x2 m) := by
  intro x1 x2 m c2
  unfold yk134_106
  refine xS_g (fun g0 => ?_)
  refine xS_of (pc' := 112) (L' := [(0, xa 293), (1, xa x1), (2, xi x2)]) (st' := [xi 4, xi (xR m x1 10), xa 293]) (m' := m) (fun ex ns r q => ?_) ?_
  · refine xw_aload_n rfl rfl rfl ?_
    refine xw_aload_n rfl rfl rfl ?_
    refine xw_gfIc (v := (m x1 10)) (v' := (xR m x1 10)) rfl (xw_obd g0) xk3_10 (qi := 10) rfl rfl rfl ?_
    refine xw_iconst rfl ?_
    refine xw_lo (L2 := [(0, xa 293), (1, xa x1), (2, xi x2)]) (List.forall_mem_cons.mpr ⟨rfl, List.forall_mem_cons.mpr ⟨rfl, List.forall_mem_cons.mpr ⟨rfl, fun _ h => absurd h List.not_mem_nil⟩⟩⟩) ?_
    exact q
  refine xS_call (q := 64) (n := 3) (kq := 0) (as := [xa 293, xi (xR m x1 10), xi 4]) (st1 := []) rfl rfl rfl rfl rfl rfl rfl rfl rfl rfl (fun _ => xw_rcv1 (t := 5) (xw_obd (by decide +kernel)) rfl) rfl (List.forall_mem_cons.mpr ⟨rfl, List.forall_mem_cons.mpr ⟨rfl, List.forall_mem_cons.mpr ⟨rfl, fun _ h => absurd h List.not_mem_nil⟩⟩⟩) (ygf64 hB _ _ _ (w32_xR _ _ _) rfl) (fun v1 m1 cv1 => ?_)
  refine xS_of (pc' := 120) (L' := [(0, xa 293), (1, xa x1), (2, xi x2)]) (st' := [xa 1, xa x1]) (m' := m1) (fun ex ns r q => ?_) ?_
  · refine xw_aload_n rfl rfl rfl ?_
    refine xw_aload_n rfl rfl rfl ?_
    refine xw_gfR (n := 1) (e := 1) rfl (xw_obd (by decide +kernel)) (by decide +kernel) (by decide +kernel) rfl ?_
    refine xw_lo (L2 := [(0, xa 293), (1, xa x1), (2, xi x2)]) (List.forall_mem_cons.mpr ⟨rfl, List.forall_mem_cons.mpr ⟨rfl, List.forall_mem_cons.mpr ⟨rfl, fun _ h => absurd h List.not_mem_nil⟩⟩⟩) ?_
    exact q
  refine xS_call (q := 138) (n := 2) (kq := 0) (as := [xa x1, xa 1]) (st1 := []) rfl rfl rfl rfl rfl rfl rfl rfl rfl rfl (fun _ => xw_rcv1 (t := 3) (xw_obd g0) rfl) rfl (List.forall_mem_cons.mpr ⟨rfl, List.forall_mem_cons.mpr ⟨rfl, fun _ h => absurd h List.not_mem_nil⟩⟩) (ygf138 hB _ _) (fun v2 m2 cv2 => ?_)
  refine xS_of (pc' := 127) (L' := [(0, xa 293), (1, xa x1), (2, xi x2)]) (st' := [xa 1]) (m' := m2) (fun ex ns r q => ?_) ?_
  · refine xw_aload_n rfl rfl rfl ?_
    refine xw_gfR (n := 1) (e := 1) rfl (xw_obd (by decide +kernel)) (by decide +kernel) (by decide +kernel) rfl ?_
    refine xw_lo (L2 := [(0, xa 293), (1, xa x1), (2, xi x2)]) (List.forall_mem_cons.mpr ⟨rfl, List.forall_mem_cons.mpr ⟨rfl, List.forall_mem_cons.mpr ⟨rfl, fun _ h => absurd h List.not_mem_nil⟩⟩⟩) ?_
    exact q
  refine xS_call (q := 47) (n := 1) (kq := 0) (as := [xa 1]) (st1 := []) rfl rfl rfl rfl rfl rfl rfl rfl rfl rfl (fun _ => xw_rcv1 (t := 1) (xw_obd (by decide +kernel)) rfl) rfl (List.forall_mem_cons.mpr ⟨rfl, fun _ h => absurd h List.not_mem_nil⟩) (ygf47 hB _) (fun v3 m3 cv3 => ?_)
  refine xS_of (pc' := 139) (L' := [(0, xa 293), (1, xa x1), (2, xi x2)]) (st' := [xi 44, xi (xR m3 1 3)]) (m' := m3) (fun ex ns r q => ?_) ?_
  · refine xw_aload_n rfl rfl rfl ?_
    refine xw_gfR (n := 1) (e := 1) rfl (xw_obd (by decide +kernel)) (by decide +kernel) (by decide +kernel) rfl ?_
    refine xw_gfIc (v := (m3 1 3)) (v' := (xR m3 1 3)) rfl (xw_obd (by decide +kernel)) xk1_3 (qi := 3) rfl rfl rfl ?_
    refine xw_bipush (e := 44) rfl (by decide +kernel) ?_
    exact q
  refine xS_if (fun h1 => ?_) (fun h1 => ?_)
  · refine xS_of (pc' := 59) (L' := [(0, xa 293), (1, xa x1), (2, xi (w32 (x2 + 1)))]) (st' := []) (m' := m3) (fun ex ns r q => ?_) ?_
    · refine xw_ic_eqT rfl (w32_cg (w32_xR _ _ _)) (w32_cg rfl) h1 ?_
      refine xw_iincc (z := (w32 (x2 + 1))) (L' := [(2, xi (w32 (x2 + 1))), (0, xa 293), (1, xa x1)]) rfl rfl (by decide) rfl rfl ?_
      refine xw_goto rfl ?_
      refine xw_lo (L2 := [(0, xa 293), (1, xa x1), (2, xi (w32 (x2 + 1)))]) (List.forall_mem_cons.mpr ⟨rfl, List.forall_mem_cons.mpr ⟨rfl, List.forall_mem_cons.mpr ⟨rfl, fun _ h => absurd h List.not_mem_nil⟩⟩⟩) ?_
      exact q
    exact hr59 _ _ _ (w32_w _)
  · refine xS_of (pc' := 151) (L' := [(0, xa 293)]) (st' := []) (m' := m3) (fun ex ns r q => ?_) ?_
    · refine xw_ic_eqF rfl (w32_cg (w32_xR _ _ _)) (w32_cg rfl) h1 ?_
      refine xw_goto rfl ?_
      refine xw_lo (L2 := [(0, xa 293)]) (List.forall_mem_cons.mpr ⟨rfl, fun _ h => absurd h List.not_mem_nil⟩) ?_
      exact q
    exact ygk134_151 hB _
theorem ysl134_59 {B : Nat} (hB : B ≤ 512) {xs : Nat → Int32} {SL d : Nat} {r59 : Int → Int → xw_M → xP} (hr59 : ∀ x1 x2 m, w32 x2 = x2 → xS B xs SL (d + 3) 134 (3, none, [], 6) 0 59 [(0, xa 293), (1, xa x1), (2, xi x2)] [] m (r59 x1 x2 m)) : ∀ x1 x2 m, w32 x2 = x2 → xS B xs SL (d + 3) 134 (3, none, [], 6) 0 59 [(0, xa 293), (1, xa x1), (2, xi x2)] [] m (yl134_59 B r59 x1 x2 m) := by
  intro x1 x2 m c2
  unfold yl134_59
  refine xS_of (pc' := 61) (L' := [(0, xa 293), (1, xa x1), (2, xi x2)]) (st' := [xi 4, xi x2]) (m' := m) (fun ex ns r q => ?_) ?_
  · refine xw_iload_n rfl rfl ?_
    refine xw_iconst rfl ?_
    exact q
  refine xS_if (fun h0 => ?_) (fun h0 => ?_)
  · refine xS_of (pc' := 151) (L' := [(0, xa 293)]) (st' := []) (m' := m) (fun ex ns r q => ?_) ?_
    · refine xw_ic_gtT rfl (w32_cg c2) (w32_cg rfl) h0 ?_
      refine xw_lo (L2 := [(0, xa 293)]) (List.forall_mem_cons.mpr ⟨rfl, fun _ h => absurd h List.not_mem_nil⟩) ?_
      exact q
    exact ygk134_151 hB _
  · refine xS_of (pc' := 68) (L' := [(0, xa 293), (1, xa x1), (2, xi x2)]) (st' := [xa 1]) (m' := m) (fun ex ns r q => ?_) ?_
    · refine xw_ic_gtF rfl (w32_cg c2) (w32_cg rfl) h0 ?_
      refine xw_aload_n rfl rfl rfl ?_
      refine xw_gfR (n := 1) (e := 1) rfl (xw_obd (by decide +kernel)) (by decide +kernel) (by decide +kernel) rfl ?_
      refine xw_lo (L2 := [(0, xa 293), (1, xa x1), (2, xi x2)]) (List.forall_mem_cons.mpr ⟨rfl, List.forall_mem_cons.mpr ⟨rfl, List.forall_mem_cons.mpr ⟨rfl, fun _ h => absurd h List.not_mem_nil⟩⟩⟩) ?_
      exact q
    refine xS_call (q := 47) (n := 1) (kq := 0) (as := [xa 1]) (st1 := []) rfl rfl rfl rfl rfl rfl rfl rfl rfl rfl (fun _ => xw_rcv1 (t := 1) (xw_obd (by decide +kernel)) rfl) rfl (List.forall_mem_cons.mpr ⟨rfl, fun _ h => absurd h List.not_mem_nil⟩) (ygf47 hB _) (fun v1 m1 cv1 => ?_)
    refine xS_of (pc' := 75) (L' := [(0, xa 293), (1, xa x1), (2, xi x2)]) (st' := [xa 1]) (m' := m1) (fun ex ns r q => ?_) ?_
    · refine xw_aload_n rfl rfl rfl ?_
      refine xw_gfR (n := 1) (e := 1) rfl (xw_obd (by decide +kernel)) (by decide +kernel) (by decide +kernel) rfl ?_
      refine xw_lo (L2 := [(0, xa 293), (1, xa x1), (2, xi x2)]) (List.forall_mem_cons.mpr ⟨rfl, List.forall_mem_cons.mpr ⟨rfl, List.forall_mem_cons.mpr ⟨rfl, fun _ h => absurd h List.not_mem_nil⟩⟩⟩) ?_
      exact q
    refine xS_call (q := 61) (n := 1) (kq := 0) (as := [xa 1]) (st1 := []) rfl rfl rfl rfl rfl rfl rfl rfl rfl rfl (fun _ => xw_rcv1 (t := 1) (xw_obd (by decide +kernel)) rfl) rfl (List.forall_mem_cons.mpr ⟨rfl, fun _ h => absurd h List.not_mem_nil⟩) (ygf61 hB _) (fun v2 m2 cv2 => ?_)
    refine xS_g (fun g1 => ?_)
    refine xS_of (pc' := 83) (L' := [(0, xa 293), (1, xa x1), (2, xi x2)]) (st' := [xa 1, xa x1]) (m' := m2) (fun ex ns r q => ?_) ?_
    · refine xw_aload_n rfl rfl rfl ?_
      refine xw_aload_n rfl rfl rfl ?_
      refine xw_gfR (n := 1) (e := 1) rfl (xw_obd (by decide +kernel)) (by decide +kernel) (by decide +kernel) rfl ?_
      refine xw_lo (L2 := [(0, xa 293), (1, xa x1), (2, xi x2)]) (List.forall_mem_cons.mpr ⟨rfl, List.forall_mem_cons.mpr ⟨rfl, List.forall_mem_cons.mpr ⟨rfl, fun _ h => absurd h List.not_mem_nil⟩⟩⟩) ?_
      exact q
    refine xS_call (q := 66) (n := 2) (kq := 1) (as := [xa x1, xa 1]) (st1 := []) rfl rfl rfl rfl rfl rfl rfl rfl rfl rfl (fun _ => xw_rcv1 (t := 3) (xw_obd g1) rfl) rfl (List.forall_mem_cons.mpr ⟨rfl, List.forall_mem_cons.mpr ⟨rfl, fun _ h => absurd h List.not_mem_nil⟩⟩) (ygf66 hB _ _) (fun v3 m3 cv3 => ?_)
    refine xS_of (pc' := 87) (L' := [(0, xa 293), (1, xa x1), (2, xi x2)]) (st' := [xi (-1), xi v3]) (m' := m3) (fun ex ns r q => ?_) ?_
    · refine xw_iconst rfl ?_
      exact q
    refine xS_if (fun h2 => ?_) (fun h2 => ?_)
    · refine xS_of (pc' := 106) (L' := [(0, xa 293), (1, xa x1), (2, xi x2)]) (st' := []) (m' := m3) (fun ex ns r q => ?_) ?_
      · refine xw_ic_eqT rfl (w32_cg cv3) (w32_cg rfl) h2 ?_
        refine xw_lo (L2 := [(0, xa 293), (1, xa x1), (2, xi x2)]) (List.forall_mem_cons.mpr ⟨rfl, List.forall_mem_cons.mpr ⟨rfl, List.forall_mem_cons.mpr ⟨rfl, fun _ h => absurd h List.not_mem_nil⟩⟩⟩) ?_
        exact q
      exact ygk134_106 hB hr59 _ _ _ c2
    · refine xS_of (pc' := 103) (L' := [(0, xa 293), (1, xa x1), (2, xi x2)]) (st' := [xi (xR m3 1 4), xi 6, xa 1]) (m' := m3) (fun ex ns r q => ?_) ?_
      · refine xw_ic_eqF rfl (w32_cg cv3) (w32_cg rfl) h2 ?_
        refine xw_aload_n rfl rfl rfl ?_
        refine xw_gfR (n := 1) (e := 1) rfl (xw_obd (by decide +kernel)) (by decide +kernel) (by decide +kernel) rfl ?_
        refine xw_bipush (e := 6) rfl (by decide +kernel) ?_
        refine xw_aload_n rfl rfl rfl ?_
        refine xw_gfR (n := 1) (e := 1) rfl (xw_obd (by decide +kernel)) (by decide +kernel) (by decide +kernel) rfl ?_
        refine xw_gfIc (v := (m3 1 4)) (v' := (xR m3 1 4)) rfl (xw_obd (by decide +kernel)) xk1_4 (qi := 4) rfl rfl rfl ?_
        refine xw_lo (L2 := [(0, xa 293), (1, xa x1), (2, xi x2)]) (List.forall_mem_cons.mpr ⟨rfl, List.forall_mem_cons.mpr ⟨rfl, List.forall_mem_cons.mpr ⟨rfl, fun _ h => absurd h List.not_mem_nil⟩⟩⟩) ?_
        exact q
      refine xS_call (q := 54) (n := 3) (kq := 0) (as := [xa 1, xi 6, xi (xR m3 1 4)]) (st1 := []) rfl rfl rfl rfl rfl rfl rfl rfl rfl rfl (fun _ => xw_rcv1 (t := 1) (xw_obd (by decide +kernel)) rfl) rfl (List.forall_mem_cons.mpr ⟨rfl, List.forall_mem_cons.mpr ⟨rfl, List.forall_mem_cons.mpr ⟨rfl, fun _ h => absurd h List.not_mem_nil⟩⟩⟩) (ygf54 hB _ _ _ rfl (w32_xR _ _ _)) (fun v4 m4 cv4 => ?_)
      refine xS_of (pc' := 106) (L' := [(0, xa 293), (1, xa x1), (2, xi x2)]) (st' := []) (m' := m4) (fun ex ns r q => ?_) ?_
      · refine xw_lo (L2 := [(0, xa 293), (1, xa x1), (2, xi x2)]) (List.forall_mem_cons.mpr ⟨rfl, List.forall_mem_cons.mpr ⟨rfl, List.forall_mem_cons.mpr ⟨rfl, fun _ h => absurd h List.not_mem_nil⟩⟩⟩) ?_
        exact q
      exact ygk134_106 hB hr59 _ _ _ c2
theorem ygl134_59 {B : Nat} (hB : B ≤ 512) {xs : Nat → Int32} {SL d : Nat} : ∀ n x1 x2 m, w32 x2 = x2 → xS B xs SL (d + 3) 134 (3, none, [], 6) 0 59 [(0, xa 293), (1, xa x1), (2, xi x2)] [] m (xl2 (yl134_59 B) n x1 x2 m) := by
  intro n
  induction n with
  | zero => intro x1 x2 m c2; exact xS_none
  | succ n ih => exact ysl134_59 hB ih
theorem ygf134 {B : Nat} (hB : B ≤ 512) {xs : Nat → Int32} {SL d : Nat} : ∀ m, xS B xs SL (d + 3) 134 (3, none, [], 6) 0 0 [(0, xa 293)] [] m (yf134 B m) := by
  intro m
  unfold yf134
  refine xS_of (pc' := 4) (L' := [(0, xa 293)]) (st' := [xa 1]) (m' := m) (fun ex ns r q => ?_) ?_
  · refine xw_aload_n rfl rfl rfl ?_
    refine xw_gfR (n := 1) (e := 1) rfl (xw_obd (by decide +kernel)) (by decide +kernel) (by decide +kernel) rfl ?_
    refine xw_lo (L2 := [(0, xa 293)]) (List.forall_mem_cons.mpr ⟨rfl, fun _ h => absurd h List.not_mem_nil⟩) ?_
    exact q
  refine xS_call (q := 47) (n := 1) (kq := 0) (as := [xa 1]) (st1 := []) rfl rfl rfl rfl rfl rfl rfl rfl rfl rfl (fun _ => xw_rcv1 (t := 1) (xw_obd (by decide +kernel)) rfl) rfl (List.forall_mem_cons.mpr ⟨rfl, fun _ h => absurd h List.not_mem_nil⟩) (ygf47 hB _) (fun v1 m1 cv1 => ?_)
  refine xS_of (pc' := 8) (L' := [(0, xa 293)]) (st' := [xa 293]) (m' := m1) (fun ex ns r q => ?_) ?_
  · refine xw_aload_n rfl rfl rfl ?_
    refine xw_lo (L2 := [(0, xa 293)]) (List.forall_mem_cons.mpr ⟨rfl, fun _ h => absurd h List.not_mem_nil⟩) ?_
    exact q
  refine xS_call (q := 135) (n := 1) (kq := 0) (as := [xa 293]) (st1 := []) rfl rfl rfl rfl rfl rfl rfl rfl rfl rfl (fun _ => xw_rcv1 (t := 5) (xw_obd (by decide +kernel)) rfl) rfl (List.forall_mem_cons.mpr ⟨rfl, fun _ h => absurd h List.not_mem_nil⟩) (ygf135 hB _) (fun v2 m2 cv2 => ?_)
  refine xS_of (pc' := 21) (L' := [(0, xa 293)]) (st' := [xi 8, xi (xR m2 3 1), xa 293]) (m' := m2) (fun ex ns r q => ?_) ?_
  · refine xw_aload_n rfl rfl rfl ?_
    refine xw_aload_n rfl rfl rfl ?_
    refine xw_gfR (n := 3) (e := 3) rfl (xw_obd (by decide +kernel)) (by decide +kernel) (by decide +kernel) rfl ?_
    refine xw_gfIc (v := (m2 3 1)) (v' := (xR m2 3 1)) rfl (xw_obd (by decide +kernel)) xk2_1 (qi := 1) rfl rfl rfl ?_
    refine xw_bipush (e := 8) rfl (by decide +kernel) ?_
    refine xw_lo (L2 := [(0, xa 293)]) (List.forall_mem_cons.mpr ⟨rfl, fun _ h => absurd h List.not_mem_nil⟩) ?_
    exact q
  refine xS_call (q := 64) (n := 3) (kq := 0) (as := [xa 293, xi (xR m2 3 1), xi 8]) (st1 := []) rfl rfl rfl rfl rfl rfl rfl rfl rfl rfl (fun _ => xw_rcv1 (t := 5) (xw_obd (by decide +kernel)) rfl) rfl (List.forall_mem_cons.mpr ⟨rfl, List.forall_mem_cons.mpr ⟨rfl, List.forall_mem_cons.mpr ⟨rfl, fun _ h => absurd h List.not_mem_nil⟩⟩⟩) (ygf64 hB _ _ _ (w32_xR _ _ _) rfl) (fun v3 m3 cv3 => ?_)
  refine xS_g (fun g0 => ?_)
  refine xS_g (fun g1 => ?_)
  refine xS_of (pc' := 45) (L' := [(0, xa 293), (1, xa (15 + (26 * (xR m3 3 1))))]) (st' := [xa 1, xa (15 + (26 * (xR m3 3 1)))]) (m' := m3) (fun ex ns r q => ?_) ?_
  · refine xw_aload_n rfl rfl rfl ?_
    refine xw_gfR (n := 3) (e := 3) rfl (xw_obd (by decide +kernel)) (by decide +kernel) (by decide +kernel) rfl ?_
    refine xw_gfR (n := 4) (e := 4) rfl (xw_obd (by decide +kernel)) (by decide +kernel) (by decide +kernel) rfl ?_
    refine xw_aload_n rfl rfl rfl ?_
    refine xw_gfR (n := 3) (e := 3) rfl (xw_obd (by decide +kernel)) (by decide +kernel) (by decide +kernel) rfl ?_
    refine xw_gfIc (v := (m3 3 1)) (v' := (xR m3 3 1)) rfl (xw_obd (by decide +kernel)) xk2_1 (qi := 1) rfl rfl rfl ?_
    refine xw_aald (t := 23) (n := 8) (q := 15 + 26 * ((xR m3 3 1)).toNat) (e := (15 + (26 * (xR m3 3 1)))) rfl hB (xw_obd (by decide +kernel)) (by decide) rfl g0 (show 20 + 26 * ((xR m3 3 1) : Int).toNat = 15 + 26 * ((xR m3 3 1) : Int).toNat + 5 from by omega) (by have := g0; omega) ?_
    refine xw_astore_n (L' := [(1, xa (15 + (26 * (xR m3 3 1)))), (0, xa 293)]) rfl rfl (by decide) rfl ?_
    refine xw_aload_n rfl rfl rfl ?_
    refine xw_aload_n rfl rfl rfl ?_
    refine xw_gfR (n := 1) (e := 1) rfl (xw_obd (by decide +kernel)) (by decide +kernel) (by decide +kernel) rfl ?_
    refine xw_lo (L2 := [(0, xa 293), (1, xa (15 + (26 * (xR m3 3 1))))]) (List.forall_mem_cons.mpr ⟨rfl, List.forall_mem_cons.mpr ⟨rfl, fun _ h => absurd h List.not_mem_nil⟩⟩) ?_
    exact q
  refine xS_call (q := 136) (n := 2) (kq := 0) (as := [xa (15 + (26 * (xR m3 3 1))), xa 1]) (st1 := []) rfl rfl rfl rfl rfl rfl rfl rfl rfl rfl (fun _ => xw_rcv1 (t := 3) (xw_obd g1) rfl) rfl (List.forall_mem_cons.mpr ⟨rfl, List.forall_mem_cons.mpr ⟨rfl, fun _ h => absurd h List.not_mem_nil⟩⟩) (ygf136 hB _ _) (fun v4 m4 cv4 => ?_)
  refine xS_of (pc' := 54) (L' := [(0, xa 293), (1, xa (15 + (26 * (xR m3 3 1))))]) (st' := [xi 40, xa 1]) (m' := m4) (fun ex ns r q => ?_) ?_
  · refine xw_aload_n rfl rfl rfl ?_
    refine xw_gfR (n := 1) (e := 1) rfl (xw_obd (by decide +kernel)) (by decide +kernel) (by decide +kernel) rfl ?_
    refine xw_bipush (e := 40) rfl (by decide +kernel) ?_
    refine xw_lo (L2 := [(0, xa 293), (1, xa (15 + (26 * (xR m3 3 1))))]) (List.forall_mem_cons.mpr ⟨rfl, List.forall_mem_cons.mpr ⟨rfl, fun _ h => absurd h List.not_mem_nil⟩⟩) ?_
    exact q
  refine xS_call (q := 68) (n := 2) (kq := 0) (as := [xa 1, xi 40]) (st1 := []) rfl rfl rfl rfl rfl rfl rfl rfl rfl rfl (fun _ => xw_rcv1 (t := 1) (xw_obd (by decide +kernel)) rfl) rfl (List.forall_mem_cons.mpr ⟨rfl, List.forall_mem_cons.mpr ⟨rfl, fun _ h => absurd h List.not_mem_nil⟩⟩) (ygf68 hB _ _ rfl) (fun v5 m5 cv5 => ?_)
  refine xS_of (pc' := 59) (L' := [(0, xa 293), (1, xa (15 + (26 * (xR m3 3 1)))), (2, xi 0)]) (st' := []) (m' := m5) (fun ex ns r q => ?_) ?_
  · refine xw_iconst rfl ?_
    refine xw_istore_n (L' := [(2, xi 0), (0, xa 293), (1, xa (15 + (26 * (xR m3 3 1))))]) rfl (by decide) rfl ?_
    refine xw_lo (L2 := [(0, xa 293), (1, xa (15 + (26 * (xR m3 3 1)))), (2, xi 0)]) (List.forall_mem_cons.mpr ⟨rfl, List.forall_mem_cons.mpr ⟨rfl, List.forall_mem_cons.mpr ⟨rfl, fun _ h => absurd h List.not_mem_nil⟩⟩⟩) ?_
    exact q
  exact ygl134_59 hB 1000000 _ _ _ rfl
