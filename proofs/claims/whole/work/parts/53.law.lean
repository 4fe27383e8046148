/-! the law's loop: the machine does what the function says -/
theorem ysl349_33 {B : Nat} (hB : B ≤ 512) {xs : Nat → Int32} {SL d : Nat} (hSL : SL ≤ 3073) (cSL : w32 (SL : Int) = (SL : Int)) {b : Nat} {r33 : Int → xw_M → xP} (hr33 : ∀ x4 m, w32 x4 = x4 → xSB (b) B xs SL (d + 201) 349 (8, ret, [], 0) 4 33 [(0, .retAddr 9), (1, xa 0), (2, xa 536), (3, xa 604), (4, xi x4)] [] m (r33 x4 m)) : ∀ x4 m, w32 x4 = x4 → xSB (b + 2) B xs SL (d + 201) 349 (8, ret, [], 0) 4 33 [(0, .retAddr 9), (1, xa 0), (2, xa 536), (3, xa 604), (4, xi x4)] [] m (yl349_33 B xs SL r33 x4 m) := by
  intro x4 m c4
  unfold yl349_33
  refine xSB_of (pc' := 40) (L' := [(0, .retAddr 9), (1, xa 0), (2, xa 536), (3, xa 604), (4, xi x4)]) (st' := [xi (w32 ((SL : Int) - 6)), xi x4]) (m' := m) (fun ex ns r q => ?_) ?_
  · refine xw_iload rfl rfl ?_
    refine xw_aload_n rfl rfl rfl ?_
    refine xw_lenS rfl ?_
    refine xw_bipush (e := 6) rfl (by decide +kernel) ?_
    refine xw_isub rfl ?_
    refine xw_cst (st' := [xi (w32 ((SL : Int) - 6)), xi x4]) (xw_sc (xi_c rfl) (xw_sc rfl rfl)) ?_
    exact q
  refine xSB_if (fun h0 => ?_) (fun h0 => ?_)
  · refine xSB_of (pc' := 1462) (L' := [(0, .retAddr 9), (1, xa 0), (2, xa 536), (3, xa 604), (4, xi x4)]) (st' := [xi 1]) (m' := m) (fun ex ns r q => ?_) ?_
    · refine xw_ic_gtT rfl (w32_cg c4) (w32_cg (w32_w _)) h0 ?_
      refine xw_iconst rfl ?_
      exact q
    exact xSB_ret (v := 1) rfl rfl (xw_rtZ (Or.inr rfl)) (Or.inr rfl)
  · refine xSB_g (fun g1 => ?_)
    refine xSB_of (pc' := 50) (L' := [(0, .retAddr 9), (1, xa 0), (2, xa 536), (3, xa 604), (4, xi x4)]) (st' := [xi (xw_iandf (xZs xs x4) 31)]) (m' := m) (fun ex ns r q => ?_) ?_
    · refine xw_ic_gtF rfl (w32_cg c4) (w32_cg (w32_w _)) h0 ?_
      refine xw_aload_n rfl rfl rfl ?_
      refine xw_iload rfl rfl ?_
      refine xw_aldS rfl hSL g1 ?_
      refine xw_bipush (e := 31) rfl (by decide +kernel) ?_
      refine xw_iand (z := (xw_iandf (xZs xs x4) 31)) rfl (xw_iande _ _) ?_
      exact q
    refine xSB_if (fun h2 => ?_) (fun h2 => ?_)
    · refine xSB_g (fun g3 => ?_)
      refine xSB_g (fun g4 => ?_)
      refine xSB_g (fun g5 => ?_)
      refine xSB_g (fun g6 => ?_)
      refine xSB_g (fun g7 => ?_)
      refine xSB_of (pc' := 192) (L' := [(0, .retAddr 9), (1, xa 0), (2, xa 536), (3, xa 604), (4, xi x4)]) (st' := [xa 604, xi (xZs xs (x4 + 5)), xi (xZs xs (x4 + 4)), xi (xZs xs (x4 + 3)), xi (xZs xs (x4 + 2)), xi (xZs xs (x4 + 1)), xa 0]) (m' := m) (fun ex ns r q => ?_) ?_
      · refine xw_sw (t := 160) rfl (by rw [h2]; rfl) ?_
        refine xw_aload_n rfl rfl rfl ?_
        refine xw_aload_n rfl rfl rfl ?_
        refine xw_iload rfl rfl ?_
        refine xw_iconst rfl ?_
        refine xw_iadd rfl ?_
        refine xw_aldS rfl hSL g3 ?_
        refine xw_aload_n rfl rfl rfl ?_
        refine xw_iload rfl rfl ?_
        refine xw_iconst rfl ?_
        refine xw_iadd rfl ?_
        refine xw_aldS rfl hSL g4 ?_
        refine xw_aload_n rfl rfl rfl ?_
        refine xw_iload rfl rfl ?_
        refine xw_iconst rfl ?_
        refine xw_iadd rfl ?_
        refine xw_aldS rfl hSL g5 ?_
        refine xw_aload_n rfl rfl rfl ?_
        refine xw_iload rfl rfl ?_
        refine xw_iconst rfl ?_
        refine xw_iadd rfl ?_
        refine xw_aldS rfl hSL g6 ?_
        refine xw_aload_n rfl rfl rfl ?_
        refine xw_iload rfl rfl ?_
        refine xw_iconst rfl ?_
        refine xw_iadd rfl ?_
        refine xw_aldS rfl hSL g7 ?_
        refine xw_aload_n rfl rfl rfl ?_
        refine xw_lo (L2 := [(0, .retAddr 9), (1, xa 0), (2, xa 536), (3, xa 604), (4, xi x4)]) (List.forall_mem_cons.mpr ⟨rfl, List.forall_mem_cons.mpr ⟨rfl, List.forall_mem_cons.mpr ⟨rfl, List.forall_mem_cons.mpr ⟨rfl, List.forall_mem_cons.mpr ⟨rfl, fun _ h => absurd h List.not_mem_nil⟩⟩⟩⟩⟩) ?_
        exact q
      refine xSB_callY (G := fun _ _ => none) (q := 36) (n := 7) (kq := 1) (as := [xa 0, xi (xZs xs (x4 + 1)), xi (xZs xs (x4 + 2)), xi (xZs xs (x4 + 3)), xi (xZs xs (x4 + 4)), xi (xZs xs (x4 + 5)), xa 604]) (st1 := []) rfl rfl rfl rfl rfl rfl rfl rfl rfl rfl (fun _ => xw_rcv0 rfl) (List.forall_mem_cons.mpr ⟨rfl, List.forall_mem_cons.mpr ⟨rfl, List.forall_mem_cons.mpr ⟨rfl, List.forall_mem_cons.mpr ⟨rfl, List.forall_mem_cons.mpr ⟨rfl, List.forall_mem_cons.mpr ⟨rfl, List.forall_mem_cons.mpr ⟨rfl, fun _ h => absurd h List.not_mem_nil⟩⟩⟩⟩⟩⟩⟩) (ygf36 hB _ _ _ _ _ _ _ (w32_ti _) (w32_ti _) (w32_ti _) (w32_ti _) (w32_ti _)) (fun v1 m1 cv1 => ?_) (fun _ _ h => absurd rfl h)
      refine xSB_of (pc' := 228) (L' := [(0, .retAddr 9), (1, xa 0), (2, xa 536), (3, xa 604), (4, xi x4), (5, xi v1)]) (st' := [xi (xZs xs (x4 + 5)), xi (xZs xs (x4 + 4)), xi (xZs xs (x4 + 3)), xi (xZs xs (x4 + 2)), xi (xZs xs (x4 + 1)), xa 536]) (m' := m1) (fun ex ns r q => ?_) ?_
      · refine xw_istore (L' := [(5, xi v1), (0, .retAddr 9), (1, xa 0), (2, xa 536), (3, xa 604), (4, xi x4)]) rfl (by decide) rfl ?_
        refine xw_aload_n rfl rfl rfl ?_
        refine xw_aload_n rfl rfl rfl ?_
        refine xw_iload rfl rfl ?_
        refine xw_iconst rfl ?_
        refine xw_iadd rfl ?_
        refine xw_aldS rfl hSL g3 ?_
        refine xw_aload_n rfl rfl rfl ?_
        refine xw_iload rfl rfl ?_
        refine xw_iconst rfl ?_
        refine xw_iadd rfl ?_
        refine xw_aldS rfl hSL g4 ?_
        refine xw_aload_n rfl rfl rfl ?_
        refine xw_iload rfl rfl ?_
        refine xw_iconst rfl ?_
        refine xw_iadd rfl ?_
        refine xw_aldS rfl hSL g5 ?_
        refine xw_aload_n rfl rfl rfl ?_
        refine xw_iload rfl rfl ?_
        refine xw_iconst rfl ?_
        refine xw_iadd rfl ?_
        refine xw_aldS rfl hSL g6 ?_
        refine xw_aload_n rfl rfl rfl ?_
        refine xw_iload rfl rfl ?_
        refine xw_iconst rfl ?_
        refine xw_iadd rfl ?_
        refine xw_aldS rfl hSL g7 ?_
        refine xw_lo (L2 := [(0, .retAddr 9), (1, xa 0), (2, xa 536), (3, xa 604), (4, xi x4), (5, xi v1)]) (List.forall_mem_cons.mpr ⟨rfl, List.forall_mem_cons.mpr ⟨rfl, List.forall_mem_cons.mpr ⟨rfl, List.forall_mem_cons.mpr ⟨rfl, List.forall_mem_cons.mpr ⟨rfl, List.forall_mem_cons.mpr ⟨rfl, fun _ h => absurd h List.not_mem_nil⟩⟩⟩⟩⟩⟩) ?_
        exact q
      refine xSB_call0 (q := 244) (n := 6) (kq := 1) (as := [xa 536, xi (xZs xs (x4 + 1)), xi (xZs xs (x4 + 2)), xi (xZs xs (x4 + 3)), xi (xZs xs (x4 + 4)), xi (xZs xs (x4 + 5))]) (st1 := []) rfl rfl rfl rfl rfl rfl rfl rfl rfl rfl (fun _ => xw_rcv1 (t := 12) (xw_obd (by decide +kernel)) rfl) (List.forall_mem_cons.mpr ⟨rfl, List.forall_mem_cons.mpr ⟨rfl, List.forall_mem_cons.mpr ⟨rfl, List.forall_mem_cons.mpr ⟨rfl, List.forall_mem_cons.mpr ⟨rfl, List.forall_mem_cons.mpr ⟨rfl, fun _ h => absurd h List.not_mem_nil⟩⟩⟩⟩⟩⟩) (ygf244 hB _ _ _ _ _ _ (w32_ti _) (w32_ti _) (w32_ti _) (w32_ti _) (w32_ti _)) (fun v2 m2 cv2 => ?_)
      refine xSB_of (pc' := 234) (L' := [(0, .retAddr 9), (1, xa 0), (2, xa 536), (3, xa 604), (4, xi x4), (5, xi v1), (6, xi v2)]) (st' := [xa 536]) (m' := m2) (fun ex ns r q => ?_) ?_
      · refine xw_istore (L' := [(6, xi v2), (0, .retAddr 9), (1, xa 0), (2, xa 536), (3, xa 604), (4, xi x4), (5, xi v1)]) rfl (by decide) rfl ?_
        refine xw_aload_n rfl rfl rfl ?_
        refine xw_lo (L2 := [(0, .retAddr 9), (1, xa 0), (2, xa 536), (3, xa 604), (4, xi x4), (5, xi v1), (6, xi v2)]) (List.forall_mem_cons.mpr ⟨rfl, List.forall_mem_cons.mpr ⟨rfl, List.forall_mem_cons.mpr ⟨rfl, List.forall_mem_cons.mpr ⟨rfl, List.forall_mem_cons.mpr ⟨rfl, List.forall_mem_cons.mpr ⟨rfl, List.forall_mem_cons.mpr ⟨rfl, fun _ h => absurd h List.not_mem_nil⟩⟩⟩⟩⟩⟩⟩) ?_
        exact q
      refine xSB_call0 (q := 243) (n := 1) (kq := 1) (as := [xa 536]) (st1 := []) rfl rfl rfl rfl rfl rfl rfl rfl rfl rfl (fun _ => xw_rcv1 (t := 12) (xw_obd (by decide +kernel)) rfl) (List.forall_mem_cons.mpr ⟨rfl, fun _ h => absurd h List.not_mem_nil⟩) (ygf243 hB _) (fun v3 m3 cv3 => ?_)
      refine xSB_of (pc' := 239) (L' := [(0, .retAddr 9), (1, xa 0), (2, xa 536), (3, xa 604), (4, xi x4), (5, xi v1), (6, xi v2)]) (st' := [xi v1, xi v3]) (m' := m3) (fun ex ns r q => ?_) ?_
      · refine xw_iload rfl rfl ?_
        exact q
      refine xSB_if (fun h8 => ?_) (fun h8 => ?_)
      · refine xSB_of (pc' := 246) (L' := [(0, .retAddr 9), (1, xa 0), (2, xa 536), (3, xa 604), (4, xi x4), (5, xi v1), (6, xi v2)]) (st' := [xi v1]) (m' := m3) (fun ex ns r q => ?_) ?_
        · refine xw_ic_eqT rfl (w32_cg cv3) (w32_cg cv1) h8 ?_
          refine xw_iload rfl rfl ?_
          exact q
        refine xSB_if (fun h9 => ?_) (fun h9 => ?_)
        · refine xSB_of (pc' := 255) (L' := [(0, .retAddr 9), (1, xa 0), (2, xa 536), (3, xa 604), (4, xi x4), (5, xi v1), (6, xi v2)]) (st' := [xj v2, xj (xJ m3 604 0)]) (m' := m3) (fun ex ns r q => ?_) ?_
          · refine xw_if_neF rfl (w32_cg cv1) h9 ?_
            refine xw_aload_n rfl rfl rfl ?_
            refine xw_iconst rfl ?_
            refine xw_laldc (n := 1) (v := (m3 604 0)) (v' := (xJ m3 604 0)) rfl hB (xw_obd (by decide +kernel)) rfl ⟨by decide, by decide⟩ rfl rfl ?_
            refine xw_iload rfl rfl ?_
            refine xw_i2l rfl (w32_cg cv2) ?_
            exact q
          refine xSB_if (fun h10 => ?_) (fun h10 => ?_)
          · refine xSB_of (pc' := 33) (L' := [(0, .retAddr 9), (1, xa 0), (2, xa 536), (3, xa 604), (4, xi (w32 (x4 + 6)))]) (st' := []) (m' := m3) (fun ex ns r q => ?_) ?_
            · refine xw_jc_eqT rfl rfl (w64_cg (w64_xJ _ _ _)) (w64_cg (w64_32 cv2)) h10 ?_
              refine xw_goto rfl ?_
              refine xw_iincc (z := (w32 (x4 + 6))) (L' := [(4, xi (w32 (x4 + 6))), (0, .retAddr 9), (1, xa 0), (2, xa 536), (3, xa 604), (5, xi v1), (6, xi v2)]) rfl rfl (by decide) rfl rfl ?_
              refine xw_goto rfl ?_
              refine xw_lo (L2 := [(0, .retAddr 9), (1, xa 0), (2, xa 536), (3, xa 604), (4, xi (w32 (x4 + 6)))]) (List.forall_mem_cons.mpr ⟨rfl, List.forall_mem_cons.mpr ⟨rfl, List.forall_mem_cons.mpr ⟨rfl, List.forall_mem_cons.mpr ⟨rfl, List.forall_mem_cons.mpr ⟨rfl, fun _ h => absurd h List.not_mem_nil⟩⟩⟩⟩⟩) ?_
              exact q
            exact xSB_mono (by omega) (hr33 _ _ (w32_w _))
          · refine xSB_of (pc' := 260) (L' := [(0, .retAddr 9), (1, xa 0), (2, xa 536), (3, xa 604), (4, xi x4), (5, xi v1), (6, xi v2)]) (st' := [xi 0]) (m' := m3) (fun ex ns r q => ?_) ?_
            · refine xw_jc_eqF rfl rfl (w64_cg (w64_xJ _ _ _)) (w64_cg (w64_32 cv2)) h10 ?_
              refine xw_iconst rfl ?_
              exact q
            exact xSB_ret (v := 0) rfl rfl (xw_rtZ (Or.inl rfl)) (Or.inl rfl)
        · refine xSB_of (pc' := 33) (L' := [(0, .retAddr 9), (1, xa 0), (2, xa 536), (3, xa 604), (4, xi (w32 (x4 + 6)))]) (st' := []) (m' := m3) (fun ex ns r q => ?_) ?_
          · refine xw_if_neT rfl (w32_cg cv1) h9 ?_
            refine xw_goto rfl ?_
            refine xw_iincc (z := (w32 (x4 + 6))) (L' := [(4, xi (w32 (x4 + 6))), (0, .retAddr 9), (1, xa 0), (2, xa 536), (3, xa 604), (5, xi v1), (6, xi v2)]) rfl rfl (by decide) rfl rfl ?_
            refine xw_goto rfl ?_
            refine xw_lo (L2 := [(0, .retAddr 9), (1, xa 0), (2, xa 536), (3, xa 604), (4, xi (w32 (x4 + 6)))]) (List.forall_mem_cons.mpr ⟨rfl, List.forall_mem_cons.mpr ⟨rfl, List.forall_mem_cons.mpr ⟨rfl, List.forall_mem_cons.mpr ⟨rfl, List.forall_mem_cons.mpr ⟨rfl, fun _ h => absurd h List.not_mem_nil⟩⟩⟩⟩⟩) ?_
            exact q
          exact xSB_mono (by omega) (hr33 _ _ (w32_w _))
      · refine xSB_of (pc' := 243) (L' := [(0, .retAddr 9), (1, xa 0), (2, xa 536), (3, xa 604), (4, xi x4), (5, xi v1), (6, xi v2)]) (st' := [xi 0]) (m' := m3) (fun ex ns r q => ?_) ?_
        · refine xw_ic_eqF rfl (w32_cg cv3) (w32_cg cv1) h8 ?_
          refine xw_iconst rfl ?_
          exact q
        exact xSB_ret (v := 0) rfl rfl (xw_rtZ (Or.inl rfl)) (Or.inl rfl)
    · refine xSB_if (fun h3 => ?_) (fun h3 => ?_)
      · refine xSB_g (fun g4 => ?_)
        refine xSB_of (pc' := 272) (L' := [(0, .retAddr 9), (1, xa 0), (2, xa 536), (3, xa 604), (4, xi x4)]) (st' := [xa 604, xi (xZs xs (x4 + 1)), xa 0]) (m' := m) (fun ex ns r q => ?_) ?_
        · refine xw_sw (t := 264) rfl (by rw [h3]; rfl) ?_
          refine xw_aload_n rfl rfl rfl ?_
          refine xw_aload_n rfl rfl rfl ?_
          refine xw_iload rfl rfl ?_
          refine xw_iconst rfl ?_
          refine xw_iadd rfl ?_
          refine xw_aldS rfl hSL g4 ?_
          refine xw_aload_n rfl rfl rfl ?_
          refine xw_lo (L2 := [(0, .retAddr 9), (1, xa 0), (2, xa 536), (3, xa 604), (4, xi x4)]) (List.forall_mem_cons.mpr ⟨rfl, List.forall_mem_cons.mpr ⟨rfl, List.forall_mem_cons.mpr ⟨rfl, List.forall_mem_cons.mpr ⟨rfl, List.forall_mem_cons.mpr ⟨rfl, fun _ h => absurd h List.not_mem_nil⟩⟩⟩⟩⟩) ?_
          exact q
        refine xSB_callY (G := fun _ _ => none) (q := 41) (n := 3) (kq := 1) (as := [xa 0, xi (xZs xs (x4 + 1)), xa 604]) (st1 := []) rfl rfl rfl rfl rfl rfl rfl rfl rfl rfl (fun _ => xw_rcv0 rfl) (List.forall_mem_cons.mpr ⟨rfl, List.forall_mem_cons.mpr ⟨rfl, List.forall_mem_cons.mpr ⟨rfl, fun _ h => absurd h List.not_mem_nil⟩⟩⟩) (ygf41 hB _ _ _ (w32_ti _)) (fun v4 m4 cv4 => ?_) (fun _ _ h => absurd rfl h)
        refine xSB_of (pc' := 284) (L' := [(0, .retAddr 9), (1, xa 0), (2, xa 536), (3, xa 604), (4, xi x4), (5, xi v4)]) (st' := [xi (xZs xs (x4 + 1)), xa 536]) (m' := m4) (fun ex ns r q => ?_) ?_
        · refine xw_istore (L' := [(5, xi v4), (0, .retAddr 9), (1, xa 0), (2, xa 536), (3, xa 604), (4, xi x4)]) rfl (by decide) rfl ?_
          refine xw_aload_n rfl rfl rfl ?_
          refine xw_aload_n rfl rfl rfl ?_
          refine xw_iload rfl rfl ?_
          refine xw_iconst rfl ?_
          refine xw_iadd rfl ?_
          refine xw_aldS rfl hSL g4 ?_
          refine xw_lo (L2 := [(0, .retAddr 9), (1, xa 0), (2, xa 536), (3, xa 604), (4, xi x4), (5, xi v4)]) (List.forall_mem_cons.mpr ⟨rfl, List.forall_mem_cons.mpr ⟨rfl, List.forall_mem_cons.mpr ⟨rfl, List.forall_mem_cons.mpr ⟨rfl, List.forall_mem_cons.mpr ⟨rfl, List.forall_mem_cons.mpr ⟨rfl, fun _ h => absurd h List.not_mem_nil⟩⟩⟩⟩⟩⟩) ?_
          exact q
        refine xSB_call0 (q := 246) (n := 2) (kq := 1) (as := [xa 536, xi (xZs xs (x4 + 1))]) (st1 := []) rfl rfl rfl rfl rfl rfl rfl rfl rfl rfl (fun _ => xw_rcv1 (t := 12) (xw_obd (by decide +kernel)) rfl) (List.forall_mem_cons.mpr ⟨rfl, List.forall_mem_cons.mpr ⟨rfl, fun _ h => absurd h List.not_mem_nil⟩⟩) (ygf246 hB _ _ (w32_ti _)) (fun v5 m5 cv5 => ?_)
        refine xSB_of (pc' := 290) (L' := [(0, .retAddr 9), (1, xa 0), (2, xa 536), (3, xa 604), (4, xi x4), (5, xi v4), (6, xi v5)]) (st' := [xa 536]) (m' := m5) (fun ex ns r q => ?_) ?_
        · refine xw_istore (L' := [(6, xi v5), (0, .retAddr 9), (1, xa 0), (2, xa 536), (3, xa 604), (4, xi x4), (5, xi v4)]) rfl (by decide) rfl ?_
          refine xw_aload_n rfl rfl rfl ?_
          refine xw_lo (L2 := [(0, .retAddr 9), (1, xa 0), (2, xa 536), (3, xa 604), (4, xi x4), (5, xi v4), (6, xi v5)]) (List.forall_mem_cons.mpr ⟨rfl, List.forall_mem_cons.mpr ⟨rfl, List.forall_mem_cons.mpr ⟨rfl, List.forall_mem_cons.mpr ⟨rfl, List.forall_mem_cons.mpr ⟨rfl, List.forall_mem_cons.mpr ⟨rfl, List.forall_mem_cons.mpr ⟨rfl, fun _ h => absurd h List.not_mem_nil⟩⟩⟩⟩⟩⟩⟩) ?_
          exact q
        refine xSB_call0 (q := 243) (n := 1) (kq := 1) (as := [xa 536]) (st1 := []) rfl rfl rfl rfl rfl rfl rfl rfl rfl rfl (fun _ => xw_rcv1 (t := 12) (xw_obd (by decide +kernel)) rfl) (List.forall_mem_cons.mpr ⟨rfl, fun _ h => absurd h List.not_mem_nil⟩) (ygf243 hB _) (fun v6 m6 cv6 => ?_)
        refine xSB_of (pc' := 295) (L' := [(0, .retAddr 9), (1, xa 0), (2, xa 536), (3, xa 604), (4, xi x4), (5, xi v4), (6, xi v5)]) (st' := [xi v4, xi v6]) (m' := m6) (fun ex ns r q => ?_) ?_
        · refine xw_iload rfl rfl ?_
          exact q
        refine xSB_if (fun h5 => ?_) (fun h5 => ?_)
        · refine xSB_of (pc' := 302) (L' := [(0, .retAddr 9), (1, xa 0), (2, xa 536), (3, xa 604), (4, xi x4), (5, xi v4), (6, xi v5)]) (st' := [xi v4]) (m' := m6) (fun ex ns r q => ?_) ?_
          · refine xw_ic_eqT rfl (w32_cg cv6) (w32_cg cv4) h5 ?_
            refine xw_iload rfl rfl ?_
            exact q
          refine xSB_if (fun h6 => ?_) (fun h6 => ?_)
          · refine xSB_of (pc' := 311) (L' := [(0, .retAddr 9), (1, xa 0), (2, xa 536), (3, xa 604), (4, xi x4), (5, xi v4), (6, xi v5)]) (st' := [xj v5, xj (xJ m6 604 0)]) (m' := m6) (fun ex ns r q => ?_) ?_
            · refine xw_if_neF rfl (w32_cg cv4) h6 ?_
              refine xw_aload_n rfl rfl rfl ?_
              refine xw_iconst rfl ?_
              refine xw_laldc (n := 1) (v := (m6 604 0)) (v' := (xJ m6 604 0)) rfl hB (xw_obd (by decide +kernel)) rfl ⟨by decide, by decide⟩ rfl rfl ?_
              refine xw_iload rfl rfl ?_
              refine xw_i2l rfl (w32_cg cv5) ?_
              exact q
            refine xSB_if (fun h7 => ?_) (fun h7 => ?_)
            · refine xSB_of (pc' := 33) (L' := [(0, .retAddr 9), (1, xa 0), (2, xa 536), (3, xa 604), (4, xi (w32 (x4 + 6)))]) (st' := []) (m' := m6) (fun ex ns r q => ?_) ?_
              · refine xw_jc_eqT rfl rfl (w64_cg (w64_xJ _ _ _)) (w64_cg (w64_32 cv5)) h7 ?_
                refine xw_goto rfl ?_
                refine xw_iincc (z := (w32 (x4 + 6))) (L' := [(4, xi (w32 (x4 + 6))), (0, .retAddr 9), (1, xa 0), (2, xa 536), (3, xa 604), (5, xi v4), (6, xi v5)]) rfl rfl (by decide) rfl rfl ?_
                refine xw_goto rfl ?_
                refine xw_lo (L2 := [(0, .retAddr 9), (1, xa 0), (2, xa 536), (3, xa 604), (4, xi (w32 (x4 + 6)))]) (List.forall_mem_cons.mpr ⟨rfl, List.forall_mem_cons.mpr ⟨rfl, List.forall_mem_cons.mpr ⟨rfl, List.forall_mem_cons.mpr ⟨rfl, List.forall_mem_cons.mpr ⟨rfl, fun _ h => absurd h List.not_mem_nil⟩⟩⟩⟩⟩) ?_
                exact q
              exact xSB_mono (by omega) (hr33 _ _ (w32_w _))
            · refine xSB_of (pc' := 316) (L' := [(0, .retAddr 9), (1, xa 0), (2, xa 536), (3, xa 604), (4, xi x4), (5, xi v4), (6, xi v5)]) (st' := [xi 0]) (m' := m6) (fun ex ns r q => ?_) ?_
              · refine xw_jc_eqF rfl rfl (w64_cg (w64_xJ _ _ _)) (w64_cg (w64_32 cv5)) h7 ?_
                refine xw_iconst rfl ?_
                exact q
              exact xSB_ret (v := 0) rfl rfl (xw_rtZ (Or.inl rfl)) (Or.inl rfl)
          · refine xSB_of (pc' := 33) (L' := [(0, .retAddr 9), (1, xa 0), (2, xa 536), (3, xa 604), (4, xi (w32 (x4 + 6)))]) (st' := []) (m' := m6) (fun ex ns r q => ?_) ?_
            · refine xw_if_neT rfl (w32_cg cv4) h6 ?_
              refine xw_goto rfl ?_
              refine xw_iincc (z := (w32 (x4 + 6))) (L' := [(4, xi (w32 (x4 + 6))), (0, .retAddr 9), (1, xa 0), (2, xa 536), (3, xa 604), (5, xi v4), (6, xi v5)]) rfl rfl (by decide) rfl rfl ?_
              refine xw_goto rfl ?_
              refine xw_lo (L2 := [(0, .retAddr 9), (1, xa 0), (2, xa 536), (3, xa 604), (4, xi (w32 (x4 + 6)))]) (List.forall_mem_cons.mpr ⟨rfl, List.forall_mem_cons.mpr ⟨rfl, List.forall_mem_cons.mpr ⟨rfl, List.forall_mem_cons.mpr ⟨rfl, List.forall_mem_cons.mpr ⟨rfl, fun _ h => absurd h List.not_mem_nil⟩⟩⟩⟩⟩) ?_
              exact q
            exact xSB_mono (by omega) (hr33 _ _ (w32_w _))
        · refine xSB_of (pc' := 299) (L' := [(0, .retAddr 9), (1, xa 0), (2, xa 536), (3, xa 604), (4, xi x4), (5, xi v4), (6, xi v5)]) (st' := [xi 0]) (m' := m6) (fun ex ns r q => ?_) ?_
          · refine xw_ic_eqF rfl (w32_cg cv6) (w32_cg cv4) h5 ?_
            refine xw_iconst rfl ?_
            exact q
          exact xSB_ret (v := 0) rfl rfl (xw_rtZ (Or.inl rfl)) (Or.inl rfl)
      · refine xSB_if (fun h4 => ?_) (fun h4 => ?_)
        · refine xSB_of (pc' := 322) (L' := [(0, .retAddr 9), (1, xa 0), (2, xa 536), (3, xa 604), (4, xi x4)]) (st' := [xa 604, xa 0]) (m' := m) (fun ex ns r q => ?_) ?_
          · refine xw_sw (t := 320) rfl (by rw [h4]; rfl) ?_
            refine xw_aload_n rfl rfl rfl ?_
            refine xw_aload_n rfl rfl rfl ?_
            refine xw_lo (L2 := [(0, .retAddr 9), (1, xa 0), (2, xa 536), (3, xa 604), (4, xi x4)]) (List.forall_mem_cons.mpr ⟨rfl, List.forall_mem_cons.mpr ⟨rfl, List.forall_mem_cons.mpr ⟨rfl, List.forall_mem_cons.mpr ⟨rfl, List.forall_mem_cons.mpr ⟨rfl, fun _ h => absurd h List.not_mem_nil⟩⟩⟩⟩⟩) ?_
            exact q
          refine xSB_callY (G := fun _ _ => none) (q := 44) (n := 2) (kq := 1) (as := [xa 0, xa 604]) (st1 := []) rfl rfl rfl rfl rfl rfl rfl rfl rfl rfl (fun _ => xw_rcv0 rfl) (List.forall_mem_cons.mpr ⟨rfl, List.forall_mem_cons.mpr ⟨rfl, fun _ h => absurd h List.not_mem_nil⟩⟩) (ygf44 hB _ _) (fun v7 m7 cv7 => ?_) (fun _ _ h => absurd rfl h)
          refine xSB_of (pc' := 328) (L' := [(0, .retAddr 9), (1, xa 0), (2, xa 536), (3, xa 604), (4, xi x4), (5, xi v7)]) (st' := [xa 536]) (m' := m7) (fun ex ns r q => ?_) ?_
          · refine xw_istore (L' := [(5, xi v7), (0, .retAddr 9), (1, xa 0), (2, xa 536), (3, xa 604), (4, xi x4)]) rfl (by decide) rfl ?_
            refine xw_aload_n rfl rfl rfl ?_
            refine xw_lo (L2 := [(0, .retAddr 9), (1, xa 0), (2, xa 536), (3, xa 604), (4, xi x4), (5, xi v7)]) (List.forall_mem_cons.mpr ⟨rfl, List.forall_mem_cons.mpr ⟨rfl, List.forall_mem_cons.mpr ⟨rfl, List.forall_mem_cons.mpr ⟨rfl, List.forall_mem_cons.mpr ⟨rfl, List.forall_mem_cons.mpr ⟨rfl, fun _ h => absurd h List.not_mem_nil⟩⟩⟩⟩⟩⟩) ?_
            exact q
          refine xSB_call0 (q := 247) (n := 1) (kq := 1) (as := [xa 536]) (st1 := []) rfl rfl rfl rfl rfl rfl rfl rfl rfl rfl (fun _ => xw_rcv1 (t := 12) (xw_obd (by decide +kernel)) rfl) (List.forall_mem_cons.mpr ⟨rfl, fun _ h => absurd h List.not_mem_nil⟩) (ygf247 hB _) (fun v8 m8 cv8 => ?_)
          refine xSB_of (pc' := 334) (L' := [(0, .retAddr 9), (1, xa 0), (2, xa 536), (3, xa 604), (4, xi x4), (5, xi v7), (6, xi v8)]) (st' := [xa 536]) (m' := m8) (fun ex ns r q => ?_) ?_
          · refine xw_istore (L' := [(6, xi v8), (0, .retAddr 9), (1, xa 0), (2, xa 536), (3, xa 604), (4, xi x4), (5, xi v7)]) rfl (by decide) rfl ?_
            refine xw_aload_n rfl rfl rfl ?_
            refine xw_lo (L2 := [(0, .retAddr 9), (1, xa 0), (2, xa 536), (3, xa 604), (4, xi x4), (5, xi v7), (6, xi v8)]) (List.forall_mem_cons.mpr ⟨rfl, List.forall_mem_cons.mpr ⟨rfl, List.forall_mem_cons.mpr ⟨rfl, List.forall_mem_cons.mpr ⟨rfl, List.forall_mem_cons.mpr ⟨rfl, List.forall_mem_cons.mpr ⟨rfl, List.forall_mem_cons.mpr ⟨rfl, fun _ h => absurd h List.not_mem_nil⟩⟩⟩⟩⟩⟩⟩) ?_
            exact q
          refine xSB_call0 (q := 243) (n := 1) (kq := 1) (as := [xa 536]) (st1 := []) rfl rfl rfl rfl rfl rfl rfl rfl rfl rfl (fun _ => xw_rcv1 (t := 12) (xw_obd (by decide +kernel)) rfl) (List.forall_mem_cons.mpr ⟨rfl, fun _ h => absurd h List.not_mem_nil⟩) (ygf243 hB _) (fun v9 m9 cv9 => ?_)
          refine xSB_of (pc' := 339) (L' := [(0, .retAddr 9), (1, xa 0), (2, xa 536), (3, xa 604), (4, xi x4), (5, xi v7), (6, xi v8)]) (st' := [xi v7, xi v9]) (m' := m9) (fun ex ns r q => ?_) ?_
          · refine xw_iload rfl rfl ?_
            exact q
          refine xSB_if (fun h5 => ?_) (fun h5 => ?_)
          · refine xSB_of (pc' := 346) (L' := [(0, .retAddr 9), (1, xa 0), (2, xa 536), (3, xa 604), (4, xi x4), (5, xi v7), (6, xi v8)]) (st' := [xi v7]) (m' := m9) (fun ex ns r q => ?_) ?_
            · refine xw_ic_eqT rfl (w32_cg cv9) (w32_cg cv7) h5 ?_
              refine xw_iload rfl rfl ?_
              exact q
            refine xSB_if (fun h6 => ?_) (fun h6 => ?_)
            · refine xSB_of (pc' := 355) (L' := [(0, .retAddr 9), (1, xa 0), (2, xa 536), (3, xa 604), (4, xi x4), (5, xi v7), (6, xi v8)]) (st' := [xj v8, xj (xJ m9 604 0)]) (m' := m9) (fun ex ns r q => ?_) ?_
              · refine xw_if_neF rfl (w32_cg cv7) h6 ?_
                refine xw_aload_n rfl rfl rfl ?_
                refine xw_iconst rfl ?_
                refine xw_laldc (n := 1) (v := (m9 604 0)) (v' := (xJ m9 604 0)) rfl hB (xw_obd (by decide +kernel)) rfl ⟨by decide, by decide⟩ rfl rfl ?_
                refine xw_iload rfl rfl ?_
                refine xw_i2l rfl (w32_cg cv8) ?_
                exact q
              refine xSB_if (fun h7 => ?_) (fun h7 => ?_)
              · refine xSB_of (pc' := 33) (L' := [(0, .retAddr 9), (1, xa 0), (2, xa 536), (3, xa 604), (4, xi (w32 (x4 + 6)))]) (st' := []) (m' := m9) (fun ex ns r q => ?_) ?_
                · refine xw_jc_eqT rfl rfl (w64_cg (w64_xJ _ _ _)) (w64_cg (w64_32 cv8)) h7 ?_
                  refine xw_goto rfl ?_
                  refine xw_iincc (z := (w32 (x4 + 6))) (L' := [(4, xi (w32 (x4 + 6))), (0, .retAddr 9), (1, xa 0), (2, xa 536), (3, xa 604), (5, xi v7), (6, xi v8)]) rfl rfl (by decide) rfl rfl ?_
                  refine xw_goto rfl ?_
                  refine xw_lo (L2 := [(0, .retAddr 9), (1, xa 0), (2, xa 536), (3, xa 604), (4, xi (w32 (x4 + 6)))]) (List.forall_mem_cons.mpr ⟨rfl, List.forall_mem_cons.mpr ⟨rfl, List.forall_mem_cons.mpr ⟨rfl, List.forall_mem_cons.mpr ⟨rfl, List.forall_mem_cons.mpr ⟨rfl, fun _ h => absurd h List.not_mem_nil⟩⟩⟩⟩⟩) ?_
                  exact q
                exact xSB_mono (by omega) (hr33 _ _ (w32_w _))
              · refine xSB_of (pc' := 360) (L' := [(0, .retAddr 9), (1, xa 0), (2, xa 536), (3, xa 604), (4, xi x4), (5, xi v7), (6, xi v8)]) (st' := [xi 0]) (m' := m9) (fun ex ns r q => ?_) ?_
                · refine xw_jc_eqF rfl rfl (w64_cg (w64_xJ _ _ _)) (w64_cg (w64_32 cv8)) h7 ?_
                  refine xw_iconst rfl ?_
                  exact q
                exact xSB_ret (v := 0) rfl rfl (xw_rtZ (Or.inl rfl)) (Or.inl rfl)
            · refine xSB_of (pc' := 33) (L' := [(0, .retAddr 9), (1, xa 0), (2, xa 536), (3, xa 604), (4, xi (w32 (x4 + 6)))]) (st' := []) (m' := m9) (fun ex ns r q => ?_) ?_
              · refine xw_if_neT rfl (w32_cg cv7) h6 ?_
                refine xw_goto rfl ?_
                refine xw_iincc (z := (w32 (x4 + 6))) (L' := [(4, xi (w32 (x4 + 6))), (0, .retAddr 9), (1, xa 0), (2, xa 536), (3, xa 604), (5, xi v7), (6, xi v8)]) rfl rfl (by decide) rfl rfl ?_
                refine xw_goto rfl ?_
                refine xw_lo (L2 := [(0, .retAddr 9), (1, xa 0), (2, xa 536), (3, xa 604), (4, xi (w32 (x4 + 6)))]) (List.forall_mem_cons.mpr ⟨rfl, List.forall_mem_cons.mpr ⟨rfl, List.forall_mem_cons.mpr ⟨rfl, List.forall_mem_cons.mpr ⟨rfl, List.forall_mem_cons.mpr ⟨rfl, fun _ h => absurd h List.not_mem_nil⟩⟩⟩⟩⟩) ?_
                exact q
              exact xSB_mono (by omega) (hr33 _ _ (w32_w _))
          · refine xSB_of (pc' := 343) (L' := [(0, .retAddr 9), (1, xa 0), (2, xa 536), (3, xa 604), (4, xi x4), (5, xi v7), (6, xi v8)]) (st' := [xi 0]) (m' := m9) (fun ex ns r q => ?_) ?_
            · refine xw_ic_eqF rfl (w32_cg cv9) (w32_cg cv7) h5 ?_
              refine xw_iconst rfl ?_
              exact q
            exact xSB_ret (v := 0) rfl rfl (xw_rtZ (Or.inl rfl)) (Or.inl rfl)
        · refine xSB_if (fun h5 => ?_) (fun h5 => ?_)
          · refine xSB_g (fun g6 => ?_)
            refine xSB_of (pc' := 372) (L' := [(0, .retAddr 9), (1, xa 0), (2, xa 536), (3, xa 604), (4, xi x4)]) (st' := [xa 604, xi (xZs xs (x4 + 1)), xa 0]) (m' := m) (fun ex ns r q => ?_) ?_
            · refine xw_sw (t := 364) rfl (by rw [h5]; rfl) ?_
              refine xw_aload_n rfl rfl rfl ?_
              refine xw_aload_n rfl rfl rfl ?_
              refine xw_iload rfl rfl ?_
              refine xw_iconst rfl ?_
              refine xw_iadd rfl ?_
              refine xw_aldS rfl hSL g6 ?_
              refine xw_aload_n rfl rfl rfl ?_
              refine xw_lo (L2 := [(0, .retAddr 9), (1, xa 0), (2, xa 536), (3, xa 604), (4, xi x4)]) (List.forall_mem_cons.mpr ⟨rfl, List.forall_mem_cons.mpr ⟨rfl, List.forall_mem_cons.mpr ⟨rfl, List.forall_mem_cons.mpr ⟨rfl, List.forall_mem_cons.mpr ⟨rfl, fun _ h => absurd h List.not_mem_nil⟩⟩⟩⟩⟩) ?_
              exact q
            refine xSB_callY (G := fun _ _ => none) (q := 144) (n := 3) (kq := 1) (as := [xa 0, xi (xZs xs (x4 + 1)), xa 604]) (st1 := []) rfl rfl rfl rfl rfl rfl rfl rfl rfl rfl (fun _ => xw_rcv0 rfl) (List.forall_mem_cons.mpr ⟨rfl, List.forall_mem_cons.mpr ⟨rfl, List.forall_mem_cons.mpr ⟨rfl, fun _ h => absurd h List.not_mem_nil⟩⟩⟩) (ygf144 hB _ _ _ (w32_ti _)) (fun v10 m10 cv10 => ?_) (fun _ _ h => absurd rfl h)
            refine xSB_of (pc' := 384) (L' := [(0, .retAddr 9), (1, xa 0), (2, xa 536), (3, xa 604), (4, xi x4), (5, xi v10)]) (st' := [xi (xZs xs (x4 + 1)), xa 536]) (m' := m10) (fun ex ns r q => ?_) ?_
            · refine xw_istore (L' := [(5, xi v10), (0, .retAddr 9), (1, xa 0), (2, xa 536), (3, xa 604), (4, xi x4)]) rfl (by decide) rfl ?_
              refine xw_aload_n rfl rfl rfl ?_
              refine xw_aload_n rfl rfl rfl ?_
              refine xw_iload rfl rfl ?_
              refine xw_iconst rfl ?_
              refine xw_iadd rfl ?_
              refine xw_aldS rfl hSL g6 ?_
              refine xw_lo (L2 := [(0, .retAddr 9), (1, xa 0), (2, xa 536), (3, xa 604), (4, xi x4), (5, xi v10)]) (List.forall_mem_cons.mpr ⟨rfl, List.forall_mem_cons.mpr ⟨rfl, List.forall_mem_cons.mpr ⟨rfl, List.forall_mem_cons.mpr ⟨rfl, List.forall_mem_cons.mpr ⟨rfl, List.forall_mem_cons.mpr ⟨rfl, fun _ h => absurd h List.not_mem_nil⟩⟩⟩⟩⟩⟩) ?_
              exact q
            refine xSB_call0 (q := 302) (n := 2) (kq := 1) (as := [xa 536, xi (xZs xs (x4 + 1))]) (st1 := []) rfl rfl rfl rfl rfl rfl rfl rfl rfl rfl (fun _ => xw_rcv1 (t := 12) (xw_obd (by decide +kernel)) rfl) (List.forall_mem_cons.mpr ⟨rfl, List.forall_mem_cons.mpr ⟨rfl, fun _ h => absurd h List.not_mem_nil⟩⟩) (ygf302 hB _ _ (w32_ti _)) (fun v11 m11 cv11 => ?_)
            refine xSB_of (pc' := 390) (L' := [(0, .retAddr 9), (1, xa 0), (2, xa 536), (3, xa 604), (4, xi x4), (5, xi v10), (6, xi v11)]) (st' := [xa 536]) (m' := m11) (fun ex ns r q => ?_) ?_
            · refine xw_istore (L' := [(6, xi v11), (0, .retAddr 9), (1, xa 0), (2, xa 536), (3, xa 604), (4, xi x4), (5, xi v10)]) rfl (by decide) rfl ?_
              refine xw_aload_n rfl rfl rfl ?_
              refine xw_lo (L2 := [(0, .retAddr 9), (1, xa 0), (2, xa 536), (3, xa 604), (4, xi x4), (5, xi v10), (6, xi v11)]) (List.forall_mem_cons.mpr ⟨rfl, List.forall_mem_cons.mpr ⟨rfl, List.forall_mem_cons.mpr ⟨rfl, List.forall_mem_cons.mpr ⟨rfl, List.forall_mem_cons.mpr ⟨rfl, List.forall_mem_cons.mpr ⟨rfl, List.forall_mem_cons.mpr ⟨rfl, fun _ h => absurd h List.not_mem_nil⟩⟩⟩⟩⟩⟩⟩) ?_
              exact q
            refine xSB_call0 (q := 243) (n := 1) (kq := 1) (as := [xa 536]) (st1 := []) rfl rfl rfl rfl rfl rfl rfl rfl rfl rfl (fun _ => xw_rcv1 (t := 12) (xw_obd (by decide +kernel)) rfl) (List.forall_mem_cons.mpr ⟨rfl, fun _ h => absurd h List.not_mem_nil⟩) (ygf243 hB _) (fun v12 m12 cv12 => ?_)
            refine xSB_of (pc' := 395) (L' := [(0, .retAddr 9), (1, xa 0), (2, xa 536), (3, xa 604), (4, xi x4), (5, xi v10), (6, xi v11)]) (st' := [xi v10, xi v12]) (m' := m12) (fun ex ns r q => ?_) ?_
            · refine xw_iload rfl rfl ?_
              exact q
            refine xSB_if (fun h7 => ?_) (fun h7 => ?_)
            · refine xSB_of (pc' := 402) (L' := [(0, .retAddr 9), (1, xa 0), (2, xa 536), (3, xa 604), (4, xi x4), (5, xi v10), (6, xi v11)]) (st' := [xi v10]) (m' := m12) (fun ex ns r q => ?_) ?_
              · refine xw_ic_eqT rfl (w32_cg cv12) (w32_cg cv10) h7 ?_
                refine xw_iload rfl rfl ?_
                exact q
              refine xSB_if (fun h8 => ?_) (fun h8 => ?_)
              · refine xSB_of (pc' := 411) (L' := [(0, .retAddr 9), (1, xa 0), (2, xa 536), (3, xa 604), (4, xi x4), (5, xi v10), (6, xi v11)]) (st' := [xj v11, xj (xJ m12 604 0)]) (m' := m12) (fun ex ns r q => ?_) ?_
                · refine xw_if_neF rfl (w32_cg cv10) h8 ?_
                  refine xw_aload_n rfl rfl rfl ?_
                  refine xw_iconst rfl ?_
                  refine xw_laldc (n := 1) (v := (m12 604 0)) (v' := (xJ m12 604 0)) rfl hB (xw_obd (by decide +kernel)) rfl ⟨by decide, by decide⟩ rfl rfl ?_
                  refine xw_iload rfl rfl ?_
                  refine xw_i2l rfl (w32_cg cv11) ?_
                  exact q
                refine xSB_if (fun h9 => ?_) (fun h9 => ?_)
                · refine xSB_of (pc' := 33) (L' := [(0, .retAddr 9), (1, xa 0), (2, xa 536), (3, xa 604), (4, xi (w32 (x4 + 6)))]) (st' := []) (m' := m12) (fun ex ns r q => ?_) ?_
                  · refine xw_jc_eqT rfl rfl (w64_cg (w64_xJ _ _ _)) (w64_cg (w64_32 cv11)) h9 ?_
                    refine xw_goto rfl ?_
                    refine xw_iincc (z := (w32 (x4 + 6))) (L' := [(4, xi (w32 (x4 + 6))), (0, .retAddr 9), (1, xa 0), (2, xa 536), (3, xa 604), (5, xi v10), (6, xi v11)]) rfl rfl (by decide) rfl rfl ?_
                    refine xw_goto rfl ?_
                    refine xw_lo (L2 := [(0, .retAddr 9), (1, xa 0), (2, xa 536), (3, xa 604), (4, xi (w32 (x4 + 6)))]) (List.forall_mem_cons.mpr ⟨rfl, List.forall_mem_cons.mpr ⟨rfl, List.forall_mem_cons.mpr ⟨rfl, List.forall_mem_cons.mpr ⟨rfl, List.forall_mem_cons.mpr ⟨rfl, fun _ h => absurd h List.not_mem_nil⟩⟩⟩⟩⟩) ?_
                    exact q
                  exact xSB_mono (by omega) (hr33 _ _ (w32_w _))
                · refine xSB_of (pc' := 416) (L' := [(0, .retAddr 9), (1, xa 0), (2, xa 536), (3, xa 604), (4, xi x4), (5, xi v10), (6, xi v11)]) (st' := [xi 0]) (m' := m12) (fun ex ns r q => ?_) ?_
                  · refine xw_jc_eqF rfl rfl (w64_cg (w64_xJ _ _ _)) (w64_cg (w64_32 cv11)) h9 ?_
                    refine xw_iconst rfl ?_
                    exact q
                  exact xSB_ret (v := 0) rfl rfl (xw_rtZ (Or.inl rfl)) (Or.inl rfl)
              · refine xSB_of (pc' := 33) (L' := [(0, .retAddr 9), (1, xa 0), (2, xa 536), (3, xa 604), (4, xi (w32 (x4 + 6)))]) (st' := []) (m' := m12) (fun ex ns r q => ?_) ?_
                · refine xw_if_neT rfl (w32_cg cv10) h8 ?_
                  refine xw_goto rfl ?_
                  refine xw_iincc (z := (w32 (x4 + 6))) (L' := [(4, xi (w32 (x4 + 6))), (0, .retAddr 9), (1, xa 0), (2, xa 536), (3, xa 604), (5, xi v10), (6, xi v11)]) rfl rfl (by decide) rfl rfl ?_
                  refine xw_goto rfl ?_
                  refine xw_lo (L2 := [(0, .retAddr 9), (1, xa 0), (2, xa 536), (3, xa 604), (4, xi (w32 (x4 + 6)))]) (List.forall_mem_cons.mpr ⟨rfl, List.forall_mem_cons.mpr ⟨rfl, List.forall_mem_cons.mpr ⟨rfl, List.forall_mem_cons.mpr ⟨rfl, List.forall_mem_cons.mpr ⟨rfl, fun _ h => absurd h List.not_mem_nil⟩⟩⟩⟩⟩) ?_
                  exact q
                exact xSB_mono (by omega) (hr33 _ _ (w32_w _))
            · refine xSB_of (pc' := 399) (L' := [(0, .retAddr 9), (1, xa 0), (2, xa 536), (3, xa 604), (4, xi x4), (5, xi v10), (6, xi v11)]) (st' := [xi 0]) (m' := m12) (fun ex ns r q => ?_) ?_
              · refine xw_ic_eqF rfl (w32_cg cv12) (w32_cg cv10) h7 ?_
                refine xw_iconst rfl ?_
                exact q
              exact xSB_ret (v := 0) rfl rfl (xw_rtZ (Or.inl rfl)) (Or.inl rfl)
          · refine xSB_if (fun h6 => ?_) (fun h6 => ?_)
            · refine xSB_of (pc' := 422) (L' := [(0, .retAddr 9), (1, xa 0), (2, xa 536), (3, xa 604), (4, xi x4)]) (st' := [xa 604, xa 0]) (m' := m) (fun ex ns r q => ?_) ?_
              · refine xw_sw (t := 420) rfl (by rw [h6]; rfl) ?_
                refine xw_aload_n rfl rfl rfl ?_
                refine xw_aload_n rfl rfl rfl ?_
                refine xw_lo (L2 := [(0, .retAddr 9), (1, xa 0), (2, xa 536), (3, xa 604), (4, xi x4)]) (List.forall_mem_cons.mpr ⟨rfl, List.forall_mem_cons.mpr ⟨rfl, List.forall_mem_cons.mpr ⟨rfl, List.forall_mem_cons.mpr ⟨rfl, List.forall_mem_cons.mpr ⟨rfl, fun _ h => absurd h List.not_mem_nil⟩⟩⟩⟩⟩) ?_
                exact q
              refine xSB_callY (G := fun _ _ => none) (q := 146) (n := 2) (kq := 1) (as := [xa 0, xa 604]) (st1 := []) rfl rfl rfl rfl rfl rfl rfl rfl rfl rfl (fun _ => xw_rcv0 rfl) (List.forall_mem_cons.mpr ⟨rfl, List.forall_mem_cons.mpr ⟨rfl, fun _ h => absurd h List.not_mem_nil⟩⟩) (ygf146 hB _ _) (fun v13 m13 cv13 => ?_) (fun _ _ h => absurd rfl h)
              refine xSB_of (pc' := 428) (L' := [(0, .retAddr 9), (1, xa 0), (2, xa 536), (3, xa 604), (4, xi x4), (5, xi v13)]) (st' := [xa 536]) (m' := m13) (fun ex ns r q => ?_) ?_
              · refine xw_istore (L' := [(5, xi v13), (0, .retAddr 9), (1, xa 0), (2, xa 536), (3, xa 604), (4, xi x4)]) rfl (by decide) rfl ?_
                refine xw_aload_n rfl rfl rfl ?_
                refine xw_lo (L2 := [(0, .retAddr 9), (1, xa 0), (2, xa 536), (3, xa 604), (4, xi x4), (5, xi v13)]) (List.forall_mem_cons.mpr ⟨rfl, List.forall_mem_cons.mpr ⟨rfl, List.forall_mem_cons.mpr ⟨rfl, List.forall_mem_cons.mpr ⟨rfl, List.forall_mem_cons.mpr ⟨rfl, List.forall_mem_cons.mpr ⟨rfl, fun _ h => absurd h List.not_mem_nil⟩⟩⟩⟩⟩⟩) ?_
                exact q
              refine xSB_call0 (q := 303) (n := 1) (kq := 1) (as := [xa 536]) (st1 := []) rfl rfl rfl rfl rfl rfl rfl rfl rfl rfl (fun _ => xw_rcv1 (t := 12) (xw_obd (by decide +kernel)) rfl) (List.forall_mem_cons.mpr ⟨rfl, fun _ h => absurd h List.not_mem_nil⟩) (ygf303 hB _) (fun v14 m14 cv14 => ?_)
              refine xSB_of (pc' := 434) (L' := [(0, .retAddr 9), (1, xa 0), (2, xa 536), (3, xa 604), (4, xi x4), (5, xi v13), (6, xi v14)]) (st' := [xa 536]) (m' := m14) (fun ex ns r q => ?_) ?_
              · refine xw_istore (L' := [(6, xi v14), (0, .retAddr 9), (1, xa 0), (2, xa 536), (3, xa 604), (4, xi x4), (5, xi v13)]) rfl (by decide) rfl ?_
                refine xw_aload_n rfl rfl rfl ?_
                refine xw_lo (L2 := [(0, .retAddr 9), (1, xa 0), (2, xa 536), (3, xa 604), (4, xi x4), (5, xi v13), (6, xi v14)]) (List.forall_mem_cons.mpr ⟨rfl, List.forall_mem_cons.mpr ⟨rfl, List.forall_mem_cons.mpr ⟨rfl, List.forall_mem_cons.mpr ⟨rfl, List.forall_mem_cons.mpr ⟨rfl, List.forall_mem_cons.mpr ⟨rfl, List.forall_mem_cons.mpr ⟨rfl, fun _ h => absurd h List.not_mem_nil⟩⟩⟩⟩⟩⟩⟩) ?_
                exact q
              refine xSB_call0 (q := 243) (n := 1) (kq := 1) (as := [xa 536]) (st1 := []) rfl rfl rfl rfl rfl rfl rfl rfl rfl rfl (fun _ => xw_rcv1 (t := 12) (xw_obd (by decide +kernel)) rfl) (List.forall_mem_cons.mpr ⟨rfl, fun _ h => absurd h List.not_mem_nil⟩) (ygf243 hB _) (fun v15 m15 cv15 => ?_)
              refine xSB_of (pc' := 439) (L' := [(0, .retAddr 9), (1, xa 0), (2, xa 536), (3, xa 604), (4, xi x4), (5, xi v13), (6, xi v14)]) (st' := [xi v13, xi v15]) (m' := m15) (fun ex ns r q => ?_) ?_
              · refine xw_iload rfl rfl ?_
                exact q
              refine xSB_if (fun h7 => ?_) (fun h7 => ?_)
              · refine xSB_of (pc' := 446) (L' := [(0, .retAddr 9), (1, xa 0), (2, xa 536), (3, xa 604), (4, xi x4), (5, xi v13), (6, xi v14)]) (st' := [xi v13]) (m' := m15) (fun ex ns r q => ?_) ?_
                · refine xw_ic_eqT rfl (w32_cg cv15) (w32_cg cv13) h7 ?_
                  refine xw_iload rfl rfl ?_
                  exact q
                refine xSB_if (fun h8 => ?_) (fun h8 => ?_)
                · refine xSB_of (pc' := 455) (L' := [(0, .retAddr 9), (1, xa 0), (2, xa 536), (3, xa 604), (4, xi x4), (5, xi v13), (6, xi v14)]) (st' := [xj v14, xj (xJ m15 604 0)]) (m' := m15) (fun ex ns r q => ?_) ?_
                  · refine xw_if_neF rfl (w32_cg cv13) h8 ?_
                    refine xw_aload_n rfl rfl rfl ?_
                    refine xw_iconst rfl ?_
                    refine xw_laldc (n := 1) (v := (m15 604 0)) (v' := (xJ m15 604 0)) rfl hB (xw_obd (by decide +kernel)) rfl ⟨by decide, by decide⟩ rfl rfl ?_
                    refine xw_iload rfl rfl ?_
                    refine xw_i2l rfl (w32_cg cv14) ?_
                    exact q
                  refine xSB_if (fun h9 => ?_) (fun h9 => ?_)
                  · refine xSB_of (pc' := 33) (L' := [(0, .retAddr 9), (1, xa 0), (2, xa 536), (3, xa 604), (4, xi (w32 (x4 + 6)))]) (st' := []) (m' := m15) (fun ex ns r q => ?_) ?_
                    · refine xw_jc_eqT rfl rfl (w64_cg (w64_xJ _ _ _)) (w64_cg (w64_32 cv14)) h9 ?_
                      refine xw_goto rfl ?_
                      refine xw_iincc (z := (w32 (x4 + 6))) (L' := [(4, xi (w32 (x4 + 6))), (0, .retAddr 9), (1, xa 0), (2, xa 536), (3, xa 604), (5, xi v13), (6, xi v14)]) rfl rfl (by decide) rfl rfl ?_
                      refine xw_goto rfl ?_
                      refine xw_lo (L2 := [(0, .retAddr 9), (1, xa 0), (2, xa 536), (3, xa 604), (4, xi (w32 (x4 + 6)))]) (List.forall_mem_cons.mpr ⟨rfl, List.forall_mem_cons.mpr ⟨rfl, List.forall_mem_cons.mpr ⟨rfl, List.forall_mem_cons.mpr ⟨rfl, List.forall_mem_cons.mpr ⟨rfl, fun _ h => absurd h List.not_mem_nil⟩⟩⟩⟩⟩) ?_
                      exact q
                    exact xSB_mono (by omega) (hr33 _ _ (w32_w _))
                  · refine xSB_of (pc' := 460) (L' := [(0, .retAddr 9), (1, xa 0), (2, xa 536), (3, xa 604), (4, xi x4), (5, xi v13), (6, xi v14)]) (st' := [xi 0]) (m' := m15) (fun ex ns r q => ?_) ?_
                    · refine xw_jc_eqF rfl rfl (w64_cg (w64_xJ _ _ _)) (w64_cg (w64_32 cv14)) h9 ?_
                      refine xw_iconst rfl ?_
                      exact q
                    exact xSB_ret (v := 0) rfl rfl (xw_rtZ (Or.inl rfl)) (Or.inl rfl)
                · refine xSB_of (pc' := 33) (L' := [(0, .retAddr 9), (1, xa 0), (2, xa 536), (3, xa 604), (4, xi (w32 (x4 + 6)))]) (st' := []) (m' := m15) (fun ex ns r q => ?_) ?_
                  · refine xw_if_neT rfl (w32_cg cv13) h8 ?_
                    refine xw_goto rfl ?_
                    refine xw_iincc (z := (w32 (x4 + 6))) (L' := [(4, xi (w32 (x4 + 6))), (0, .retAddr 9), (1, xa 0), (2, xa 536), (3, xa 604), (5, xi v13), (6, xi v14)]) rfl rfl (by decide) rfl rfl ?_
                    refine xw_goto rfl ?_
                    refine xw_lo (L2 := [(0, .retAddr 9), (1, xa 0), (2, xa 536), (3, xa 604), (4, xi (w32 (x4 + 6)))]) (List.forall_mem_cons.mpr ⟨rfl, List.forall_mem_cons.mpr ⟨rfl, List.forall_mem_cons.mpr ⟨rfl, List.forall_mem_cons.mpr ⟨rfl, List.forall_mem_cons.mpr ⟨rfl, fun _ h => absurd h List.not_mem_nil⟩⟩⟩⟩⟩) ?_
                    exact q
                  exact xSB_mono (by omega) (hr33 _ _ (w32_w _))
              · refine xSB_of (pc' := 443) (L' := [(0, .retAddr 9), (1, xa 0), (2, xa 536), (3, xa 604), (4, xi x4), (5, xi v13), (6, xi v14)]) (st' := [xi 0]) (m' := m15) (fun ex ns r q => ?_) ?_
                · refine xw_ic_eqF rfl (w32_cg cv15) (w32_cg cv13) h7 ?_
                  refine xw_iconst rfl ?_
                  exact q
                exact xSB_ret (v := 0) rfl rfl (xw_rtZ (Or.inl rfl)) (Or.inl rfl)
            · refine xSB_if (fun h7 => ?_) (fun h7 => ?_)
              · refine xSB_g (fun g8 => ?_)
                refine xSB_g (fun g9 => ?_)
                refine xSB_of (pc' := 478) (L' := [(0, .retAddr 9), (1, xa 0), (2, xa 536), (3, xa 604), (4, xi x4)]) (st' := [xa 604, xi (xZs xs (x4 + 2)), xi (xZs xs (x4 + 1)), xa 0]) (m' := m) (fun ex ns r q => ?_) ?_
                · refine xw_sw (t := 464) rfl (by rw [h7]; rfl) ?_
                  refine xw_aload_n rfl rfl rfl ?_
                  refine xw_aload_n rfl rfl rfl ?_
                  refine xw_iload rfl rfl ?_
                  refine xw_iconst rfl ?_
                  refine xw_iadd rfl ?_
                  refine xw_aldS rfl hSL g8 ?_
                  refine xw_aload_n rfl rfl rfl ?_
                  refine xw_iload rfl rfl ?_
                  refine xw_iconst rfl ?_
                  refine xw_iadd rfl ?_
                  refine xw_aldS rfl hSL g9 ?_
                  refine xw_aload_n rfl rfl rfl ?_
                  refine xw_lo (L2 := [(0, .retAddr 9), (1, xa 0), (2, xa 536), (3, xa 604), (4, xi x4)]) (List.forall_mem_cons.mpr ⟨rfl, List.forall_mem_cons.mpr ⟨rfl, List.forall_mem_cons.mpr ⟨rfl, List.forall_mem_cons.mpr ⟨rfl, List.forall_mem_cons.mpr ⟨rfl, fun _ h => absurd h List.not_mem_nil⟩⟩⟩⟩⟩) ?_
                  exact q
                refine xSB_callY (G := fun _ _ => none) (q := 164) (n := 4) (kq := 1) (as := [xa 0, xi (xZs xs (x4 + 1)), xi (xZs xs (x4 + 2)), xa 604]) (st1 := []) rfl rfl rfl rfl rfl rfl rfl rfl rfl rfl (fun _ => xw_rcv0 rfl) (List.forall_mem_cons.mpr ⟨rfl, List.forall_mem_cons.mpr ⟨rfl, List.forall_mem_cons.mpr ⟨rfl, List.forall_mem_cons.mpr ⟨rfl, fun _ h => absurd h List.not_mem_nil⟩⟩⟩⟩) (ygf164 hB _ _ _ _ (w32_ti _) (w32_ti _)) (fun v16 m16 cv16 => ?_) (fun _ _ h => absurd rfl h)
                refine xSB_of (pc' := 496) (L' := [(0, .retAddr 9), (1, xa 0), (2, xa 536), (3, xa 604), (4, xi x4), (5, xi v16)]) (st' := [xi (xZs xs (x4 + 2)), xi (xZs xs (x4 + 1)), xa 536]) (m' := m16) (fun ex ns r q => ?_) ?_
                · refine xw_istore (L' := [(5, xi v16), (0, .retAddr 9), (1, xa 0), (2, xa 536), (3, xa 604), (4, xi x4)]) rfl (by decide) rfl ?_
                  refine xw_aload_n rfl rfl rfl ?_
                  refine xw_aload_n rfl rfl rfl ?_
                  refine xw_iload rfl rfl ?_
                  refine xw_iconst rfl ?_
                  refine xw_iadd rfl ?_
                  refine xw_aldS rfl hSL g8 ?_
                  refine xw_aload_n rfl rfl rfl ?_
                  refine xw_iload rfl rfl ?_
                  refine xw_iconst rfl ?_
                  refine xw_iadd rfl ?_
                  refine xw_aldS rfl hSL g9 ?_
                  refine xw_lo (L2 := [(0, .retAddr 9), (1, xa 0), (2, xa 536), (3, xa 604), (4, xi x4), (5, xi v16)]) (List.forall_mem_cons.mpr ⟨rfl, List.forall_mem_cons.mpr ⟨rfl, List.forall_mem_cons.mpr ⟨rfl, List.forall_mem_cons.mpr ⟨rfl, List.forall_mem_cons.mpr ⟨rfl, List.forall_mem_cons.mpr ⟨rfl, fun _ h => absurd h List.not_mem_nil⟩⟩⟩⟩⟩⟩) ?_
                  exact q
                refine xSB_call0 (q := 316) (n := 3) (kq := 4) (as := [xa 536, xi (xZs xs (x4 + 1)), xi (xZs xs (x4 + 2))]) (st1 := []) rfl rfl rfl rfl rfl rfl rfl rfl rfl rfl (fun _ => xw_rcv1 (t := 12) (xw_obd (by decide +kernel)) rfl) (List.forall_mem_cons.mpr ⟨rfl, List.forall_mem_cons.mpr ⟨rfl, List.forall_mem_cons.mpr ⟨rfl, fun _ h => absurd h List.not_mem_nil⟩⟩⟩) (ygf316 hB _ _ _ (w32_ti _) (w32_ti _)) (fun v17 m17 cv17 => ?_)
                refine xSB_of (pc' := 502) (L' := [(0, .retAddr 9), (1, xa 0), (2, xa 536), (3, xa 604), (4, xi x4), (5, xi v16), (6, xi v17)]) (st' := [xa 536]) (m' := m17) (fun ex ns r q => ?_) ?_
                · refine xw_istore (L' := [(6, xi v17), (0, .retAddr 9), (1, xa 0), (2, xa 536), (3, xa 604), (4, xi x4), (5, xi v16)]) rfl (by decide) rfl ?_
                  refine xw_aload_n rfl rfl rfl ?_
                  refine xw_lo (L2 := [(0, .retAddr 9), (1, xa 0), (2, xa 536), (3, xa 604), (4, xi x4), (5, xi v16), (6, xi v17)]) (List.forall_mem_cons.mpr ⟨rfl, List.forall_mem_cons.mpr ⟨rfl, List.forall_mem_cons.mpr ⟨rfl, List.forall_mem_cons.mpr ⟨rfl, List.forall_mem_cons.mpr ⟨rfl, List.forall_mem_cons.mpr ⟨rfl, List.forall_mem_cons.mpr ⟨rfl, fun _ h => absurd h List.not_mem_nil⟩⟩⟩⟩⟩⟩⟩) ?_
                  exact q
                refine xSB_call0 (q := 243) (n := 1) (kq := 1) (as := [xa 536]) (st1 := []) rfl rfl rfl rfl rfl rfl rfl rfl rfl rfl (fun _ => xw_rcv1 (t := 12) (xw_obd (by decide +kernel)) rfl) (List.forall_mem_cons.mpr ⟨rfl, fun _ h => absurd h List.not_mem_nil⟩) (ygf243 hB _) (fun v18 m18 cv18 => ?_)
                refine xSB_of (pc' := 507) (L' := [(0, .retAddr 9), (1, xa 0), (2, xa 536), (3, xa 604), (4, xi x4), (5, xi v16), (6, xi v17)]) (st' := [xi v16, xi v18]) (m' := m18) (fun ex ns r q => ?_) ?_
                · refine xw_iload rfl rfl ?_
                  exact q
                refine xSB_if (fun h10 => ?_) (fun h10 => ?_)
                · refine xSB_of (pc' := 514) (L' := [(0, .retAddr 9), (1, xa 0), (2, xa 536), (3, xa 604), (4, xi x4), (5, xi v16), (6, xi v17)]) (st' := [xi v16]) (m' := m18) (fun ex ns r q => ?_) ?_
                  · refine xw_ic_eqT rfl (w32_cg cv18) (w32_cg cv16) h10 ?_
                    refine xw_iload rfl rfl ?_
                    exact q
                  refine xSB_if (fun h11 => ?_) (fun h11 => ?_)
                  · refine xSB_of (pc' := 522) (L' := [(0, .retAddr 9), (1, xa 0), (2, xa 536), (3, xa 604), (4, xi x4), (5, xi v16), (6, xi v17)]) (st' := [xi v17, xj (xJ m18 604 0)]) (m' := m18) (fun ex ns r q => ?_) ?_
                    · refine xw_if_neF rfl (w32_cg cv16) h11 ?_
                      refine xw_aload_n rfl rfl rfl ?_
                      refine xw_iconst rfl ?_
                      refine xw_laldc (n := 1) (v := (m18 604 0)) (v' := (xJ m18 604 0)) rfl hB (xw_obd (by decide +kernel)) rfl ⟨by decide, by decide⟩ rfl rfl ?_
                      refine xw_iload rfl rfl ?_
                      exact q
                    refine xSB_if (fun h12 => ?_) (fun h12 => ?_)
                    · refine xSB_of (pc' := 530) (L' := [(0, .retAddr 9), (1, xa 0), (2, xa 536), (3, xa 604), (4, xi x4), (5, xi v16), (6, xi v17)]) (st' := [xj 0, xj (xJ m18 604 0)]) (m' := m18) (fun ex ns r q => ?_) ?_
                      · refine xw_if_eqT rfl (w32_cg (w32_of (xw_zr cv17))) h12 ?_
                        refine xw_lconst (e := 0) rfl rfl ?_
                        exact q
                      refine xSB_if (fun h13 => ?_) (fun h13 => ?_)
                      · refine xSB_of (pc' := 33) (L' := [(0, .retAddr 9), (1, xa 0), (2, xa 536), (3, xa 604), (4, xi (w32 (x4 + 6)))]) (st' := []) (m' := m18) (fun ex ns r q => ?_) ?_
                        · refine xw_jc_eqT rfl rfl (w64_cg (w64_xJ _ _ _)) (w64_cg rfl) h13 ?_
                          refine xw_goto rfl ?_
                          refine xw_iincc (z := (w32 (x4 + 6))) (L' := [(4, xi (w32 (x4 + 6))), (0, .retAddr 9), (1, xa 0), (2, xa 536), (3, xa 604), (5, xi v16), (6, xi v17)]) rfl rfl (by decide) rfl rfl ?_
                          refine xw_goto rfl ?_
                          refine xw_lo (L2 := [(0, .retAddr 9), (1, xa 0), (2, xa 536), (3, xa 604), (4, xi (w32 (x4 + 6)))]) (List.forall_mem_cons.mpr ⟨rfl, List.forall_mem_cons.mpr ⟨rfl, List.forall_mem_cons.mpr ⟨rfl, List.forall_mem_cons.mpr ⟨rfl, List.forall_mem_cons.mpr ⟨rfl, fun _ h => absurd h List.not_mem_nil⟩⟩⟩⟩⟩) ?_
                          exact q
                        exact xSB_mono (by omega) (hr33 _ _ (w32_w _))
                      · refine xSB_of (pc' := 535) (L' := [(0, .retAddr 9), (1, xa 0), (2, xa 536), (3, xa 604), (4, xi x4), (5, xi v16), (6, xi v17)]) (st' := [xi 0]) (m' := m18) (fun ex ns r q => ?_) ?_
                        · refine xw_jc_eqF rfl rfl (w64_cg (w64_xJ _ _ _)) (w64_cg rfl) h13 ?_
                          refine xw_iconst rfl ?_
                          exact q
                        exact xSB_ret (v := 0) rfl rfl (xw_rtZ (Or.inl rfl)) (Or.inl rfl)
                    · refine xSB_of (pc' := 530) (L' := [(0, .retAddr 9), (1, xa 0), (2, xa 536), (3, xa 604), (4, xi x4), (5, xi v16), (6, xi v17)]) (st' := [xj 1, xj (xJ m18 604 0)]) (m' := m18) (fun ex ns r q => ?_) ?_
                      · refine xw_if_eqF rfl (w32_cg (w32_of (xw_zr cv17))) h12 ?_
                        refine xw_lconst (e := 1) rfl rfl ?_
                        refine xw_goto rfl ?_
                        exact q
                      refine xSB_if (fun h13 => ?_) (fun h13 => ?_)
                      · refine xSB_of (pc' := 33) (L' := [(0, .retAddr 9), (1, xa 0), (2, xa 536), (3, xa 604), (4, xi (w32 (x4 + 6)))]) (st' := []) (m' := m18) (fun ex ns r q => ?_) ?_
                        · refine xw_jc_eqT rfl rfl (w64_cg (w64_xJ _ _ _)) (w64_cg rfl) h13 ?_
                          refine xw_goto rfl ?_
                          refine xw_iincc (z := (w32 (x4 + 6))) (L' := [(4, xi (w32 (x4 + 6))), (0, .retAddr 9), (1, xa 0), (2, xa 536), (3, xa 604), (5, xi v16), (6, xi v17)]) rfl rfl (by decide) rfl rfl ?_
                          refine xw_goto rfl ?_
                          refine xw_lo (L2 := [(0, .retAddr 9), (1, xa 0), (2, xa 536), (3, xa 604), (4, xi (w32 (x4 + 6)))]) (List.forall_mem_cons.mpr ⟨rfl, List.forall_mem_cons.mpr ⟨rfl, List.forall_mem_cons.mpr ⟨rfl, List.forall_mem_cons.mpr ⟨rfl, List.forall_mem_cons.mpr ⟨rfl, fun _ h => absurd h List.not_mem_nil⟩⟩⟩⟩⟩) ?_
                          exact q
                        exact xSB_mono (by omega) (hr33 _ _ (w32_w _))
                      · refine xSB_of (pc' := 535) (L' := [(0, .retAddr 9), (1, xa 0), (2, xa 536), (3, xa 604), (4, xi x4), (5, xi v16), (6, xi v17)]) (st' := [xi 0]) (m' := m18) (fun ex ns r q => ?_) ?_
                        · refine xw_jc_eqF rfl rfl (w64_cg (w64_xJ _ _ _)) (w64_cg rfl) h13 ?_
                          refine xw_iconst rfl ?_
                          exact q
                        exact xSB_ret (v := 0) rfl rfl (xw_rtZ (Or.inl rfl)) (Or.inl rfl)
                  · refine xSB_of (pc' := 33) (L' := [(0, .retAddr 9), (1, xa 0), (2, xa 536), (3, xa 604), (4, xi (w32 (x4 + 6)))]) (st' := []) (m' := m18) (fun ex ns r q => ?_) ?_
                    · refine xw_if_neT rfl (w32_cg cv16) h11 ?_
                      refine xw_goto rfl ?_
                      refine xw_iincc (z := (w32 (x4 + 6))) (L' := [(4, xi (w32 (x4 + 6))), (0, .retAddr 9), (1, xa 0), (2, xa 536), (3, xa 604), (5, xi v16), (6, xi v17)]) rfl rfl (by decide) rfl rfl ?_
                      refine xw_goto rfl ?_
                      refine xw_lo (L2 := [(0, .retAddr 9), (1, xa 0), (2, xa 536), (3, xa 604), (4, xi (w32 (x4 + 6)))]) (List.forall_mem_cons.mpr ⟨rfl, List.forall_mem_cons.mpr ⟨rfl, List.forall_mem_cons.mpr ⟨rfl, List.forall_mem_cons.mpr ⟨rfl, List.forall_mem_cons.mpr ⟨rfl, fun _ h => absurd h List.not_mem_nil⟩⟩⟩⟩⟩) ?_
                      exact q
                    exact xSB_mono (by omega) (hr33 _ _ (w32_w _))
                · refine xSB_of (pc' := 511) (L' := [(0, .retAddr 9), (1, xa 0), (2, xa 536), (3, xa 604), (4, xi x4), (5, xi v16), (6, xi v17)]) (st' := [xi 0]) (m' := m18) (fun ex ns r q => ?_) ?_
                  · refine xw_ic_eqF rfl (w32_cg cv18) (w32_cg cv16) h10 ?_
                    refine xw_iconst rfl ?_
                    exact q
                  exact xSB_ret (v := 0) rfl rfl (xw_rtZ (Or.inl rfl)) (Or.inl rfl)
              · refine xSB_if (fun h8 => ?_) (fun h8 => ?_)
                · refine xSB_g (fun g9 => ?_)
                  refine xSB_g (fun g10 => ?_)
                  refine xSB_g (fun g11 => ?_)
                  refine xSB_of (pc' := 569) (L' := [(0, .retAddr 9), (1, xa 0), (2, xa 536), (3, xa 604), (4, xi x4)]) (st' := [xa 604, xj (xw_lorf (xw_lshlf (xZs xs (x4 + 2)) 32) (xw_landf (xZs xs (x4 + 3)) 4294967295)), xi (xZs xs (x4 + 1)), xa 0]) (m' := m) (fun ex ns r q => ?_) ?_
                  · refine xw_sw (t := 539) rfl (by rw [h8]; rfl) ?_
                    refine xw_aload_n rfl rfl rfl ?_
                    refine xw_aload_n rfl rfl rfl ?_
                    refine xw_iload rfl rfl ?_
                    refine xw_iconst rfl ?_
                    refine xw_iadd rfl ?_
                    refine xw_aldS rfl hSL g9 ?_
                    refine xw_aload_n rfl rfl rfl ?_
                    refine xw_iload rfl rfl ?_
                    refine xw_iconst rfl ?_
                    refine xw_iadd rfl ?_
                    refine xw_aldS rfl hSL g10 ?_
                    refine xw_i2l rfl (w32_cg (w32_ti _)) ?_
                    refine xw_bipush (e := 32) rfl (by decide +kernel) ?_
                    refine xw_lshl (z := (xw_lshlf (xZs xs (x4 + 2)) 32)) rfl (xw_lshle _ _) ?_
                    refine xw_aload_n rfl rfl rfl ?_
                    refine xw_iload rfl rfl ?_
                    refine xw_iconst rfl ?_
                    refine xw_iadd rfl ?_
                    refine xw_aldS rfl hSL g11 ?_
                    refine xw_i2l rfl (w32_cg (w32_ti _)) ?_
                    refine xw_ldc2 (e := 4294967295) rfl (by decide +kernel) ?_
                    refine xw_land (z := (xw_landf (xZs xs (x4 + 3)) 4294967295)) rfl (xw_lande _ _) ?_
                    refine xw_lor (z := (xw_lorf (xw_lshlf (xZs xs (x4 + 2)) 32) (xw_landf (xZs xs (x4 + 3)) 4294967295))) rfl (xw_lore _ _) ?_
                    refine xw_aload_n rfl rfl rfl ?_
                    refine xw_lo (L2 := [(0, .retAddr 9), (1, xa 0), (2, xa 536), (3, xa 604), (4, xi x4)]) (List.forall_mem_cons.mpr ⟨rfl, List.forall_mem_cons.mpr ⟨rfl, List.forall_mem_cons.mpr ⟨rfl, List.forall_mem_cons.mpr ⟨rfl, List.forall_mem_cons.mpr ⟨rfl, fun _ h => absurd h List.not_mem_nil⟩⟩⟩⟩⟩) ?_
                    exact q
                  refine xSB_callY (G := fun _ _ => none) (q := 168) (n := 4) (kq := 1) (as := [xa 0, xi (xZs xs (x4 + 1)), xj (xw_lorf (xw_lshlf (xZs xs (x4 + 2)) 32) (xw_landf (xZs xs (x4 + 3)) 4294967295)), xa 604]) (st1 := []) rfl rfl rfl rfl rfl rfl rfl rfl rfl rfl (fun _ => xw_rcv0 rfl) (List.forall_mem_cons.mpr ⟨rfl, List.forall_mem_cons.mpr ⟨rfl, List.forall_mem_cons.mpr ⟨rfl, List.forall_mem_cons.mpr ⟨rfl, fun _ h => absurd h List.not_mem_nil⟩⟩⟩⟩) (ygf168 hB _ _ _ _ (w32_ti _) (w64_ti _)) (fun v19 m19 cv19 => ?_) (fun _ _ h => absurd rfl h)
                  refine xSB_of (pc' := 603) (L' := [(0, .retAddr 9), (1, xa 0), (2, xa 536), (3, xa 604), (4, xi x4), (5, xi v19)]) (st' := [xj (xw_lorf (xw_lshlf (xZs xs (x4 + 2)) 32) (xw_landf (xZs xs (x4 + 3)) 4294967295)), xi (xZs xs (x4 + 1)), xa 536]) (m' := m19) (fun ex ns r q => ?_) ?_
                  · refine xw_istore (L' := [(5, xi v19), (0, .retAddr 9), (1, xa 0), (2, xa 536), (3, xa 604), (4, xi x4)]) rfl (by decide) rfl ?_
                    refine xw_aload_n rfl rfl rfl ?_
                    refine xw_aload_n rfl rfl rfl ?_
                    refine xw_iload rfl rfl ?_
                    refine xw_iconst rfl ?_
                    refine xw_iadd rfl ?_
                    refine xw_aldS rfl hSL g9 ?_
                    refine xw_aload_n rfl rfl rfl ?_
                    refine xw_iload rfl rfl ?_
                    refine xw_iconst rfl ?_
                    refine xw_iadd rfl ?_
                    refine xw_aldS rfl hSL g10 ?_
                    refine xw_i2l rfl (w32_cg (w32_ti _)) ?_
                    refine xw_bipush (e := 32) rfl (by decide +kernel) ?_
                    refine xw_lshl (z := (xw_lshlf (xZs xs (x4 + 2)) 32)) rfl (xw_lshle _ _) ?_
                    refine xw_aload_n rfl rfl rfl ?_
                    refine xw_iload rfl rfl ?_
                    refine xw_iconst rfl ?_
                    refine xw_iadd rfl ?_
                    refine xw_aldS rfl hSL g11 ?_
                    refine xw_i2l rfl (w32_cg (w32_ti _)) ?_
                    refine xw_ldc2 (e := 4294967295) rfl (by decide +kernel) ?_
                    refine xw_land (z := (xw_landf (xZs xs (x4 + 3)) 4294967295)) rfl (xw_lande _ _) ?_
                    refine xw_lor (z := (xw_lorf (xw_lshlf (xZs xs (x4 + 2)) 32) (xw_landf (xZs xs (x4 + 3)) 4294967295))) rfl (xw_lore _ _) ?_
                    refine xw_lo (L2 := [(0, .retAddr 9), (1, xa 0), (2, xa 536), (3, xa 604), (4, xi x4), (5, xi v19)]) (List.forall_mem_cons.mpr ⟨rfl, List.forall_mem_cons.mpr ⟨rfl, List.forall_mem_cons.mpr ⟨rfl, List.forall_mem_cons.mpr ⟨rfl, List.forall_mem_cons.mpr ⟨rfl, List.forall_mem_cons.mpr ⟨rfl, fun _ h => absurd h List.not_mem_nil⟩⟩⟩⟩⟩⟩) ?_
                    exact q
                  refine xSB_call0 (q := 317) (n := 3) (kq := 2) (as := [xa 536, xi (xZs xs (x4 + 1)), xj (xw_lorf (xw_lshlf (xZs xs (x4 + 2)) 32) (xw_landf (xZs xs (x4 + 3)) 4294967295))]) (st1 := []) rfl rfl rfl rfl rfl rfl rfl rfl rfl rfl (fun _ => xw_rcv1 (t := 12) (xw_obd (by decide +kernel)) rfl) (List.forall_mem_cons.mpr ⟨rfl, List.forall_mem_cons.mpr ⟨rfl, List.forall_mem_cons.mpr ⟨rfl, fun _ h => absurd h List.not_mem_nil⟩⟩⟩) (ygf317 hB _ _ _ (w32_ti _) (w64_ti _)) (fun v20 m20 cv20 => ?_)
                  refine xSB_of (pc' := 609) (L' := [(0, .retAddr 9), (1, xa 0), (2, xa 536), (3, xa 604), (4, xi x4), (5, xi v19), (6, xj v20)]) (st' := [xa 536]) (m' := m20) (fun ex ns r q => ?_) ?_
                  · refine xw_lstore (L' := [(6, xj v20), (0, .retAddr 9), (1, xa 0), (2, xa 536), (3, xa 604), (4, xi x4), (5, xi v19)]) rfl (by decide) rfl ?_
                    refine xw_aload_n rfl rfl rfl ?_
                    refine xw_lo (L2 := [(0, .retAddr 9), (1, xa 0), (2, xa 536), (3, xa 604), (4, xi x4), (5, xi v19), (6, xj v20)]) (List.forall_mem_cons.mpr ⟨rfl, List.forall_mem_cons.mpr ⟨rfl, List.forall_mem_cons.mpr ⟨rfl, List.forall_mem_cons.mpr ⟨rfl, List.forall_mem_cons.mpr ⟨rfl, List.forall_mem_cons.mpr ⟨rfl, List.forall_mem_cons.mpr ⟨rfl, fun _ h => absurd h List.not_mem_nil⟩⟩⟩⟩⟩⟩⟩) ?_
                    exact q
                  refine xSB_call0 (q := 243) (n := 1) (kq := 1) (as := [xa 536]) (st1 := []) rfl rfl rfl rfl rfl rfl rfl rfl rfl rfl (fun _ => xw_rcv1 (t := 12) (xw_obd (by decide +kernel)) rfl) (List.forall_mem_cons.mpr ⟨rfl, fun _ h => absurd h List.not_mem_nil⟩) (ygf243 hB _) (fun v21 m21 cv21 => ?_)
                  refine xSB_of (pc' := 614) (L' := [(0, .retAddr 9), (1, xa 0), (2, xa 536), (3, xa 604), (4, xi x4), (5, xi v19), (6, xj v20)]) (st' := [xi v19, xi v21]) (m' := m21) (fun ex ns r q => ?_) ?_
                  · refine xw_iload rfl rfl ?_
                    exact q
                  refine xSB_if (fun h12 => ?_) (fun h12 => ?_)
                  · refine xSB_of (pc' := 621) (L' := [(0, .retAddr 9), (1, xa 0), (2, xa 536), (3, xa 604), (4, xi x4), (5, xi v19), (6, xj v20)]) (st' := [xi v19]) (m' := m21) (fun ex ns r q => ?_) ?_
                    · refine xw_ic_eqT rfl (w32_cg cv21) (w32_cg cv19) h12 ?_
                      refine xw_iload rfl rfl ?_
                      exact q
                    refine xSB_if (fun h13 => ?_) (fun h13 => ?_)
                    · refine xSB_of (pc' := 629) (L' := [(0, .retAddr 9), (1, xa 0), (2, xa 536), (3, xa 604), (4, xi x4), (5, xi v19), (6, xj v20)]) (st' := [xj v20, xj (xJ m21 604 0)]) (m' := m21) (fun ex ns r q => ?_) ?_
                      · refine xw_if_neF rfl (w32_cg cv19) h13 ?_
                        refine xw_aload_n rfl rfl rfl ?_
                        refine xw_iconst rfl ?_
                        refine xw_laldc (n := 1) (v := (m21 604 0)) (v' := (xJ m21 604 0)) rfl hB (xw_obd (by decide +kernel)) rfl ⟨by decide, by decide⟩ rfl rfl ?_
                        refine xw_lload rfl rfl ?_
                        exact q
                      refine xSB_if (fun h14 => ?_) (fun h14 => ?_)
                      · refine xSB_of (pc' := 33) (L' := [(0, .retAddr 9), (1, xa 0), (2, xa 536), (3, xa 604), (4, xi (w32 (x4 + 6)))]) (st' := []) (m' := m21) (fun ex ns r q => ?_) ?_
                        · refine xw_jc_eqT rfl rfl (w64_cg (w64_xJ _ _ _)) (w64_cg cv20) h14 ?_
                          refine xw_goto rfl ?_
                          refine xw_iincc (z := (w32 (x4 + 6))) (L' := [(4, xi (w32 (x4 + 6))), (0, .retAddr 9), (1, xa 0), (2, xa 536), (3, xa 604), (5, xi v19), (6, xj v20)]) rfl rfl (by decide) rfl rfl ?_
                          refine xw_goto rfl ?_
                          refine xw_lo (L2 := [(0, .retAddr 9), (1, xa 0), (2, xa 536), (3, xa 604), (4, xi (w32 (x4 + 6)))]) (List.forall_mem_cons.mpr ⟨rfl, List.forall_mem_cons.mpr ⟨rfl, List.forall_mem_cons.mpr ⟨rfl, List.forall_mem_cons.mpr ⟨rfl, List.forall_mem_cons.mpr ⟨rfl, fun _ h => absurd h List.not_mem_nil⟩⟩⟩⟩⟩) ?_
                          exact q
                        exact xSB_mono (by omega) (hr33 _ _ (w32_w _))
                      · refine xSB_of (pc' := 634) (L' := [(0, .retAddr 9), (1, xa 0), (2, xa 536), (3, xa 604), (4, xi x4), (5, xi v19), (6, xj v20)]) (st' := [xi 0]) (m' := m21) (fun ex ns r q => ?_) ?_
                        · refine xw_jc_eqF rfl rfl (w64_cg (w64_xJ _ _ _)) (w64_cg cv20) h14 ?_
                          refine xw_iconst rfl ?_
                          exact q
                        exact xSB_ret (v := 0) rfl rfl (xw_rtZ (Or.inl rfl)) (Or.inl rfl)
                    · refine xSB_of (pc' := 33) (L' := [(0, .retAddr 9), (1, xa 0), (2, xa 536), (3, xa 604), (4, xi (w32 (x4 + 6)))]) (st' := []) (m' := m21) (fun ex ns r q => ?_) ?_
                      · refine xw_if_neT rfl (w32_cg cv19) h13 ?_
                        refine xw_goto rfl ?_
                        refine xw_iincc (z := (w32 (x4 + 6))) (L' := [(4, xi (w32 (x4 + 6))), (0, .retAddr 9), (1, xa 0), (2, xa 536), (3, xa 604), (5, xi v19), (6, xj v20)]) rfl rfl (by decide) rfl rfl ?_
                        refine xw_goto rfl ?_
                        refine xw_lo (L2 := [(0, .retAddr 9), (1, xa 0), (2, xa 536), (3, xa 604), (4, xi (w32 (x4 + 6)))]) (List.forall_mem_cons.mpr ⟨rfl, List.forall_mem_cons.mpr ⟨rfl, List.forall_mem_cons.mpr ⟨rfl, List.forall_mem_cons.mpr ⟨rfl, List.forall_mem_cons.mpr ⟨rfl, fun _ h => absurd h List.not_mem_nil⟩⟩⟩⟩⟩) ?_
                        exact q
                      exact xSB_mono (by omega) (hr33 _ _ (w32_w _))
                  · refine xSB_of (pc' := 618) (L' := [(0, .retAddr 9), (1, xa 0), (2, xa 536), (3, xa 604), (4, xi x4), (5, xi v19), (6, xj v20)]) (st' := [xi 0]) (m' := m21) (fun ex ns r q => ?_) ?_
                    · refine xw_ic_eqF rfl (w32_cg cv21) (w32_cg cv19) h12 ?_
                      refine xw_iconst rfl ?_
                      exact q
                    exact xSB_ret (v := 0) rfl rfl (xw_rtZ (Or.inl rfl)) (Or.inl rfl)
                · refine xSB_if (fun h9 => ?_) (fun h9 => ?_)
                  · refine xSB_g (fun g10 => ?_)
                    refine xSB_of (pc' := 646) (L' := [(0, .retAddr 9), (1, xa 0), (2, xa 536), (3, xa 604), (4, xi x4)]) (st' := [xa 604, xi (xZs xs (x4 + 1)), xa 0]) (m' := m) (fun ex ns r q => ?_) ?_
                    · refine xw_sw (t := 638) rfl (by rw [h9]; rfl) ?_
                      refine xw_aload_n rfl rfl rfl ?_
                      refine xw_aload_n rfl rfl rfl ?_
                      refine xw_iload rfl rfl ?_
                      refine xw_iconst rfl ?_
                      refine xw_iadd rfl ?_
                      refine xw_aldS rfl hSL g10 ?_
                      refine xw_aload_n rfl rfl rfl ?_
                      refine xw_lo (L2 := [(0, .retAddr 9), (1, xa 0), (2, xa 536), (3, xa 604), (4, xi x4)]) (List.forall_mem_cons.mpr ⟨rfl, List.forall_mem_cons.mpr ⟨rfl, List.forall_mem_cons.mpr ⟨rfl, List.forall_mem_cons.mpr ⟨rfl, List.forall_mem_cons.mpr ⟨rfl, fun _ h => absurd h List.not_mem_nil⟩⟩⟩⟩⟩) ?_
                      exact q
                    refine xSB_callY (G := fun _ _ => none) (q := 170) (n := 3) (kq := 1) (as := [xa 0, xi (xZs xs (x4 + 1)), xa 604]) (st1 := []) rfl rfl rfl rfl rfl rfl rfl rfl rfl rfl (fun _ => xw_rcv0 rfl) (List.forall_mem_cons.mpr ⟨rfl, List.forall_mem_cons.mpr ⟨rfl, List.forall_mem_cons.mpr ⟨rfl, fun _ h => absurd h List.not_mem_nil⟩⟩⟩) (ygf170 hB _ _ _ (w32_ti _)) (fun v22 m22 cv22 => ?_) (fun _ _ h => absurd rfl h)
                    refine xSB_of (pc' := 658) (L' := [(0, .retAddr 9), (1, xa 0), (2, xa 536), (3, xa 604), (4, xi x4), (5, xi v22)]) (st' := [xi (xZs xs (x4 + 1)), xa 536]) (m' := m22) (fun ex ns r q => ?_) ?_
                    · refine xw_istore (L' := [(5, xi v22), (0, .retAddr 9), (1, xa 0), (2, xa 536), (3, xa 604), (4, xi x4)]) rfl (by decide) rfl ?_
                      refine xw_aload_n rfl rfl rfl ?_
                      refine xw_aload_n rfl rfl rfl ?_
                      refine xw_iload rfl rfl ?_
                      refine xw_iconst rfl ?_
                      refine xw_iadd rfl ?_
                      refine xw_aldS rfl hSL g10 ?_
                      refine xw_lo (L2 := [(0, .retAddr 9), (1, xa 0), (2, xa 536), (3, xa 604), (4, xi x4), (5, xi v22)]) (List.forall_mem_cons.mpr ⟨rfl, List.forall_mem_cons.mpr ⟨rfl, List.forall_mem_cons.mpr ⟨rfl, List.forall_mem_cons.mpr ⟨rfl, List.forall_mem_cons.mpr ⟨rfl, List.forall_mem_cons.mpr ⟨rfl, fun _ h => absurd h List.not_mem_nil⟩⟩⟩⟩⟩⟩) ?_
                      exact q
                    refine xSB_call0 (q := 318) (n := 2) (kq := 1) (as := [xa 536, xi (xZs xs (x4 + 1))]) (st1 := []) rfl rfl rfl rfl rfl rfl rfl rfl rfl rfl (fun _ => xw_rcv1 (t := 12) (xw_obd (by decide +kernel)) rfl) (List.forall_mem_cons.mpr ⟨rfl, List.forall_mem_cons.mpr ⟨rfl, fun _ h => absurd h List.not_mem_nil⟩⟩) (ygf318 hB _ _ (w32_ti _)) (fun v23 m23 cv23 => ?_)
                    refine xSB_of (pc' := 664) (L' := [(0, .retAddr 9), (1, xa 0), (2, xa 536), (3, xa 604), (4, xi x4), (5, xi v22), (6, xi v23)]) (st' := [xa 536]) (m' := m23) (fun ex ns r q => ?_) ?_
                    · refine xw_istore (L' := [(6, xi v23), (0, .retAddr 9), (1, xa 0), (2, xa 536), (3, xa 604), (4, xi x4), (5, xi v22)]) rfl (by decide) rfl ?_
                      refine xw_aload_n rfl rfl rfl ?_
                      refine xw_lo (L2 := [(0, .retAddr 9), (1, xa 0), (2, xa 536), (3, xa 604), (4, xi x4), (5, xi v22), (6, xi v23)]) (List.forall_mem_cons.mpr ⟨rfl, List.forall_mem_cons.mpr ⟨rfl, List.forall_mem_cons.mpr ⟨rfl, List.forall_mem_cons.mpr ⟨rfl, List.forall_mem_cons.mpr ⟨rfl, List.forall_mem_cons.mpr ⟨rfl, List.forall_mem_cons.mpr ⟨rfl, fun _ h => absurd h List.not_mem_nil⟩⟩⟩⟩⟩⟩⟩) ?_
                      exact q
                    refine xSB_call0 (q := 243) (n := 1) (kq := 1) (as := [xa 536]) (st1 := []) rfl rfl rfl rfl rfl rfl rfl rfl rfl rfl (fun _ => xw_rcv1 (t := 12) (xw_obd (by decide +kernel)) rfl) (List.forall_mem_cons.mpr ⟨rfl, fun _ h => absurd h List.not_mem_nil⟩) (ygf243 hB _) (fun v24 m24 cv24 => ?_)
                    refine xSB_of (pc' := 669) (L' := [(0, .retAddr 9), (1, xa 0), (2, xa 536), (3, xa 604), (4, xi x4), (5, xi v22), (6, xi v23)]) (st' := [xi v22, xi v24]) (m' := m24) (fun ex ns r q => ?_) ?_
                    · refine xw_iload rfl rfl ?_
                      exact q
                    refine xSB_if (fun h11 => ?_) (fun h11 => ?_)
                    · refine xSB_of (pc' := 676) (L' := [(0, .retAddr 9), (1, xa 0), (2, xa 536), (3, xa 604), (4, xi x4), (5, xi v22), (6, xi v23)]) (st' := [xi v22]) (m' := m24) (fun ex ns r q => ?_) ?_
                      · refine xw_ic_eqT rfl (w32_cg cv24) (w32_cg cv22) h11 ?_
                        refine xw_iload rfl rfl ?_
                        exact q
                      refine xSB_if (fun h12 => ?_) (fun h12 => ?_)
                      · refine xSB_of (pc' := 685) (L' := [(0, .retAddr 9), (1, xa 0), (2, xa 536), (3, xa 604), (4, xi x4), (5, xi v22), (6, xi v23)]) (st' := [xj v23, xj (xJ m24 604 0)]) (m' := m24) (fun ex ns r q => ?_) ?_
                        · refine xw_if_neF rfl (w32_cg cv22) h12 ?_
                          refine xw_aload_n rfl rfl rfl ?_
                          refine xw_iconst rfl ?_
                          refine xw_laldc (n := 1) (v := (m24 604 0)) (v' := (xJ m24 604 0)) rfl hB (xw_obd (by decide +kernel)) rfl ⟨by decide, by decide⟩ rfl rfl ?_
                          refine xw_iload rfl rfl ?_
                          refine xw_i2l rfl (w32_cg cv23) ?_
                          exact q
                        refine xSB_if (fun h13 => ?_) (fun h13 => ?_)
                        · refine xSB_of (pc' := 33) (L' := [(0, .retAddr 9), (1, xa 0), (2, xa 536), (3, xa 604), (4, xi (w32 (x4 + 6)))]) (st' := []) (m' := m24) (fun ex ns r q => ?_) ?_
                          · refine xw_jc_eqT rfl rfl (w64_cg (w64_xJ _ _ _)) (w64_cg (w64_32 cv23)) h13 ?_
                            refine xw_goto rfl ?_
                            refine xw_iincc (z := (w32 (x4 + 6))) (L' := [(4, xi (w32 (x4 + 6))), (0, .retAddr 9), (1, xa 0), (2, xa 536), (3, xa 604), (5, xi v22), (6, xi v23)]) rfl rfl (by decide) rfl rfl ?_
                            refine xw_goto rfl ?_
                            refine xw_lo (L2 := [(0, .retAddr 9), (1, xa 0), (2, xa 536), (3, xa 604), (4, xi (w32 (x4 + 6)))]) (List.forall_mem_cons.mpr ⟨rfl, List.forall_mem_cons.mpr ⟨rfl, List.forall_mem_cons.mpr ⟨rfl, List.forall_mem_cons.mpr ⟨rfl, List.forall_mem_cons.mpr ⟨rfl, fun _ h => absurd h List.not_mem_nil⟩⟩⟩⟩⟩) ?_
                            exact q
                          exact xSB_mono (by omega) (hr33 _ _ (w32_w _))
                        · refine xSB_of (pc' := 690) (L' := [(0, .retAddr 9), (1, xa 0), (2, xa 536), (3, xa 604), (4, xi x4), (5, xi v22), (6, xi v23)]) (st' := [xi 0]) (m' := m24) (fun ex ns r q => ?_) ?_
                          · refine xw_jc_eqF rfl rfl (w64_cg (w64_xJ _ _ _)) (w64_cg (w64_32 cv23)) h13 ?_
                            refine xw_iconst rfl ?_
                            exact q
                          exact xSB_ret (v := 0) rfl rfl (xw_rtZ (Or.inl rfl)) (Or.inl rfl)
                      · refine xSB_of (pc' := 33) (L' := [(0, .retAddr 9), (1, xa 0), (2, xa 536), (3, xa 604), (4, xi (w32 (x4 + 6)))]) (st' := []) (m' := m24) (fun ex ns r q => ?_) ?_
                        · refine xw_if_neT rfl (w32_cg cv22) h12 ?_
                          refine xw_goto rfl ?_
                          refine xw_iincc (z := (w32 (x4 + 6))) (L' := [(4, xi (w32 (x4 + 6))), (0, .retAddr 9), (1, xa 0), (2, xa 536), (3, xa 604), (5, xi v22), (6, xi v23)]) rfl rfl (by decide) rfl rfl ?_
                          refine xw_goto rfl ?_
                          refine xw_lo (L2 := [(0, .retAddr 9), (1, xa 0), (2, xa 536), (3, xa 604), (4, xi (w32 (x4 + 6)))]) (List.forall_mem_cons.mpr ⟨rfl, List.forall_mem_cons.mpr ⟨rfl, List.forall_mem_cons.mpr ⟨rfl, List.forall_mem_cons.mpr ⟨rfl, List.forall_mem_cons.mpr ⟨rfl, fun _ h => absurd h List.not_mem_nil⟩⟩⟩⟩⟩) ?_
                          exact q
                        exact xSB_mono (by omega) (hr33 _ _ (w32_w _))
                    · refine xSB_of (pc' := 673) (L' := [(0, .retAddr 9), (1, xa 0), (2, xa 536), (3, xa 604), (4, xi x4), (5, xi v22), (6, xi v23)]) (st' := [xi 0]) (m' := m24) (fun ex ns r q => ?_) ?_
                      · refine xw_ic_eqF rfl (w32_cg cv24) (w32_cg cv22) h11 ?_
                        refine xw_iconst rfl ?_
                        exact q
                      exact xSB_ret (v := 0) rfl rfl (xw_rtZ (Or.inl rfl)) (Or.inl rfl)
                  · refine xSB_if (fun h10 => ?_) (fun h10 => ?_)
                    · refine xSB_g (fun g11 => ?_)
                      refine xSB_g (fun g12 => ?_)
                      refine xSB_g (fun g13 => ?_)
                      refine xSB_of (pc' := 724) (L' := [(0, .retAddr 9), (1, xa 0), (2, xa 536), (3, xa 604), (4, xi x4)]) (st' := [xa 604, xj (xw_lorf (xw_lshlf (xZs xs (x4 + 2)) 32) (xw_landf (xZs xs (x4 + 3)) 4294967295)), xi (xZs xs (x4 + 1)), xa 0]) (m' := m) (fun ex ns r q => ?_) ?_
                      · refine xw_sw (t := 694) rfl (by rw [h10]; rfl) ?_
                        refine xw_aload_n rfl rfl rfl ?_
                        refine xw_aload_n rfl rfl rfl ?_
                        refine xw_iload rfl rfl ?_
                        refine xw_iconst rfl ?_
                        refine xw_iadd rfl ?_
                        refine xw_aldS rfl hSL g11 ?_
                        refine xw_aload_n rfl rfl rfl ?_
                        refine xw_iload rfl rfl ?_
                        refine xw_iconst rfl ?_
                        refine xw_iadd rfl ?_
                        refine xw_aldS rfl hSL g12 ?_
                        refine xw_i2l rfl (w32_cg (w32_ti _)) ?_
                        refine xw_bipush (e := 32) rfl (by decide +kernel) ?_
                        refine xw_lshl (z := (xw_lshlf (xZs xs (x4 + 2)) 32)) rfl (xw_lshle _ _) ?_
                        refine xw_aload_n rfl rfl rfl ?_
                        refine xw_iload rfl rfl ?_
                        refine xw_iconst rfl ?_
                        refine xw_iadd rfl ?_
                        refine xw_aldS rfl hSL g13 ?_
                        refine xw_i2l rfl (w32_cg (w32_ti _)) ?_
                        refine xw_ldc2 (e := 4294967295) rfl (by decide +kernel) ?_
                        refine xw_land (z := (xw_landf (xZs xs (x4 + 3)) 4294967295)) rfl (xw_lande _ _) ?_
                        refine xw_lor (z := (xw_lorf (xw_lshlf (xZs xs (x4 + 2)) 32) (xw_landf (xZs xs (x4 + 3)) 4294967295))) rfl (xw_lore _ _) ?_
                        refine xw_aload_n rfl rfl rfl ?_
                        refine xw_lo (L2 := [(0, .retAddr 9), (1, xa 0), (2, xa 536), (3, xa 604), (4, xi x4)]) (List.forall_mem_cons.mpr ⟨rfl, List.forall_mem_cons.mpr ⟨rfl, List.forall_mem_cons.mpr ⟨rfl, List.forall_mem_cons.mpr ⟨rfl, List.forall_mem_cons.mpr ⟨rfl, fun _ h => absurd h List.not_mem_nil⟩⟩⟩⟩⟩) ?_
                        exact q
                      refine xSB_callY (G := fun _ _ => none) (q := 173) (n := 4) (kq := 1) (as := [xa 0, xi (xZs xs (x4 + 1)), xj (xw_lorf (xw_lshlf (xZs xs (x4 + 2)) 32) (xw_landf (xZs xs (x4 + 3)) 4294967295)), xa 604]) (st1 := []) rfl rfl rfl rfl rfl rfl rfl rfl rfl rfl (fun _ => xw_rcv0 rfl) (List.forall_mem_cons.mpr ⟨rfl, List.forall_mem_cons.mpr ⟨rfl, List.forall_mem_cons.mpr ⟨rfl, List.forall_mem_cons.mpr ⟨rfl, fun _ h => absurd h List.not_mem_nil⟩⟩⟩⟩) (ygf173 hB _ _ _ _ (w32_ti _) (w64_ti _)) (fun v25 m25 cv25 => ?_) (fun _ _ h => absurd rfl h)
                      refine xSB_of (pc' := 758) (L' := [(0, .retAddr 9), (1, xa 0), (2, xa 536), (3, xa 604), (4, xi x4), (5, xi v25)]) (st' := [xj (xw_lorf (xw_lshlf (xZs xs (x4 + 2)) 32) (xw_landf (xZs xs (x4 + 3)) 4294967295)), xi (xZs xs (x4 + 1)), xa 536]) (m' := m25) (fun ex ns r q => ?_) ?_
                      · refine xw_istore (L' := [(5, xi v25), (0, .retAddr 9), (1, xa 0), (2, xa 536), (3, xa 604), (4, xi x4)]) rfl (by decide) rfl ?_
                        refine xw_aload_n rfl rfl rfl ?_
                        refine xw_aload_n rfl rfl rfl ?_
                        refine xw_iload rfl rfl ?_
                        refine xw_iconst rfl ?_
                        refine xw_iadd rfl ?_
                        refine xw_aldS rfl hSL g11 ?_
                        refine xw_aload_n rfl rfl rfl ?_
                        refine xw_iload rfl rfl ?_
                        refine xw_iconst rfl ?_
                        refine xw_iadd rfl ?_
                        refine xw_aldS rfl hSL g12 ?_
                        refine xw_i2l rfl (w32_cg (w32_ti _)) ?_
                        refine xw_bipush (e := 32) rfl (by decide +kernel) ?_
                        refine xw_lshl (z := (xw_lshlf (xZs xs (x4 + 2)) 32)) rfl (xw_lshle _ _) ?_
                        refine xw_aload_n rfl rfl rfl ?_
                        refine xw_iload rfl rfl ?_
                        refine xw_iconst rfl ?_
                        refine xw_iadd rfl ?_
                        refine xw_aldS rfl hSL g13 ?_
                        refine xw_i2l rfl (w32_cg (w32_ti _)) ?_
                        refine xw_ldc2 (e := 4294967295) rfl (by decide +kernel) ?_
                        refine xw_land (z := (xw_landf (xZs xs (x4 + 3)) 4294967295)) rfl (xw_lande _ _) ?_
                        refine xw_lor (z := (xw_lorf (xw_lshlf (xZs xs (x4 + 2)) 32) (xw_landf (xZs xs (x4 + 3)) 4294967295))) rfl (xw_lore _ _) ?_
                        refine xw_lo (L2 := [(0, .retAddr 9), (1, xa 0), (2, xa 536), (3, xa 604), (4, xi x4), (5, xi v25)]) (List.forall_mem_cons.mpr ⟨rfl, List.forall_mem_cons.mpr ⟨rfl, List.forall_mem_cons.mpr ⟨rfl, List.forall_mem_cons.mpr ⟨rfl, List.forall_mem_cons.mpr ⟨rfl, List.forall_mem_cons.mpr ⟨rfl, fun _ h => absurd h List.not_mem_nil⟩⟩⟩⟩⟩⟩) ?_
                        exact q
                      refine xSB_call0 (q := 321) (n := 3) (kq := 1) (as := [xa 536, xi (xZs xs (x4 + 1)), xj (xw_lorf (xw_lshlf (xZs xs (x4 + 2)) 32) (xw_landf (xZs xs (x4 + 3)) 4294967295))]) (st1 := []) rfl rfl rfl rfl rfl rfl rfl rfl rfl rfl (fun _ => xw_rcv1 (t := 12) (xw_obd (by decide +kernel)) rfl) (List.forall_mem_cons.mpr ⟨rfl, List.forall_mem_cons.mpr ⟨rfl, List.forall_mem_cons.mpr ⟨rfl, fun _ h => absurd h List.not_mem_nil⟩⟩⟩) (ygf321 hB _ _ _ (w32_ti _) (w64_ti _)) (fun v26 m26 cv26 => ?_)
                      refine xSB_of (pc' := 764) (L' := [(0, .retAddr 9), (1, xa 0), (2, xa 536), (3, xa 604), (4, xi x4), (5, xi v25), (6, xi v26)]) (st' := [xa 536]) (m' := m26) (fun ex ns r q => ?_) ?_
                      · refine xw_istore (L' := [(6, xi v26), (0, .retAddr 9), (1, xa 0), (2, xa 536), (3, xa 604), (4, xi x4), (5, xi v25)]) rfl (by decide) rfl ?_
                        refine xw_aload_n rfl rfl rfl ?_
                        refine xw_lo (L2 := [(0, .retAddr 9), (1, xa 0), (2, xa 536), (3, xa 604), (4, xi x4), (5, xi v25), (6, xi v26)]) (List.forall_mem_cons.mpr ⟨rfl, List.forall_mem_cons.mpr ⟨rfl, List.forall_mem_cons.mpr ⟨rfl, List.forall_mem_cons.mpr ⟨rfl, List.forall_mem_cons.mpr ⟨rfl, List.forall_mem_cons.mpr ⟨rfl, List.forall_mem_cons.mpr ⟨rfl, fun _ h => absurd h List.not_mem_nil⟩⟩⟩⟩⟩⟩⟩) ?_
                        exact q
                      refine xSB_call0 (q := 243) (n := 1) (kq := 1) (as := [xa 536]) (st1 := []) rfl rfl rfl rfl rfl rfl rfl rfl rfl rfl (fun _ => xw_rcv1 (t := 12) (xw_obd (by decide +kernel)) rfl) (List.forall_mem_cons.mpr ⟨rfl, fun _ h => absurd h List.not_mem_nil⟩) (ygf243 hB _) (fun v27 m27 cv27 => ?_)
                      refine xSB_of (pc' := 769) (L' := [(0, .retAddr 9), (1, xa 0), (2, xa 536), (3, xa 604), (4, xi x4), (5, xi v25), (6, xi v26)]) (st' := [xi v25, xi v27]) (m' := m27) (fun ex ns r q => ?_) ?_
                      · refine xw_iload rfl rfl ?_
                        exact q
                      refine xSB_if (fun h14 => ?_) (fun h14 => ?_)
                      · refine xSB_of (pc' := 776) (L' := [(0, .retAddr 9), (1, xa 0), (2, xa 536), (3, xa 604), (4, xi x4), (5, xi v25), (6, xi v26)]) (st' := [xi v25]) (m' := m27) (fun ex ns r q => ?_) ?_
                        · refine xw_ic_eqT rfl (w32_cg cv27) (w32_cg cv25) h14 ?_
                          refine xw_iload rfl rfl ?_
                          exact q
                        refine xSB_if (fun h15 => ?_) (fun h15 => ?_)
                        · refine xSB_of (pc' := 785) (L' := [(0, .retAddr 9), (1, xa 0), (2, xa 536), (3, xa 604), (4, xi x4), (5, xi v25), (6, xi v26)]) (st' := [xj v26, xj (xJ m27 604 0)]) (m' := m27) (fun ex ns r q => ?_) ?_
                          · refine xw_if_neF rfl (w32_cg cv25) h15 ?_
                            refine xw_aload_n rfl rfl rfl ?_
                            refine xw_iconst rfl ?_
                            refine xw_laldc (n := 1) (v := (m27 604 0)) (v' := (xJ m27 604 0)) rfl hB (xw_obd (by decide +kernel)) rfl ⟨by decide, by decide⟩ rfl rfl ?_
                            refine xw_iload rfl rfl ?_
                            refine xw_i2l rfl (w32_cg cv26) ?_
                            exact q
                          refine xSB_if (fun h16 => ?_) (fun h16 => ?_)
                          · refine xSB_of (pc' := 33) (L' := [(0, .retAddr 9), (1, xa 0), (2, xa 536), (3, xa 604), (4, xi (w32 (x4 + 6)))]) (st' := []) (m' := m27) (fun ex ns r q => ?_) ?_
                            · refine xw_jc_eqT rfl rfl (w64_cg (w64_xJ _ _ _)) (w64_cg (w64_32 cv26)) h16 ?_
                              refine xw_goto rfl ?_
                              refine xw_iincc (z := (w32 (x4 + 6))) (L' := [(4, xi (w32 (x4 + 6))), (0, .retAddr 9), (1, xa 0), (2, xa 536), (3, xa 604), (5, xi v25), (6, xi v26)]) rfl rfl (by decide) rfl rfl ?_
                              refine xw_goto rfl ?_
                              refine xw_lo (L2 := [(0, .retAddr 9), (1, xa 0), (2, xa 536), (3, xa 604), (4, xi (w32 (x4 + 6)))]) (List.forall_mem_cons.mpr ⟨rfl, List.forall_mem_cons.mpr ⟨rfl, List.forall_mem_cons.mpr ⟨rfl, List.forall_mem_cons.mpr ⟨rfl, List.forall_mem_cons.mpr ⟨rfl, fun _ h => absurd h List.not_mem_nil⟩⟩⟩⟩⟩) ?_
                              exact q
                            exact xSB_mono (by omega) (hr33 _ _ (w32_w _))
                          · refine xSB_of (pc' := 790) (L' := [(0, .retAddr 9), (1, xa 0), (2, xa 536), (3, xa 604), (4, xi x4), (5, xi v25), (6, xi v26)]) (st' := [xi 0]) (m' := m27) (fun ex ns r q => ?_) ?_
                            · refine xw_jc_eqF rfl rfl (w64_cg (w64_xJ _ _ _)) (w64_cg (w64_32 cv26)) h16 ?_
                              refine xw_iconst rfl ?_
                              exact q
                            exact xSB_ret (v := 0) rfl rfl (xw_rtZ (Or.inl rfl)) (Or.inl rfl)
                        · refine xSB_of (pc' := 33) (L' := [(0, .retAddr 9), (1, xa 0), (2, xa 536), (3, xa 604), (4, xi (w32 (x4 + 6)))]) (st' := []) (m' := m27) (fun ex ns r q => ?_) ?_
                          · refine xw_if_neT rfl (w32_cg cv25) h15 ?_
                            refine xw_goto rfl ?_
                            refine xw_iincc (z := (w32 (x4 + 6))) (L' := [(4, xi (w32 (x4 + 6))), (0, .retAddr 9), (1, xa 0), (2, xa 536), (3, xa 604), (5, xi v25), (6, xi v26)]) rfl rfl (by decide) rfl rfl ?_
                            refine xw_goto rfl ?_
                            refine xw_lo (L2 := [(0, .retAddr 9), (1, xa 0), (2, xa 536), (3, xa 604), (4, xi (w32 (x4 + 6)))]) (List.forall_mem_cons.mpr ⟨rfl, List.forall_mem_cons.mpr ⟨rfl, List.forall_mem_cons.mpr ⟨rfl, List.forall_mem_cons.mpr ⟨rfl, List.forall_mem_cons.mpr ⟨rfl, fun _ h => absurd h List.not_mem_nil⟩⟩⟩⟩⟩) ?_
                            exact q
                          exact xSB_mono (by omega) (hr33 _ _ (w32_w _))
                      · refine xSB_of (pc' := 773) (L' := [(0, .retAddr 9), (1, xa 0), (2, xa 536), (3, xa 604), (4, xi x4), (5, xi v25), (6, xi v26)]) (st' := [xi 0]) (m' := m27) (fun ex ns r q => ?_) ?_
                        · refine xw_ic_eqF rfl (w32_cg cv27) (w32_cg cv25) h14 ?_
                          refine xw_iconst rfl ?_
                          exact q
                        exact xSB_ret (v := 0) rfl rfl (xw_rtZ (Or.inl rfl)) (Or.inl rfl)
                    · refine xSB_if (fun h11 => ?_) (fun h11 => ?_)
                      · refine xSB_of (pc' := 796) (L' := [(0, .retAddr 9), (1, xa 0), (2, xa 536), (3, xa 604), (4, xi x4)]) (st' := [xa 604, xa 0]) (m' := m) (fun ex ns r q => ?_) ?_
                        · refine xw_sw (t := 794) rfl (by rw [h11]; rfl) ?_
                          refine xw_aload_n rfl rfl rfl ?_
                          refine xw_aload_n rfl rfl rfl ?_
                          refine xw_lo (L2 := [(0, .retAddr 9), (1, xa 0), (2, xa 536), (3, xa 604), (4, xi x4)]) (List.forall_mem_cons.mpr ⟨rfl, List.forall_mem_cons.mpr ⟨rfl, List.forall_mem_cons.mpr ⟨rfl, List.forall_mem_cons.mpr ⟨rfl, List.forall_mem_cons.mpr ⟨rfl, fun _ h => absurd h List.not_mem_nil⟩⟩⟩⟩⟩) ?_
                          exact q
                        refine xSB_callY (G := fun _ _ => none) (q := 175) (n := 2) (kq := 1) (as := [xa 0, xa 604]) (st1 := []) rfl rfl rfl rfl rfl rfl rfl rfl rfl rfl (fun _ => xw_rcv0 rfl) (List.forall_mem_cons.mpr ⟨rfl, List.forall_mem_cons.mpr ⟨rfl, fun _ h => absurd h List.not_mem_nil⟩⟩) (ygf175 hB _ _) (fun v28 m28 cv28 => ?_) (fun _ _ h => absurd rfl h)
                        refine xSB_of (pc' := 802) (L' := [(0, .retAddr 9), (1, xa 0), (2, xa 536), (3, xa 604), (4, xi x4), (5, xi v28)]) (st' := [xa 536]) (m' := m28) (fun ex ns r q => ?_) ?_
                        · refine xw_istore (L' := [(5, xi v28), (0, .retAddr 9), (1, xa 0), (2, xa 536), (3, xa 604), (4, xi x4)]) rfl (by decide) rfl ?_
                          refine xw_aload_n rfl rfl rfl ?_
                          refine xw_lo (L2 := [(0, .retAddr 9), (1, xa 0), (2, xa 536), (3, xa 604), (4, xi x4), (5, xi v28)]) (List.forall_mem_cons.mpr ⟨rfl, List.forall_mem_cons.mpr ⟨rfl, List.forall_mem_cons.mpr ⟨rfl, List.forall_mem_cons.mpr ⟨rfl, List.forall_mem_cons.mpr ⟨rfl, List.forall_mem_cons.mpr ⟨rfl, fun _ h => absurd h List.not_mem_nil⟩⟩⟩⟩⟩⟩) ?_
                          exact q
                        refine xSB_call0 (q := 322) (n := 1) (kq := 1) (as := [xa 536]) (st1 := []) rfl rfl rfl rfl rfl rfl rfl rfl rfl rfl (fun _ => xw_rcv1 (t := 12) (xw_obd (by decide +kernel)) rfl) (List.forall_mem_cons.mpr ⟨rfl, fun _ h => absurd h List.not_mem_nil⟩) (ygf322 hB _) (fun v29 m29 cv29 => ?_)
                        refine xSB_of (pc' := 808) (L' := [(0, .retAddr 9), (1, xa 0), (2, xa 536), (3, xa 604), (4, xi x4), (5, xi v28), (6, xi v29)]) (st' := [xa 536]) (m' := m29) (fun ex ns r q => ?_) ?_
                        · refine xw_istore (L' := [(6, xi v29), (0, .retAddr 9), (1, xa 0), (2, xa 536), (3, xa 604), (4, xi x4), (5, xi v28)]) rfl (by decide) rfl ?_
                          refine xw_aload_n rfl rfl rfl ?_
                          refine xw_lo (L2 := [(0, .retAddr 9), (1, xa 0), (2, xa 536), (3, xa 604), (4, xi x4), (5, xi v28), (6, xi v29)]) (List.forall_mem_cons.mpr ⟨rfl, List.forall_mem_cons.mpr ⟨rfl, List.forall_mem_cons.mpr ⟨rfl, List.forall_mem_cons.mpr ⟨rfl, List.forall_mem_cons.mpr ⟨rfl, List.forall_mem_cons.mpr ⟨rfl, List.forall_mem_cons.mpr ⟨rfl, fun _ h => absurd h List.not_mem_nil⟩⟩⟩⟩⟩⟩⟩) ?_
                          exact q
                        refine xSB_call0 (q := 243) (n := 1) (kq := 1) (as := [xa 536]) (st1 := []) rfl rfl rfl rfl rfl rfl rfl rfl rfl rfl (fun _ => xw_rcv1 (t := 12) (xw_obd (by decide +kernel)) rfl) (List.forall_mem_cons.mpr ⟨rfl, fun _ h => absurd h List.not_mem_nil⟩) (ygf243 hB _) (fun v30 m30 cv30 => ?_)
                        refine xSB_of (pc' := 813) (L' := [(0, .retAddr 9), (1, xa 0), (2, xa 536), (3, xa 604), (4, xi x4), (5, xi v28), (6, xi v29)]) (st' := [xi v28, xi v30]) (m' := m30) (fun ex ns r q => ?_) ?_
                        · refine xw_iload rfl rfl ?_
                          exact q
                        refine xSB_if (fun h12 => ?_) (fun h12 => ?_)
                        · refine xSB_of (pc' := 820) (L' := [(0, .retAddr 9), (1, xa 0), (2, xa 536), (3, xa 604), (4, xi x4), (5, xi v28), (6, xi v29)]) (st' := [xi v28]) (m' := m30) (fun ex ns r q => ?_) ?_
                          · refine xw_ic_eqT rfl (w32_cg cv30) (w32_cg cv28) h12 ?_
                            refine xw_iload rfl rfl ?_
                            exact q
                          refine xSB_if (fun h13 => ?_) (fun h13 => ?_)
                          · refine xSB_of (pc' := 829) (L' := [(0, .retAddr 9), (1, xa 0), (2, xa 536), (3, xa 604), (4, xi x4), (5, xi v28), (6, xi v29)]) (st' := [xj v29, xj (xJ m30 604 0)]) (m' := m30) (fun ex ns r q => ?_) ?_
                            · refine xw_if_neF rfl (w32_cg cv28) h13 ?_
                              refine xw_aload_n rfl rfl rfl ?_
                              refine xw_iconst rfl ?_
                              refine xw_laldc (n := 1) (v := (m30 604 0)) (v' := (xJ m30 604 0)) rfl hB (xw_obd (by decide +kernel)) rfl ⟨by decide, by decide⟩ rfl rfl ?_
                              refine xw_iload rfl rfl ?_
                              refine xw_i2l rfl (w32_cg cv29) ?_
                              exact q
                            refine xSB_if (fun h14 => ?_) (fun h14 => ?_)
                            · refine xSB_of (pc' := 33) (L' := [(0, .retAddr 9), (1, xa 0), (2, xa 536), (3, xa 604), (4, xi (w32 (x4 + 6)))]) (st' := []) (m' := m30) (fun ex ns r q => ?_) ?_
                              · refine xw_jc_eqT rfl rfl (w64_cg (w64_xJ _ _ _)) (w64_cg (w64_32 cv29)) h14 ?_
                                refine xw_goto rfl ?_
                                refine xw_iincc (z := (w32 (x4 + 6))) (L' := [(4, xi (w32 (x4 + 6))), (0, .retAddr 9), (1, xa 0), (2, xa 536), (3, xa 604), (5, xi v28), (6, xi v29)]) rfl rfl (by decide) rfl rfl ?_
                                refine xw_goto rfl ?_
                                refine xw_lo (L2 := [(0, .retAddr 9), (1, xa 0), (2, xa 536), (3, xa 604), (4, xi (w32 (x4 + 6)))]) (List.forall_mem_cons.mpr ⟨rfl, List.forall_mem_cons.mpr ⟨rfl, List.forall_mem_cons.mpr ⟨rfl, List.forall_mem_cons.mpr ⟨rfl, List.forall_mem_cons.mpr ⟨rfl, fun _ h => absurd h List.not_mem_nil⟩⟩⟩⟩⟩) ?_
                                exact q
                              exact xSB_mono (by omega) (hr33 _ _ (w32_w _))
                            · refine xSB_of (pc' := 834) (L' := [(0, .retAddr 9), (1, xa 0), (2, xa 536), (3, xa 604), (4, xi x4), (5, xi v28), (6, xi v29)]) (st' := [xi 0]) (m' := m30) (fun ex ns r q => ?_) ?_
                              · refine xw_jc_eqF rfl rfl (w64_cg (w64_xJ _ _ _)) (w64_cg (w64_32 cv29)) h14 ?_
                                refine xw_iconst rfl ?_
                                exact q
                              exact xSB_ret (v := 0) rfl rfl (xw_rtZ (Or.inl rfl)) (Or.inl rfl)
                          · refine xSB_of (pc' := 33) (L' := [(0, .retAddr 9), (1, xa 0), (2, xa 536), (3, xa 604), (4, xi (w32 (x4 + 6)))]) (st' := []) (m' := m30) (fun ex ns r q => ?_) ?_
                            · refine xw_if_neT rfl (w32_cg cv28) h13 ?_
                              refine xw_goto rfl ?_
                              refine xw_iincc (z := (w32 (x4 + 6))) (L' := [(4, xi (w32 (x4 + 6))), (0, .retAddr 9), (1, xa 0), (2, xa 536), (3, xa 604), (5, xi v28), (6, xi v29)]) rfl rfl (by decide) rfl rfl ?_
                              refine xw_goto rfl ?_
                              refine xw_lo (L2 := [(0, .retAddr 9), (1, xa 0), (2, xa 536), (3, xa 604), (4, xi (w32 (x4 + 6)))]) (List.forall_mem_cons.mpr ⟨rfl, List.forall_mem_cons.mpr ⟨rfl, List.forall_mem_cons.mpr ⟨rfl, List.forall_mem_cons.mpr ⟨rfl, List.forall_mem_cons.mpr ⟨rfl, fun _ h => absurd h List.not_mem_nil⟩⟩⟩⟩⟩) ?_
                              exact q
                            exact xSB_mono (by omega) (hr33 _ _ (w32_w _))
                        · refine xSB_of (pc' := 817) (L' := [(0, .retAddr 9), (1, xa 0), (2, xa 536), (3, xa 604), (4, xi x4), (5, xi v28), (6, xi v29)]) (st' := [xi 0]) (m' := m30) (fun ex ns r q => ?_) ?_
                          · refine xw_ic_eqF rfl (w32_cg cv30) (w32_cg cv28) h12 ?_
                            refine xw_iconst rfl ?_
                            exact q
                          exact xSB_ret (v := 0) rfl rfl (xw_rtZ (Or.inl rfl)) (Or.inl rfl)
                      · refine xSB_if (fun h12 => ?_) (fun h12 => ?_)
                        · refine xSB_of (pc' := 840) (L' := [(0, .retAddr 9), (1, xa 0), (2, xa 536), (3, xa 604), (4, xi x4)]) (st' := [xa 604, xa 0]) (m' := m) (fun ex ns r q => ?_) ?_
                          · refine xw_sw (t := 838) rfl (by rw [h12]; rfl) ?_
                            refine xw_aload_n rfl rfl rfl ?_
                            refine xw_aload_n rfl rfl rfl ?_
                            refine xw_lo (L2 := [(0, .retAddr 9), (1, xa 0), (2, xa 536), (3, xa 604), (4, xi x4)]) (List.forall_mem_cons.mpr ⟨rfl, List.forall_mem_cons.mpr ⟨rfl, List.forall_mem_cons.mpr ⟨rfl, List.forall_mem_cons.mpr ⟨rfl, List.forall_mem_cons.mpr ⟨rfl, fun _ h => absurd h List.not_mem_nil⟩⟩⟩⟩⟩) ?_
                            exact q
                          refine xSB_callY (G := fun _ _ => none) (q := 177) (n := 2) (kq := 1) (as := [xa 0, xa 604]) (st1 := []) rfl rfl rfl rfl rfl rfl rfl rfl rfl rfl (fun _ => xw_rcv0 rfl) (List.forall_mem_cons.mpr ⟨rfl, List.forall_mem_cons.mpr ⟨rfl, fun _ h => absurd h List.not_mem_nil⟩⟩) (ygf177 hB _ _) (fun v31 m31 cv31 => ?_) (fun _ _ h => absurd rfl h)
                          refine xSB_of (pc' := 846) (L' := [(0, .retAddr 9), (1, xa 0), (2, xa 536), (3, xa 604), (4, xi x4), (5, xi v31)]) (st' := [xa 536]) (m' := m31) (fun ex ns r q => ?_) ?_
                          · refine xw_istore (L' := [(5, xi v31), (0, .retAddr 9), (1, xa 0), (2, xa 536), (3, xa 604), (4, xi x4)]) rfl (by decide) rfl ?_
                            refine xw_aload_n rfl rfl rfl ?_
                            refine xw_lo (L2 := [(0, .retAddr 9), (1, xa 0), (2, xa 536), (3, xa 604), (4, xi x4), (5, xi v31)]) (List.forall_mem_cons.mpr ⟨rfl, List.forall_mem_cons.mpr ⟨rfl, List.forall_mem_cons.mpr ⟨rfl, List.forall_mem_cons.mpr ⟨rfl, List.forall_mem_cons.mpr ⟨rfl, List.forall_mem_cons.mpr ⟨rfl, fun _ h => absurd h List.not_mem_nil⟩⟩⟩⟩⟩⟩) ?_
                            exact q
                          refine xSB_call0 (q := 323) (n := 1) (kq := 1) (as := [xa 536]) (st1 := []) rfl rfl rfl rfl rfl rfl rfl rfl rfl rfl (fun _ => xw_rcv1 (t := 12) (xw_obd (by decide +kernel)) rfl) (List.forall_mem_cons.mpr ⟨rfl, fun _ h => absurd h List.not_mem_nil⟩) (ygf323 hB _) (fun v32 m32 cv32 => ?_)
                          refine xSB_of (pc' := 852) (L' := [(0, .retAddr 9), (1, xa 0), (2, xa 536), (3, xa 604), (4, xi x4), (5, xi v31), (6, xi v32)]) (st' := [xa 536]) (m' := m32) (fun ex ns r q => ?_) ?_
                          · refine xw_istore (L' := [(6, xi v32), (0, .retAddr 9), (1, xa 0), (2, xa 536), (3, xa 604), (4, xi x4), (5, xi v31)]) rfl (by decide) rfl ?_
                            refine xw_aload_n rfl rfl rfl ?_
                            refine xw_lo (L2 := [(0, .retAddr 9), (1, xa 0), (2, xa 536), (3, xa 604), (4, xi x4), (5, xi v31), (6, xi v32)]) (List.forall_mem_cons.mpr ⟨rfl, List.forall_mem_cons.mpr ⟨rfl, List.forall_mem_cons.mpr ⟨rfl, List.forall_mem_cons.mpr ⟨rfl, List.forall_mem_cons.mpr ⟨rfl, List.forall_mem_cons.mpr ⟨rfl, List.forall_mem_cons.mpr ⟨rfl, fun _ h => absurd h List.not_mem_nil⟩⟩⟩⟩⟩⟩⟩) ?_
                            exact q
                          refine xSB_call0 (q := 243) (n := 1) (kq := 1) (as := [xa 536]) (st1 := []) rfl rfl rfl rfl rfl rfl rfl rfl rfl rfl (fun _ => xw_rcv1 (t := 12) (xw_obd (by decide +kernel)) rfl) (List.forall_mem_cons.mpr ⟨rfl, fun _ h => absurd h List.not_mem_nil⟩) (ygf243 hB _) (fun v33 m33 cv33 => ?_)
                          refine xSB_of (pc' := 857) (L' := [(0, .retAddr 9), (1, xa 0), (2, xa 536), (3, xa 604), (4, xi x4), (5, xi v31), (6, xi v32)]) (st' := [xi v31, xi v33]) (m' := m33) (fun ex ns r q => ?_) ?_
                          · refine xw_iload rfl rfl ?_
                            exact q
                          refine xSB_if (fun h13 => ?_) (fun h13 => ?_)
                          · refine xSB_of (pc' := 864) (L' := [(0, .retAddr 9), (1, xa 0), (2, xa 536), (3, xa 604), (4, xi x4), (5, xi v31), (6, xi v32)]) (st' := [xi v31]) (m' := m33) (fun ex ns r q => ?_) ?_
                            · refine xw_ic_eqT rfl (w32_cg cv33) (w32_cg cv31) h13 ?_
                              refine xw_iload rfl rfl ?_
                              exact q
                            refine xSB_if (fun h14 => ?_) (fun h14 => ?_)
                            · refine xSB_of (pc' := 873) (L' := [(0, .retAddr 9), (1, xa 0), (2, xa 536), (3, xa 604), (4, xi x4), (5, xi v31), (6, xi v32)]) (st' := [xj v32, xj (xJ m33 604 0)]) (m' := m33) (fun ex ns r q => ?_) ?_
                              · refine xw_if_neF rfl (w32_cg cv31) h14 ?_
                                refine xw_aload_n rfl rfl rfl ?_
                                refine xw_iconst rfl ?_
                                refine xw_laldc (n := 1) (v := (m33 604 0)) (v' := (xJ m33 604 0)) rfl hB (xw_obd (by decide +kernel)) rfl ⟨by decide, by decide⟩ rfl rfl ?_
                                refine xw_iload rfl rfl ?_
                                refine xw_i2l rfl (w32_cg cv32) ?_
                                exact q
                              refine xSB_if (fun h15 => ?_) (fun h15 => ?_)
                              · refine xSB_of (pc' := 33) (L' := [(0, .retAddr 9), (1, xa 0), (2, xa 536), (3, xa 604), (4, xi (w32 (x4 + 6)))]) (st' := []) (m' := m33) (fun ex ns r q => ?_) ?_
                                · refine xw_jc_eqT rfl rfl (w64_cg (w64_xJ _ _ _)) (w64_cg (w64_32 cv32)) h15 ?_
                                  refine xw_goto rfl ?_
                                  refine xw_iincc (z := (w32 (x4 + 6))) (L' := [(4, xi (w32 (x4 + 6))), (0, .retAddr 9), (1, xa 0), (2, xa 536), (3, xa 604), (5, xi v31), (6, xi v32)]) rfl rfl (by decide) rfl rfl ?_
                                  refine xw_goto rfl ?_
                                  refine xw_lo (L2 := [(0, .retAddr 9), (1, xa 0), (2, xa 536), (3, xa 604), (4, xi (w32 (x4 + 6)))]) (List.forall_mem_cons.mpr ⟨rfl, List.forall_mem_cons.mpr ⟨rfl, List.forall_mem_cons.mpr ⟨rfl, List.forall_mem_cons.mpr ⟨rfl, List.forall_mem_cons.mpr ⟨rfl, fun _ h => absurd h List.not_mem_nil⟩⟩⟩⟩⟩) ?_
                                  exact q
                                exact xSB_mono (by omega) (hr33 _ _ (w32_w _))
                              · refine xSB_of (pc' := 878) (L' := [(0, .retAddr 9), (1, xa 0), (2, xa 536), (3, xa 604), (4, xi x4), (5, xi v31), (6, xi v32)]) (st' := [xi 0]) (m' := m33) (fun ex ns r q => ?_) ?_
                                · refine xw_jc_eqF rfl rfl (w64_cg (w64_xJ _ _ _)) (w64_cg (w64_32 cv32)) h15 ?_
                                  refine xw_iconst rfl ?_
                                  exact q
                                exact xSB_ret (v := 0) rfl rfl (xw_rtZ (Or.inl rfl)) (Or.inl rfl)
                            · refine xSB_of (pc' := 33) (L' := [(0, .retAddr 9), (1, xa 0), (2, xa 536), (3, xa 604), (4, xi (w32 (x4 + 6)))]) (st' := []) (m' := m33) (fun ex ns r q => ?_) ?_
                              · refine xw_if_neT rfl (w32_cg cv31) h14 ?_
                                refine xw_goto rfl ?_
                                refine xw_iincc (z := (w32 (x4 + 6))) (L' := [(4, xi (w32 (x4 + 6))), (0, .retAddr 9), (1, xa 0), (2, xa 536), (3, xa 604), (5, xi v31), (6, xi v32)]) rfl rfl (by decide) rfl rfl ?_
                                refine xw_goto rfl ?_
                                refine xw_lo (L2 := [(0, .retAddr 9), (1, xa 0), (2, xa 536), (3, xa 604), (4, xi (w32 (x4 + 6)))]) (List.forall_mem_cons.mpr ⟨rfl, List.forall_mem_cons.mpr ⟨rfl, List.forall_mem_cons.mpr ⟨rfl, List.forall_mem_cons.mpr ⟨rfl, List.forall_mem_cons.mpr ⟨rfl, fun _ h => absurd h List.not_mem_nil⟩⟩⟩⟩⟩) ?_
                                exact q
                              exact xSB_mono (by omega) (hr33 _ _ (w32_w _))
                          · refine xSB_of (pc' := 861) (L' := [(0, .retAddr 9), (1, xa 0), (2, xa 536), (3, xa 604), (4, xi x4), (5, xi v31), (6, xi v32)]) (st' := [xi 0]) (m' := m33) (fun ex ns r q => ?_) ?_
                            · refine xw_ic_eqF rfl (w32_cg cv33) (w32_cg cv31) h13 ?_
                              refine xw_iconst rfl ?_
                              exact q
                            exact xSB_ret (v := 0) rfl rfl (xw_rtZ (Or.inl rfl)) (Or.inl rfl)
                        · refine xSB_if (fun h13 => ?_) (fun h13 => ?_)
                          · refine xSB_g (fun g14 => ?_)
                            refine xSB_of (pc' := 890) (L' := [(0, .retAddr 9), (1, xa 0), (2, xa 536), (3, xa 604), (4, xi x4)]) (st' := [xa 604, xi (xZs xs (x4 + 1)), xa 0]) (m' := m) (fun ex ns r q => ?_) ?_
                            · refine xw_sw (t := 882) rfl (by rw [h13]; rfl) ?_
                              refine xw_aload_n rfl rfl rfl ?_
                              refine xw_aload_n rfl rfl rfl ?_
                              refine xw_iload rfl rfl ?_
                              refine xw_iconst rfl ?_
                              refine xw_iadd rfl ?_
                              refine xw_aldS rfl hSL g14 ?_
                              refine xw_aload_n rfl rfl rfl ?_
                              refine xw_lo (L2 := [(0, .retAddr 9), (1, xa 0), (2, xa 536), (3, xa 604), (4, xi x4)]) (List.forall_mem_cons.mpr ⟨rfl, List.forall_mem_cons.mpr ⟨rfl, List.forall_mem_cons.mpr ⟨rfl, List.forall_mem_cons.mpr ⟨rfl, List.forall_mem_cons.mpr ⟨rfl, fun _ h => absurd h List.not_mem_nil⟩⟩⟩⟩⟩) ?_
                              exact q
                            refine xSB_callY (G := fun _ _ => none) (q := 199) (n := 3) (kq := 1) (as := [xa 0, xi (xZs xs (x4 + 1)), xa 604]) (st1 := []) rfl rfl rfl rfl rfl rfl rfl rfl rfl rfl (fun _ => xw_rcv0 rfl) (List.forall_mem_cons.mpr ⟨rfl, List.forall_mem_cons.mpr ⟨rfl, List.forall_mem_cons.mpr ⟨rfl, fun _ h => absurd h List.not_mem_nil⟩⟩⟩) (ygf199 hB _ _ _ (w32_ti _)) (fun v34 m34 cv34 => ?_) (fun _ _ h => absurd rfl h)
                            refine xSB_of (pc' := 902) (L' := [(0, .retAddr 9), (1, xa 0), (2, xa 536), (3, xa 604), (4, xi x4), (5, xi v34)]) (st' := [xi (xZs xs (x4 + 1)), xa 536]) (m' := m34) (fun ex ns r q => ?_) ?_
                            · refine xw_istore (L' := [(5, xi v34), (0, .retAddr 9), (1, xa 0), (2, xa 536), (3, xa 604), (4, xi x4)]) rfl (by decide) rfl ?_
                              refine xw_aload_n rfl rfl rfl ?_
                              refine xw_aload_n rfl rfl rfl ?_
                              refine xw_iload rfl rfl ?_
                              refine xw_iconst rfl ?_
                              refine xw_iadd rfl ?_
                              refine xw_aldS rfl hSL g14 ?_
                              refine xw_lo (L2 := [(0, .retAddr 9), (1, xa 0), (2, xa 536), (3, xa 604), (4, xi x4), (5, xi v34)]) (List.forall_mem_cons.mpr ⟨rfl, List.forall_mem_cons.mpr ⟨rfl, List.forall_mem_cons.mpr ⟨rfl, List.forall_mem_cons.mpr ⟨rfl, List.forall_mem_cons.mpr ⟨rfl, List.forall_mem_cons.mpr ⟨rfl, fun _ h => absurd h List.not_mem_nil⟩⟩⟩⟩⟩⟩) ?_
                              exact q
                            refine xSB_call0 (q := 330) (n := 2) (kq := 1) (as := [xa 536, xi (xZs xs (x4 + 1))]) (st1 := []) rfl rfl rfl rfl rfl rfl rfl rfl rfl rfl (fun _ => xw_rcv1 (t := 12) (xw_obd (by decide +kernel)) rfl) (List.forall_mem_cons.mpr ⟨rfl, List.forall_mem_cons.mpr ⟨rfl, fun _ h => absurd h List.not_mem_nil⟩⟩) (ygf330 hB _ _ (w32_ti _)) (fun v35 m35 cv35 => ?_)
                            refine xSB_of (pc' := 908) (L' := [(0, .retAddr 9), (1, xa 0), (2, xa 536), (3, xa 604), (4, xi x4), (5, xi v34), (6, xi v35)]) (st' := [xa 536]) (m' := m35) (fun ex ns r q => ?_) ?_
                            · refine xw_istore (L' := [(6, xi v35), (0, .retAddr 9), (1, xa 0), (2, xa 536), (3, xa 604), (4, xi x4), (5, xi v34)]) rfl (by decide) rfl ?_
                              refine xw_aload_n rfl rfl rfl ?_
                              refine xw_lo (L2 := [(0, .retAddr 9), (1, xa 0), (2, xa 536), (3, xa 604), (4, xi x4), (5, xi v34), (6, xi v35)]) (List.forall_mem_cons.mpr ⟨rfl, List.forall_mem_cons.mpr ⟨rfl, List.forall_mem_cons.mpr ⟨rfl, List.forall_mem_cons.mpr ⟨rfl, List.forall_mem_cons.mpr ⟨rfl, List.forall_mem_cons.mpr ⟨rfl, List.forall_mem_cons.mpr ⟨rfl, fun _ h => absurd h List.not_mem_nil⟩⟩⟩⟩⟩⟩⟩) ?_
                              exact q
                            refine xSB_call0 (q := 243) (n := 1) (kq := 1) (as := [xa 536]) (st1 := []) rfl rfl rfl rfl rfl rfl rfl rfl rfl rfl (fun _ => xw_rcv1 (t := 12) (xw_obd (by decide +kernel)) rfl) (List.forall_mem_cons.mpr ⟨rfl, fun _ h => absurd h List.not_mem_nil⟩) (ygf243 hB _) (fun v36 m36 cv36 => ?_)
                            refine xSB_of (pc' := 913) (L' := [(0, .retAddr 9), (1, xa 0), (2, xa 536), (3, xa 604), (4, xi x4), (5, xi v34), (6, xi v35)]) (st' := [xi v34, xi v36]) (m' := m36) (fun ex ns r q => ?_) ?_
                            · refine xw_iload rfl rfl ?_
                              exact q
                            refine xSB_if (fun h15 => ?_) (fun h15 => ?_)
                            · refine xSB_of (pc' := 920) (L' := [(0, .retAddr 9), (1, xa 0), (2, xa 536), (3, xa 604), (4, xi x4), (5, xi v34), (6, xi v35)]) (st' := [xi v34]) (m' := m36) (fun ex ns r q => ?_) ?_
                              · refine xw_ic_eqT rfl (w32_cg cv36) (w32_cg cv34) h15 ?_
                                refine xw_iload rfl rfl ?_
                                exact q
                              refine xSB_if (fun h16 => ?_) (fun h16 => ?_)
                              · refine xSB_of (pc' := 929) (L' := [(0, .retAddr 9), (1, xa 0), (2, xa 536), (3, xa 604), (4, xi x4), (5, xi v34), (6, xi v35)]) (st' := [xj v35, xj (xJ m36 604 0)]) (m' := m36) (fun ex ns r q => ?_) ?_
                                · refine xw_if_neF rfl (w32_cg cv34) h16 ?_
                                  refine xw_aload_n rfl rfl rfl ?_
                                  refine xw_iconst rfl ?_
                                  refine xw_laldc (n := 1) (v := (m36 604 0)) (v' := (xJ m36 604 0)) rfl hB (xw_obd (by decide +kernel)) rfl ⟨by decide, by decide⟩ rfl rfl ?_
                                  refine xw_iload rfl rfl ?_
                                  refine xw_i2l rfl (w32_cg cv35) ?_
                                  exact q
                                refine xSB_if (fun h17 => ?_) (fun h17 => ?_)
                                · refine xSB_of (pc' := 33) (L' := [(0, .retAddr 9), (1, xa 0), (2, xa 536), (3, xa 604), (4, xi (w32 (x4 + 6)))]) (st' := []) (m' := m36) (fun ex ns r q => ?_) ?_
                                  · refine xw_jc_eqT rfl rfl (w64_cg (w64_xJ _ _ _)) (w64_cg (w64_32 cv35)) h17 ?_
                                    refine xw_goto rfl ?_
                                    refine xw_iincc (z := (w32 (x4 + 6))) (L' := [(4, xi (w32 (x4 + 6))), (0, .retAddr 9), (1, xa 0), (2, xa 536), (3, xa 604), (5, xi v34), (6, xi v35)]) rfl rfl (by decide) rfl rfl ?_
                                    refine xw_goto rfl ?_
                                    refine xw_lo (L2 := [(0, .retAddr 9), (1, xa 0), (2, xa 536), (3, xa 604), (4, xi (w32 (x4 + 6)))]) (List.forall_mem_cons.mpr ⟨rfl, List.forall_mem_cons.mpr ⟨rfl, List.forall_mem_cons.mpr ⟨rfl, List.forall_mem_cons.mpr ⟨rfl, List.forall_mem_cons.mpr ⟨rfl, fun _ h => absurd h List.not_mem_nil⟩⟩⟩⟩⟩) ?_
                                    exact q
                                  exact xSB_mono (by omega) (hr33 _ _ (w32_w _))
                                · refine xSB_of (pc' := 934) (L' := [(0, .retAddr 9), (1, xa 0), (2, xa 536), (3, xa 604), (4, xi x4), (5, xi v34), (6, xi v35)]) (st' := [xi 0]) (m' := m36) (fun ex ns r q => ?_) ?_
                                  · refine xw_jc_eqF rfl rfl (w64_cg (w64_xJ _ _ _)) (w64_cg (w64_32 cv35)) h17 ?_
                                    refine xw_iconst rfl ?_
                                    exact q
                                  exact xSB_ret (v := 0) rfl rfl (xw_rtZ (Or.inl rfl)) (Or.inl rfl)
                              · refine xSB_of (pc' := 33) (L' := [(0, .retAddr 9), (1, xa 0), (2, xa 536), (3, xa 604), (4, xi (w32 (x4 + 6)))]) (st' := []) (m' := m36) (fun ex ns r q => ?_) ?_
                                · refine xw_if_neT rfl (w32_cg cv34) h16 ?_
                                  refine xw_goto rfl ?_
                                  refine xw_iincc (z := (w32 (x4 + 6))) (L' := [(4, xi (w32 (x4 + 6))), (0, .retAddr 9), (1, xa 0), (2, xa 536), (3, xa 604), (5, xi v34), (6, xi v35)]) rfl rfl (by decide) rfl rfl ?_
                                  refine xw_goto rfl ?_
                                  refine xw_lo (L2 := [(0, .retAddr 9), (1, xa 0), (2, xa 536), (3, xa 604), (4, xi (w32 (x4 + 6)))]) (List.forall_mem_cons.mpr ⟨rfl, List.forall_mem_cons.mpr ⟨rfl, List.forall_mem_cons.mpr ⟨rfl, List.forall_mem_cons.mpr ⟨rfl, List.forall_mem_cons.mpr ⟨rfl, fun _ h => absurd h List.not_mem_nil⟩⟩⟩⟩⟩) ?_
                                  exact q
                                exact xSB_mono (by omega) (hr33 _ _ (w32_w _))
                            · refine xSB_of (pc' := 917) (L' := [(0, .retAddr 9), (1, xa 0), (2, xa 536), (3, xa 604), (4, xi x4), (5, xi v34), (6, xi v35)]) (st' := [xi 0]) (m' := m36) (fun ex ns r q => ?_) ?_
                              · refine xw_ic_eqF rfl (w32_cg cv36) (w32_cg cv34) h15 ?_
                                refine xw_iconst rfl ?_
                                exact q
                              exact xSB_ret (v := 0) rfl rfl (xw_rtZ (Or.inl rfl)) (Or.inl rfl)
                          · refine xSB_if (fun h14 => ?_) (fun h14 => ?_)
                            · refine xSB_of (pc' := 940) (L' := [(0, .retAddr 9), (1, xa 0), (2, xa 536), (3, xa 604), (4, xi x4)]) (st' := [xa 604, xa 0]) (m' := m) (fun ex ns r q => ?_) ?_
                              · refine xw_sw (t := 938) rfl (by rw [h14]; rfl) ?_
                                refine xw_aload_n rfl rfl rfl ?_
                                refine xw_aload_n rfl rfl rfl ?_
                                refine xw_lo (L2 := [(0, .retAddr 9), (1, xa 0), (2, xa 536), (3, xa 604), (4, xi x4)]) (List.forall_mem_cons.mpr ⟨rfl, List.forall_mem_cons.mpr ⟨rfl, List.forall_mem_cons.mpr ⟨rfl, List.forall_mem_cons.mpr ⟨rfl, List.forall_mem_cons.mpr ⟨rfl, fun _ h => absurd h List.not_mem_nil⟩⟩⟩⟩⟩) ?_
                                exact q
                              refine xSB_callY (G := fun _ _ => none) (q := 214) (n := 2) (kq := 1) (as := [xa 0, xa 604]) (st1 := []) rfl rfl rfl rfl rfl rfl rfl rfl rfl rfl (fun _ => xw_rcv0 rfl) (List.forall_mem_cons.mpr ⟨rfl, List.forall_mem_cons.mpr ⟨rfl, fun _ h => absurd h List.not_mem_nil⟩⟩) (ygf214 hB _ _) (fun v37 m37 cv37 => ?_) (fun _ _ h => absurd rfl h)
                              refine xSB_of (pc' := 946) (L' := [(0, .retAddr 9), (1, xa 0), (2, xa 536), (3, xa 604), (4, xi x4), (5, xi v37)]) (st' := [xa 536]) (m' := m37) (fun ex ns r q => ?_) ?_
                              · refine xw_istore (L' := [(5, xi v37), (0, .retAddr 9), (1, xa 0), (2, xa 536), (3, xa 604), (4, xi x4)]) rfl (by decide) rfl ?_
                                refine xw_aload_n rfl rfl rfl ?_
                                refine xw_lo (L2 := [(0, .retAddr 9), (1, xa 0), (2, xa 536), (3, xa 604), (4, xi x4), (5, xi v37)]) (List.forall_mem_cons.mpr ⟨rfl, List.forall_mem_cons.mpr ⟨rfl, List.forall_mem_cons.mpr ⟨rfl, List.forall_mem_cons.mpr ⟨rfl, List.forall_mem_cons.mpr ⟨rfl, List.forall_mem_cons.mpr ⟨rfl, fun _ h => absurd h List.not_mem_nil⟩⟩⟩⟩⟩⟩) ?_
                                exact q
                              refine xSB_call0 (q := 336) (n := 1) (kq := 1) (as := [xa 536]) (st1 := []) rfl rfl rfl rfl rfl rfl rfl rfl rfl rfl (fun _ => xw_rcv1 (t := 12) (xw_obd (by decide +kernel)) rfl) (List.forall_mem_cons.mpr ⟨rfl, fun _ h => absurd h List.not_mem_nil⟩) (ygf336 hB _) (fun v38 m38 cv38 => ?_)
                              refine xSB_of (pc' := 952) (L' := [(0, .retAddr 9), (1, xa 0), (2, xa 536), (3, xa 604), (4, xi x4), (5, xi v37), (6, xi v38)]) (st' := [xa 536]) (m' := m38) (fun ex ns r q => ?_) ?_
                              · refine xw_istore (L' := [(6, xi v38), (0, .retAddr 9), (1, xa 0), (2, xa 536), (3, xa 604), (4, xi x4), (5, xi v37)]) rfl (by decide) rfl ?_
                                refine xw_aload_n rfl rfl rfl ?_
                                refine xw_lo (L2 := [(0, .retAddr 9), (1, xa 0), (2, xa 536), (3, xa 604), (4, xi x4), (5, xi v37), (6, xi v38)]) (List.forall_mem_cons.mpr ⟨rfl, List.forall_mem_cons.mpr ⟨rfl, List.forall_mem_cons.mpr ⟨rfl, List.forall_mem_cons.mpr ⟨rfl, List.forall_mem_cons.mpr ⟨rfl, List.forall_mem_cons.mpr ⟨rfl, List.forall_mem_cons.mpr ⟨rfl, fun _ h => absurd h List.not_mem_nil⟩⟩⟩⟩⟩⟩⟩) ?_
                                exact q
                              refine xSB_call0 (q := 243) (n := 1) (kq := 1) (as := [xa 536]) (st1 := []) rfl rfl rfl rfl rfl rfl rfl rfl rfl rfl (fun _ => xw_rcv1 (t := 12) (xw_obd (by decide +kernel)) rfl) (List.forall_mem_cons.mpr ⟨rfl, fun _ h => absurd h List.not_mem_nil⟩) (ygf243 hB _) (fun v39 m39 cv39 => ?_)
                              refine xSB_of (pc' := 957) (L' := [(0, .retAddr 9), (1, xa 0), (2, xa 536), (3, xa 604), (4, xi x4), (5, xi v37), (6, xi v38)]) (st' := [xi v37, xi v39]) (m' := m39) (fun ex ns r q => ?_) ?_
                              · refine xw_iload rfl rfl ?_
                                exact q
                              refine xSB_if (fun h15 => ?_) (fun h15 => ?_)
                              · refine xSB_of (pc' := 964) (L' := [(0, .retAddr 9), (1, xa 0), (2, xa 536), (3, xa 604), (4, xi x4), (5, xi v37), (6, xi v38)]) (st' := [xi v37]) (m' := m39) (fun ex ns r q => ?_) ?_
                                · refine xw_ic_eqT rfl (w32_cg cv39) (w32_cg cv37) h15 ?_
                                  refine xw_iload rfl rfl ?_
                                  exact q
                                refine xSB_if (fun h16 => ?_) (fun h16 => ?_)
                                · refine xSB_of (pc' := 973) (L' := [(0, .retAddr 9), (1, xa 0), (2, xa 536), (3, xa 604), (4, xi x4), (5, xi v37), (6, xi v38)]) (st' := [xj v38, xj (xJ m39 604 0)]) (m' := m39) (fun ex ns r q => ?_) ?_
                                  · refine xw_if_neF rfl (w32_cg cv37) h16 ?_
                                    refine xw_aload_n rfl rfl rfl ?_
                                    refine xw_iconst rfl ?_
                                    refine xw_laldc (n := 1) (v := (m39 604 0)) (v' := (xJ m39 604 0)) rfl hB (xw_obd (by decide +kernel)) rfl ⟨by decide, by decide⟩ rfl rfl ?_
                                    refine xw_iload rfl rfl ?_
                                    refine xw_i2l rfl (w32_cg cv38) ?_
                                    exact q
                                  refine xSB_if (fun h17 => ?_) (fun h17 => ?_)
                                  · refine xSB_of (pc' := 33) (L' := [(0, .retAddr 9), (1, xa 0), (2, xa 536), (3, xa 604), (4, xi (w32 (x4 + 6)))]) (st' := []) (m' := m39) (fun ex ns r q => ?_) ?_
                                    · refine xw_jc_eqT rfl rfl (w64_cg (w64_xJ _ _ _)) (w64_cg (w64_32 cv38)) h17 ?_
                                      refine xw_goto rfl ?_
                                      refine xw_iincc (z := (w32 (x4 + 6))) (L' := [(4, xi (w32 (x4 + 6))), (0, .retAddr 9), (1, xa 0), (2, xa 536), (3, xa 604), (5, xi v37), (6, xi v38)]) rfl rfl (by decide) rfl rfl ?_
                                      refine xw_goto rfl ?_
                                      refine xw_lo (L2 := [(0, .retAddr 9), (1, xa 0), (2, xa 536), (3, xa 604), (4, xi (w32 (x4 + 6)))]) (List.forall_mem_cons.mpr ⟨rfl, List.forall_mem_cons.mpr ⟨rfl, List.forall_mem_cons.mpr ⟨rfl, List.forall_mem_cons.mpr ⟨rfl, List.forall_mem_cons.mpr ⟨rfl, fun _ h => absurd h List.not_mem_nil⟩⟩⟩⟩⟩) ?_
                                      exact q
                                    exact xSB_mono (by omega) (hr33 _ _ (w32_w _))
                                  · refine xSB_of (pc' := 978) (L' := [(0, .retAddr 9), (1, xa 0), (2, xa 536), (3, xa 604), (4, xi x4), (5, xi v37), (6, xi v38)]) (st' := [xi 0]) (m' := m39) (fun ex ns r q => ?_) ?_
                                    · refine xw_jc_eqF rfl rfl (w64_cg (w64_xJ _ _ _)) (w64_cg (w64_32 cv38)) h17 ?_
                                      refine xw_iconst rfl ?_
                                      exact q
                                    exact xSB_ret (v := 0) rfl rfl (xw_rtZ (Or.inl rfl)) (Or.inl rfl)
                                · refine xSB_of (pc' := 33) (L' := [(0, .retAddr 9), (1, xa 0), (2, xa 536), (3, xa 604), (4, xi (w32 (x4 + 6)))]) (st' := []) (m' := m39) (fun ex ns r q => ?_) ?_
                                  · refine xw_if_neT rfl (w32_cg cv37) h16 ?_
                                    refine xw_goto rfl ?_
                                    refine xw_iincc (z := (w32 (x4 + 6))) (L' := [(4, xi (w32 (x4 + 6))), (0, .retAddr 9), (1, xa 0), (2, xa 536), (3, xa 604), (5, xi v37), (6, xi v38)]) rfl rfl (by decide) rfl rfl ?_
                                    refine xw_goto rfl ?_
                                    refine xw_lo (L2 := [(0, .retAddr 9), (1, xa 0), (2, xa 536), (3, xa 604), (4, xi (w32 (x4 + 6)))]) (List.forall_mem_cons.mpr ⟨rfl, List.forall_mem_cons.mpr ⟨rfl, List.forall_mem_cons.mpr ⟨rfl, List.forall_mem_cons.mpr ⟨rfl, List.forall_mem_cons.mpr ⟨rfl, fun _ h => absurd h List.not_mem_nil⟩⟩⟩⟩⟩) ?_
                                    exact q
                                  exact xSB_mono (by omega) (hr33 _ _ (w32_w _))
                              · refine xSB_of (pc' := 961) (L' := [(0, .retAddr 9), (1, xa 0), (2, xa 536), (3, xa 604), (4, xi x4), (5, xi v37), (6, xi v38)]) (st' := [xi 0]) (m' := m39) (fun ex ns r q => ?_) ?_
                                · refine xw_ic_eqF rfl (w32_cg cv39) (w32_cg cv37) h15 ?_
                                  refine xw_iconst rfl ?_
                                  exact q
                                exact xSB_ret (v := 0) rfl rfl (xw_rtZ (Or.inl rfl)) (Or.inl rfl)
                            · refine xSB_if (fun h15 => ?_) (fun h15 => ?_)
                              · refine xSB_g (fun g16 => ?_)
                                refine xSB_of (pc' := 989) (L' := [(0, .retAddr 9), (1, xa 0), (2, xa 536), (3, xa 604), (4, xi x4)]) (st' := [xi (xZs xs (x4 + 1)), xa 0]) (m' := m) (fun ex ns r q => ?_) ?_
                                · refine xw_sw (t := 982) rfl (by rw [h15]; rfl) ?_
                                  refine xw_aload_n rfl rfl rfl ?_
                                  refine xw_aload_n rfl rfl rfl ?_
                                  refine xw_iload rfl rfl ?_
                                  refine xw_iconst rfl ?_
                                  refine xw_iadd rfl ?_
                                  refine xw_aldS rfl hSL g16 ?_
                                  refine xw_lo (L2 := [(0, .retAddr 9), (1, xa 0), (2, xa 536), (3, xa 604), (4, xi x4)]) (List.forall_mem_cons.mpr ⟨rfl, List.forall_mem_cons.mpr ⟨rfl, List.forall_mem_cons.mpr ⟨rfl, List.forall_mem_cons.mpr ⟨rfl, List.forall_mem_cons.mpr ⟨rfl, fun _ h => absurd h List.not_mem_nil⟩⟩⟩⟩⟩) ?_
                                  exact q
                                refine xSB_callY (G := fun _ _ => none) (q := 217) (n := 2) (kq := 1) (as := [xa 0, xi (xZs xs (x4 + 1))]) (st1 := []) rfl rfl rfl rfl rfl rfl rfl rfl rfl rfl (fun _ => xw_rcv0 rfl) (List.forall_mem_cons.mpr ⟨rfl, List.forall_mem_cons.mpr ⟨rfl, fun _ h => absurd h List.not_mem_nil⟩⟩) (ygf217 hB _ _ (w32_ti _)) (fun v40 m40 cv40 => ?_) (fun _ _ h => absurd rfl h)
                                refine xSB_of (pc' := 1001) (L' := [(0, .retAddr 9), (1, xa 0), (2, xa 536), (3, xa 604), (4, xi x4), (5, xi v40)]) (st' := [xi (xZs xs (x4 + 1)), xa 536]) (m' := m40) (fun ex ns r q => ?_) ?_
                                · refine xw_istore (L' := [(5, xi v40), (0, .retAddr 9), (1, xa 0), (2, xa 536), (3, xa 604), (4, xi x4)]) rfl (by decide) rfl ?_
                                  refine xw_aload_n rfl rfl rfl ?_
                                  refine xw_aload_n rfl rfl rfl ?_
                                  refine xw_iload rfl rfl ?_
                                  refine xw_iconst rfl ?_
                                  refine xw_iadd rfl ?_
                                  refine xw_aldS rfl hSL g16 ?_
                                  refine xw_lo (L2 := [(0, .retAddr 9), (1, xa 0), (2, xa 536), (3, xa 604), (4, xi x4), (5, xi v40)]) (List.forall_mem_cons.mpr ⟨rfl, List.forall_mem_cons.mpr ⟨rfl, List.forall_mem_cons.mpr ⟨rfl, List.forall_mem_cons.mpr ⟨rfl, List.forall_mem_cons.mpr ⟨rfl, List.forall_mem_cons.mpr ⟨rfl, fun _ h => absurd h List.not_mem_nil⟩⟩⟩⟩⟩⟩) ?_
                                  exact q
                                refine xSB_call0 (q := 314) (n := 2) (kq := 0) (as := [xa 536, xi (xZs xs (x4 + 1))]) (st1 := []) rfl rfl rfl rfl rfl rfl rfl rfl rfl rfl (fun _ => xw_rcv1 (t := 12) (xw_obd (by decide +kernel)) rfl) (List.forall_mem_cons.mpr ⟨rfl, List.forall_mem_cons.mpr ⟨rfl, fun _ h => absurd h List.not_mem_nil⟩⟩) (ygf314 hB _ _ (w32_ti _)) (fun v41 m41 cv41 => ?_)
                                refine xSB_of (pc' := 1005) (L' := [(0, .retAddr 9), (1, xa 0), (2, xa 536), (3, xa 604), (4, xi x4), (5, xi v40)]) (st' := [xa 536]) (m' := m41) (fun ex ns r q => ?_) ?_
                                · refine xw_aload_n rfl rfl rfl ?_
                                  refine xw_lo (L2 := [(0, .retAddr 9), (1, xa 0), (2, xa 536), (3, xa 604), (4, xi x4), (5, xi v40)]) (List.forall_mem_cons.mpr ⟨rfl, List.forall_mem_cons.mpr ⟨rfl, List.forall_mem_cons.mpr ⟨rfl, List.forall_mem_cons.mpr ⟨rfl, List.forall_mem_cons.mpr ⟨rfl, List.forall_mem_cons.mpr ⟨rfl, fun _ h => absurd h List.not_mem_nil⟩⟩⟩⟩⟩⟩) ?_
                                  exact q
                                refine xSB_call0 (q := 243) (n := 1) (kq := 1) (as := [xa 536]) (st1 := []) rfl rfl rfl rfl rfl rfl rfl rfl rfl rfl (fun _ => xw_rcv1 (t := 12) (xw_obd (by decide +kernel)) rfl) (List.forall_mem_cons.mpr ⟨rfl, fun _ h => absurd h List.not_mem_nil⟩) (ygf243 hB _) (fun v42 m42 cv42 => ?_)
                                refine xSB_of (pc' := 1010) (L' := [(0, .retAddr 9), (1, xa 0), (2, xa 536), (3, xa 604), (4, xi x4), (5, xi v40)]) (st' := [xi v40, xi v42]) (m' := m42) (fun ex ns r q => ?_) ?_
                                · refine xw_iload rfl rfl ?_
                                  exact q
                                refine xSB_if (fun h17 => ?_) (fun h17 => ?_)
                                · refine xSB_of (pc' := 33) (L' := [(0, .retAddr 9), (1, xa 0), (2, xa 536), (3, xa 604), (4, xi (w32 (x4 + 6)))]) (st' := []) (m' := m42) (fun ex ns r q => ?_) ?_
                                  · refine xw_ic_eqT rfl (w32_cg cv42) (w32_cg cv40) h17 ?_
                                    refine xw_goto rfl ?_
                                    refine xw_iincc (z := (w32 (x4 + 6))) (L' := [(4, xi (w32 (x4 + 6))), (0, .retAddr 9), (1, xa 0), (2, xa 536), (3, xa 604), (5, xi v40)]) rfl rfl (by decide) rfl rfl ?_
                                    refine xw_goto rfl ?_
                                    refine xw_lo (L2 := [(0, .retAddr 9), (1, xa 0), (2, xa 536), (3, xa 604), (4, xi (w32 (x4 + 6)))]) (List.forall_mem_cons.mpr ⟨rfl, List.forall_mem_cons.mpr ⟨rfl, List.forall_mem_cons.mpr ⟨rfl, List.forall_mem_cons.mpr ⟨rfl, List.forall_mem_cons.mpr ⟨rfl, fun _ h => absurd h List.not_mem_nil⟩⟩⟩⟩⟩) ?_
                                    exact q
                                  exact xSB_mono (by omega) (hr33 _ _ (w32_w _))
                                · refine xSB_of (pc' := 1014) (L' := [(0, .retAddr 9), (1, xa 0), (2, xa 536), (3, xa 604), (4, xi x4), (5, xi v40)]) (st' := [xi 0]) (m' := m42) (fun ex ns r q => ?_) ?_
                                  · refine xw_ic_eqF rfl (w32_cg cv42) (w32_cg cv40) h17 ?_
                                    refine xw_iconst rfl ?_
                                    exact q
                                  exact xSB_ret (v := 0) rfl rfl (xw_rtZ (Or.inl rfl)) (Or.inl rfl)
                              · refine xSB_if (fun h16 => ?_) (fun h16 => ?_)
                                · refine xSB_of (pc' := 1019) (L' := [(0, .retAddr 9), (1, xa 0), (2, xa 536), (3, xa 604), (4, xi x4)]) (st' := [xa 0]) (m' := m) (fun ex ns r q => ?_) ?_
                                  · refine xw_sw (t := 1018) rfl (by rw [h16]; rfl) ?_
                                    refine xw_aload_n rfl rfl rfl ?_
                                    refine xw_lo (L2 := [(0, .retAddr 9), (1, xa 0), (2, xa 536), (3, xa 604), (4, xi x4)]) (List.forall_mem_cons.mpr ⟨rfl, List.forall_mem_cons.mpr ⟨rfl, List.forall_mem_cons.mpr ⟨rfl, List.forall_mem_cons.mpr ⟨rfl, List.forall_mem_cons.mpr ⟨rfl, fun _ h => absurd h List.not_mem_nil⟩⟩⟩⟩⟩) ?_
                                    exact q
                                  refine xSB_call0 (q := 12) (n := 1) (kq := 1) (as := [xa 0]) (st1 := []) rfl rfl rfl rfl rfl rfl rfl rfl rfl rfl (fun _ => xw_rcv1 (t := 0) (xw_obd (by decide +kernel)) rfl) (List.forall_mem_cons.mpr ⟨rfl, fun _ h => absurd h List.not_mem_nil⟩) (ygf12 hB _) (fun v43 m43 cv43 => ?_)
                                  refine xSB_of (pc' := 1023) (L' := [(0, .retAddr 9), (1, xa 0), (2, xa 536), (3, xa 604), (4, xi x4)]) (st' := [xa 536, xi v43]) (m' := m43) (fun ex ns r q => ?_) ?_
                                  · refine xw_aload_n rfl rfl rfl ?_
                                    refine xw_lo (L2 := [(0, .retAddr 9), (1, xa 0), (2, xa 536), (3, xa 604), (4, xi x4)]) (List.forall_mem_cons.mpr ⟨rfl, List.forall_mem_cons.mpr ⟨rfl, List.forall_mem_cons.mpr ⟨rfl, List.forall_mem_cons.mpr ⟨rfl, List.forall_mem_cons.mpr ⟨rfl, fun _ h => absurd h List.not_mem_nil⟩⟩⟩⟩⟩) ?_
                                    exact q
                                  refine xSB_call0 (q := 315) (n := 1) (kq := 1) (as := [xa 536]) (st1 := [xi v43]) rfl rfl rfl rfl rfl rfl rfl rfl rfl rfl (fun _ => xw_rcv1 (t := 12) (xw_obd (by decide +kernel)) rfl) (List.forall_mem_cons.mpr ⟨rfl, fun _ h => absurd h List.not_mem_nil⟩) (ygf315 hB _) (fun v44 m44 cv44 => ?_)
                                  refine xSB_if (fun h17 => ?_) (fun h17 => ?_)
                                  · refine xSB_of (pc' := 33) (L' := [(0, .retAddr 9), (1, xa 0), (2, xa 536), (3, xa 604), (4, xi (w32 (x4 + 6)))]) (st' := []) (m' := m44) (fun ex ns r q => ?_) ?_
                                    · refine xw_ic_eqT rfl (w32_cg cv43) (w32_cg cv44) h17 ?_
                                      refine xw_iincc (z := (w32 (x4 + 6))) (L' := [(4, xi (w32 (x4 + 6))), (0, .retAddr 9), (1, xa 0), (2, xa 536), (3, xa 604)]) rfl rfl (by decide) rfl rfl ?_
                                      refine xw_goto rfl ?_
                                      refine xw_lo (L2 := [(0, .retAddr 9), (1, xa 0), (2, xa 536), (3, xa 604), (4, xi (w32 (x4 + 6)))]) (List.forall_mem_cons.mpr ⟨rfl, List.forall_mem_cons.mpr ⟨rfl, List.forall_mem_cons.mpr ⟨rfl, List.forall_mem_cons.mpr ⟨rfl, List.forall_mem_cons.mpr ⟨rfl, fun _ h => absurd h List.not_mem_nil⟩⟩⟩⟩⟩) ?_
                                      exact q
                                    exact xSB_mono (by omega) (hr33 _ _ (w32_w _))
                                  · refine xSB_of (pc' := 1030) (L' := [(0, .retAddr 9), (1, xa 0), (2, xa 536), (3, xa 604), (4, xi x4)]) (st' := [xi 0]) (m' := m44) (fun ex ns r q => ?_) ?_
                                    · refine xw_ic_eqF rfl (w32_cg cv43) (w32_cg cv44) h17 ?_
                                      refine xw_iconst rfl ?_
                                      exact q
                                    exact xSB_ret (v := 0) rfl rfl (xw_rtZ (Or.inl rfl)) (Or.inl rfl)
                                · refine xSB_if (fun h17 => ?_) (fun h17 => ?_)
                                  · refine xSB_of (pc' := 1032) (L' := [(0, .retAddr 9), (1, xa 0), (2, xa 536), (3, xa 604), (4, xi x4)]) (st' := [xa 0]) (m' := m) (fun ex ns r q => ?_) ?_
                                    · refine xw_sw (t := 1031) rfl (by rw [h17]; rfl) ?_
                                      refine xw_aload_n rfl rfl rfl ?_
                                      refine xw_lo (L2 := [(0, .retAddr 9), (1, xa 0), (2, xa 536), (3, xa 604), (4, xi x4)]) (List.forall_mem_cons.mpr ⟨rfl, List.forall_mem_cons.mpr ⟨rfl, List.forall_mem_cons.mpr ⟨rfl, List.forall_mem_cons.mpr ⟨rfl, List.forall_mem_cons.mpr ⟨rfl, fun _ h => absurd h List.not_mem_nil⟩⟩⟩⟩⟩) ?_
                                      exact q
                                    refine xSB_call0 (q := 33) (n := 1) (kq := 1) (as := [xa 0]) (st1 := []) rfl rfl rfl rfl rfl rfl rfl rfl rfl rfl (fun _ => xw_rcv1 (t := 0) (xw_obd (by decide +kernel)) rfl) (List.forall_mem_cons.mpr ⟨rfl, fun _ h => absurd h List.not_mem_nil⟩) (ygf33 hB _) (fun v45 m45 cv45 => ?_)
                                    refine xSB_of (pc' := 1036) (L' := [(0, .retAddr 9), (1, xa 0), (2, xa 536), (3, xa 604), (4, xi x4)]) (st' := [xa 536, xi v45]) (m' := m45) (fun ex ns r q => ?_) ?_
                                    · refine xw_aload_n rfl rfl rfl ?_
                                      refine xw_lo (L2 := [(0, .retAddr 9), (1, xa 0), (2, xa 536), (3, xa 604), (4, xi x4)]) (List.forall_mem_cons.mpr ⟨rfl, List.forall_mem_cons.mpr ⟨rfl, List.forall_mem_cons.mpr ⟨rfl, List.forall_mem_cons.mpr ⟨rfl, List.forall_mem_cons.mpr ⟨rfl, fun _ h => absurd h List.not_mem_nil⟩⟩⟩⟩⟩) ?_
                                      exact q
                                    refine xSB_call0 (q := 337) (n := 1) (kq := 1) (as := [xa 536]) (st1 := [xi v45]) rfl rfl rfl rfl rfl rfl rfl rfl rfl rfl (fun _ => xw_rcv1 (t := 12) (xw_obd (by decide +kernel)) rfl) (List.forall_mem_cons.mpr ⟨rfl, fun _ h => absurd h List.not_mem_nil⟩) (ygf337 hB _) (fun v46 m46 cv46 => ?_)
                                    refine xSB_if (fun h18 => ?_) (fun h18 => ?_)
                                    · refine xSB_of (pc' := 33) (L' := [(0, .retAddr 9), (1, xa 0), (2, xa 536), (3, xa 604), (4, xi (w32 (x4 + 6)))]) (st' := []) (m' := m46) (fun ex ns r q => ?_) ?_
                                      · refine xw_ic_eqT rfl (w32_cg cv45) (w32_cg cv46) h18 ?_
                                        refine xw_iincc (z := (w32 (x4 + 6))) (L' := [(4, xi (w32 (x4 + 6))), (0, .retAddr 9), (1, xa 0), (2, xa 536), (3, xa 604)]) rfl rfl (by decide) rfl rfl ?_
                                        refine xw_goto rfl ?_
                                        refine xw_lo (L2 := [(0, .retAddr 9), (1, xa 0), (2, xa 536), (3, xa 604), (4, xi (w32 (x4 + 6)))]) (List.forall_mem_cons.mpr ⟨rfl, List.forall_mem_cons.mpr ⟨rfl, List.forall_mem_cons.mpr ⟨rfl, List.forall_mem_cons.mpr ⟨rfl, List.forall_mem_cons.mpr ⟨rfl, fun _ h => absurd h List.not_mem_nil⟩⟩⟩⟩⟩) ?_
                                        exact q
                                      exact xSB_mono (by omega) (hr33 _ _ (w32_w _))
                                    · refine xSB_of (pc' := 1043) (L' := [(0, .retAddr 9), (1, xa 0), (2, xa 536), (3, xa 604), (4, xi x4)]) (st' := [xi 0]) (m' := m46) (fun ex ns r q => ?_) ?_
                                      · refine xw_ic_eqF rfl (w32_cg cv45) (w32_cg cv46) h18 ?_
                                        refine xw_iconst rfl ?_
                                        exact q
                                      exact xSB_ret (v := 0) rfl rfl (xw_rtZ (Or.inl rfl)) (Or.inl rfl)
                                  · refine xSB_if (fun h18 => ?_) (fun h18 => ?_)
                                    · refine xSB_of (pc' := 1045) (L' := [(0, .retAddr 9), (1, xa 0), (2, xa 536), (3, xa 604), (4, xi x4)]) (st' := [xa 0]) (m' := m) (fun ex ns r q => ?_) ?_
                                      · refine xw_sw (t := 1044) rfl (by rw [h18]; rfl) ?_
                                        refine xw_aload_n rfl rfl rfl ?_
                                        refine xw_lo (L2 := [(0, .retAddr 9), (1, xa 0), (2, xa 536), (3, xa 604), (4, xi x4)]) (List.forall_mem_cons.mpr ⟨rfl, List.forall_mem_cons.mpr ⟨rfl, List.forall_mem_cons.mpr ⟨rfl, List.forall_mem_cons.mpr ⟨rfl, List.forall_mem_cons.mpr ⟨rfl, fun _ h => absurd h List.not_mem_nil⟩⟩⟩⟩⟩) ?_
                                        exact q
                                      refine xSB_call0 (q := 34) (n := 1) (kq := 1) (as := [xa 0]) (st1 := []) rfl rfl rfl rfl rfl rfl rfl rfl rfl rfl (fun _ => xw_rcv1 (t := 0) (xw_obd (by decide +kernel)) rfl) (List.forall_mem_cons.mpr ⟨rfl, fun _ h => absurd h List.not_mem_nil⟩) (ygf34 hB _) (fun v47 m47 cv47 => ?_)
                                      refine xSB_of (pc' := 1049) (L' := [(0, .retAddr 9), (1, xa 0), (2, xa 536), (3, xa 604), (4, xi x4)]) (st' := [xa 536, xi v47]) (m' := m47) (fun ex ns r q => ?_) ?_
                                      · refine xw_aload_n rfl rfl rfl ?_
                                        refine xw_lo (L2 := [(0, .retAddr 9), (1, xa 0), (2, xa 536), (3, xa 604), (4, xi x4)]) (List.forall_mem_cons.mpr ⟨rfl, List.forall_mem_cons.mpr ⟨rfl, List.forall_mem_cons.mpr ⟨rfl, List.forall_mem_cons.mpr ⟨rfl, List.forall_mem_cons.mpr ⟨rfl, fun _ h => absurd h List.not_mem_nil⟩⟩⟩⟩⟩) ?_
                                        exact q
                                      refine xSB_call0 (q := 338) (n := 1) (kq := 1) (as := [xa 536]) (st1 := [xi v47]) rfl rfl rfl rfl rfl rfl rfl rfl rfl rfl (fun _ => xw_rcv1 (t := 12) (xw_obd (by decide +kernel)) rfl) (List.forall_mem_cons.mpr ⟨rfl, fun _ h => absurd h List.not_mem_nil⟩) (ygf338 hB _) (fun v48 m48 cv48 => ?_)
                                      refine xSB_if (fun h19 => ?_) (fun h19 => ?_)
                                      · refine xSB_of (pc' := 33) (L' := [(0, .retAddr 9), (1, xa 0), (2, xa 536), (3, xa 604), (4, xi (w32 (x4 + 6)))]) (st' := []) (m' := m48) (fun ex ns r q => ?_) ?_
                                        · refine xw_ic_eqT rfl (w32_cg cv47) (w32_cg cv48) h19 ?_
                                          refine xw_iincc (z := (w32 (x4 + 6))) (L' := [(4, xi (w32 (x4 + 6))), (0, .retAddr 9), (1, xa 0), (2, xa 536), (3, xa 604)]) rfl rfl (by decide) rfl rfl ?_
                                          refine xw_goto rfl ?_
                                          refine xw_lo (L2 := [(0, .retAddr 9), (1, xa 0), (2, xa 536), (3, xa 604), (4, xi (w32 (x4 + 6)))]) (List.forall_mem_cons.mpr ⟨rfl, List.forall_mem_cons.mpr ⟨rfl, List.forall_mem_cons.mpr ⟨rfl, List.forall_mem_cons.mpr ⟨rfl, List.forall_mem_cons.mpr ⟨rfl, fun _ h => absurd h List.not_mem_nil⟩⟩⟩⟩⟩) ?_
                                          exact q
                                        exact xSB_mono (by omega) (hr33 _ _ (w32_w _))
                                      · refine xSB_of (pc' := 1056) (L' := [(0, .retAddr 9), (1, xa 0), (2, xa 536), (3, xa 604), (4, xi x4)]) (st' := [xi 0]) (m' := m48) (fun ex ns r q => ?_) ?_
                                        · refine xw_ic_eqF rfl (w32_cg cv47) (w32_cg cv48) h19 ?_
                                          refine xw_iconst rfl ?_
                                          exact q
                                        exact xSB_ret (v := 0) rfl rfl (xw_rtZ (Or.inl rfl)) (Or.inl rfl)
                                    · refine xSB_if (fun h19 => ?_) (fun h19 => ?_)
                                      · refine xSB_g (fun g20 => ?_)
                                        refine xSB_of (pc' := 1065) (L' := [(0, .retAddr 9), (1, xa 0), (2, xa 536), (3, xa 604), (4, xi x4)]) (st' := [xa 604, xi (xZs xs (x4 + 1)), xa 0]) (m' := m) (fun ex ns r q => ?_) ?_
                                        · refine xw_sw (t := 1057) rfl (by rw [h19]; rfl) ?_
                                          refine xw_aload_n rfl rfl rfl ?_
                                          refine xw_aload_n rfl rfl rfl ?_
                                          refine xw_iload rfl rfl ?_
                                          refine xw_iconst rfl ?_
                                          refine xw_iadd rfl ?_
                                          refine xw_aldS rfl hSL g20 ?_
                                          refine xw_aload_n rfl rfl rfl ?_
                                          refine xw_lo (L2 := [(0, .retAddr 9), (1, xa 0), (2, xa 536), (3, xa 604), (4, xi x4)]) (List.forall_mem_cons.mpr ⟨rfl, List.forall_mem_cons.mpr ⟨rfl, List.forall_mem_cons.mpr ⟨rfl, List.forall_mem_cons.mpr ⟨rfl, List.forall_mem_cons.mpr ⟨rfl, fun _ h => absurd h List.not_mem_nil⟩⟩⟩⟩⟩) ?_
                                          exact q
                                        refine xSB_callY (G := fun _ _ => none) (q := 219) (n := 3) (kq := 1) (as := [xa 0, xi (xZs xs (x4 + 1)), xa 604]) (st1 := []) rfl rfl rfl rfl rfl rfl rfl rfl rfl rfl (fun _ => xw_rcv0 rfl) (List.forall_mem_cons.mpr ⟨rfl, List.forall_mem_cons.mpr ⟨rfl, List.forall_mem_cons.mpr ⟨rfl, fun _ h => absurd h List.not_mem_nil⟩⟩⟩) (ygf219 hB _ _ _ (w32_ti _)) (fun v49 m49 cv49 => ?_) (fun _ _ h => absurd rfl h)
                                        refine xSB_of (pc' := 1077) (L' := [(0, .retAddr 9), (1, xa 0), (2, xa 536), (3, xa 604), (4, xi x4), (5, xi v49)]) (st' := [xi (xZs xs (x4 + 1)), xa 536]) (m' := m49) (fun ex ns r q => ?_) ?_
                                        · refine xw_istore (L' := [(5, xi v49), (0, .retAddr 9), (1, xa 0), (2, xa 536), (3, xa 604), (4, xi x4)]) rfl (by decide) rfl ?_
                                          refine xw_aload_n rfl rfl rfl ?_
                                          refine xw_aload_n rfl rfl rfl ?_
                                          refine xw_iload rfl rfl ?_
                                          refine xw_iconst rfl ?_
                                          refine xw_iadd rfl ?_
                                          refine xw_aldS rfl hSL g20 ?_
                                          refine xw_lo (L2 := [(0, .retAddr 9), (1, xa 0), (2, xa 536), (3, xa 604), (4, xi x4), (5, xi v49)]) (List.forall_mem_cons.mpr ⟨rfl, List.forall_mem_cons.mpr ⟨rfl, List.forall_mem_cons.mpr ⟨rfl, List.forall_mem_cons.mpr ⟨rfl, List.forall_mem_cons.mpr ⟨rfl, List.forall_mem_cons.mpr ⟨rfl, fun _ h => absurd h List.not_mem_nil⟩⟩⟩⟩⟩⟩) ?_
                                          exact q
                                        refine xSB_call0 (q := 339) (n := 2) (kq := 1) (as := [xa 536, xi (xZs xs (x4 + 1))]) (st1 := []) rfl rfl rfl rfl rfl rfl rfl rfl rfl rfl (fun _ => xw_rcv1 (t := 12) (xw_obd (by decide +kernel)) rfl) (List.forall_mem_cons.mpr ⟨rfl, List.forall_mem_cons.mpr ⟨rfl, fun _ h => absurd h List.not_mem_nil⟩⟩) (ygf339 hB _ _ (w32_ti _)) (fun v50 m50 cv50 => ?_)
                                        refine xSB_of (pc' := 1083) (L' := [(0, .retAddr 9), (1, xa 0), (2, xa 536), (3, xa 604), (4, xi x4), (5, xi v49), (6, xi v50)]) (st' := [xa 536]) (m' := m50) (fun ex ns r q => ?_) ?_
                                        · refine xw_istore (L' := [(6, xi v50), (0, .retAddr 9), (1, xa 0), (2, xa 536), (3, xa 604), (4, xi x4), (5, xi v49)]) rfl (by decide) rfl ?_
                                          refine xw_aload_n rfl rfl rfl ?_
                                          refine xw_lo (L2 := [(0, .retAddr 9), (1, xa 0), (2, xa 536), (3, xa 604), (4, xi x4), (5, xi v49), (6, xi v50)]) (List.forall_mem_cons.mpr ⟨rfl, List.forall_mem_cons.mpr ⟨rfl, List.forall_mem_cons.mpr ⟨rfl, List.forall_mem_cons.mpr ⟨rfl, List.forall_mem_cons.mpr ⟨rfl, List.forall_mem_cons.mpr ⟨rfl, List.forall_mem_cons.mpr ⟨rfl, fun _ h => absurd h List.not_mem_nil⟩⟩⟩⟩⟩⟩⟩) ?_
                                          exact q
                                        refine xSB_call0 (q := 243) (n := 1) (kq := 1) (as := [xa 536]) (st1 := []) rfl rfl rfl rfl rfl rfl rfl rfl rfl rfl (fun _ => xw_rcv1 (t := 12) (xw_obd (by decide +kernel)) rfl) (List.forall_mem_cons.mpr ⟨rfl, fun _ h => absurd h List.not_mem_nil⟩) (ygf243 hB _) (fun v51 m51 cv51 => ?_)
                                        refine xSB_of (pc' := 1088) (L' := [(0, .retAddr 9), (1, xa 0), (2, xa 536), (3, xa 604), (4, xi x4), (5, xi v49), (6, xi v50)]) (st' := [xi v49, xi v51]) (m' := m51) (fun ex ns r q => ?_) ?_
                                        · refine xw_iload rfl rfl ?_
                                          exact q
                                        refine xSB_if (fun h21 => ?_) (fun h21 => ?_)
                                        · refine xSB_of (pc' := 1095) (L' := [(0, .retAddr 9), (1, xa 0), (2, xa 536), (3, xa 604), (4, xi x4), (5, xi v49), (6, xi v50)]) (st' := [xi v49]) (m' := m51) (fun ex ns r q => ?_) ?_
                                          · refine xw_ic_eqT rfl (w32_cg cv51) (w32_cg cv49) h21 ?_
                                            refine xw_iload rfl rfl ?_
                                            exact q
                                          refine xSB_if (fun h22 => ?_) (fun h22 => ?_)
                                          · refine xSB_of (pc' := 1104) (L' := [(0, .retAddr 9), (1, xa 0), (2, xa 536), (3, xa 604), (4, xi x4), (5, xi v49), (6, xi v50)]) (st' := [xj v50, xj (xJ m51 604 0)]) (m' := m51) (fun ex ns r q => ?_) ?_
                                            · refine xw_if_neF rfl (w32_cg cv49) h22 ?_
                                              refine xw_aload_n rfl rfl rfl ?_
                                              refine xw_iconst rfl ?_
                                              refine xw_laldc (n := 1) (v := (m51 604 0)) (v' := (xJ m51 604 0)) rfl hB (xw_obd (by decide +kernel)) rfl ⟨by decide, by decide⟩ rfl rfl ?_
                                              refine xw_iload rfl rfl ?_
                                              refine xw_i2l rfl (w32_cg cv50) ?_
                                              exact q
                                            refine xSB_if (fun h23 => ?_) (fun h23 => ?_)
                                            · refine xSB_of (pc' := 33) (L' := [(0, .retAddr 9), (1, xa 0), (2, xa 536), (3, xa 604), (4, xi (w32 (x4 + 6)))]) (st' := []) (m' := m51) (fun ex ns r q => ?_) ?_
                                              · refine xw_jc_eqT rfl rfl (w64_cg (w64_xJ _ _ _)) (w64_cg (w64_32 cv50)) h23 ?_
                                                refine xw_goto rfl ?_
                                                refine xw_iincc (z := (w32 (x4 + 6))) (L' := [(4, xi (w32 (x4 + 6))), (0, .retAddr 9), (1, xa 0), (2, xa 536), (3, xa 604), (5, xi v49), (6, xi v50)]) rfl rfl (by decide) rfl rfl ?_
                                                refine xw_goto rfl ?_
                                                refine xw_lo (L2 := [(0, .retAddr 9), (1, xa 0), (2, xa 536), (3, xa 604), (4, xi (w32 (x4 + 6)))]) (List.forall_mem_cons.mpr ⟨rfl, List.forall_mem_cons.mpr ⟨rfl, List.forall_mem_cons.mpr ⟨rfl, List.forall_mem_cons.mpr ⟨rfl, List.forall_mem_cons.mpr ⟨rfl, fun _ h => absurd h List.not_mem_nil⟩⟩⟩⟩⟩) ?_
                                                exact q
                                              exact xSB_mono (by omega) (hr33 _ _ (w32_w _))
                                            · refine xSB_of (pc' := 1109) (L' := [(0, .retAddr 9), (1, xa 0), (2, xa 536), (3, xa 604), (4, xi x4), (5, xi v49), (6, xi v50)]) (st' := [xi 0]) (m' := m51) (fun ex ns r q => ?_) ?_
                                              · refine xw_jc_eqF rfl rfl (w64_cg (w64_xJ _ _ _)) (w64_cg (w64_32 cv50)) h23 ?_
                                                refine xw_iconst rfl ?_
                                                exact q
                                              exact xSB_ret (v := 0) rfl rfl (xw_rtZ (Or.inl rfl)) (Or.inl rfl)
                                          · refine xSB_of (pc' := 33) (L' := [(0, .retAddr 9), (1, xa 0), (2, xa 536), (3, xa 604), (4, xi (w32 (x4 + 6)))]) (st' := []) (m' := m51) (fun ex ns r q => ?_) ?_
                                            · refine xw_if_neT rfl (w32_cg cv49) h22 ?_
                                              refine xw_goto rfl ?_
                                              refine xw_iincc (z := (w32 (x4 + 6))) (L' := [(4, xi (w32 (x4 + 6))), (0, .retAddr 9), (1, xa 0), (2, xa 536), (3, xa 604), (5, xi v49), (6, xi v50)]) rfl rfl (by decide) rfl rfl ?_
                                              refine xw_goto rfl ?_
                                              refine xw_lo (L2 := [(0, .retAddr 9), (1, xa 0), (2, xa 536), (3, xa 604), (4, xi (w32 (x4 + 6)))]) (List.forall_mem_cons.mpr ⟨rfl, List.forall_mem_cons.mpr ⟨rfl, List.forall_mem_cons.mpr ⟨rfl, List.forall_mem_cons.mpr ⟨rfl, List.forall_mem_cons.mpr ⟨rfl, fun _ h => absurd h List.not_mem_nil⟩⟩⟩⟩⟩) ?_
                                              exact q
                                            exact xSB_mono (by omega) (hr33 _ _ (w32_w _))
                                        · refine xSB_of (pc' := 1092) (L' := [(0, .retAddr 9), (1, xa 0), (2, xa 536), (3, xa 604), (4, xi x4), (5, xi v49), (6, xi v50)]) (st' := [xi 0]) (m' := m51) (fun ex ns r q => ?_) ?_
                                          · refine xw_ic_eqF rfl (w32_cg cv51) (w32_cg cv49) h21 ?_
                                            refine xw_iconst rfl ?_
                                            exact q
                                          exact xSB_ret (v := 0) rfl rfl (xw_rtZ (Or.inl rfl)) (Or.inl rfl)
                                      · refine xSB_if (fun h20 => ?_) (fun h20 => ?_)
                                        · refine xSB_g (fun g21 => ?_)
                                          refine xSB_g (fun g22 => ?_)
                                          refine xSB_of (pc' := 1127) (L' := [(0, .retAddr 9), (1, xa 0), (2, xa 536), (3, xa 604), (4, xi x4)]) (st' := [xa 604, xi (xZs xs (x4 + 2)), xi (xZs xs (x4 + 1)), xa 0]) (m' := m) (fun ex ns r q => ?_) ?_
                                          · refine xw_sw (t := 1113) rfl (by rw [h20]; rfl) ?_
                                            refine xw_aload_n rfl rfl rfl ?_
                                            refine xw_aload_n rfl rfl rfl ?_
                                            refine xw_iload rfl rfl ?_
                                            refine xw_iconst rfl ?_
                                            refine xw_iadd rfl ?_
                                            refine xw_aldS rfl hSL g21 ?_
                                            refine xw_aload_n rfl rfl rfl ?_
                                            refine xw_iload rfl rfl ?_
                                            refine xw_iconst rfl ?_
                                            refine xw_iadd rfl ?_
                                            refine xw_aldS rfl hSL g22 ?_
                                            refine xw_aload_n rfl rfl rfl ?_
                                            refine xw_lo (L2 := [(0, .retAddr 9), (1, xa 0), (2, xa 536), (3, xa 604), (4, xi x4)]) (List.forall_mem_cons.mpr ⟨rfl, List.forall_mem_cons.mpr ⟨rfl, List.forall_mem_cons.mpr ⟨rfl, List.forall_mem_cons.mpr ⟨rfl, List.forall_mem_cons.mpr ⟨rfl, fun _ h => absurd h List.not_mem_nil⟩⟩⟩⟩⟩) ?_
                                            exact q
                                          refine xSB_callY (G := fun _ _ => none) (q := 222) (n := 4) (kq := 1) (as := [xa 0, xi (xZs xs (x4 + 1)), xi (xZs xs (x4 + 2)), xa 604]) (st1 := []) rfl rfl rfl rfl rfl rfl rfl rfl rfl rfl (fun _ => xw_rcv0 rfl) (List.forall_mem_cons.mpr ⟨rfl, List.forall_mem_cons.mpr ⟨rfl, List.forall_mem_cons.mpr ⟨rfl, List.forall_mem_cons.mpr ⟨rfl, fun _ h => absurd h List.not_mem_nil⟩⟩⟩⟩) (ygf222 hB _ _ _ _ (w32_ti _) (w32_ti _)) (fun v52 m52 cv52 => ?_) (fun _ _ h => absurd rfl h)
                                          refine xSB_of (pc' := 1145) (L' := [(0, .retAddr 9), (1, xa 0), (2, xa 536), (3, xa 604), (4, xi x4), (5, xi v52)]) (st' := [xi (xZs xs (x4 + 2)), xi (xZs xs (x4 + 1)), xa 536]) (m' := m52) (fun ex ns r q => ?_) ?_
                                          · refine xw_istore (L' := [(5, xi v52), (0, .retAddr 9), (1, xa 0), (2, xa 536), (3, xa 604), (4, xi x4)]) rfl (by decide) rfl ?_
                                            refine xw_aload_n rfl rfl rfl ?_
                                            refine xw_aload_n rfl rfl rfl ?_
                                            refine xw_iload rfl rfl ?_
                                            refine xw_iconst rfl ?_
                                            refine xw_iadd rfl ?_
                                            refine xw_aldS rfl hSL g21 ?_
                                            refine xw_aload_n rfl rfl rfl ?_
                                            refine xw_iload rfl rfl ?_
                                            refine xw_iconst rfl ?_
                                            refine xw_iadd rfl ?_
                                            refine xw_aldS rfl hSL g22 ?_
                                            refine xw_lo (L2 := [(0, .retAddr 9), (1, xa 0), (2, xa 536), (3, xa 604), (4, xi x4), (5, xi v52)]) (List.forall_mem_cons.mpr ⟨rfl, List.forall_mem_cons.mpr ⟨rfl, List.forall_mem_cons.mpr ⟨rfl, List.forall_mem_cons.mpr ⟨rfl, List.forall_mem_cons.mpr ⟨rfl, List.forall_mem_cons.mpr ⟨rfl, fun _ h => absurd h List.not_mem_nil⟩⟩⟩⟩⟩⟩) ?_
                                            exact q
                                          refine xSB_call0 (q := 340) (n := 3) (kq := 1) (as := [xa 536, xi (xZs xs (x4 + 1)), xi (xZs xs (x4 + 2))]) (st1 := []) rfl rfl rfl rfl rfl rfl rfl rfl rfl rfl (fun _ => xw_rcv1 (t := 12) (xw_obd (by decide +kernel)) rfl) (List.forall_mem_cons.mpr ⟨rfl, List.forall_mem_cons.mpr ⟨rfl, List.forall_mem_cons.mpr ⟨rfl, fun _ h => absurd h List.not_mem_nil⟩⟩⟩) (ygf340 hB _ _ _ (w32_ti _) (w32_ti _)) (fun v53 m53 cv53 => ?_)
                                          refine xSB_of (pc' := 1151) (L' := [(0, .retAddr 9), (1, xa 0), (2, xa 536), (3, xa 604), (4, xi x4), (5, xi v52), (6, xi v53)]) (st' := [xa 536]) (m' := m53) (fun ex ns r q => ?_) ?_
                                          · refine xw_istore (L' := [(6, xi v53), (0, .retAddr 9), (1, xa 0), (2, xa 536), (3, xa 604), (4, xi x4), (5, xi v52)]) rfl (by decide) rfl ?_
                                            refine xw_aload_n rfl rfl rfl ?_
                                            refine xw_lo (L2 := [(0, .retAddr 9), (1, xa 0), (2, xa 536), (3, xa 604), (4, xi x4), (5, xi v52), (6, xi v53)]) (List.forall_mem_cons.mpr ⟨rfl, List.forall_mem_cons.mpr ⟨rfl, List.forall_mem_cons.mpr ⟨rfl, List.forall_mem_cons.mpr ⟨rfl, List.forall_mem_cons.mpr ⟨rfl, List.forall_mem_cons.mpr ⟨rfl, List.forall_mem_cons.mpr ⟨rfl, fun _ h => absurd h List.not_mem_nil⟩⟩⟩⟩⟩⟩⟩) ?_
                                            exact q
                                          refine xSB_call0 (q := 243) (n := 1) (kq := 1) (as := [xa 536]) (st1 := []) rfl rfl rfl rfl rfl rfl rfl rfl rfl rfl (fun _ => xw_rcv1 (t := 12) (xw_obd (by decide +kernel)) rfl) (List.forall_mem_cons.mpr ⟨rfl, fun _ h => absurd h List.not_mem_nil⟩) (ygf243 hB _) (fun v54 m54 cv54 => ?_)
                                          refine xSB_of (pc' := 1156) (L' := [(0, .retAddr 9), (1, xa 0), (2, xa 536), (3, xa 604), (4, xi x4), (5, xi v52), (6, xi v53)]) (st' := [xi v52, xi v54]) (m' := m54) (fun ex ns r q => ?_) ?_
                                          · refine xw_iload rfl rfl ?_
                                            exact q
                                          refine xSB_if (fun h23 => ?_) (fun h23 => ?_)
                                          · refine xSB_of (pc' := 1163) (L' := [(0, .retAddr 9), (1, xa 0), (2, xa 536), (3, xa 604), (4, xi x4), (5, xi v52), (6, xi v53)]) (st' := [xi v52]) (m' := m54) (fun ex ns r q => ?_) ?_
                                            · refine xw_ic_eqT rfl (w32_cg cv54) (w32_cg cv52) h23 ?_
                                              refine xw_iload rfl rfl ?_
                                              exact q
                                            refine xSB_if (fun h24 => ?_) (fun h24 => ?_)
                                            · refine xSB_of (pc' := 1172) (L' := [(0, .retAddr 9), (1, xa 0), (2, xa 536), (3, xa 604), (4, xi x4), (5, xi v52), (6, xi v53)]) (st' := [xj v53, xj (xJ m54 604 0)]) (m' := m54) (fun ex ns r q => ?_) ?_
                                              · refine xw_if_neF rfl (w32_cg cv52) h24 ?_
                                                refine xw_aload_n rfl rfl rfl ?_
                                                refine xw_iconst rfl ?_
                                                refine xw_laldc (n := 1) (v := (m54 604 0)) (v' := (xJ m54 604 0)) rfl hB (xw_obd (by decide +kernel)) rfl ⟨by decide, by decide⟩ rfl rfl ?_
                                                refine xw_iload rfl rfl ?_
                                                refine xw_i2l rfl (w32_cg cv53) ?_
                                                exact q
                                              refine xSB_if (fun h25 => ?_) (fun h25 => ?_)
                                              · refine xSB_of (pc' := 33) (L' := [(0, .retAddr 9), (1, xa 0), (2, xa 536), (3, xa 604), (4, xi (w32 (x4 + 6)))]) (st' := []) (m' := m54) (fun ex ns r q => ?_) ?_
                                                · refine xw_jc_eqT rfl rfl (w64_cg (w64_xJ _ _ _)) (w64_cg (w64_32 cv53)) h25 ?_
                                                  refine xw_goto rfl ?_
                                                  refine xw_iincc (z := (w32 (x4 + 6))) (L' := [(4, xi (w32 (x4 + 6))), (0, .retAddr 9), (1, xa 0), (2, xa 536), (3, xa 604), (5, xi v52), (6, xi v53)]) rfl rfl (by decide) rfl rfl ?_
                                                  refine xw_goto rfl ?_
                                                  refine xw_lo (L2 := [(0, .retAddr 9), (1, xa 0), (2, xa 536), (3, xa 604), (4, xi (w32 (x4 + 6)))]) (List.forall_mem_cons.mpr ⟨rfl, List.forall_mem_cons.mpr ⟨rfl, List.forall_mem_cons.mpr ⟨rfl, List.forall_mem_cons.mpr ⟨rfl, List.forall_mem_cons.mpr ⟨rfl, fun _ h => absurd h List.not_mem_nil⟩⟩⟩⟩⟩) ?_
                                                  exact q
                                                exact xSB_mono (by omega) (hr33 _ _ (w32_w _))
                                              · refine xSB_of (pc' := 1177) (L' := [(0, .retAddr 9), (1, xa 0), (2, xa 536), (3, xa 604), (4, xi x4), (5, xi v52), (6, xi v53)]) (st' := [xi 0]) (m' := m54) (fun ex ns r q => ?_) ?_
                                                · refine xw_jc_eqF rfl rfl (w64_cg (w64_xJ _ _ _)) (w64_cg (w64_32 cv53)) h25 ?_
                                                  refine xw_iconst rfl ?_
                                                  exact q
                                                exact xSB_ret (v := 0) rfl rfl (xw_rtZ (Or.inl rfl)) (Or.inl rfl)
                                            · refine xSB_of (pc' := 33) (L' := [(0, .retAddr 9), (1, xa 0), (2, xa 536), (3, xa 604), (4, xi (w32 (x4 + 6)))]) (st' := []) (m' := m54) (fun ex ns r q => ?_) ?_
                                              · refine xw_if_neT rfl (w32_cg cv52) h24 ?_
                                                refine xw_goto rfl ?_
                                                refine xw_iincc (z := (w32 (x4 + 6))) (L' := [(4, xi (w32 (x4 + 6))), (0, .retAddr 9), (1, xa 0), (2, xa 536), (3, xa 604), (5, xi v52), (6, xi v53)]) rfl rfl (by decide) rfl rfl ?_
                                                refine xw_goto rfl ?_
                                                refine xw_lo (L2 := [(0, .retAddr 9), (1, xa 0), (2, xa 536), (3, xa 604), (4, xi (w32 (x4 + 6)))]) (List.forall_mem_cons.mpr ⟨rfl, List.forall_mem_cons.mpr ⟨rfl, List.forall_mem_cons.mpr ⟨rfl, List.forall_mem_cons.mpr ⟨rfl, List.forall_mem_cons.mpr ⟨rfl, fun _ h => absurd h List.not_mem_nil⟩⟩⟩⟩⟩) ?_
                                                exact q
                                              exact xSB_mono (by omega) (hr33 _ _ (w32_w _))
                                          · refine xSB_of (pc' := 1160) (L' := [(0, .retAddr 9), (1, xa 0), (2, xa 536), (3, xa 604), (4, xi x4), (5, xi v52), (6, xi v53)]) (st' := [xi 0]) (m' := m54) (fun ex ns r q => ?_) ?_
                                            · refine xw_ic_eqF rfl (w32_cg cv54) (w32_cg cv52) h23 ?_
                                              refine xw_iconst rfl ?_
                                              exact q
                                            exact xSB_ret (v := 0) rfl rfl (xw_rtZ (Or.inl rfl)) (Or.inl rfl)
                                        · refine xSB_if (fun h21 => ?_) (fun h21 => ?_)
                                          · refine xSB_of (pc' := 1183) (L' := [(0, .retAddr 9), (1, xa 0), (2, xa 536), (3, xa 604), (4, xi x4)]) (st' := [xa 604, xa 0]) (m' := m) (fun ex ns r q => ?_) ?_
                                            · refine xw_sw (t := 1181) rfl (by rw [h21]; rfl) ?_
                                              refine xw_aload_n rfl rfl rfl ?_
                                              refine xw_aload_n rfl rfl rfl ?_
                                              refine xw_lo (L2 := [(0, .retAddr 9), (1, xa 0), (2, xa 536), (3, xa 604), (4, xi x4)]) (List.forall_mem_cons.mpr ⟨rfl, List.forall_mem_cons.mpr ⟨rfl, List.forall_mem_cons.mpr ⟨rfl, List.forall_mem_cons.mpr ⟨rfl, List.forall_mem_cons.mpr ⟨rfl, fun _ h => absurd h List.not_mem_nil⟩⟩⟩⟩⟩) ?_
                                              exact q
                                            refine xSB_callY (G := fun _ _ => none) (q := 224) (n := 2) (kq := 1) (as := [xa 0, xa 604]) (st1 := []) rfl rfl rfl rfl rfl rfl rfl rfl rfl rfl (fun _ => xw_rcv0 rfl) (List.forall_mem_cons.mpr ⟨rfl, List.forall_mem_cons.mpr ⟨rfl, fun _ h => absurd h List.not_mem_nil⟩⟩) (ygf224 hB _ _) (fun v55 m55 cv55 => ?_) (fun _ _ h => absurd rfl h)
                                            refine xSB_of (pc' := 1189) (L' := [(0, .retAddr 9), (1, xa 0), (2, xa 536), (3, xa 604), (4, xi x4), (5, xi v55)]) (st' := [xa 536]) (m' := m55) (fun ex ns r q => ?_) ?_
                                            · refine xw_istore (L' := [(5, xi v55), (0, .retAddr 9), (1, xa 0), (2, xa 536), (3, xa 604), (4, xi x4)]) rfl (by decide) rfl ?_
                                              refine xw_aload_n rfl rfl rfl ?_
                                              refine xw_lo (L2 := [(0, .retAddr 9), (1, xa 0), (2, xa 536), (3, xa 604), (4, xi x4), (5, xi v55)]) (List.forall_mem_cons.mpr ⟨rfl, List.forall_mem_cons.mpr ⟨rfl, List.forall_mem_cons.mpr ⟨rfl, List.forall_mem_cons.mpr ⟨rfl, List.forall_mem_cons.mpr ⟨rfl, List.forall_mem_cons.mpr ⟨rfl, fun _ h => absurd h List.not_mem_nil⟩⟩⟩⟩⟩⟩) ?_
                                              exact q
                                            refine xSB_call0 (q := 341) (n := 1) (kq := 1) (as := [xa 536]) (st1 := []) rfl rfl rfl rfl rfl rfl rfl rfl rfl rfl (fun _ => xw_rcv1 (t := 12) (xw_obd (by decide +kernel)) rfl) (List.forall_mem_cons.mpr ⟨rfl, fun _ h => absurd h List.not_mem_nil⟩) (ygf341 hB _) (fun v56 m56 cv56 => ?_)
                                            refine xSB_of (pc' := 1195) (L' := [(0, .retAddr 9), (1, xa 0), (2, xa 536), (3, xa 604), (4, xi x4), (5, xi v55), (6, xi v56)]) (st' := [xa 536]) (m' := m56) (fun ex ns r q => ?_) ?_
                                            · refine xw_istore (L' := [(6, xi v56), (0, .retAddr 9), (1, xa 0), (2, xa 536), (3, xa 604), (4, xi x4), (5, xi v55)]) rfl (by decide) rfl ?_
                                              refine xw_aload_n rfl rfl rfl ?_
                                              refine xw_lo (L2 := [(0, .retAddr 9), (1, xa 0), (2, xa 536), (3, xa 604), (4, xi x4), (5, xi v55), (6, xi v56)]) (List.forall_mem_cons.mpr ⟨rfl, List.forall_mem_cons.mpr ⟨rfl, List.forall_mem_cons.mpr ⟨rfl, List.forall_mem_cons.mpr ⟨rfl, List.forall_mem_cons.mpr ⟨rfl, List.forall_mem_cons.mpr ⟨rfl, List.forall_mem_cons.mpr ⟨rfl, fun _ h => absurd h List.not_mem_nil⟩⟩⟩⟩⟩⟩⟩) ?_
                                              exact q
                                            refine xSB_call0 (q := 243) (n := 1) (kq := 1) (as := [xa 536]) (st1 := []) rfl rfl rfl rfl rfl rfl rfl rfl rfl rfl (fun _ => xw_rcv1 (t := 12) (xw_obd (by decide +kernel)) rfl) (List.forall_mem_cons.mpr ⟨rfl, fun _ h => absurd h List.not_mem_nil⟩) (ygf243 hB _) (fun v57 m57 cv57 => ?_)
                                            refine xSB_of (pc' := 1200) (L' := [(0, .retAddr 9), (1, xa 0), (2, xa 536), (3, xa 604), (4, xi x4), (5, xi v55), (6, xi v56)]) (st' := [xi v55, xi v57]) (m' := m57) (fun ex ns r q => ?_) ?_
                                            · refine xw_iload rfl rfl ?_
                                              exact q
                                            refine xSB_if (fun h22 => ?_) (fun h22 => ?_)
                                            · refine xSB_of (pc' := 1207) (L' := [(0, .retAddr 9), (1, xa 0), (2, xa 536), (3, xa 604), (4, xi x4), (5, xi v55), (6, xi v56)]) (st' := [xi v55]) (m' := m57) (fun ex ns r q => ?_) ?_
                                              · refine xw_ic_eqT rfl (w32_cg cv57) (w32_cg cv55) h22 ?_
                                                refine xw_iload rfl rfl ?_
                                                exact q
                                              refine xSB_if (fun h23 => ?_) (fun h23 => ?_)
                                              · refine xSB_of (pc' := 1216) (L' := [(0, .retAddr 9), (1, xa 0), (2, xa 536), (3, xa 604), (4, xi x4), (5, xi v55), (6, xi v56)]) (st' := [xj v56, xj (xJ m57 604 0)]) (m' := m57) (fun ex ns r q => ?_) ?_
                                                · refine xw_if_neF rfl (w32_cg cv55) h23 ?_
                                                  refine xw_aload_n rfl rfl rfl ?_
                                                  refine xw_iconst rfl ?_
                                                  refine xw_laldc (n := 1) (v := (m57 604 0)) (v' := (xJ m57 604 0)) rfl hB (xw_obd (by decide +kernel)) rfl ⟨by decide, by decide⟩ rfl rfl ?_
                                                  refine xw_iload rfl rfl ?_
                                                  refine xw_i2l rfl (w32_cg cv56) ?_
                                                  exact q
                                                refine xSB_if (fun h24 => ?_) (fun h24 => ?_)
                                                · refine xSB_of (pc' := 33) (L' := [(0, .retAddr 9), (1, xa 0), (2, xa 536), (3, xa 604), (4, xi (w32 (x4 + 6)))]) (st' := []) (m' := m57) (fun ex ns r q => ?_) ?_
                                                  · refine xw_jc_eqT rfl rfl (w64_cg (w64_xJ _ _ _)) (w64_cg (w64_32 cv56)) h24 ?_
                                                    refine xw_goto rfl ?_
                                                    refine xw_iincc (z := (w32 (x4 + 6))) (L' := [(4, xi (w32 (x4 + 6))), (0, .retAddr 9), (1, xa 0), (2, xa 536), (3, xa 604), (5, xi v55), (6, xi v56)]) rfl rfl (by decide) rfl rfl ?_
                                                    refine xw_goto rfl ?_
                                                    refine xw_lo (L2 := [(0, .retAddr 9), (1, xa 0), (2, xa 536), (3, xa 604), (4, xi (w32 (x4 + 6)))]) (List.forall_mem_cons.mpr ⟨rfl, List.forall_mem_cons.mpr ⟨rfl, List.forall_mem_cons.mpr ⟨rfl, List.forall_mem_cons.mpr ⟨rfl, List.forall_mem_cons.mpr ⟨rfl, fun _ h => absurd h List.not_mem_nil⟩⟩⟩⟩⟩) ?_
                                                    exact q
                                                  exact xSB_mono (by omega) (hr33 _ _ (w32_w _))
                                                · refine xSB_of (pc' := 1221) (L' := [(0, .retAddr 9), (1, xa 0), (2, xa 536), (3, xa 604), (4, xi x4), (5, xi v55), (6, xi v56)]) (st' := [xi 0]) (m' := m57) (fun ex ns r q => ?_) ?_
                                                  · refine xw_jc_eqF rfl rfl (w64_cg (w64_xJ _ _ _)) (w64_cg (w64_32 cv56)) h24 ?_
                                                    refine xw_iconst rfl ?_
                                                    exact q
                                                  exact xSB_ret (v := 0) rfl rfl (xw_rtZ (Or.inl rfl)) (Or.inl rfl)
                                              · refine xSB_of (pc' := 33) (L' := [(0, .retAddr 9), (1, xa 0), (2, xa 536), (3, xa 604), (4, xi (w32 (x4 + 6)))]) (st' := []) (m' := m57) (fun ex ns r q => ?_) ?_
                                                · refine xw_if_neT rfl (w32_cg cv55) h23 ?_
                                                  refine xw_goto rfl ?_
                                                  refine xw_iincc (z := (w32 (x4 + 6))) (L' := [(4, xi (w32 (x4 + 6))), (0, .retAddr 9), (1, xa 0), (2, xa 536), (3, xa 604), (5, xi v55), (6, xi v56)]) rfl rfl (by decide) rfl rfl ?_
                                                  refine xw_goto rfl ?_
                                                  refine xw_lo (L2 := [(0, .retAddr 9), (1, xa 0), (2, xa 536), (3, xa 604), (4, xi (w32 (x4 + 6)))]) (List.forall_mem_cons.mpr ⟨rfl, List.forall_mem_cons.mpr ⟨rfl, List.forall_mem_cons.mpr ⟨rfl, List.forall_mem_cons.mpr ⟨rfl, List.forall_mem_cons.mpr ⟨rfl, fun _ h => absurd h List.not_mem_nil⟩⟩⟩⟩⟩) ?_
                                                  exact q
                                                exact xSB_mono (by omega) (hr33 _ _ (w32_w _))
                                            · refine xSB_of (pc' := 1204) (L' := [(0, .retAddr 9), (1, xa 0), (2, xa 536), (3, xa 604), (4, xi x4), (5, xi v55), (6, xi v56)]) (st' := [xi 0]) (m' := m57) (fun ex ns r q => ?_) ?_
                                              · refine xw_ic_eqF rfl (w32_cg cv57) (w32_cg cv55) h22 ?_
                                                refine xw_iconst rfl ?_
                                                exact q
                                              exact xSB_ret (v := 0) rfl rfl (xw_rtZ (Or.inl rfl)) (Or.inl rfl)
                                          · refine xSB_if (fun h22 => ?_) (fun h22 => ?_)
                                            · refine xSB_g (fun g23 => ?_)
                                              refine xSB_g (fun g24 => ?_)
                                              refine xSB_of (pc' := 1239) (L' := [(0, .retAddr 9), (1, xa 0), (2, xa 536), (3, xa 604), (4, xi x4)]) (st' := [xa 604, xi (xZs xs (x4 + 2)), xi (xZs xs (x4 + 1)), xa 0]) (m' := m) (fun ex ns r q => ?_) ?_
                                              · refine xw_sw (t := 1225) rfl (by rw [h22]; rfl) ?_
                                                refine xw_aload_n rfl rfl rfl ?_
                                                refine xw_aload_n rfl rfl rfl ?_
                                                refine xw_iload rfl rfl ?_
                                                refine xw_iconst rfl ?_
                                                refine xw_iadd rfl ?_
                                                refine xw_aldS rfl hSL g23 ?_
                                                refine xw_aload_n rfl rfl rfl ?_
                                                refine xw_iload rfl rfl ?_
                                                refine xw_iconst rfl ?_
                                                refine xw_iadd rfl ?_
                                                refine xw_aldS rfl hSL g24 ?_
                                                refine xw_aload_n rfl rfl rfl ?_
                                                refine xw_lo (L2 := [(0, .retAddr 9), (1, xa 0), (2, xa 536), (3, xa 604), (4, xi x4)]) (List.forall_mem_cons.mpr ⟨rfl, List.forall_mem_cons.mpr ⟨rfl, List.forall_mem_cons.mpr ⟨rfl, List.forall_mem_cons.mpr ⟨rfl, List.forall_mem_cons.mpr ⟨rfl, fun _ h => absurd h List.not_mem_nil⟩⟩⟩⟩⟩) ?_
                                                exact q
                                              refine xSB_callY (G := fun _ _ => none) (q := 226) (n := 4) (kq := 1) (as := [xa 0, xi (xZs xs (x4 + 1)), xi (xZs xs (x4 + 2)), xa 604]) (st1 := []) rfl rfl rfl rfl rfl rfl rfl rfl rfl rfl (fun _ => xw_rcv0 rfl) (List.forall_mem_cons.mpr ⟨rfl, List.forall_mem_cons.mpr ⟨rfl, List.forall_mem_cons.mpr ⟨rfl, List.forall_mem_cons.mpr ⟨rfl, fun _ h => absurd h List.not_mem_nil⟩⟩⟩⟩) (ygf226 hB _ _ _ _ (w32_ti _) (w32_ti _)) (fun v58 m58 cv58 => ?_) (fun _ _ h => absurd rfl h)
                                              refine xSB_of (pc' := 1257) (L' := [(0, .retAddr 9), (1, xa 0), (2, xa 536), (3, xa 604), (4, xi x4), (5, xi v58)]) (st' := [xi (xZs xs (x4 + 2)), xi (xZs xs (x4 + 1)), xa 536]) (m' := m58) (fun ex ns r q => ?_) ?_
                                              · refine xw_istore (L' := [(5, xi v58), (0, .retAddr 9), (1, xa 0), (2, xa 536), (3, xa 604), (4, xi x4)]) rfl (by decide) rfl ?_
                                                refine xw_aload_n rfl rfl rfl ?_
                                                refine xw_aload_n rfl rfl rfl ?_
                                                refine xw_iload rfl rfl ?_
                                                refine xw_iconst rfl ?_
                                                refine xw_iadd rfl ?_
                                                refine xw_aldS rfl hSL g23 ?_
                                                refine xw_aload_n rfl rfl rfl ?_
                                                refine xw_iload rfl rfl ?_
                                                refine xw_iconst rfl ?_
                                                refine xw_iadd rfl ?_
                                                refine xw_aldS rfl hSL g24 ?_
                                                refine xw_lo (L2 := [(0, .retAddr 9), (1, xa 0), (2, xa 536), (3, xa 604), (4, xi x4), (5, xi v58)]) (List.forall_mem_cons.mpr ⟨rfl, List.forall_mem_cons.mpr ⟨rfl, List.forall_mem_cons.mpr ⟨rfl, List.forall_mem_cons.mpr ⟨rfl, List.forall_mem_cons.mpr ⟨rfl, List.forall_mem_cons.mpr ⟨rfl, fun _ h => absurd h List.not_mem_nil⟩⟩⟩⟩⟩⟩) ?_
                                                exact q
                                              refine xSB_call0 (q := 342) (n := 3) (kq := 2) (as := [xa 536, xi (xZs xs (x4 + 1)), xi (xZs xs (x4 + 2))]) (st1 := []) rfl rfl rfl rfl rfl rfl rfl rfl rfl rfl (fun _ => xw_rcv1 (t := 12) (xw_obd (by decide +kernel)) rfl) (List.forall_mem_cons.mpr ⟨rfl, List.forall_mem_cons.mpr ⟨rfl, List.forall_mem_cons.mpr ⟨rfl, fun _ h => absurd h List.not_mem_nil⟩⟩⟩) (ygf342 hB _ _ _ (w32_ti _) (w32_ti _)) (fun v59 m59 cv59 => ?_)
                                              refine xSB_of (pc' := 1263) (L' := [(0, .retAddr 9), (1, xa 0), (2, xa 536), (3, xa 604), (4, xi x4), (5, xi v58), (6, xj v59)]) (st' := [xa 536]) (m' := m59) (fun ex ns r q => ?_) ?_
                                              · refine xw_lstore (L' := [(6, xj v59), (0, .retAddr 9), (1, xa 0), (2, xa 536), (3, xa 604), (4, xi x4), (5, xi v58)]) rfl (by decide) rfl ?_
                                                refine xw_aload_n rfl rfl rfl ?_
                                                refine xw_lo (L2 := [(0, .retAddr 9), (1, xa 0), (2, xa 536), (3, xa 604), (4, xi x4), (5, xi v58), (6, xj v59)]) (List.forall_mem_cons.mpr ⟨rfl, List.forall_mem_cons.mpr ⟨rfl, List.forall_mem_cons.mpr ⟨rfl, List.forall_mem_cons.mpr ⟨rfl, List.forall_mem_cons.mpr ⟨rfl, List.forall_mem_cons.mpr ⟨rfl, List.forall_mem_cons.mpr ⟨rfl, fun _ h => absurd h List.not_mem_nil⟩⟩⟩⟩⟩⟩⟩) ?_
                                                exact q
                                              refine xSB_call0 (q := 243) (n := 1) (kq := 1) (as := [xa 536]) (st1 := []) rfl rfl rfl rfl rfl rfl rfl rfl rfl rfl (fun _ => xw_rcv1 (t := 12) (xw_obd (by decide +kernel)) rfl) (List.forall_mem_cons.mpr ⟨rfl, fun _ h => absurd h List.not_mem_nil⟩) (ygf243 hB _) (fun v60 m60 cv60 => ?_)
                                              refine xSB_of (pc' := 1268) (L' := [(0, .retAddr 9), (1, xa 0), (2, xa 536), (3, xa 604), (4, xi x4), (5, xi v58), (6, xj v59)]) (st' := [xi v58, xi v60]) (m' := m60) (fun ex ns r q => ?_) ?_
                                              · refine xw_iload rfl rfl ?_
                                                exact q
                                              refine xSB_if (fun h25 => ?_) (fun h25 => ?_)
                                              · refine xSB_of (pc' := 1275) (L' := [(0, .retAddr 9), (1, xa 0), (2, xa 536), (3, xa 604), (4, xi x4), (5, xi v58), (6, xj v59)]) (st' := [xi v58]) (m' := m60) (fun ex ns r q => ?_) ?_
                                                · refine xw_ic_eqT rfl (w32_cg cv60) (w32_cg cv58) h25 ?_
                                                  refine xw_iload rfl rfl ?_
                                                  exact q
                                                refine xSB_if (fun h26 => ?_) (fun h26 => ?_)
                                                · refine xSB_of (pc' := 1283) (L' := [(0, .retAddr 9), (1, xa 0), (2, xa 536), (3, xa 604), (4, xi x4), (5, xi v58), (6, xj v59)]) (st' := [xj v59, xj (xJ m60 604 0)]) (m' := m60) (fun ex ns r q => ?_) ?_
                                                  · refine xw_if_neF rfl (w32_cg cv58) h26 ?_
                                                    refine xw_aload_n rfl rfl rfl ?_
                                                    refine xw_iconst rfl ?_
                                                    refine xw_laldc (n := 1) (v := (m60 604 0)) (v' := (xJ m60 604 0)) rfl hB (xw_obd (by decide +kernel)) rfl ⟨by decide, by decide⟩ rfl rfl ?_
                                                    refine xw_lload rfl rfl ?_
                                                    exact q
                                                  refine xSB_if (fun h27 => ?_) (fun h27 => ?_)
                                                  · refine xSB_of (pc' := 33) (L' := [(0, .retAddr 9), (1, xa 0), (2, xa 536), (3, xa 604), (4, xi (w32 (x4 + 6)))]) (st' := []) (m' := m60) (fun ex ns r q => ?_) ?_
                                                    · refine xw_jc_eqT rfl rfl (w64_cg (w64_xJ _ _ _)) (w64_cg cv59) h27 ?_
                                                      refine xw_goto rfl ?_
                                                      refine xw_iincc (z := (w32 (x4 + 6))) (L' := [(4, xi (w32 (x4 + 6))), (0, .retAddr 9), (1, xa 0), (2, xa 536), (3, xa 604), (5, xi v58), (6, xj v59)]) rfl rfl (by decide) rfl rfl ?_
                                                      refine xw_goto rfl ?_
                                                      refine xw_lo (L2 := [(0, .retAddr 9), (1, xa 0), (2, xa 536), (3, xa 604), (4, xi (w32 (x4 + 6)))]) (List.forall_mem_cons.mpr ⟨rfl, List.forall_mem_cons.mpr ⟨rfl, List.forall_mem_cons.mpr ⟨rfl, List.forall_mem_cons.mpr ⟨rfl, List.forall_mem_cons.mpr ⟨rfl, fun _ h => absurd h List.not_mem_nil⟩⟩⟩⟩⟩) ?_
                                                      exact q
                                                    exact xSB_mono (by omega) (hr33 _ _ (w32_w _))
                                                  · refine xSB_of (pc' := 1288) (L' := [(0, .retAddr 9), (1, xa 0), (2, xa 536), (3, xa 604), (4, xi x4), (5, xi v58), (6, xj v59)]) (st' := [xi 0]) (m' := m60) (fun ex ns r q => ?_) ?_
                                                    · refine xw_jc_eqF rfl rfl (w64_cg (w64_xJ _ _ _)) (w64_cg cv59) h27 ?_
                                                      refine xw_iconst rfl ?_
                                                      exact q
                                                    exact xSB_ret (v := 0) rfl rfl (xw_rtZ (Or.inl rfl)) (Or.inl rfl)
                                                · refine xSB_of (pc' := 33) (L' := [(0, .retAddr 9), (1, xa 0), (2, xa 536), (3, xa 604), (4, xi (w32 (x4 + 6)))]) (st' := []) (m' := m60) (fun ex ns r q => ?_) ?_
                                                  · refine xw_if_neT rfl (w32_cg cv58) h26 ?_
                                                    refine xw_goto rfl ?_
                                                    refine xw_iincc (z := (w32 (x4 + 6))) (L' := [(4, xi (w32 (x4 + 6))), (0, .retAddr 9), (1, xa 0), (2, xa 536), (3, xa 604), (5, xi v58), (6, xj v59)]) rfl rfl (by decide) rfl rfl ?_
                                                    refine xw_goto rfl ?_
                                                    refine xw_lo (L2 := [(0, .retAddr 9), (1, xa 0), (2, xa 536), (3, xa 604), (4, xi (w32 (x4 + 6)))]) (List.forall_mem_cons.mpr ⟨rfl, List.forall_mem_cons.mpr ⟨rfl, List.forall_mem_cons.mpr ⟨rfl, List.forall_mem_cons.mpr ⟨rfl, List.forall_mem_cons.mpr ⟨rfl, fun _ h => absurd h List.not_mem_nil⟩⟩⟩⟩⟩) ?_
                                                    exact q
                                                  exact xSB_mono (by omega) (hr33 _ _ (w32_w _))
                                              · refine xSB_of (pc' := 1272) (L' := [(0, .retAddr 9), (1, xa 0), (2, xa 536), (3, xa 604), (4, xi x4), (5, xi v58), (6, xj v59)]) (st' := [xi 0]) (m' := m60) (fun ex ns r q => ?_) ?_
                                                · refine xw_ic_eqF rfl (w32_cg cv60) (w32_cg cv58) h25 ?_
                                                  refine xw_iconst rfl ?_
                                                  exact q
                                                exact xSB_ret (v := 0) rfl rfl (xw_rtZ (Or.inl rfl)) (Or.inl rfl)
                                            · refine xSB_if (fun h23 => ?_) (fun h23 => ?_)
                                              · refine xSB_g (fun g24 => ?_)
                                                refine xSB_g (fun g25 => ?_)
                                                refine xSB_of (pc' := 1306) (L' := [(0, .retAddr 9), (1, xa 0), (2, xa 536), (3, xa 604), (4, xi x4)]) (st' := [xa 604, xi (xZs xs (x4 + 2)), xi (xZs xs (x4 + 1)), xa 0]) (m' := m) (fun ex ns r q => ?_) ?_
                                                · refine xw_sw (t := 1292) rfl (by rw [h23]; rfl) ?_
                                                  refine xw_aload_n rfl rfl rfl ?_
                                                  refine xw_aload_n rfl rfl rfl ?_
                                                  refine xw_iload rfl rfl ?_
                                                  refine xw_iconst rfl ?_
                                                  refine xw_iadd rfl ?_
                                                  refine xw_aldS rfl hSL g24 ?_
                                                  refine xw_aload_n rfl rfl rfl ?_
                                                  refine xw_iload rfl rfl ?_
                                                  refine xw_iconst rfl ?_
                                                  refine xw_iadd rfl ?_
                                                  refine xw_aldS rfl hSL g25 ?_
                                                  refine xw_aload_n rfl rfl rfl ?_
                                                  refine xw_lo (L2 := [(0, .retAddr 9), (1, xa 0), (2, xa 536), (3, xa 604), (4, xi x4)]) (List.forall_mem_cons.mpr ⟨rfl, List.forall_mem_cons.mpr ⟨rfl, List.forall_mem_cons.mpr ⟨rfl, List.forall_mem_cons.mpr ⟨rfl, List.forall_mem_cons.mpr ⟨rfl, fun _ h => absurd h List.not_mem_nil⟩⟩⟩⟩⟩) ?_
                                                  exact q
                                                refine xSB_callY (G := fun _ _ => none) (q := 230) (n := 4) (kq := 1) (as := [xa 0, xi (xZs xs (x4 + 1)), xi (xZs xs (x4 + 2)), xa 604]) (st1 := []) rfl rfl rfl rfl rfl rfl rfl rfl rfl rfl (fun _ => xw_rcv0 rfl) (List.forall_mem_cons.mpr ⟨rfl, List.forall_mem_cons.mpr ⟨rfl, List.forall_mem_cons.mpr ⟨rfl, List.forall_mem_cons.mpr ⟨rfl, fun _ h => absurd h List.not_mem_nil⟩⟩⟩⟩) (ygf230 hB _ _ _ _ (w32_ti _) (w32_ti _)) (fun v61 m61 cv61 => ?_) (fun _ _ h => absurd rfl h)
                                                refine xSB_of (pc' := 1324) (L' := [(0, .retAddr 9), (1, xa 0), (2, xa 536), (3, xa 604), (4, xi x4), (5, xi v61)]) (st' := [xi (xZs xs (x4 + 2)), xi (xZs xs (x4 + 1)), xa 536]) (m' := m61) (fun ex ns r q => ?_) ?_
                                                · refine xw_istore (L' := [(5, xi v61), (0, .retAddr 9), (1, xa 0), (2, xa 536), (3, xa 604), (4, xi x4)]) rfl (by decide) rfl ?_
                                                  refine xw_aload_n rfl rfl rfl ?_
                                                  refine xw_aload_n rfl rfl rfl ?_
                                                  refine xw_iload rfl rfl ?_
                                                  refine xw_iconst rfl ?_
                                                  refine xw_iadd rfl ?_
                                                  refine xw_aldS rfl hSL g24 ?_
                                                  refine xw_aload_n rfl rfl rfl ?_
                                                  refine xw_iload rfl rfl ?_
                                                  refine xw_iconst rfl ?_
                                                  refine xw_iadd rfl ?_
                                                  refine xw_aldS rfl hSL g25 ?_
                                                  refine xw_lo (L2 := [(0, .retAddr 9), (1, xa 0), (2, xa 536), (3, xa 604), (4, xi x4), (5, xi v61)]) (List.forall_mem_cons.mpr ⟨rfl, List.forall_mem_cons.mpr ⟨rfl, List.forall_mem_cons.mpr ⟨rfl, List.forall_mem_cons.mpr ⟨rfl, List.forall_mem_cons.mpr ⟨rfl, List.forall_mem_cons.mpr ⟨rfl, fun _ h => absurd h List.not_mem_nil⟩⟩⟩⟩⟩⟩) ?_
                                                  exact q
                                                refine xSB_call0 (q := 346) (n := 3) (kq := 4) (as := [xa 536, xi (xZs xs (x4 + 1)), xi (xZs xs (x4 + 2))]) (st1 := []) rfl rfl rfl rfl rfl rfl rfl rfl rfl rfl (fun _ => xw_rcv1 (t := 12) (xw_obd (by decide +kernel)) rfl) (List.forall_mem_cons.mpr ⟨rfl, List.forall_mem_cons.mpr ⟨rfl, List.forall_mem_cons.mpr ⟨rfl, fun _ h => absurd h List.not_mem_nil⟩⟩⟩) (ygf346 hB _ _ _ (w32_ti _) (w32_ti _)) (fun v62 m62 cv62 => ?_)
                                                refine xSB_of (pc' := 1330) (L' := [(0, .retAddr 9), (1, xa 0), (2, xa 536), (3, xa 604), (4, xi x4), (5, xi v61), (6, xi v62)]) (st' := [xa 536]) (m' := m62) (fun ex ns r q => ?_) ?_
                                                · refine xw_istore (L' := [(6, xi v62), (0, .retAddr 9), (1, xa 0), (2, xa 536), (3, xa 604), (4, xi x4), (5, xi v61)]) rfl (by decide) rfl ?_
                                                  refine xw_aload_n rfl rfl rfl ?_
                                                  refine xw_lo (L2 := [(0, .retAddr 9), (1, xa 0), (2, xa 536), (3, xa 604), (4, xi x4), (5, xi v61), (6, xi v62)]) (List.forall_mem_cons.mpr ⟨rfl, List.forall_mem_cons.mpr ⟨rfl, List.forall_mem_cons.mpr ⟨rfl, List.forall_mem_cons.mpr ⟨rfl, List.forall_mem_cons.mpr ⟨rfl, List.forall_mem_cons.mpr ⟨rfl, List.forall_mem_cons.mpr ⟨rfl, fun _ h => absurd h List.not_mem_nil⟩⟩⟩⟩⟩⟩⟩) ?_
                                                  exact q
                                                refine xSB_call0 (q := 243) (n := 1) (kq := 1) (as := [xa 536]) (st1 := []) rfl rfl rfl rfl rfl rfl rfl rfl rfl rfl (fun _ => xw_rcv1 (t := 12) (xw_obd (by decide +kernel)) rfl) (List.forall_mem_cons.mpr ⟨rfl, fun _ h => absurd h List.not_mem_nil⟩) (ygf243 hB _) (fun v63 m63 cv63 => ?_)
                                                refine xSB_of (pc' := 1335) (L' := [(0, .retAddr 9), (1, xa 0), (2, xa 536), (3, xa 604), (4, xi x4), (5, xi v61), (6, xi v62)]) (st' := [xi v61, xi v63]) (m' := m63) (fun ex ns r q => ?_) ?_
                                                · refine xw_iload rfl rfl ?_
                                                  exact q
                                                refine xSB_if (fun h26 => ?_) (fun h26 => ?_)
                                                · refine xSB_of (pc' := 1342) (L' := [(0, .retAddr 9), (1, xa 0), (2, xa 536), (3, xa 604), (4, xi x4), (5, xi v61), (6, xi v62)]) (st' := [xi v61]) (m' := m63) (fun ex ns r q => ?_) ?_
                                                  · refine xw_ic_eqT rfl (w32_cg cv63) (w32_cg cv61) h26 ?_
                                                    refine xw_iload rfl rfl ?_
                                                    exact q
                                                  refine xSB_if (fun h27 => ?_) (fun h27 => ?_)
                                                  · refine xSB_of (pc' := 1350) (L' := [(0, .retAddr 9), (1, xa 0), (2, xa 536), (3, xa 604), (4, xi x4), (5, xi v61), (6, xi v62)]) (st' := [xi v62, xj (xJ m63 604 0)]) (m' := m63) (fun ex ns r q => ?_) ?_
                                                    · refine xw_if_neF rfl (w32_cg cv61) h27 ?_
                                                      refine xw_aload_n rfl rfl rfl ?_
                                                      refine xw_iconst rfl ?_
                                                      refine xw_laldc (n := 1) (v := (m63 604 0)) (v' := (xJ m63 604 0)) rfl hB (xw_obd (by decide +kernel)) rfl ⟨by decide, by decide⟩ rfl rfl ?_
                                                      refine xw_iload rfl rfl ?_
                                                      exact q
                                                    refine xSB_if (fun h28 => ?_) (fun h28 => ?_)
                                                    · refine xSB_of (pc' := 1358) (L' := [(0, .retAddr 9), (1, xa 0), (2, xa 536), (3, xa 604), (4, xi x4), (5, xi v61), (6, xi v62)]) (st' := [xj 0, xj (xJ m63 604 0)]) (m' := m63) (fun ex ns r q => ?_) ?_
                                                      · refine xw_if_eqT rfl (w32_cg (w32_of (xw_zr cv62))) h28 ?_
                                                        refine xw_lconst (e := 0) rfl rfl ?_
                                                        exact q
                                                      refine xSB_if (fun h29 => ?_) (fun h29 => ?_)
                                                      · refine xSB_of (pc' := 33) (L' := [(0, .retAddr 9), (1, xa 0), (2, xa 536), (3, xa 604), (4, xi (w32 (x4 + 6)))]) (st' := []) (m' := m63) (fun ex ns r q => ?_) ?_
                                                        · refine xw_jc_eqT rfl rfl (w64_cg (w64_xJ _ _ _)) (w64_cg rfl) h29 ?_
                                                          refine xw_goto rfl ?_
                                                          refine xw_iincc (z := (w32 (x4 + 6))) (L' := [(4, xi (w32 (x4 + 6))), (0, .retAddr 9), (1, xa 0), (2, xa 536), (3, xa 604), (5, xi v61), (6, xi v62)]) rfl rfl (by decide) rfl rfl ?_
                                                          refine xw_goto rfl ?_
                                                          refine xw_lo (L2 := [(0, .retAddr 9), (1, xa 0), (2, xa 536), (3, xa 604), (4, xi (w32 (x4 + 6)))]) (List.forall_mem_cons.mpr ⟨rfl, List.forall_mem_cons.mpr ⟨rfl, List.forall_mem_cons.mpr ⟨rfl, List.forall_mem_cons.mpr ⟨rfl, List.forall_mem_cons.mpr ⟨rfl, fun _ h => absurd h List.not_mem_nil⟩⟩⟩⟩⟩) ?_
                                                          exact q
                                                        exact xSB_mono (by omega) (hr33 _ _ (w32_w _))
                                                      · refine xSB_of (pc' := 1363) (L' := [(0, .retAddr 9), (1, xa 0), (2, xa 536), (3, xa 604), (4, xi x4), (5, xi v61), (6, xi v62)]) (st' := [xi 0]) (m' := m63) (fun ex ns r q => ?_) ?_
                                                        · refine xw_jc_eqF rfl rfl (w64_cg (w64_xJ _ _ _)) (w64_cg rfl) h29 ?_
                                                          refine xw_iconst rfl ?_
                                                          exact q
                                                        exact xSB_ret (v := 0) rfl rfl (xw_rtZ (Or.inl rfl)) (Or.inl rfl)
                                                    · refine xSB_of (pc' := 1358) (L' := [(0, .retAddr 9), (1, xa 0), (2, xa 536), (3, xa 604), (4, xi x4), (5, xi v61), (6, xi v62)]) (st' := [xj 1, xj (xJ m63 604 0)]) (m' := m63) (fun ex ns r q => ?_) ?_
                                                      · refine xw_if_eqF rfl (w32_cg (w32_of (xw_zr cv62))) h28 ?_
                                                        refine xw_lconst (e := 1) rfl rfl ?_
                                                        refine xw_goto rfl ?_
                                                        exact q
                                                      refine xSB_if (fun h29 => ?_) (fun h29 => ?_)
                                                      · refine xSB_of (pc' := 33) (L' := [(0, .retAddr 9), (1, xa 0), (2, xa 536), (3, xa 604), (4, xi (w32 (x4 + 6)))]) (st' := []) (m' := m63) (fun ex ns r q => ?_) ?_
                                                        · refine xw_jc_eqT rfl rfl (w64_cg (w64_xJ _ _ _)) (w64_cg rfl) h29 ?_
                                                          refine xw_goto rfl ?_
                                                          refine xw_iincc (z := (w32 (x4 + 6))) (L' := [(4, xi (w32 (x4 + 6))), (0, .retAddr 9), (1, xa 0), (2, xa 536), (3, xa 604), (5, xi v61), (6, xi v62)]) rfl rfl (by decide) rfl rfl ?_
                                                          refine xw_goto rfl ?_
                                                          refine xw_lo (L2 := [(0, .retAddr 9), (1, xa 0), (2, xa 536), (3, xa 604), (4, xi (w32 (x4 + 6)))]) (List.forall_mem_cons.mpr ⟨rfl, List.forall_mem_cons.mpr ⟨rfl, List.forall_mem_cons.mpr ⟨rfl, List.forall_mem_cons.mpr ⟨rfl, List.forall_mem_cons.mpr ⟨rfl, fun _ h => absurd h List.not_mem_nil⟩⟩⟩⟩⟩) ?_
                                                          exact q
                                                        exact xSB_mono (by omega) (hr33 _ _ (w32_w _))
                                                      · refine xSB_of (pc' := 1363) (L' := [(0, .retAddr 9), (1, xa 0), (2, xa 536), (3, xa 604), (4, xi x4), (5, xi v61), (6, xi v62)]) (st' := [xi 0]) (m' := m63) (fun ex ns r q => ?_) ?_
                                                        · refine xw_jc_eqF rfl rfl (w64_cg (w64_xJ _ _ _)) (w64_cg rfl) h29 ?_
                                                          refine xw_iconst rfl ?_
                                                          exact q
                                                        exact xSB_ret (v := 0) rfl rfl (xw_rtZ (Or.inl rfl)) (Or.inl rfl)
                                                  · refine xSB_of (pc' := 33) (L' := [(0, .retAddr 9), (1, xa 0), (2, xa 536), (3, xa 604), (4, xi (w32 (x4 + 6)))]) (st' := []) (m' := m63) (fun ex ns r q => ?_) ?_
                                                    · refine xw_if_neT rfl (w32_cg cv61) h27 ?_
                                                      refine xw_goto rfl ?_
                                                      refine xw_iincc (z := (w32 (x4 + 6))) (L' := [(4, xi (w32 (x4 + 6))), (0, .retAddr 9), (1, xa 0), (2, xa 536), (3, xa 604), (5, xi v61), (6, xi v62)]) rfl rfl (by decide) rfl rfl ?_
                                                      refine xw_goto rfl ?_
                                                      refine xw_lo (L2 := [(0, .retAddr 9), (1, xa 0), (2, xa 536), (3, xa 604), (4, xi (w32 (x4 + 6)))]) (List.forall_mem_cons.mpr ⟨rfl, List.forall_mem_cons.mpr ⟨rfl, List.forall_mem_cons.mpr ⟨rfl, List.forall_mem_cons.mpr ⟨rfl, List.forall_mem_cons.mpr ⟨rfl, fun _ h => absurd h List.not_mem_nil⟩⟩⟩⟩⟩) ?_
                                                      exact q
                                                    exact xSB_mono (by omega) (hr33 _ _ (w32_w _))
                                                · refine xSB_of (pc' := 1339) (L' := [(0, .retAddr 9), (1, xa 0), (2, xa 536), (3, xa 604), (4, xi x4), (5, xi v61), (6, xi v62)]) (st' := [xi 0]) (m' := m63) (fun ex ns r q => ?_) ?_
                                                  · refine xw_ic_eqF rfl (w32_cg cv63) (w32_cg cv61) h26 ?_
                                                    refine xw_iconst rfl ?_
                                                    exact q
                                                  exact xSB_ret (v := 0) rfl rfl (xw_rtZ (Or.inl rfl)) (Or.inl rfl)
                                              · refine xSB_if (fun h24 => ?_) (fun h24 => ?_)
                                                · refine xSB_of (pc' := 1369) (L' := [(0, .retAddr 9), (1, xa 0), (2, xa 536), (3, xa 604), (4, xi x4)]) (st' := [xa 604, xa 0]) (m' := m) (fun ex ns r q => ?_) ?_
                                                  · refine xw_sw (t := 1367) rfl (by rw [h24]; rfl) ?_
                                                    refine xw_aload_n rfl rfl rfl ?_
                                                    refine xw_aload_n rfl rfl rfl ?_
                                                    refine xw_lo (L2 := [(0, .retAddr 9), (1, xa 0), (2, xa 536), (3, xa 604), (4, xi x4)]) (List.forall_mem_cons.mpr ⟨rfl, List.forall_mem_cons.mpr ⟨rfl, List.forall_mem_cons.mpr ⟨rfl, List.forall_mem_cons.mpr ⟨rfl, List.forall_mem_cons.mpr ⟨rfl, fun _ h => absurd h List.not_mem_nil⟩⟩⟩⟩⟩) ?_
                                                    exact q
                                                  refine xSB_callY (G := fun _ _ => none) (q := 233) (n := 2) (kq := 1) (as := [xa 0, xa 604]) (st1 := []) rfl rfl rfl rfl rfl rfl rfl rfl rfl rfl (fun _ => xw_rcv0 rfl) (List.forall_mem_cons.mpr ⟨rfl, List.forall_mem_cons.mpr ⟨rfl, fun _ h => absurd h List.not_mem_nil⟩⟩) (ygf233 hB _ _) (fun v64 m64 cv64 => ?_) (fun _ _ h => absurd rfl h)
                                                  refine xSB_of (pc' := 1375) (L' := [(0, .retAddr 9), (1, xa 0), (2, xa 536), (3, xa 604), (4, xi x4), (5, xi v64)]) (st' := [xa 536]) (m' := m64) (fun ex ns r q => ?_) ?_
                                                  · refine xw_istore (L' := [(5, xi v64), (0, .retAddr 9), (1, xa 0), (2, xa 536), (3, xa 604), (4, xi x4)]) rfl (by decide) rfl ?_
                                                    refine xw_aload_n rfl rfl rfl ?_
                                                    refine xw_lo (L2 := [(0, .retAddr 9), (1, xa 0), (2, xa 536), (3, xa 604), (4, xi x4), (5, xi v64)]) (List.forall_mem_cons.mpr ⟨rfl, List.forall_mem_cons.mpr ⟨rfl, List.forall_mem_cons.mpr ⟨rfl, List.forall_mem_cons.mpr ⟨rfl, List.forall_mem_cons.mpr ⟨rfl, List.forall_mem_cons.mpr ⟨rfl, fun _ h => absurd h List.not_mem_nil⟩⟩⟩⟩⟩⟩) ?_
                                                    exact q
                                                  refine xSB_call0 (q := 347) (n := 1) (kq := 1) (as := [xa 536]) (st1 := []) rfl rfl rfl rfl rfl rfl rfl rfl rfl rfl (fun _ => xw_rcv1 (t := 12) (xw_obd (by decide +kernel)) rfl) (List.forall_mem_cons.mpr ⟨rfl, fun _ h => absurd h List.not_mem_nil⟩) (ygf347 hB _) (fun v65 m65 cv65 => ?_)
                                                  refine xSB_of (pc' := 1381) (L' := [(0, .retAddr 9), (1, xa 0), (2, xa 536), (3, xa 604), (4, xi x4), (5, xi v64), (6, xi v65)]) (st' := [xa 536]) (m' := m65) (fun ex ns r q => ?_) ?_
                                                  · refine xw_istore (L' := [(6, xi v65), (0, .retAddr 9), (1, xa 0), (2, xa 536), (3, xa 604), (4, xi x4), (5, xi v64)]) rfl (by decide) rfl ?_
                                                    refine xw_aload_n rfl rfl rfl ?_
                                                    refine xw_lo (L2 := [(0, .retAddr 9), (1, xa 0), (2, xa 536), (3, xa 604), (4, xi x4), (5, xi v64), (6, xi v65)]) (List.forall_mem_cons.mpr ⟨rfl, List.forall_mem_cons.mpr ⟨rfl, List.forall_mem_cons.mpr ⟨rfl, List.forall_mem_cons.mpr ⟨rfl, List.forall_mem_cons.mpr ⟨rfl, List.forall_mem_cons.mpr ⟨rfl, List.forall_mem_cons.mpr ⟨rfl, fun _ h => absurd h List.not_mem_nil⟩⟩⟩⟩⟩⟩⟩) ?_
                                                    exact q
                                                  refine xSB_call0 (q := 243) (n := 1) (kq := 1) (as := [xa 536]) (st1 := []) rfl rfl rfl rfl rfl rfl rfl rfl rfl rfl (fun _ => xw_rcv1 (t := 12) (xw_obd (by decide +kernel)) rfl) (List.forall_mem_cons.mpr ⟨rfl, fun _ h => absurd h List.not_mem_nil⟩) (ygf243 hB _) (fun v66 m66 cv66 => ?_)
                                                  refine xSB_of (pc' := 1386) (L' := [(0, .retAddr 9), (1, xa 0), (2, xa 536), (3, xa 604), (4, xi x4), (5, xi v64), (6, xi v65)]) (st' := [xi v64, xi v66]) (m' := m66) (fun ex ns r q => ?_) ?_
                                                  · refine xw_iload rfl rfl ?_
                                                    exact q
                                                  refine xSB_if (fun h25 => ?_) (fun h25 => ?_)
                                                  · refine xSB_of (pc' := 1393) (L' := [(0, .retAddr 9), (1, xa 0), (2, xa 536), (3, xa 604), (4, xi x4), (5, xi v64), (6, xi v65)]) (st' := [xi v64]) (m' := m66) (fun ex ns r q => ?_) ?_
                                                    · refine xw_ic_eqT rfl (w32_cg cv66) (w32_cg cv64) h25 ?_
                                                      refine xw_iload rfl rfl ?_
                                                      exact q
                                                    refine xSB_if (fun h26 => ?_) (fun h26 => ?_)
                                                    · refine xSB_of (pc' := 1402) (L' := [(0, .retAddr 9), (1, xa 0), (2, xa 536), (3, xa 604), (4, xi x4), (5, xi v64), (6, xi v65)]) (st' := [xj v65, xj (xJ m66 604 0)]) (m' := m66) (fun ex ns r q => ?_) ?_
                                                      · refine xw_if_neF rfl (w32_cg cv64) h26 ?_
                                                        refine xw_aload_n rfl rfl rfl ?_
                                                        refine xw_iconst rfl ?_
                                                        refine xw_laldc (n := 1) (v := (m66 604 0)) (v' := (xJ m66 604 0)) rfl hB (xw_obd (by decide +kernel)) rfl ⟨by decide, by decide⟩ rfl rfl ?_
                                                        refine xw_iload rfl rfl ?_
                                                        refine xw_i2l rfl (w32_cg cv65) ?_
                                                        exact q
                                                      refine xSB_if (fun h27 => ?_) (fun h27 => ?_)
                                                      · refine xSB_of (pc' := 33) (L' := [(0, .retAddr 9), (1, xa 0), (2, xa 536), (3, xa 604), (4, xi (w32 (x4 + 6)))]) (st' := []) (m' := m66) (fun ex ns r q => ?_) ?_
                                                        · refine xw_jc_eqT rfl rfl (w64_cg (w64_xJ _ _ _)) (w64_cg (w64_32 cv65)) h27 ?_
                                                          refine xw_goto rfl ?_
                                                          refine xw_iincc (z := (w32 (x4 + 6))) (L' := [(4, xi (w32 (x4 + 6))), (0, .retAddr 9), (1, xa 0), (2, xa 536), (3, xa 604), (5, xi v64), (6, xi v65)]) rfl rfl (by decide) rfl rfl ?_
                                                          refine xw_goto rfl ?_
                                                          refine xw_lo (L2 := [(0, .retAddr 9), (1, xa 0), (2, xa 536), (3, xa 604), (4, xi (w32 (x4 + 6)))]) (List.forall_mem_cons.mpr ⟨rfl, List.forall_mem_cons.mpr ⟨rfl, List.forall_mem_cons.mpr ⟨rfl, List.forall_mem_cons.mpr ⟨rfl, List.forall_mem_cons.mpr ⟨rfl, fun _ h => absurd h List.not_mem_nil⟩⟩⟩⟩⟩) ?_
                                                          exact q
                                                        exact xSB_mono (by omega) (hr33 _ _ (w32_w _))
                                                      · refine xSB_of (pc' := 1407) (L' := [(0, .retAddr 9), (1, xa 0), (2, xa 536), (3, xa 604), (4, xi x4), (5, xi v64), (6, xi v65)]) (st' := [xi 0]) (m' := m66) (fun ex ns r q => ?_) ?_
                                                        · refine xw_jc_eqF rfl rfl (w64_cg (w64_xJ _ _ _)) (w64_cg (w64_32 cv65)) h27 ?_
                                                          refine xw_iconst rfl ?_
                                                          exact q
                                                        exact xSB_ret (v := 0) rfl rfl (xw_rtZ (Or.inl rfl)) (Or.inl rfl)
                                                    · refine xSB_of (pc' := 33) (L' := [(0, .retAddr 9), (1, xa 0), (2, xa 536), (3, xa 604), (4, xi (w32 (x4 + 6)))]) (st' := []) (m' := m66) (fun ex ns r q => ?_) ?_
                                                      · refine xw_if_neT rfl (w32_cg cv64) h26 ?_
                                                        refine xw_goto rfl ?_
                                                        refine xw_iincc (z := (w32 (x4 + 6))) (L' := [(4, xi (w32 (x4 + 6))), (0, .retAddr 9), (1, xa 0), (2, xa 536), (3, xa 604), (5, xi v64), (6, xi v65)]) rfl rfl (by decide) rfl rfl ?_
                                                        refine xw_goto rfl ?_
                                                        refine xw_lo (L2 := [(0, .retAddr 9), (1, xa 0), (2, xa 536), (3, xa 604), (4, xi (w32 (x4 + 6)))]) (List.forall_mem_cons.mpr ⟨rfl, List.forall_mem_cons.mpr ⟨rfl, List.forall_mem_cons.mpr ⟨rfl, List.forall_mem_cons.mpr ⟨rfl, List.forall_mem_cons.mpr ⟨rfl, fun _ h => absurd h List.not_mem_nil⟩⟩⟩⟩⟩) ?_
                                                        exact q
                                                      exact xSB_mono (by omega) (hr33 _ _ (w32_w _))
                                                  · refine xSB_of (pc' := 1390) (L' := [(0, .retAddr 9), (1, xa 0), (2, xa 536), (3, xa 604), (4, xi x4), (5, xi v64), (6, xi v65)]) (st' := [xi 0]) (m' := m66) (fun ex ns r q => ?_) ?_
                                                    · refine xw_ic_eqF rfl (w32_cg cv66) (w32_cg cv64) h25 ?_
                                                      refine xw_iconst rfl ?_
                                                      exact q
                                                    exact xSB_ret (v := 0) rfl rfl (xw_rtZ (Or.inl rfl)) (Or.inl rfl)
                                                · refine xSB_if (fun h25 => ?_) (fun h25 => ?_)
                                                  · refine xSB_of (pc' := 1413) (L' := [(0, .retAddr 9), (1, xa 0), (2, xa 536), (3, xa 604), (4, xi x4)]) (st' := [xa 604, xa 0]) (m' := m) (fun ex ns r q => ?_) ?_
                                                    · refine xw_sw (t := 1411) rfl (by rw [h25]; rfl) ?_
                                                      refine xw_aload_n rfl rfl rfl ?_
                                                      refine xw_aload_n rfl rfl rfl ?_
                                                      refine xw_lo (L2 := [(0, .retAddr 9), (1, xa 0), (2, xa 536), (3, xa 604), (4, xi x4)]) (List.forall_mem_cons.mpr ⟨rfl, List.forall_mem_cons.mpr ⟨rfl, List.forall_mem_cons.mpr ⟨rfl, List.forall_mem_cons.mpr ⟨rfl, List.forall_mem_cons.mpr ⟨rfl, fun _ h => absurd h List.not_mem_nil⟩⟩⟩⟩⟩) ?_
                                                      exact q
                                                    refine xSB_callY (G := fun _ _ => none) (q := 235) (n := 2) (kq := 1) (as := [xa 0, xa 604]) (st1 := []) rfl rfl rfl rfl rfl rfl rfl rfl rfl rfl (fun _ => xw_rcv0 rfl) (List.forall_mem_cons.mpr ⟨rfl, List.forall_mem_cons.mpr ⟨rfl, fun _ h => absurd h List.not_mem_nil⟩⟩) (ygf235 hB _ _) (fun v67 m67 cv67 => ?_) (fun _ _ h => absurd rfl h)
                                                    refine xSB_of (pc' := 1419) (L' := [(0, .retAddr 9), (1, xa 0), (2, xa 536), (3, xa 604), (4, xi x4), (5, xi v67)]) (st' := [xa 536]) (m' := m67) (fun ex ns r q => ?_) ?_
                                                    · refine xw_istore (L' := [(5, xi v67), (0, .retAddr 9), (1, xa 0), (2, xa 536), (3, xa 604), (4, xi x4)]) rfl (by decide) rfl ?_
                                                      refine xw_aload_n rfl rfl rfl ?_
                                                      refine xw_lo (L2 := [(0, .retAddr 9), (1, xa 0), (2, xa 536), (3, xa 604), (4, xi x4), (5, xi v67)]) (List.forall_mem_cons.mpr ⟨rfl, List.forall_mem_cons.mpr ⟨rfl, List.forall_mem_cons.mpr ⟨rfl, List.forall_mem_cons.mpr ⟨rfl, List.forall_mem_cons.mpr ⟨rfl, List.forall_mem_cons.mpr ⟨rfl, fun _ h => absurd h List.not_mem_nil⟩⟩⟩⟩⟩⟩) ?_
                                                      exact q
                                                    refine xSB_call0 (q := 348) (n := 1) (kq := 1) (as := [xa 536]) (st1 := []) rfl rfl rfl rfl rfl rfl rfl rfl rfl rfl (fun _ => xw_rcv1 (t := 12) (xw_obd (by decide +kernel)) rfl) (List.forall_mem_cons.mpr ⟨rfl, fun _ h => absurd h List.not_mem_nil⟩) (ygf348 hB _) (fun v68 m68 cv68 => ?_)
                                                    refine xSB_of (pc' := 1425) (L' := [(0, .retAddr 9), (1, xa 0), (2, xa 536), (3, xa 604), (4, xi x4), (5, xi v67), (6, xi v68)]) (st' := [xa 536]) (m' := m68) (fun ex ns r q => ?_) ?_
                                                    · refine xw_istore (L' := [(6, xi v68), (0, .retAddr 9), (1, xa 0), (2, xa 536), (3, xa 604), (4, xi x4), (5, xi v67)]) rfl (by decide) rfl ?_
                                                      refine xw_aload_n rfl rfl rfl ?_
                                                      refine xw_lo (L2 := [(0, .retAddr 9), (1, xa 0), (2, xa 536), (3, xa 604), (4, xi x4), (5, xi v67), (6, xi v68)]) (List.forall_mem_cons.mpr ⟨rfl, List.forall_mem_cons.mpr ⟨rfl, List.forall_mem_cons.mpr ⟨rfl, List.forall_mem_cons.mpr ⟨rfl, List.forall_mem_cons.mpr ⟨rfl, List.forall_mem_cons.mpr ⟨rfl, List.forall_mem_cons.mpr ⟨rfl, fun _ h => absurd h List.not_mem_nil⟩⟩⟩⟩⟩⟩⟩) ?_
                                                      exact q
                                                    refine xSB_call0 (q := 243) (n := 1) (kq := 1) (as := [xa 536]) (st1 := []) rfl rfl rfl rfl rfl rfl rfl rfl rfl rfl (fun _ => xw_rcv1 (t := 12) (xw_obd (by decide +kernel)) rfl) (List.forall_mem_cons.mpr ⟨rfl, fun _ h => absurd h List.not_mem_nil⟩) (ygf243 hB _) (fun v69 m69 cv69 => ?_)
                                                    refine xSB_of (pc' := 1430) (L' := [(0, .retAddr 9), (1, xa 0), (2, xa 536), (3, xa 604), (4, xi x4), (5, xi v67), (6, xi v68)]) (st' := [xi v67, xi v69]) (m' := m69) (fun ex ns r q => ?_) ?_
                                                    · refine xw_iload rfl rfl ?_
                                                      exact q
                                                    refine xSB_if (fun h26 => ?_) (fun h26 => ?_)
                                                    · refine xSB_of (pc' := 1437) (L' := [(0, .retAddr 9), (1, xa 0), (2, xa 536), (3, xa 604), (4, xi x4), (5, xi v67), (6, xi v68)]) (st' := [xi v67]) (m' := m69) (fun ex ns r q => ?_) ?_
                                                      · refine xw_ic_eqT rfl (w32_cg cv69) (w32_cg cv67) h26 ?_
                                                        refine xw_iload rfl rfl ?_
                                                        exact q
                                                      refine xSB_if (fun h27 => ?_) (fun h27 => ?_)
                                                      · refine xSB_of (pc' := 1446) (L' := [(0, .retAddr 9), (1, xa 0), (2, xa 536), (3, xa 604), (4, xi x4), (5, xi v67), (6, xi v68)]) (st' := [xj v68, xj (xJ m69 604 0)]) (m' := m69) (fun ex ns r q => ?_) ?_
                                                        · refine xw_if_neF rfl (w32_cg cv67) h27 ?_
                                                          refine xw_aload_n rfl rfl rfl ?_
                                                          refine xw_iconst rfl ?_
                                                          refine xw_laldc (n := 1) (v := (m69 604 0)) (v' := (xJ m69 604 0)) rfl hB (xw_obd (by decide +kernel)) rfl ⟨by decide, by decide⟩ rfl rfl ?_
                                                          refine xw_iload rfl rfl ?_
                                                          refine xw_i2l rfl (w32_cg cv68) ?_
                                                          exact q
                                                        refine xSB_if (fun h28 => ?_) (fun h28 => ?_)
                                                        · refine xSB_of (pc' := 33) (L' := [(0, .retAddr 9), (1, xa 0), (2, xa 536), (3, xa 604), (4, xi (w32 (x4 + 6)))]) (st' := []) (m' := m69) (fun ex ns r q => ?_) ?_
                                                          · refine xw_jc_eqT rfl rfl (w64_cg (w64_xJ _ _ _)) (w64_cg (w64_32 cv68)) h28 ?_
                                                            refine xw_goto rfl ?_
                                                            refine xw_iincc (z := (w32 (x4 + 6))) (L' := [(4, xi (w32 (x4 + 6))), (0, .retAddr 9), (1, xa 0), (2, xa 536), (3, xa 604), (5, xi v67), (6, xi v68)]) rfl rfl (by decide) rfl rfl ?_
                                                            refine xw_goto rfl ?_
                                                            refine xw_lo (L2 := [(0, .retAddr 9), (1, xa 0), (2, xa 536), (3, xa 604), (4, xi (w32 (x4 + 6)))]) (List.forall_mem_cons.mpr ⟨rfl, List.forall_mem_cons.mpr ⟨rfl, List.forall_mem_cons.mpr ⟨rfl, List.forall_mem_cons.mpr ⟨rfl, List.forall_mem_cons.mpr ⟨rfl, fun _ h => absurd h List.not_mem_nil⟩⟩⟩⟩⟩) ?_
                                                            exact q
                                                          exact xSB_mono (by omega) (hr33 _ _ (w32_w _))
                                                        · refine xSB_of (pc' := 1451) (L' := [(0, .retAddr 9), (1, xa 0), (2, xa 536), (3, xa 604), (4, xi x4), (5, xi v67), (6, xi v68)]) (st' := [xi 0]) (m' := m69) (fun ex ns r q => ?_) ?_
                                                          · refine xw_jc_eqF rfl rfl (w64_cg (w64_xJ _ _ _)) (w64_cg (w64_32 cv68)) h28 ?_
                                                            refine xw_iconst rfl ?_
                                                            exact q
                                                          exact xSB_ret (v := 0) rfl rfl (xw_rtZ (Or.inl rfl)) (Or.inl rfl)
                                                      · refine xSB_of (pc' := 33) (L' := [(0, .retAddr 9), (1, xa 0), (2, xa 536), (3, xa 604), (4, xi (w32 (x4 + 6)))]) (st' := []) (m' := m69) (fun ex ns r q => ?_) ?_
                                                        · refine xw_if_neT rfl (w32_cg cv67) h27 ?_
                                                          refine xw_goto rfl ?_
                                                          refine xw_iincc (z := (w32 (x4 + 6))) (L' := [(4, xi (w32 (x4 + 6))), (0, .retAddr 9), (1, xa 0), (2, xa 536), (3, xa 604), (5, xi v67), (6, xi v68)]) rfl rfl (by decide) rfl rfl ?_
                                                          refine xw_goto rfl ?_
                                                          refine xw_lo (L2 := [(0, .retAddr 9), (1, xa 0), (2, xa 536), (3, xa 604), (4, xi (w32 (x4 + 6)))]) (List.forall_mem_cons.mpr ⟨rfl, List.forall_mem_cons.mpr ⟨rfl, List.forall_mem_cons.mpr ⟨rfl, List.forall_mem_cons.mpr ⟨rfl, List.forall_mem_cons.mpr ⟨rfl, fun _ h => absurd h List.not_mem_nil⟩⟩⟩⟩⟩) ?_
                                                          exact q
                                                        exact xSB_mono (by omega) (hr33 _ _ (w32_w _))
                                                    · refine xSB_of (pc' := 1434) (L' := [(0, .retAddr 9), (1, xa 0), (2, xa 536), (3, xa 604), (4, xi x4), (5, xi v67), (6, xi v68)]) (st' := [xi 0]) (m' := m69) (fun ex ns r q => ?_) ?_
                                                      · refine xw_ic_eqF rfl (w32_cg cv69) (w32_cg cv67) h26 ?_
                                                        refine xw_iconst rfl ?_
                                                        exact q
                                                      exact xSB_ret (v := 0) rfl rfl (xw_rtZ (Or.inl rfl)) (Or.inl rfl)
                                                  · refine xSB_of (pc' := 33) (L' := [(0, .retAddr 9), (1, xa 0), (2, xa 536), (3, xa 604), (4, xi (w32 (x4 + 6)))]) (st' := []) (m' := m) (fun ex ns r q => ?_) ?_
                                                    · refine xw_sw (t := 1455) rfl (xw_swd (w32_cg (w32_ti _)) (by have := h2; have := h3; have := h4; have := h5; have := h6; have := h7; have := h8; have := h9; have := h10; have := h11; have := h12; have := h13; have := h14; have := h15; have := h16; have := h17; have := h18; have := h19; have := h20; have := h21; have := h22; have := h23; have := h24; have := h25; omega) rfl) ?_
                                                      refine xw_iincc (z := (w32 (x4 + 6))) (L' := [(4, xi (w32 (x4 + 6))), (0, .retAddr 9), (1, xa 0), (2, xa 536), (3, xa 604)]) rfl rfl (by decide) rfl rfl ?_
                                                      refine xw_goto rfl ?_
                                                      refine xw_lo (L2 := [(0, .retAddr 9), (1, xa 0), (2, xa 536), (3, xa 604), (4, xi (w32 (x4 + 6)))]) (List.forall_mem_cons.mpr ⟨rfl, List.forall_mem_cons.mpr ⟨rfl, List.forall_mem_cons.mpr ⟨rfl, List.forall_mem_cons.mpr ⟨rfl, List.forall_mem_cons.mpr ⟨rfl, fun _ h => absurd h List.not_mem_nil⟩⟩⟩⟩⟩) ?_
                                                      exact q
                                                    exact xSB_mono (by omega) (hr33 _ _ (w32_w _))
theorem ygl349_33 {B : Nat} (hB : B ≤ 512) {xs : Nat → Int32} {SL d : Nat} (hSL : SL ≤ 3073) (cSL : w32 (SL : Int) = (SL : Int)) : ∀ n x4 m, w32 x4 = x4 → xSB (2 * n) B xs SL (d + 201) 349 (8, ret, [], 0) 4 33 [(0, .retAddr 9), (1, xa 0), (2, xa 536), (3, xa 604), (4, xi x4)] [] m (xl1 (yl349_33 B xs SL) n x4 m) := by
  intro n
  induction n with
  | zero => intro x4 m c4; exact xSB_none
  | succ n ih => exact ysl349_33 hB hSL cSL ih
