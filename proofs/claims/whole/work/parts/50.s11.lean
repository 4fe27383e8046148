/-! the machine does what the functions say, 11 -/
theorem ysl288_207 {B : Nat} (hB : B ≤ 512) {xs : Nat → Int32} {SL d : Nat} {r207 : Int → Int → Int → Int → Int → xw_M → xP} (hr207 : ∀ x1 x4 x5 x6 x7 m, w32 x1 = x1 → w32 x4 = x4 → w32 x5 = x5 → w32 x6 = x6 → w32 x7 = x7 → xS B xs SL (d + 1) 288 (8, (some .boolean), [], 13) 4 207 [(0, xa 536), (1, xi x1), (4, xi x4), (5, xi x5), (6, xi x6), (7, xi x7)] [] m (r207 x1 x4 x5 x6 x7 m)) : ∀ x1 x4 x5 x6 x7 m, w32 x1 = x1 → w32 x4 = x4 → w32 x5 = x5 → w32 x6 = x6 → w32 x7 = x7 → xS B xs SL (d + 1) 288 (8, (some .boolean), [], 13) 4 207 [(0, xa 536), (1, xi x1), (4, xi x4), (5, xi x5), (6, xi x6), (7, xi x7)] [] m (yl288_207 B r207 x1 x4 x5 x6 x7 m) := by
  intro x1 x4 x5 x6 x7 m c1 c4 c5 c6 c7
  unfold yl288_207
  refine xS_of (pc' := 211) (L' := [(0, xa 536), (1, xi x1), (4, xi x4), (5, xi x5), (6, xi x6), (7, xi x7)]) (st' := [xi x5, xi x7]) (m' := m) (fun ex ns r q => ?_) ?_
  · refine xw_iload rfl rfl ?_
    refine xw_iload rfl rfl ?_
    exact q
  refine xS_if (fun h0 => ?_) (fun h0 => ?_)
  · refine xS_of (pc' := 216) (L' := [(0, xa 536), (1, xi x1), (4, xi x4), (5, xi x5), (6, xi x6), (7, xi x7)]) (st' := [xi x6]) (m' := m) (fun ex ns r q => ?_) ?_
    · refine xw_ic_geF rfl (w32_cg c7) (w32_cg c5) (Int.not_le.mpr h0) ?_
      refine xw_iload rfl rfl ?_
      exact q
    refine xS_if (fun h1 => ?_) (fun h1 => ?_)
    · refine xS_g (fun g2 => ?_)
      refine xS_g (fun g3 => ?_)
      refine xS_g (fun g4 => ?_)
      refine xS_of (pc' := 236) (L' := [(0, xa 536), (1, xi x1), (4, xi x4), (5, xi x5), (6, xi x6), (7, xi x7)]) (st' := [xi x4, xi (xR m (xw_rf (m 536 23) 18) ((40 * x1) + x7))]) (m' := m) (fun ex ns r q => ?_) ?_
      · refine xw_if_neF rfl (w32_cg c6) h1 ?_
        refine xw_aload_n rfl rfl rfl ?_
        refine xw_gfM (v := (m 536 23)) rfl (xw_obd (by decide +kernel)) xk12_23 (qi := 23) rfl rfl ?_
        refine xw_gfV (qi := 18) rfl (xw_obd g2) xk13_18 rfl ?_
        refine xw_bipush (e := 40) rfl (by decide +kernel) ?_
        refine xw_iload_n rfl rfl ?_
        refine xw_imul rfl ?_
        refine xw_iload rfl rfl ?_
        refine xw_iadd rfl ?_
        refine xw_ialdc (n := (xw_le B (xw_rf (m 536 23) 18))) (v := (m (xw_rf (m 536 23) 18) ((40 * x1) + x7))) (v' := (xR m (xw_rf (m 536 23) 18) ((40 * x1) + x7))) rfl hB (xw_obd g4) rfl g3 rfl rfl ?_
        refine xw_iload rfl rfl ?_
        exact q
      refine xS_if (fun h5 => ?_) (fun h5 => ?_)
      · refine xS_of (pc' := 207) (L' := [(0, xa 536), (1, xi x1), (4, xi x4), (5, xi x5), (6, xi 1), (7, xi (w32 (x7 + 1)))]) (st' := []) (m' := m) (fun ex ns r q => ?_) ?_
        · refine xw_ic_neF rfl (w32_cg (w32_xR _ _ _)) (w32_cg c4) h5 ?_
          refine xw_iconst rfl ?_
          refine xw_goto rfl ?_
          refine xw_istore (L' := [(6, xi 1), (0, xa 536), (1, xi x1), (4, xi x4), (5, xi x5), (7, xi x7)]) rfl (by decide) rfl ?_
          refine xw_iincc (z := (w32 (x7 + 1))) (L' := [(7, xi (w32 (x7 + 1))), (6, xi 1), (0, xa 536), (1, xi x1), (4, xi x4), (5, xi x5)]) rfl rfl (by decide) rfl rfl ?_
          refine xw_goto rfl ?_
          refine xw_lo (L2 := [(0, xa 536), (1, xi x1), (4, xi x4), (5, xi x5), (6, xi 1), (7, xi (w32 (x7 + 1)))]) (List.forall_mem_cons.mpr ⟨rfl, List.forall_mem_cons.mpr ⟨rfl, List.forall_mem_cons.mpr ⟨rfl, List.forall_mem_cons.mpr ⟨rfl, List.forall_mem_cons.mpr ⟨rfl, List.forall_mem_cons.mpr ⟨rfl, fun _ h => absurd h List.not_mem_nil⟩⟩⟩⟩⟩⟩) ?_
          exact q
        exact hr207 _ _ _ _ _ _ c1 c4 c5 rfl (w32_w _)
      · refine xS_of (pc' := 207) (L' := [(0, xa 536), (1, xi x1), (4, xi x4), (5, xi x5), (6, xi 0), (7, xi (w32 (x7 + 1)))]) (st' := []) (m' := m) (fun ex ns r q => ?_) ?_
        · refine xw_ic_neT rfl (w32_cg (w32_xR _ _ _)) (w32_cg c4) h5 ?_
          refine xw_iconst rfl ?_
          refine xw_istore (L' := [(6, xi 0), (0, xa 536), (1, xi x1), (4, xi x4), (5, xi x5), (7, xi x7)]) rfl (by decide) rfl ?_
          refine xw_iincc (z := (w32 (x7 + 1))) (L' := [(7, xi (w32 (x7 + 1))), (6, xi 0), (0, xa 536), (1, xi x1), (4, xi x4), (5, xi x5)]) rfl rfl (by decide) rfl rfl ?_
          refine xw_goto rfl ?_
          refine xw_lo (L2 := [(0, xa 536), (1, xi x1), (4, xi x4), (5, xi x5), (6, xi 0), (7, xi (w32 (x7 + 1)))]) (List.forall_mem_cons.mpr ⟨rfl, List.forall_mem_cons.mpr ⟨rfl, List.forall_mem_cons.mpr ⟨rfl, List.forall_mem_cons.mpr ⟨rfl, List.forall_mem_cons.mpr ⟨rfl, List.forall_mem_cons.mpr ⟨rfl, fun _ h => absurd h List.not_mem_nil⟩⟩⟩⟩⟩⟩) ?_
          exact q
        exact hr207 _ _ _ _ _ _ c1 c4 c5 rfl (w32_w _)
    · refine xS_of (pc' := 207) (L' := [(0, xa 536), (1, xi x1), (4, xi x4), (5, xi x5), (6, xi 1), (7, xi (w32 (x7 + 1)))]) (st' := []) (m' := m) (fun ex ns r q => ?_) ?_
      · refine xw_if_neT rfl (w32_cg c6) h1 ?_
        refine xw_iconst rfl ?_
        refine xw_goto rfl ?_
        refine xw_istore (L' := [(6, xi 1), (0, xa 536), (1, xi x1), (4, xi x4), (5, xi x5), (7, xi x7)]) rfl (by decide) rfl ?_
        refine xw_iincc (z := (w32 (x7 + 1))) (L' := [(7, xi (w32 (x7 + 1))), (6, xi 1), (0, xa 536), (1, xi x1), (4, xi x4), (5, xi x5)]) rfl rfl (by decide) rfl rfl ?_
        refine xw_goto rfl ?_
        refine xw_lo (L2 := [(0, xa 536), (1, xi x1), (4, xi x4), (5, xi x5), (6, xi 1), (7, xi (w32 (x7 + 1)))]) (List.forall_mem_cons.mpr ⟨rfl, List.forall_mem_cons.mpr ⟨rfl, List.forall_mem_cons.mpr ⟨rfl, List.forall_mem_cons.mpr ⟨rfl, List.forall_mem_cons.mpr ⟨rfl, List.forall_mem_cons.mpr ⟨rfl, fun _ h => absurd h List.not_mem_nil⟩⟩⟩⟩⟩⟩) ?_
        exact q
      exact hr207 _ _ _ _ _ _ c1 c4 c5 rfl (w32_w _)
  · refine xS_g (fun g1 => ?_)
    refine xS_g (fun g2 => ?_)
    refine xS_g (fun g3 => ?_)
    refine xS_of (pc' := 265) (L' := [(0, xa 536), (1, xi x1), (4, xi x4), (5, xi x5), (6, xi x6), (7, xi x7)]) (st' := [xi 7, xi (xR m (xw_rf (m 536 23) 15) x1), xi x6]) (m' := m) (fun ex ns r q => ?_) ?_
    · refine xw_ic_geT rfl (w32_cg c7) (w32_cg c5) (Int.not_lt.mp h0) ?_
      refine xw_iload rfl rfl ?_
      refine xw_aload_n rfl rfl rfl ?_
      refine xw_gfM (v := (m 536 23)) rfl (xw_obd (by decide +kernel)) xk12_23 (qi := 23) rfl rfl ?_
      refine xw_gfV (qi := 15) rfl (xw_obd g1) xk13_15 rfl ?_
      refine xw_iload_n rfl rfl ?_
      refine xw_ialdc (n := (xw_le B (xw_rf (m 536 23) 15))) (v := (m (xw_rf (m 536 23) 15) x1)) (v' := (xR m (xw_rf (m 536 23) 15) x1)) rfl hB (xw_obd g3) rfl g2 rfl rfl ?_
      refine xw_bipush (e := 7) rfl (by decide +kernel) ?_
      exact q
    refine xS_if (fun h4 => ?_) (fun h4 => ?_)
    · refine xS_of (pc' := 273) (L' := [(0, xa 536), (1, xi x1), (4, xi x4), (5, xi x5), (6, xi x6), (7, xi x7)]) (st' := [xi 1, xi x6]) (m' := m) (fun ex ns r q => ?_) ?_
      · refine xw_ic_neF rfl (w32_cg (w32_xR _ _ _)) (w32_cg rfl) h4 ?_
        refine xw_iconst rfl ?_
        refine xw_goto rfl ?_
        exact q
      refine xS_if (fun h5 => ?_) (fun h5 => ?_)
      · refine xS_of (pc' := 281) (L' := [(0, xa 536), (1, xi x1), (4, xi x4), (5, xi x5), (6, xi x6), (7, xi x7)]) (st' := [xi 1]) (m' := m) (fun ex ns r q => ?_) ?_
        · refine xw_ic_neF rfl (w32_cg c6) (w32_cg rfl) h5 ?_
          refine xw_iconst rfl ?_
          refine xw_goto rfl ?_
          exact q
        exact xS_ret (v := 1) rfl rfl (xw_rtZ (Or.inr rfl)) (Or.inr rfl)
      · refine xS_of (pc' := 281) (L' := [(0, xa 536), (1, xi x1), (4, xi x4), (5, xi x5), (6, xi x6), (7, xi x7)]) (st' := [xi 0]) (m' := m) (fun ex ns r q => ?_) ?_
        · refine xw_ic_neT rfl (w32_cg c6) (w32_cg rfl) h5 ?_
          refine xw_iconst rfl ?_
          exact q
        exact xS_ret (v := 0) rfl rfl (xw_rtZ (Or.inl rfl)) (Or.inl rfl)
    · refine xS_of (pc' := 273) (L' := [(0, xa 536), (1, xi x1), (4, xi x4), (5, xi x5), (6, xi x6), (7, xi x7)]) (st' := [xi 0, xi x6]) (m' := m) (fun ex ns r q => ?_) ?_
      · refine xw_ic_neT rfl (w32_cg (w32_xR _ _ _)) (w32_cg rfl) h4 ?_
        refine xw_iconst rfl ?_
        exact q
      refine xS_if (fun h5 => ?_) (fun h5 => ?_)
      · refine xS_of (pc' := 281) (L' := [(0, xa 536), (1, xi x1), (4, xi x4), (5, xi x5), (6, xi x6), (7, xi x7)]) (st' := [xi 1]) (m' := m) (fun ex ns r q => ?_) ?_
        · refine xw_ic_neF rfl (w32_cg c6) (w32_cg rfl) h5 ?_
          refine xw_iconst rfl ?_
          refine xw_goto rfl ?_
          exact q
        exact xS_ret (v := 1) rfl rfl (xw_rtZ (Or.inr rfl)) (Or.inr rfl)
      · refine xS_of (pc' := 281) (L' := [(0, xa 536), (1, xi x1), (4, xi x4), (5, xi x5), (6, xi x6), (7, xi x7)]) (st' := [xi 0]) (m' := m) (fun ex ns r q => ?_) ?_
        · refine xw_ic_neT rfl (w32_cg c6) (w32_cg rfl) h5 ?_
          refine xw_iconst rfl ?_
          exact q
        exact xS_ret (v := 0) rfl rfl (xw_rtZ (Or.inl rfl)) (Or.inl rfl)
theorem ygl288_207 {B : Nat} (hB : B ≤ 512) {xs : Nat → Int32} {SL d : Nat} : ∀ n x1 x4 x5 x6 x7 m, w32 x1 = x1 → w32 x4 = x4 → w32 x5 = x5 → w32 x6 = x6 → w32 x7 = x7 → xS B xs SL (d + 1) 288 (8, (some .boolean), [], 13) 4 207 [(0, xa 536), (1, xi x1), (4, xi x4), (5, xi x5), (6, xi x6), (7, xi x7)] [] m (xl5 (yl288_207 B) n x1 x4 x5 x6 x7 m) := by
  intro n
  induction n with
  | zero => intro x1 x4 x5 x6 x7 m c1 c4 c5 c6 c7; exact xS_none
  | succ n ih => exact ysl288_207 hB ih
theorem ygf288 {B : Nat} (hB : B ≤ 512) {xs : Nat → Int32} {SL d : Nat} : ∀ p0 p1 m, w32 p0 = p0 → w32 p1 = p1 → xS B xs SL (d + 1) 288 (8, (some .boolean), [], 13) 4 0 [(0, xa 536), (1, xi p0), (2, xi p1)] [] m (yf288 B p0 p1 m) := by
  intro p0 p1 m cp0 cp1
  unfold yf288
  refine xS_g (fun g0 => ?_)
  refine xS_g (fun g1 => ?_)
  refine xS_g (fun g2 => ?_)
  refine xS_g (fun g3 => ?_)
  refine xS_g (fun g4 => ?_)
  refine xS_of (pc' := 30) (L' := [(0, xa 536), (1, xi p0)]) (st' := [xi (xR m 575 ((8 * p1) + ((xR m (xw_rf (m 536 23) 14) p0) / 4))), xi ((xR m (xw_rf (m 536 23) 14) p0) % 4), xi ((xR m (xw_rf (m 536 23) 14) p0) / 4), xa 536]) (m' := m) (fun ex ns r q => ?_) ?_
  · refine xw_aload_n rfl rfl rfl ?_
    refine xw_gfM (v := (m 536 23)) rfl (xw_obd (by decide +kernel)) xk12_23 (qi := 23) rfl rfl ?_
    refine xw_gfV (qi := 14) rfl (xw_obd g0) xk13_14 rfl ?_
    refine xw_iload_n rfl rfl ?_
    refine xw_ialdc (n := (xw_le B (xw_rf (m 536 23) 14))) (v := (m (xw_rf (m 536 23) 14) p0)) (v' := (xR m (xw_rf (m 536 23) 14) p0)) rfl hB (xw_obd g2) rfl g1 rfl rfl ?_
    refine xw_istore_n (L' := [(3, xi (xR m (xw_rf (m 536 23) 14) p0)), (0, xa 536), (1, xi p0), (2, xi p1)]) rfl (by decide) rfl ?_
    refine xw_aload_n rfl rfl rfl ?_
    refine xw_iload_n rfl rfl ?_
    refine xw_iconst rfl ?_
    refine xw_idiv (z := ((xR m (xw_rf (m 536 23) 14) p0) / 4)) rfl (xw_idivn ⟨(by decide), (w32_cg rfl).2⟩) (xw_idive ⟨g3, (w32_cg (w32_xR _ _ _)).2⟩ ⟨(by decide), (w32_cg rfl).2⟩) ?_
    refine xw_iload_n rfl rfl ?_
    refine xw_iconst rfl ?_
    refine xw_irem (z := ((xR m (xw_rf (m 536 23) 14) p0) % 4)) rfl (xw_iremn ⟨(by decide), (w32_cg rfl).2⟩) (xw_ireme ⟨g3, (w32_cg (w32_xR _ _ _)).2⟩ ⟨(by decide), (w32_cg rfl).2⟩) ?_
    refine xw_aload_n rfl rfl rfl ?_
    refine xw_gfR (n := 575) (e := 575) rfl (xw_obd (by decide +kernel)) (by decide +kernel) (by decide +kernel) rfl ?_
    refine xw_bipush (e := 8) rfl (by decide +kernel) ?_
    refine xw_iload_n rfl rfl ?_
    refine xw_imul rfl ?_
    refine xw_iload_n rfl rfl ?_
    refine xw_iconst rfl ?_
    refine xw_idiv (z := ((xR m (xw_rf (m 536 23) 14) p0) / 4)) rfl (xw_idivn ⟨(by decide), (w32_cg rfl).2⟩) (xw_idive ⟨g3, (w32_cg (w32_xR _ _ _)).2⟩ ⟨(by decide), (w32_cg rfl).2⟩) ?_
    refine xw_iadd rfl ?_
    refine xw_ialdc (n := 160000) (v := (m 575 ((8 * p1) + ((xR m (xw_rf (m 536 23) 14) p0) / 4)))) (v' := (xR m 575 ((8 * p1) + ((xR m (xw_rf (m 536 23) 14) p0) / 4)))) rfl hB (xw_obd (by decide +kernel)) rfl g4 rfl rfl ?_
    refine xw_lo (L2 := [(0, xa 536), (1, xi p0)]) (List.forall_mem_cons.mpr ⟨rfl, List.forall_mem_cons.mpr ⟨rfl, fun _ h => absurd h List.not_mem_nil⟩⟩) ?_
    exact q
  refine xS_call (q := 289) (n := 4) (kq := 1) (as := [xa 536, xi ((xR m (xw_rf (m 536 23) 14) p0) / 4), xi ((xR m (xw_rf (m 536 23) 14) p0) % 4), xi (xR m 575 ((8 * p1) + ((xR m (xw_rf (m 536 23) 14) p0) / 4)))]) (st1 := []) rfl rfl rfl rfl rfl rfl rfl rfl rfl rfl (fun _ => xw_rcv1 (t := 12) (xw_obd (by decide +kernel)) rfl) rfl (List.forall_mem_cons.mpr ⟨rfl, List.forall_mem_cons.mpr ⟨rfl, List.forall_mem_cons.mpr ⟨rfl, List.forall_mem_cons.mpr ⟨rfl, fun _ h => absurd h List.not_mem_nil⟩⟩⟩⟩) (ygf289 hB _ _ _ _ (w32_dv (w32_xR _ _ _) ⟨g3, (by decide)⟩) (w32_md rfl ⟨g3, (by decide)⟩) (w32_xR _ _ _)) (fun v1 m1 cv1 => ?_)
  refine xS_g (fun g5 => ?_)
  refine xS_g (fun g6 => ?_)
  refine xS_g (fun g7 => ?_)
  refine xS_g (fun g8 => ?_)
  refine xS_g (fun g9 => ?_)
  refine xS_of (pc' := 55) (L' := [(5, xi (xR m1 (xw_rf (m1 536 23) 16) p0)), (4, xi v1), (0, xa 536), (1, xi p0)]) (st' := [xi (xR m1 (xw_rf (m1 536 23) 15) p0)]) (m' := m1) (fun ex ns r q => ?_) ?_
  · refine xw_istore (L' := [(4, xi v1), (0, xa 536), (1, xi p0)]) rfl (by decide) rfl ?_
    refine xw_aload_n rfl rfl rfl ?_
    refine xw_gfM (v := (m1 536 23)) rfl (xw_obd (by decide +kernel)) xk12_23 (qi := 23) rfl rfl ?_
    refine xw_gfV (qi := 16) rfl (xw_obd g5) xk13_16 rfl ?_
    refine xw_iload_n rfl rfl ?_
    refine xw_ialdc (n := (xw_le B (xw_rf (m1 536 23) 16))) (v := (m1 (xw_rf (m1 536 23) 16) p0)) (v' := (xR m1 (xw_rf (m1 536 23) 16) p0)) rfl hB (xw_obd g7) rfl g6 rfl rfl ?_
    refine xw_istore (L' := [(5, xi (xR m1 (xw_rf (m1 536 23) 16) p0)), (4, xi v1), (0, xa 536), (1, xi p0)]) rfl (by decide) rfl ?_
    refine xw_aload_n rfl rfl rfl ?_
    refine xw_gfM (v := (m1 536 23)) rfl (xw_obd (by decide +kernel)) xk12_23 (qi := 23) rfl rfl ?_
    refine xw_gfV (qi := 15) rfl (xw_obd g5) xk13_15 rfl ?_
    refine xw_iload_n rfl rfl ?_
    refine xw_ialdc (n := (xw_le B (xw_rf (m1 536 23) 15))) (v := (m1 (xw_rf (m1 536 23) 15) p0)) (v' := (xR m1 (xw_rf (m1 536 23) 15) p0)) rfl hB (xw_obd g9) rfl g8 rfl rfl ?_
    exact q
  refine xS_if (fun h10 => ?_) (fun h10 => ?_)
  · refine xS_of (pc' := 100) (L' := [(5, xi (xR m1 (xw_rf (m1 536 23) 16) p0)), (4, xi v1), (0, xa 536), (1, xi p0)]) (st' := [xi (xR m1 (xw_rf (m1 536 23) 16) p0), xi v1]) (m' := m1) (fun ex ns r q => ?_) ?_
    · refine xw_sw (t := 96) rfl (by rw [h10]; rfl) ?_
      refine xw_iload rfl rfl ?_
      refine xw_iload rfl rfl ?_
      exact q
    refine xS_if (fun h11 => ?_) (fun h11 => ?_)
    · refine xS_of (pc' := 108) (L' := [(5, xi (xR m1 (xw_rf (m1 536 23) 16) p0)), (4, xi v1), (0, xa 536), (1, xi p0)]) (st' := [xi 1]) (m' := m1) (fun ex ns r q => ?_) ?_
      · refine xw_ic_neF rfl (w32_cg cv1) (w32_cg (w32_xR _ _ _)) h11 ?_
        refine xw_iconst rfl ?_
        refine xw_goto rfl ?_
        exact q
      exact xS_ret (v := 1) rfl rfl (xw_rtZ (Or.inr rfl)) (Or.inr rfl)
    · refine xS_of (pc' := 108) (L' := [(5, xi (xR m1 (xw_rf (m1 536 23) 16) p0)), (4, xi v1), (0, xa 536), (1, xi p0)]) (st' := [xi 0]) (m' := m1) (fun ex ns r q => ?_) ?_
      · refine xw_ic_neT rfl (w32_cg cv1) (w32_cg (w32_xR _ _ _)) h11 ?_
        refine xw_iconst rfl ?_
        exact q
      exact xS_ret (v := 0) rfl rfl (xw_rtZ (Or.inl rfl)) (Or.inl rfl)
  · refine xS_if (fun h11 => ?_) (fun h11 => ?_)
    · refine xS_of (pc' := 113) (L' := [(5, xi (xR m1 (xw_rf (m1 536 23) 16) p0)), (4, xi v1), (0, xa 536), (1, xi p0)]) (st' := [xi (xR m1 (xw_rf (m1 536 23) 16) p0), xi v1]) (m' := m1) (fun ex ns r q => ?_) ?_
      · refine xw_sw (t := 109) rfl (by rw [h11]; rfl) ?_
        refine xw_iload rfl rfl ?_
        refine xw_iload rfl rfl ?_
        exact q
      refine xS_if (fun h12 => ?_) (fun h12 => ?_)
      · refine xS_of (pc' := 121) (L' := [(5, xi (xR m1 (xw_rf (m1 536 23) 16) p0)), (4, xi v1), (0, xa 536), (1, xi p0)]) (st' := [xi 0]) (m' := m1) (fun ex ns r q => ?_) ?_
        · refine xw_ic_eqT rfl (w32_cg cv1) (w32_cg (w32_xR _ _ _)) h12 ?_
          refine xw_iconst rfl ?_
          exact q
        exact xS_ret (v := 0) rfl rfl (xw_rtZ (Or.inl rfl)) (Or.inl rfl)
      · refine xS_of (pc' := 121) (L' := [(5, xi (xR m1 (xw_rf (m1 536 23) 16) p0)), (4, xi v1), (0, xa 536), (1, xi p0)]) (st' := [xi 1]) (m' := m1) (fun ex ns r q => ?_) ?_
        · refine xw_ic_eqF rfl (w32_cg cv1) (w32_cg (w32_xR _ _ _)) h12 ?_
          refine xw_iconst rfl ?_
          refine xw_goto rfl ?_
          exact q
        exact xS_ret (v := 1) rfl rfl (xw_rtZ (Or.inr rfl)) (Or.inr rfl)
    · refine xS_if (fun h12 => ?_) (fun h12 => ?_)
      · refine xS_of (pc' := 126) (L' := [(5, xi (xR m1 (xw_rf (m1 536 23) 16) p0)), (4, xi v1), (0, xa 536), (1, xi p0)]) (st' := [xi (xR m1 (xw_rf (m1 536 23) 16) p0), xi v1]) (m' := m1) (fun ex ns r q => ?_) ?_
        · refine xw_sw (t := 122) rfl (by rw [h12]; rfl) ?_
          refine xw_iload rfl rfl ?_
          refine xw_iload rfl rfl ?_
          exact q
        refine xS_if (fun h13 => ?_) (fun h13 => ?_)
        · refine xS_of (pc' := 134) (L' := [(5, xi (xR m1 (xw_rf (m1 536 23) 16) p0)), (4, xi v1), (0, xa 536), (1, xi p0)]) (st' := [xi 1]) (m' := m1) (fun ex ns r q => ?_) ?_
          · refine xw_ic_geF rfl (w32_cg cv1) (w32_cg (w32_xR _ _ _)) (Int.not_le.mpr h13) ?_
            refine xw_iconst rfl ?_
            refine xw_goto rfl ?_
            exact q
          exact xS_ret (v := 1) rfl rfl (xw_rtZ (Or.inr rfl)) (Or.inr rfl)
        · refine xS_of (pc' := 134) (L' := [(5, xi (xR m1 (xw_rf (m1 536 23) 16) p0)), (4, xi v1), (0, xa 536), (1, xi p0)]) (st' := [xi 0]) (m' := m1) (fun ex ns r q => ?_) ?_
          · refine xw_ic_geT rfl (w32_cg cv1) (w32_cg (w32_xR _ _ _)) (Int.not_lt.mp h13) ?_
            refine xw_iconst rfl ?_
            exact q
          exact xS_ret (v := 0) rfl rfl (xw_rtZ (Or.inl rfl)) (Or.inl rfl)
      · refine xS_if (fun h13 => ?_) (fun h13 => ?_)
        · refine xS_of (pc' := 139) (L' := [(5, xi (xR m1 (xw_rf (m1 536 23) 16) p0)), (4, xi v1), (0, xa 536), (1, xi p0)]) (st' := [xi (xR m1 (xw_rf (m1 536 23) 16) p0), xi v1]) (m' := m1) (fun ex ns r q => ?_) ?_
          · refine xw_sw (t := 135) rfl (by rw [h13]; rfl) ?_
            refine xw_iload rfl rfl ?_
            refine xw_iload rfl rfl ?_
            exact q
          refine xS_if (fun h14 => ?_) (fun h14 => ?_)
          · refine xS_of (pc' := 147) (L' := [(5, xi (xR m1 (xw_rf (m1 536 23) 16) p0)), (4, xi v1), (0, xa 536), (1, xi p0)]) (st' := [xi 0]) (m' := m1) (fun ex ns r q => ?_) ?_
            · refine xw_ic_gtT rfl (w32_cg cv1) (w32_cg (w32_xR _ _ _)) h14 ?_
              refine xw_iconst rfl ?_
              exact q
            exact xS_ret (v := 0) rfl rfl (xw_rtZ (Or.inl rfl)) (Or.inl rfl)
          · refine xS_of (pc' := 147) (L' := [(5, xi (xR m1 (xw_rf (m1 536 23) 16) p0)), (4, xi v1), (0, xa 536), (1, xi p0)]) (st' := [xi 1]) (m' := m1) (fun ex ns r q => ?_) ?_
            · refine xw_ic_gtF rfl (w32_cg cv1) (w32_cg (w32_xR _ _ _)) h14 ?_
              refine xw_iconst rfl ?_
              refine xw_goto rfl ?_
              exact q
            exact xS_ret (v := 1) rfl rfl (xw_rtZ (Or.inr rfl)) (Or.inr rfl)
        · refine xS_if (fun h14 => ?_) (fun h14 => ?_)
          · refine xS_of (pc' := 152) (L' := [(5, xi (xR m1 (xw_rf (m1 536 23) 16) p0)), (4, xi v1), (0, xa 536), (1, xi p0)]) (st' := [xi (xR m1 (xw_rf (m1 536 23) 16) p0), xi v1]) (m' := m1) (fun ex ns r q => ?_) ?_
            · refine xw_sw (t := 148) rfl (by rw [h14]; rfl) ?_
              refine xw_iload rfl rfl ?_
              refine xw_iload rfl rfl ?_
              exact q
            refine xS_if (fun h15 => ?_) (fun h15 => ?_)
            · refine xS_of (pc' := 160) (L' := [(5, xi (xR m1 (xw_rf (m1 536 23) 16) p0)), (4, xi v1), (0, xa 536), (1, xi p0)]) (st' := [xi 1]) (m' := m1) (fun ex ns r q => ?_) ?_
              · refine xw_ic_leF rfl (w32_cg cv1) (w32_cg (w32_xR _ _ _)) (Int.not_le.mpr h15) ?_
                refine xw_iconst rfl ?_
                refine xw_goto rfl ?_
                exact q
              exact xS_ret (v := 1) rfl rfl (xw_rtZ (Or.inr rfl)) (Or.inr rfl)
            · refine xS_of (pc' := 160) (L' := [(5, xi (xR m1 (xw_rf (m1 536 23) 16) p0)), (4, xi v1), (0, xa 536), (1, xi p0)]) (st' := [xi 0]) (m' := m1) (fun ex ns r q => ?_) ?_
              · refine xw_ic_leT rfl (w32_cg cv1) (w32_cg (w32_xR _ _ _)) (Int.not_lt.mp h15) ?_
                refine xw_iconst rfl ?_
                exact q
              exact xS_ret (v := 0) rfl rfl (xw_rtZ (Or.inl rfl)) (Or.inl rfl)
          · refine xS_if (fun h15 => ?_) (fun h15 => ?_)
            · refine xS_of (pc' := 165) (L' := [(5, xi (xR m1 (xw_rf (m1 536 23) 16) p0)), (4, xi v1), (0, xa 536), (1, xi p0)]) (st' := [xi (xR m1 (xw_rf (m1 536 23) 16) p0), xi v1]) (m' := m1) (fun ex ns r q => ?_) ?_
              · refine xw_sw (t := 161) rfl (by rw [h15]; rfl) ?_
                refine xw_iload rfl rfl ?_
                refine xw_iload rfl rfl ?_
                exact q
              refine xS_if (fun h16 => ?_) (fun h16 => ?_)
              · refine xS_of (pc' := 173) (L' := [(5, xi (xR m1 (xw_rf (m1 536 23) 16) p0)), (4, xi v1), (0, xa 536), (1, xi p0)]) (st' := [xi 0]) (m' := m1) (fun ex ns r q => ?_) ?_
                · refine xw_ic_ltT rfl (w32_cg cv1) (w32_cg (w32_xR _ _ _)) h16 ?_
                  refine xw_iconst rfl ?_
                  exact q
                exact xS_ret (v := 0) rfl rfl (xw_rtZ (Or.inl rfl)) (Or.inl rfl)
              · refine xS_of (pc' := 173) (L' := [(5, xi (xR m1 (xw_rf (m1 536 23) 16) p0)), (4, xi v1), (0, xa 536), (1, xi p0)]) (st' := [xi 1]) (m' := m1) (fun ex ns r q => ?_) ?_
                · refine xw_ic_ltF rfl (w32_cg cv1) (w32_cg (w32_xR _ _ _)) h16 ?_
                  refine xw_iconst rfl ?_
                  refine xw_goto rfl ?_
                  exact q
                exact xS_ret (v := 1) rfl rfl (xw_rtZ (Or.inr rfl)) (Or.inr rfl)
            · refine xS_if (fun h16 => ?_) (fun h16 => ?_)
              · refine xS_of (pc' := 178) (L' := [(5, xi (xR m1 (xw_rf (m1 536 23) 16) p0)), (4, xi v1), (0, xa 536), (1, xi p0)]) (st' := [xi (xR m1 (xw_rf (m1 536 23) 16) p0), xi v1]) (m' := m1) (fun ex ns r q => ?_) ?_
                · refine xw_sw (t := 174) rfl (by rw [h16]; rfl) ?_
                  refine xw_iload rfl rfl ?_
                  refine xw_iload rfl rfl ?_
                  exact q
                refine xS_if (fun h17 => ?_) (fun h17 => ?_)
                · refine xS_of (pc' := 200) (L' := [(5, xi (xR m1 (xw_rf (m1 536 23) 16) p0)), (4, xi v1), (0, xa 536), (1, xi p0)]) (st' := [xi 0]) (m' := m1) (fun ex ns r q => ?_) ?_
                  · refine xw_ic_ltT rfl (w32_cg cv1) (w32_cg (w32_xR _ _ _)) h17 ?_
                    refine xw_iconst rfl ?_
                    exact q
                  exact xS_ret (v := 0) rfl rfl (xw_rtZ (Or.inl rfl)) (Or.inl rfl)
                · refine xS_g (fun g18 => ?_)
                  refine xS_g (fun g19 => ?_)
                  refine xS_of (pc' := 192) (L' := [(5, xi (xR m1 (xw_rf (m1 536 23) 16) p0)), (4, xi v1), (0, xa 536), (1, xi p0)]) (st' := [xi (xR m1 (xw_rf (m1 536 23) 17) p0), xi v1]) (m' := m1) (fun ex ns r q => ?_) ?_
                  · refine xw_ic_ltF rfl (w32_cg cv1) (w32_cg (w32_xR _ _ _)) h17 ?_
                    refine xw_iload rfl rfl ?_
                    refine xw_aload_n rfl rfl rfl ?_
                    refine xw_gfM (v := (m1 536 23)) rfl (xw_obd (by decide +kernel)) xk12_23 (qi := 23) rfl rfl ?_
                    refine xw_gfV (qi := 17) rfl (xw_obd g5) xk13_17 rfl ?_
                    refine xw_iload_n rfl rfl ?_
                    refine xw_ialdc (n := (xw_le B (xw_rf (m1 536 23) 17))) (v := (m1 (xw_rf (m1 536 23) 17) p0)) (v' := (xR m1 (xw_rf (m1 536 23) 17) p0)) rfl hB (xw_obd g19) rfl g18 rfl rfl ?_
                    exact q
                  refine xS_if (fun h20 => ?_) (fun h20 => ?_)
                  · refine xS_of (pc' := 200) (L' := [(5, xi (xR m1 (xw_rf (m1 536 23) 16) p0)), (4, xi v1), (0, xa 536), (1, xi p0)]) (st' := [xi 0]) (m' := m1) (fun ex ns r q => ?_) ?_
                    · refine xw_ic_gtT rfl (w32_cg cv1) (w32_cg (w32_xR _ _ _)) h20 ?_
                      refine xw_iconst rfl ?_
                      exact q
                    exact xS_ret (v := 0) rfl rfl (xw_rtZ (Or.inl rfl)) (Or.inl rfl)
                  · refine xS_of (pc' := 200) (L' := [(5, xi (xR m1 (xw_rf (m1 536 23) 16) p0)), (4, xi v1), (0, xa 536), (1, xi p0)]) (st' := [xi 1]) (m' := m1) (fun ex ns r q => ?_) ?_
                    · refine xw_ic_gtF rfl (w32_cg cv1) (w32_cg (w32_xR _ _ _)) h20 ?_
                      refine xw_iconst rfl ?_
                      refine xw_goto rfl ?_
                      exact q
                    exact xS_ret (v := 1) rfl rfl (xw_rtZ (Or.inr rfl)) (Or.inr rfl)
              · refine xS_of (pc' := 207) (L' := [(0, xa 536), (1, xi p0), (4, xi v1), (5, xi (xR m1 (xw_rf (m1 536 23) 16) p0)), (6, xi 0), (7, xi 0)]) (st' := []) (m' := m1) (fun ex ns r q => ?_) ?_
                · refine xw_sw (t := 201) rfl (xw_swd (w32_cg (w32_xR _ _ _)) (by have := h10; have := h11; have := h12; have := h13; have := h14; have := h15; have := h16; omega) rfl) ?_
                  refine xw_iconst rfl ?_
                  refine xw_istore (L' := [(6, xi 0), (5, xi (xR m1 (xw_rf (m1 536 23) 16) p0)), (4, xi v1), (0, xa 536), (1, xi p0)]) rfl (by decide) rfl ?_
                  refine xw_iconst rfl ?_
                  refine xw_istore (L' := [(7, xi 0), (6, xi 0), (5, xi (xR m1 (xw_rf (m1 536 23) 16) p0)), (4, xi v1), (0, xa 536), (1, xi p0)]) rfl (by decide) rfl ?_
                  refine xw_lo (L2 := [(0, xa 536), (1, xi p0), (4, xi v1), (5, xi (xR m1 (xw_rf (m1 536 23) 16) p0)), (6, xi 0), (7, xi 0)]) (List.forall_mem_cons.mpr ⟨rfl, List.forall_mem_cons.mpr ⟨rfl, List.forall_mem_cons.mpr ⟨rfl, List.forall_mem_cons.mpr ⟨rfl, List.forall_mem_cons.mpr ⟨rfl, List.forall_mem_cons.mpr ⟨rfl, fun _ h => absurd h List.not_mem_nil⟩⟩⟩⟩⟩⟩) ?_
                  exact q
                exact ygl288_207 hB 1000000 _ _ _ _ _ _ cp0 cv1 (w32_xR _ _ _) rfl rfl
theorem ysl287_4 {B : Nat} (hB : B ≤ 512) {xs : Nat → Int32} {SL d : Nat} {r4 : Int → Int → Int → xw_M → xP} (hr4 : ∀ x1 x2 x3 m, w32 x1 = x1 → w32 x2 = x2 → w32 x3 = x3 → xS B xs SL (d + 2) 287 (5, (some .boolean), [], 13) 4 4 [(0, xa 536), (1, xi x1), (2, xi x2), (3, xi x3)] [] m (r4 x1 x2 x3 m)) : ∀ x1 x2 x3 m, w32 x1 = x1 → w32 x2 = x2 → w32 x3 = x3 → xS B xs SL (d + 2) 287 (5, (some .boolean), [], 13) 4 4 [(0, xa 536), (1, xi x1), (2, xi x2), (3, xi x3)] [] m (yl287_4 B r4 x1 x2 x3 m) := by
  intro x1 x2 x3 m c1 c2 c3
  unfold yl287_4
  refine xS_g (fun g0 => ?_)
  refine xS_of (pc' := 12) (L' := [(0, xa 536), (1, xi x1), (2, xi x2), (3, xi x3)]) (st' := [xi (xR m (m 536 23) 11), xi x3]) (m' := m) (fun ex ns r q => ?_) ?_
  · refine xw_iload_n rfl rfl ?_
    refine xw_aload_n rfl rfl rfl ?_
    refine xw_gfM (v := (m 536 23)) rfl (xw_obd (by decide +kernel)) xk12_23 (qi := 23) rfl rfl ?_
    refine xw_gfIc (v := (m (m 536 23) 11)) (v' := (xR m (m 536 23) 11)) rfl (xw_obd g0) xk13_11 (qi := 11) rfl rfl rfl ?_
    exact q
  refine xS_if (fun h1 => ?_) (fun h1 => ?_)
  · refine xS_g (fun g2 => ?_)
    refine xS_g (fun g3 => ?_)
    refine xS_of (pc' := 28) (L' := [(4, xi (xR m (xw_rf (m 536 23) 12) x3)), (0, xa 536), (1, xi x1), (2, xi x2), (3, xi x3)]) (st' := [xi (xR m (xw_rf (m 536 23) 12) x3)]) (m' := m) (fun ex ns r q => ?_) ?_
    · refine xw_ic_geF rfl (w32_cg c3) (w32_cg (w32_xR _ _ _)) (Int.not_le.mpr h1) ?_
      refine xw_aload_n rfl rfl rfl ?_
      refine xw_gfM (v := (m 536 23)) rfl (xw_obd (by decide +kernel)) xk12_23 (qi := 23) rfl rfl ?_
      refine xw_gfV (qi := 12) rfl (xw_obd g0) xk13_12 rfl ?_
      refine xw_iload_n rfl rfl ?_
      refine xw_ialdc (n := (xw_le B (xw_rf (m 536 23) 12))) (v := (m (xw_rf (m 536 23) 12) x3)) (v' := (xR m (xw_rf (m 536 23) 12) x3)) rfl hB (xw_obd g3) rfl g2 rfl rfl ?_
      refine xw_istore (L' := [(4, xi (xR m (xw_rf (m 536 23) 12) x3)), (0, xa 536), (1, xi x1), (2, xi x2), (3, xi x3)]) rfl (by decide) rfl ?_
      refine xw_iload rfl rfl ?_
      exact q
    refine xS_if (fun h4 => ?_) (fun h4 => ?_)
    · refine xS_of (pc' := 53) (L' := [(4, xi (xR m (xw_rf (m 536 23) 12) x3)), (0, xa 536), (1, xi x1), (2, xi x2), (3, xi x3)]) (st' := [xi (-1), xi (xR m (xw_rf (m 536 23) 12) x3)]) (m' := m) (fun ex ns r q => ?_) ?_
      · refine xw_if_ltT rfl (w32_cg (w32_xR _ _ _)) h4 ?_
        refine xw_iload rfl rfl ?_
        refine xw_iconst rfl ?_
        exact q
      refine xS_if (fun h5 => ?_) (fun h5 => ?_)
      · refine xS_g (fun g6 => ?_)
        refine xS_of (pc' := 71) (L' := [(4, xi (xR m (xw_rf (m 536 23) 12) x3)), (0, xa 536), (1, xi x1), (2, xi x2), (3, xi x3)]) (st' := [xi (xR m 572 (x2 - 1)), xi (x2 - 1), xa 572]) (m' := m) (fun ex ns r q => ?_) ?_
        · refine xw_ic_neF rfl (w32_cg (w32_xR _ _ _)) (w32_cg rfl) h5 ?_
          refine xw_aload_n rfl rfl rfl ?_
          refine xw_gfR (n := 572) (e := 572) rfl (xw_obd (by decide +kernel)) (by decide +kernel) (by decide +kernel) rfl ?_
          refine xw_iload_n rfl rfl ?_
          refine xw_iconst rfl ?_
          refine xw_isub rfl ?_
          refine xw_aload_n rfl rfl rfl ?_
          refine xw_gfR (n := 572) (e := 572) rfl (xw_obd (by decide +kernel)) (by decide +kernel) (by decide +kernel) rfl ?_
          refine xw_iload_n rfl rfl ?_
          refine xw_iconst rfl ?_
          refine xw_isub rfl ?_
          refine xw_zaldc (n := 64) (v := (m 572 (x2 - 1))) (v' := (xR m 572 (x2 - 1))) rfl hB (xw_obd (by decide +kernel)) rfl g6 rfl rfl ?_
          exact q
        refine xS_if (fun h7 => ?_) (fun h7 => ?_)
        · refine xS_of (pc' := 4) (L' := [(0, xa 536), (1, xi x1), (2, xi x2), (3, xi (w32 (x3 + 1)))]) (st' := []) (m' := (xw_u m 572 (x2 - 1) 1)) (fun ex ns r q => ?_) ?_
          · refine xw_if_neF rfl (w32_cg (w32_xR _ _ _)) h7 ?_
            refine xw_iconst rfl ?_
            refine xw_goto rfl ?_
            refine xw_zast (n := 64) rfl hB (xw_obd (by decide +kernel)) rfl g6 (Or.inr rfl) ?_
            refine xw_goto rfl ?_
            refine xw_iincc (z := (w32 (x3 + 1))) (L' := [(3, xi (w32 (x3 + 1))), (4, xi (xR m (xw_rf (m 536 23) 12) x3)), (0, xa 536), (1, xi x1), (2, xi x2)]) rfl rfl (by decide) rfl rfl ?_
            refine xw_goto rfl ?_
            refine xw_lo (L2 := [(0, xa 536), (1, xi x1), (2, xi x2), (3, xi (w32 (x3 + 1)))]) (List.forall_mem_cons.mpr ⟨rfl, List.forall_mem_cons.mpr ⟨rfl, List.forall_mem_cons.mpr ⟨rfl, List.forall_mem_cons.mpr ⟨rfl, fun _ h => absurd h List.not_mem_nil⟩⟩⟩⟩) ?_
            exact q
          exact hr4 _ _ _ _ c1 c2 (w32_w _)
        · refine xS_of (pc' := 4) (L' := [(0, xa 536), (1, xi x1), (2, xi x2), (3, xi (w32 (x3 + 1)))]) (st' := []) (m' := (xw_u m 572 (x2 - 1) 0)) (fun ex ns r q => ?_) ?_
          · refine xw_if_neT rfl (w32_cg (w32_xR _ _ _)) h7 ?_
            refine xw_iconst rfl ?_
            refine xw_zast (n := 64) rfl hB (xw_obd (by decide +kernel)) rfl g6 (Or.inl rfl) ?_
            refine xw_goto rfl ?_
            refine xw_iincc (z := (w32 (x3 + 1))) (L' := [(3, xi (w32 (x3 + 1))), (4, xi (xR m (xw_rf (m 536 23) 12) x3)), (0, xa 536), (1, xi x1), (2, xi x2)]) rfl rfl (by decide) rfl rfl ?_
            refine xw_goto rfl ?_
            refine xw_lo (L2 := [(0, xa 536), (1, xi x1), (2, xi x2), (3, xi (w32 (x3 + 1)))]) (List.forall_mem_cons.mpr ⟨rfl, List.forall_mem_cons.mpr ⟨rfl, List.forall_mem_cons.mpr ⟨rfl, List.forall_mem_cons.mpr ⟨rfl, fun _ h => absurd h List.not_mem_nil⟩⟩⟩⟩) ?_
            exact q
          exact hr4 _ _ _ _ c1 c2 (w32_w _)
      · refine xS_of (pc' := 94) (L' := [(4, xi (xR m (xw_rf (m 536 23) 12) x3)), (0, xa 536), (1, xi x1), (2, xi x2), (3, xi x3)]) (st' := [xi (-2), xi (xR m (xw_rf (m 536 23) 12) x3), xi (x2 - 2), xa 572]) (m' := m) (fun ex ns r q => ?_) ?_
        · refine xw_ic_neT rfl (w32_cg (w32_xR _ _ _)) (w32_cg rfl) h5 ?_
          refine xw_aload_n rfl rfl rfl ?_
          refine xw_gfR (n := 572) (e := 572) rfl (xw_obd (by decide +kernel)) (by decide +kernel) (by decide +kernel) rfl ?_
          refine xw_iload_n rfl rfl ?_
          refine xw_iconst rfl ?_
          refine xw_isub rfl ?_
          refine xw_iload rfl rfl ?_
          refine xw_bipush (e := (-2)) rfl (by decide +kernel) ?_
          exact q
        refine xS_if (fun h6 => ?_) (fun h6 => ?_)
        · refine xS_g (fun g7 => ?_)
          refine xS_of (pc' := 105) (L' := [(4, xi (xR m (xw_rf (m 536 23) 12) x3)), (0, xa 536), (1, xi x1), (2, xi x2), (3, xi x3)]) (st' := [xi (xR m 572 (x2 - 2)), xi (x2 - 2), xa 572]) (m' := m) (fun ex ns r q => ?_) ?_
          · refine xw_ic_neF rfl (w32_cg (w32_xR _ _ _)) (w32_cg rfl) h6 ?_
            refine xw_aload_n rfl rfl rfl ?_
            refine xw_gfR (n := 572) (e := 572) rfl (xw_obd (by decide +kernel)) (by decide +kernel) (by decide +kernel) rfl ?_
            refine xw_iload_n rfl rfl ?_
            refine xw_iconst rfl ?_
            refine xw_isub rfl ?_
            refine xw_zaldc (n := 64) (v := (m 572 (x2 - 2))) (v' := (xR m 572 (x2 - 2))) rfl hB (xw_obd (by decide +kernel)) rfl g7 rfl rfl ?_
            exact q
          refine xS_if (fun h8 => ?_) (fun h8 => ?_)
          · refine xS_of (pc' := 4) (L' := [(0, xa 536), (1, xi x1), (2, xi (w32 (x2 + (-1)))), (3, xi (w32 (x3 + 1)))]) (st' := []) (m' := (xw_u m 572 (x2 - 2) 0)) (fun ex ns r q => ?_) ?_
            · refine xw_if_eqT rfl (w32_cg (w32_xR _ _ _)) h8 ?_
              refine xw_iconst rfl ?_
              refine xw_goto rfl ?_
              refine xw_zast (n := 64) rfl hB (xw_obd (by decide +kernel)) rfl g7 (Or.inl rfl) ?_
              refine xw_iincc (z := (w32 (x2 + (-1)))) (L' := [(2, xi (w32 (x2 + (-1)))), (4, xi (xR m (xw_rf (m 536 23) 12) x3)), (0, xa 536), (1, xi x1), (3, xi x3)]) rfl rfl (by decide) rfl rfl ?_
              refine xw_iincc (z := (w32 (x3 + 1))) (L' := [(3, xi (w32 (x3 + 1))), (2, xi (w32 (x2 + (-1)))), (4, xi (xR m (xw_rf (m 536 23) 12) x3)), (0, xa 536), (1, xi x1)]) rfl rfl (by decide) rfl rfl ?_
              refine xw_goto rfl ?_
              refine xw_lo (L2 := [(0, xa 536), (1, xi x1), (2, xi (w32 (x2 + (-1)))), (3, xi (w32 (x3 + 1)))]) (List.forall_mem_cons.mpr ⟨rfl, List.forall_mem_cons.mpr ⟨rfl, List.forall_mem_cons.mpr ⟨rfl, List.forall_mem_cons.mpr ⟨rfl, fun _ h => absurd h List.not_mem_nil⟩⟩⟩⟩) ?_
              exact q
            exact hr4 _ _ _ _ c1 (w32_w _) (w32_w _)
          · refine xS_g (fun g9 => ?_)
            refine xS_of (pc' := 116) (L' := [(4, xi (xR m (xw_rf (m 536 23) 12) x3)), (0, xa 536), (1, xi x1), (2, xi x2), (3, xi x3)]) (st' := [xi (xR m 572 (x2 - 1)), xi (x2 - 2), xa 572]) (m' := m) (fun ex ns r q => ?_) ?_
            · refine xw_if_eqF rfl (w32_cg (w32_xR _ _ _)) h8 ?_
              refine xw_aload_n rfl rfl rfl ?_
              refine xw_gfR (n := 572) (e := 572) rfl (xw_obd (by decide +kernel)) (by decide +kernel) (by decide +kernel) rfl ?_
              refine xw_iload_n rfl rfl ?_
              refine xw_iconst rfl ?_
              refine xw_isub rfl ?_
              refine xw_zaldc (n := 64) (v := (m 572 (x2 - 1))) (v' := (xR m 572 (x2 - 1))) rfl hB (xw_obd (by decide +kernel)) rfl g9 rfl rfl ?_
              exact q
            refine xS_if (fun h10 => ?_) (fun h10 => ?_)
            · refine xS_of (pc' := 4) (L' := [(0, xa 536), (1, xi x1), (2, xi (w32 (x2 + (-1)))), (3, xi (w32 (x3 + 1)))]) (st' := []) (m' := (xw_u m 572 (x2 - 2) 0)) (fun ex ns r q => ?_) ?_
              · refine xw_if_eqT rfl (w32_cg (w32_xR _ _ _)) h10 ?_
                refine xw_iconst rfl ?_
                refine xw_goto rfl ?_
                refine xw_zast (n := 64) rfl hB (xw_obd (by decide +kernel)) rfl g7 (Or.inl rfl) ?_
                refine xw_iincc (z := (w32 (x2 + (-1)))) (L' := [(2, xi (w32 (x2 + (-1)))), (4, xi (xR m (xw_rf (m 536 23) 12) x3)), (0, xa 536), (1, xi x1), (3, xi x3)]) rfl rfl (by decide) rfl rfl ?_
                refine xw_iincc (z := (w32 (x3 + 1))) (L' := [(3, xi (w32 (x3 + 1))), (2, xi (w32 (x2 + (-1)))), (4, xi (xR m (xw_rf (m 536 23) 12) x3)), (0, xa 536), (1, xi x1)]) rfl rfl (by decide) rfl rfl ?_
                refine xw_goto rfl ?_
                refine xw_lo (L2 := [(0, xa 536), (1, xi x1), (2, xi (w32 (x2 + (-1)))), (3, xi (w32 (x3 + 1)))]) (List.forall_mem_cons.mpr ⟨rfl, List.forall_mem_cons.mpr ⟨rfl, List.forall_mem_cons.mpr ⟨rfl, List.forall_mem_cons.mpr ⟨rfl, fun _ h => absurd h List.not_mem_nil⟩⟩⟩⟩) ?_
                exact q
              exact hr4 _ _ _ _ c1 (w32_w _) (w32_w _)
            · refine xS_of (pc' := 4) (L' := [(0, xa 536), (1, xi x1), (2, xi (w32 (x2 + (-1)))), (3, xi (w32 (x3 + 1)))]) (st' := []) (m' := (xw_u m 572 (x2 - 2) 1)) (fun ex ns r q => ?_) ?_
              · refine xw_if_eqF rfl (w32_cg (w32_xR _ _ _)) h10 ?_
                refine xw_iconst rfl ?_
                refine xw_goto rfl ?_
                refine xw_zast (n := 64) rfl hB (xw_obd (by decide +kernel)) rfl g7 (Or.inr rfl) ?_
                refine xw_iincc (z := (w32 (x2 + (-1)))) (L' := [(2, xi (w32 (x2 + (-1)))), (4, xi (xR m (xw_rf (m 536 23) 12) x3)), (0, xa 536), (1, xi x1), (3, xi x3)]) rfl rfl (by decide) rfl rfl ?_
                refine xw_iincc (z := (w32 (x3 + 1))) (L' := [(3, xi (w32 (x3 + 1))), (2, xi (w32 (x2 + (-1)))), (4, xi (xR m (xw_rf (m 536 23) 12) x3)), (0, xa 536), (1, xi x1)]) rfl rfl (by decide) rfl rfl ?_
                refine xw_goto rfl ?_
                refine xw_lo (L2 := [(0, xa 536), (1, xi x1), (2, xi (w32 (x2 + (-1)))), (3, xi (w32 (x3 + 1)))]) (List.forall_mem_cons.mpr ⟨rfl, List.forall_mem_cons.mpr ⟨rfl, List.forall_mem_cons.mpr ⟨rfl, List.forall_mem_cons.mpr ⟨rfl, fun _ h => absurd h List.not_mem_nil⟩⟩⟩⟩) ?_
                exact q
              exact hr4 _ _ _ _ c1 (w32_w _) (w32_w _)
        · refine xS_g (fun g7 => ?_)
          refine xS_of (pc' := 135) (L' := [(4, xi (xR m (xw_rf (m 536 23) 12) x3)), (0, xa 536), (1, xi x1), (2, xi x2), (3, xi x3)]) (st' := [xi (xR m 572 (x2 - 2)), xi (x2 - 2), xa 572]) (m' := m) (fun ex ns r q => ?_) ?_
          · refine xw_ic_neT rfl (w32_cg (w32_xR _ _ _)) (w32_cg rfl) h6 ?_
            refine xw_aload_n rfl rfl rfl ?_
            refine xw_gfR (n := 572) (e := 572) rfl (xw_obd (by decide +kernel)) (by decide +kernel) (by decide +kernel) rfl ?_
            refine xw_iload_n rfl rfl ?_
            refine xw_iconst rfl ?_
            refine xw_isub rfl ?_
            refine xw_zaldc (n := 64) (v := (m 572 (x2 - 2))) (v' := (xR m 572 (x2 - 2))) rfl hB (xw_obd (by decide +kernel)) rfl g7 rfl rfl ?_
            exact q
          refine xS_if (fun h8 => ?_) (fun h8 => ?_)
          · refine xS_g (fun g9 => ?_)
            refine xS_of (pc' := 146) (L' := [(4, xi (xR m (xw_rf (m 536 23) 12) x3)), (0, xa 536), (1, xi x1), (2, xi x2), (3, xi x3)]) (st' := [xi (xR m 572 (x2 - 1)), xi (x2 - 2), xa 572]) (m' := m) (fun ex ns r q => ?_) ?_
            · refine xw_if_neF rfl (w32_cg (w32_xR _ _ _)) h8 ?_
              refine xw_aload_n rfl rfl rfl ?_
              refine xw_gfR (n := 572) (e := 572) rfl (xw_obd (by decide +kernel)) (by decide +kernel) (by decide +kernel) rfl ?_
              refine xw_iload_n rfl rfl ?_
              refine xw_iconst rfl ?_
              refine xw_isub rfl ?_
              refine xw_zaldc (n := 64) (v := (m 572 (x2 - 1))) (v' := (xR m 572 (x2 - 1))) rfl hB (xw_obd (by decide +kernel)) rfl g9 rfl rfl ?_
              exact q
            refine xS_if (fun h10 => ?_) (fun h10 => ?_)
            · refine xS_of (pc' := 4) (L' := [(0, xa 536), (1, xi x1), (2, xi (w32 (x2 + (-1)))), (3, xi (w32 (x3 + 1)))]) (st' := []) (m' := (xw_u m 572 (x2 - 2) 0)) (fun ex ns r q => ?_) ?_
              · refine xw_if_eqT rfl (w32_cg (w32_xR _ _ _)) h10 ?_
                refine xw_iconst rfl ?_
                refine xw_zast (n := 64) rfl hB (xw_obd (by decide +kernel)) rfl g7 (Or.inl rfl) ?_
                refine xw_iincc (z := (w32 (x2 + (-1)))) (L' := [(2, xi (w32 (x2 + (-1)))), (4, xi (xR m (xw_rf (m 536 23) 12) x3)), (0, xa 536), (1, xi x1), (3, xi x3)]) rfl rfl (by decide) rfl rfl ?_
                refine xw_iincc (z := (w32 (x3 + 1))) (L' := [(3, xi (w32 (x3 + 1))), (2, xi (w32 (x2 + (-1)))), (4, xi (xR m (xw_rf (m 536 23) 12) x3)), (0, xa 536), (1, xi x1)]) rfl rfl (by decide) rfl rfl ?_
                refine xw_goto rfl ?_
                refine xw_lo (L2 := [(0, xa 536), (1, xi x1), (2, xi (w32 (x2 + (-1)))), (3, xi (w32 (x3 + 1)))]) (List.forall_mem_cons.mpr ⟨rfl, List.forall_mem_cons.mpr ⟨rfl, List.forall_mem_cons.mpr ⟨rfl, List.forall_mem_cons.mpr ⟨rfl, fun _ h => absurd h List.not_mem_nil⟩⟩⟩⟩) ?_
                exact q
              exact hr4 _ _ _ _ c1 (w32_w _) (w32_w _)
            · refine xS_of (pc' := 4) (L' := [(0, xa 536), (1, xi x1), (2, xi (w32 (x2 + (-1)))), (3, xi (w32 (x3 + 1)))]) (st' := []) (m' := (xw_u m 572 (x2 - 2) 1)) (fun ex ns r q => ?_) ?_
              · refine xw_if_eqF rfl (w32_cg (w32_xR _ _ _)) h10 ?_
                refine xw_iconst rfl ?_
                refine xw_goto rfl ?_
                refine xw_zast (n := 64) rfl hB (xw_obd (by decide +kernel)) rfl g7 (Or.inr rfl) ?_
                refine xw_iincc (z := (w32 (x2 + (-1)))) (L' := [(2, xi (w32 (x2 + (-1)))), (4, xi (xR m (xw_rf (m 536 23) 12) x3)), (0, xa 536), (1, xi x1), (3, xi x3)]) rfl rfl (by decide) rfl rfl ?_
                refine xw_iincc (z := (w32 (x3 + 1))) (L' := [(3, xi (w32 (x3 + 1))), (2, xi (w32 (x2 + (-1)))), (4, xi (xR m (xw_rf (m 536 23) 12) x3)), (0, xa 536), (1, xi x1)]) rfl rfl (by decide) rfl rfl ?_
                refine xw_goto rfl ?_
                refine xw_lo (L2 := [(0, xa 536), (1, xi x1), (2, xi (w32 (x2 + (-1)))), (3, xi (w32 (x3 + 1)))]) (List.forall_mem_cons.mpr ⟨rfl, List.forall_mem_cons.mpr ⟨rfl, List.forall_mem_cons.mpr ⟨rfl, List.forall_mem_cons.mpr ⟨rfl, fun _ h => absurd h List.not_mem_nil⟩⟩⟩⟩) ?_
                exact q
              exact hr4 _ _ _ _ c1 (w32_w _) (w32_w _)
          · refine xS_of (pc' := 4) (L' := [(0, xa 536), (1, xi x1), (2, xi (w32 (x2 + (-1)))), (3, xi (w32 (x3 + 1)))]) (st' := []) (m' := (xw_u m 572 (x2 - 2) 1)) (fun ex ns r q => ?_) ?_
            · refine xw_if_neT rfl (w32_cg (w32_xR _ _ _)) h8 ?_
              refine xw_iconst rfl ?_
              refine xw_goto rfl ?_
              refine xw_zast (n := 64) rfl hB (xw_obd (by decide +kernel)) rfl g7 (Or.inr rfl) ?_
              refine xw_iincc (z := (w32 (x2 + (-1)))) (L' := [(2, xi (w32 (x2 + (-1)))), (4, xi (xR m (xw_rf (m 536 23) 12) x3)), (0, xa 536), (1, xi x1), (3, xi x3)]) rfl rfl (by decide) rfl rfl ?_
              refine xw_iincc (z := (w32 (x3 + 1))) (L' := [(3, xi (w32 (x3 + 1))), (2, xi (w32 (x2 + (-1)))), (4, xi (xR m (xw_rf (m 536 23) 12) x3)), (0, xa 536), (1, xi x1)]) rfl rfl (by decide) rfl rfl ?_
              refine xw_goto rfl ?_
              refine xw_lo (L2 := [(0, xa 536), (1, xi x1), (2, xi (w32 (x2 + (-1)))), (3, xi (w32 (x3 + 1)))]) (List.forall_mem_cons.mpr ⟨rfl, List.forall_mem_cons.mpr ⟨rfl, List.forall_mem_cons.mpr ⟨rfl, List.forall_mem_cons.mpr ⟨rfl, fun _ h => absurd h List.not_mem_nil⟩⟩⟩⟩) ?_
              exact q
            exact hr4 _ _ _ _ c1 (w32_w _) (w32_w _)
    · refine xS_of (pc' := 40) (L' := [(0, xa 536), (1, xi x1), (2, xi x2), (3, xi x3)]) (st' := [xi x1, xi (xR m (xw_rf (m 536 23) 12) x3), xa 536, xi x2, xa 572]) (m' := m) (fun ex ns r q => ?_) ?_
      · refine xw_if_ltF rfl (w32_cg (w32_xR _ _ _)) h4 ?_
        refine xw_aload_n rfl rfl rfl ?_
        refine xw_gfR (n := 572) (e := 572) rfl (xw_obd (by decide +kernel)) (by decide +kernel) (by decide +kernel) rfl ?_
        refine xw_iload_n rfl rfl ?_
        refine xw_aload_n rfl rfl rfl ?_
        refine xw_iload rfl rfl ?_
        refine xw_iload_n rfl rfl ?_
        refine xw_lo (L2 := [(0, xa 536), (1, xi x1), (2, xi x2), (3, xi x3)]) (List.forall_mem_cons.mpr ⟨rfl, List.forall_mem_cons.mpr ⟨rfl, List.forall_mem_cons.mpr ⟨rfl, List.forall_mem_cons.mpr ⟨rfl, fun _ h => absurd h List.not_mem_nil⟩⟩⟩⟩) ?_
        exact q
      refine xS_call (q := 288) (n := 3) (kq := 4) (as := [xa 536, xi (xR m (xw_rf (m 536 23) 12) x3), xi x1]) (st1 := [xi x2, xa 572]) rfl rfl rfl rfl rfl rfl rfl rfl rfl rfl (fun _ => xw_rcv1 (t := 12) (xw_obd (by decide +kernel)) rfl) rfl (List.forall_mem_cons.mpr ⟨rfl, List.forall_mem_cons.mpr ⟨rfl, List.forall_mem_cons.mpr ⟨rfl, fun _ h => absurd h List.not_mem_nil⟩⟩⟩) (ygf288 hB _ _ _ (w32_xR _ _ _) c1) (fun v1 m1 cv1 => ?_)
      refine xS_g (fun g5 => ?_)
      refine xS_of (pc' := 4) (L' := [(0, xa 536), (1, xi x1), (2, xi (w32 (x2 + 1))), (3, xi (w32 (x3 + 1)))]) (st' := []) (m' := (xw_u m1 572 x2 v1)) (fun ex ns r q => ?_) ?_
      · refine xw_zast (n := 64) rfl hB (xw_obd (by decide +kernel)) rfl g5 cv1 ?_
        refine xw_iincc (z := (w32 (x2 + 1))) (L' := [(2, xi (w32 (x2 + 1))), (0, xa 536), (1, xi x1), (3, xi x3)]) rfl rfl (by decide) rfl rfl ?_
        refine xw_goto rfl ?_
        refine xw_iincc (z := (w32 (x3 + 1))) (L' := [(3, xi (w32 (x3 + 1))), (2, xi (w32 (x2 + 1))), (0, xa 536), (1, xi x1)]) rfl rfl (by decide) rfl rfl ?_
        refine xw_goto rfl ?_
        refine xw_lo (L2 := [(0, xa 536), (1, xi x1), (2, xi (w32 (x2 + 1))), (3, xi (w32 (x3 + 1)))]) (List.forall_mem_cons.mpr ⟨rfl, List.forall_mem_cons.mpr ⟨rfl, List.forall_mem_cons.mpr ⟨rfl, List.forall_mem_cons.mpr ⟨rfl, fun _ h => absurd h List.not_mem_nil⟩⟩⟩⟩) ?_
        exact q
      exact hr4 _ _ _ _ c1 (w32_w _) (w32_w _)
  · refine xS_of (pc' := 165) (L' := [(0, xa 536), (1, xi x1), (2, xi x2), (3, xi x3)]) (st' := [xi x2]) (m' := m) (fun ex ns r q => ?_) ?_
    · refine xw_ic_geT rfl (w32_cg c3) (w32_cg (w32_xR _ _ _)) (Int.not_lt.mp h1) ?_
      refine xw_iload_n rfl rfl ?_
      exact q
    refine xS_if (fun h2 => ?_) (fun h2 => ?_)
    · refine xS_of (pc' := 182) (L' := [(0, xa 536), (1, xi x1), (2, xi x2), (3, xi x3)]) (st' := [xi 1]) (m' := m) (fun ex ns r q => ?_) ?_
      · refine xw_if_eqT rfl (w32_cg c2) h2 ?_
        refine xw_iconst rfl ?_
        refine xw_goto rfl ?_
        exact q
      exact xS_ret (v := 1) rfl rfl (xw_rtZ (Or.inr rfl)) (Or.inr rfl)
    · refine xS_of (pc' := 174) (L' := [(0, xa 536), (1, xi x1), (2, xi x2), (3, xi x3)]) (st' := [xi (xR m 572 0)]) (m' := m) (fun ex ns r q => ?_) ?_
      · refine xw_if_eqF rfl (w32_cg c2) h2 ?_
        refine xw_aload_n rfl rfl rfl ?_
        refine xw_gfR (n := 572) (e := 572) rfl (xw_obd (by decide +kernel)) (by decide +kernel) (by decide +kernel) rfl ?_
        refine xw_iconst rfl ?_
        refine xw_zaldc (n := 64) (v := (m 572 0)) (v' := (xR m 572 0)) rfl hB (xw_obd (by decide +kernel)) rfl ⟨by decide, by decide⟩ rfl rfl ?_
        exact q
      refine xS_if (fun h3 => ?_) (fun h3 => ?_)
      · refine xS_of (pc' := 182) (L' := [(0, xa 536), (1, xi x1), (2, xi x2), (3, xi x3)]) (st' := [xi 0]) (m' := m) (fun ex ns r q => ?_) ?_
        · refine xw_if_eqT rfl (w32_cg (w32_xR _ _ _)) h3 ?_
          refine xw_iconst rfl ?_
          exact q
        exact xS_ret (v := 0) rfl rfl (xw_rtZ (Or.inl rfl)) (Or.inl rfl)
      · refine xS_of (pc' := 182) (L' := [(0, xa 536), (1, xi x1), (2, xi x2), (3, xi x3)]) (st' := [xi 1]) (m' := m) (fun ex ns r q => ?_) ?_
        · refine xw_if_eqF rfl (w32_cg (w32_xR _ _ _)) h3 ?_
          refine xw_iconst rfl ?_
          refine xw_goto rfl ?_
          exact q
        exact xS_ret (v := 1) rfl rfl (xw_rtZ (Or.inr rfl)) (Or.inr rfl)
theorem ygl287_4 {B : Nat} (hB : B ≤ 512) {xs : Nat → Int32} {SL d : Nat} : ∀ n x1 x2 x3 m, w32 x1 = x1 → w32 x2 = x2 → w32 x3 = x3 → xS B xs SL (d + 2) 287 (5, (some .boolean), [], 13) 4 4 [(0, xa 536), (1, xi x1), (2, xi x2), (3, xi x3)] [] m (xl3 (yl287_4 B) n x1 x2 x3 m) := by
  intro n
  induction n with
  | zero => intro x1 x2 x3 m c1 c2 c3; exact xS_none
  | succ n ih => exact ysl287_4 hB ih
theorem ygf287 {B : Nat} (hB : B ≤ 512) {xs : Nat → Int32} {SL d : Nat} : ∀ p0 m, w32 p0 = p0 → xS B xs SL (d + 2) 287 (5, (some .boolean), [], 13) 4 0 [(0, xa 536), (1, xi p0)] [] m (yf287 B p0 m) := by
  intro p0 m cp0
  unfold yf287
  refine xS_of (pc' := 4) (L' := [(0, xa 536), (1, xi p0), (2, xi 0), (3, xi 0)]) (st' := []) (m' := m) (fun ex ns r q => ?_) ?_
  · refine xw_iconst rfl ?_
    refine xw_istore_n (L' := [(2, xi 0), (0, xa 536), (1, xi p0)]) rfl (by decide) rfl ?_
    refine xw_iconst rfl ?_
    refine xw_istore_n (L' := [(3, xi 0), (2, xi 0), (0, xa 536), (1, xi p0)]) rfl (by decide) rfl ?_
    refine xw_lo (L2 := [(0, xa 536), (1, xi p0), (2, xi 0), (3, xi 0)]) (List.forall_mem_cons.mpr ⟨rfl, List.forall_mem_cons.mpr ⟨rfl, List.forall_mem_cons.mpr ⟨rfl, List.forall_mem_cons.mpr ⟨rfl, fun _ h => absurd h List.not_mem_nil⟩⟩⟩⟩) ?_
    exact q
  exact ygl287_4 hB 1000000 _ _ _ _ cp0 rfl rfl
theorem ysl286_7 {B : Nat} (hB : B ≤ 512) {xs : Nat → Int32} {SL d : Nat} {r7 : Int → xw_M → xP} (hr7 : ∀ x1 m, w32 x1 = x1 → xS B xs SL (d + 3) 286 (2, none, [], 13) 0 7 [(0, xa 536), (1, xi x1)] [] m (r7 x1 m)) : ∀ x1 m, w32 x1 = x1 → xS B xs SL (d + 3) 286 (2, none, [], 13) 0 7 [(0, xa 536), (1, xi x1)] [] m (yl286_7 B r7 x1 m) := by
  intro x1 m c1
  unfold yl286_7
  refine xS_of (pc' := 12) (L' := [(0, xa 536), (1, xi x1)]) (st' := [xi (xR m 536 31), xi x1]) (m' := m) (fun ex ns r q => ?_) ?_
  · refine xw_iload_n rfl rfl ?_
    refine xw_aload_n rfl rfl rfl ?_
    refine xw_gfIc (v := (m 536 31)) (v' := (xR m 536 31)) rfl (xw_obd (by decide +kernel)) xk12_31 (qi := 31) rfl rfl rfl ?_
    exact q
  refine xS_if (fun h0 => ?_) (fun h0 => ?_)
  · refine xS_of (pc' := 17) (L' := [(0, xa 536), (1, xi x1)]) (st' := [xi x1, xa 536]) (m' := m) (fun ex ns r q => ?_) ?_
    · refine xw_ic_geF rfl (w32_cg c1) (w32_cg (w32_xR _ _ _)) (Int.not_le.mpr h0) ?_
      refine xw_aload_n rfl rfl rfl ?_
      refine xw_iload_n rfl rfl ?_
      refine xw_lo (L2 := [(0, xa 536), (1, xi x1)]) (List.forall_mem_cons.mpr ⟨rfl, List.forall_mem_cons.mpr ⟨rfl, fun _ h => absurd h List.not_mem_nil⟩⟩) ?_
      exact q
    refine xS_call (q := 287) (n := 2) (kq := 4) (as := [xa 536, xi x1]) (st1 := []) rfl rfl rfl rfl rfl rfl rfl rfl rfl rfl (fun _ => xw_rcv1 (t := 12) (xw_obd (by decide +kernel)) rfl) rfl (List.forall_mem_cons.mpr ⟨rfl, List.forall_mem_cons.mpr ⟨rfl, fun _ h => absurd h List.not_mem_nil⟩⟩) (ygf287 hB _ _ c1) (fun v1 m1 cv1 => ?_)
    refine xS_if (fun h1 => ?_) (fun h1 => ?_)
    · refine xS_of (pc' := 7) (L' := [(0, xa 536), (1, xi (w32 (x1 + 1)))]) (st' := []) (m' := m1) (fun ex ns r q => ?_) ?_
      · refine xw_if_eqT rfl (w32_cg (w32_of (xw_zr cv1))) h1 ?_
        refine xw_iincc (z := (w32 (x1 + 1))) (L' := [(1, xi (w32 (x1 + 1))), (0, xa 536)]) rfl rfl (by decide) rfl rfl ?_
        refine xw_goto rfl ?_
        refine xw_lo (L2 := [(0, xa 536), (1, xi (w32 (x1 + 1)))]) (List.forall_mem_cons.mpr ⟨rfl, List.forall_mem_cons.mpr ⟨rfl, fun _ h => absurd h List.not_mem_nil⟩⟩) ?_
        exact q
      exact hr7 _ _ (w32_w _)
    · refine xS_g (fun g2 => ?_)
      refine xS_g (fun g3 => ?_)
      refine xS_of (pc' := 7) (L' := [(0, xa 536), (1, xi (w32 (x1 + 1)))]) (st' := []) (m' := (xw_u (xw_u m1 (m1 536 59) (xR m1 536 58) x1) 536 58 ((xR m1 536 58) + 1))) (fun ex ns r q => ?_) ?_
      · refine xw_if_eqF rfl (w32_cg (w32_of (xw_zr cv1))) h1 ?_
        refine xw_aload_n rfl rfl rfl ?_
        refine xw_gfM (v := (m1 536 59)) rfl (xw_obd (by decide +kernel)) xk12_59 (qi := 59) rfl rfl ?_
        refine xw_aload_n rfl rfl rfl ?_
        refine xw_gfIc (v := (m1 536 58)) (v' := (xR m1 536 58)) rfl (xw_obd (by decide +kernel)) xk12_58 (qi := 58) rfl rfl rfl ?_
        refine xw_iload_n rfl rfl ?_
        refine xw_iast (n := (xw_le B (m1 536 59))) rfl hB (xw_obd g3) rfl g2 ?_
        refine xw_aload_n rfl rfl rfl ?_
        refine xw_dup rfl rfl ?_
        refine xw_gfIc (v := (m1 536 58)) (v' := (xR m1 536 58)) rfl (xw_obd (by decide +kernel)) xk12_58 (qi := 58) rfl (xw_un (xw_obne (t := 16) (t' := 12) (xw_obd g3) (xw_obd (by decide +kernel)) (by decide)) rfl) rfl ?_
        refine xw_iconst rfl ?_
        refine xw_iadd rfl ?_
        refine xw_pfI rfl (xw_obd (by decide +kernel)) xk12_58 (qi := 58) rfl (xw_okI rfl) ?_
        refine xw_iincc (z := (w32 (x1 + 1))) (L' := [(1, xi (w32 (x1 + 1))), (0, xa 536)]) rfl rfl (by decide) rfl rfl ?_
        refine xw_goto rfl ?_
        refine xw_lo (L2 := [(0, xa 536), (1, xi (w32 (x1 + 1)))]) (List.forall_mem_cons.mpr ⟨rfl, List.forall_mem_cons.mpr ⟨rfl, fun _ h => absurd h List.not_mem_nil⟩⟩) ?_
        exact q
      exact hr7 _ _ (w32_w _)
  · refine xS_of (pc' := 49) (L' := [(0, xa 536), (1, xi x1)]) (st' := []) (m' := m) (fun ex ns r q => ?_) ?_
    · refine xw_ic_geT rfl (w32_cg c1) (w32_cg (w32_xR _ _ _)) (Int.not_lt.mp h0) ?_
      exact q
    exact xS_ret (v := 0) rfl rfl rfl rfl
theorem ygl286_7 {B : Nat} (hB : B ≤ 512) {xs : Nat → Int32} {SL d : Nat} : ∀ n x1 m, w32 x1 = x1 → xS B xs SL (d + 3) 286 (2, none, [], 13) 0 7 [(0, xa 536), (1, xi x1)] [] m (xl1 (yl286_7 B) n x1 m) := by
  intro n
  induction n with
  | zero => intro x1 m c1; exact xS_none
  | succ n ih => exact ysl286_7 hB ih
theorem ygf286 {B : Nat} (hB : B ≤ 512) {xs : Nat → Int32} {SL d : Nat} : ∀ m, xS B xs SL (d + 3) 286 (2, none, [], 13) 0 0 [(0, xa 536)] [] m (yf286 B m) := by
  intro m
  unfold yf286
  refine xS_of (pc' := 7) (L' := [(0, xa 536), (1, xi 0)]) (st' := []) (m' := (xw_u m 536 58 0)) (fun ex ns r q => ?_) ?_
  · refine xw_aload_n rfl rfl rfl ?_
    refine xw_iconst rfl ?_
    refine xw_pfI rfl (xw_obd (by decide +kernel)) xk12_58 (qi := 58) rfl (xw_okI rfl) ?_
    refine xw_iconst rfl ?_
    refine xw_istore_n (L' := [(1, xi 0), (0, xa 536)]) rfl (by decide) rfl ?_
    refine xw_lo (L2 := [(0, xa 536), (1, xi 0)]) (List.forall_mem_cons.mpr ⟨rfl, List.forall_mem_cons.mpr ⟨rfl, fun _ h => absurd h List.not_mem_nil⟩⟩) ?_
    exact q
  exact ygl286_7 hB 1000000 _ _ rfl
theorem ysl291_10 {B : Nat} (hB : B ≤ 512) {xs : Nat → Int32} {SL d : Nat} {r10 : Int → Int → Int → xw_M → xP} (hr10 : ∀ x2 x3 x4 m, w32 x2 = x2 → w32 x3 = x3 → w32 x4 = x4 → xS B xs SL (d + 0) 291 (5, (some .int), [], 13) 1 10 [(0, xa 536), (2, xi x2), (3, xi x3), (4, xi x4)] [] m (r10 x2 x3 x4 m)) : ∀ x2 x3 x4 m, w32 x2 = x2 → w32 x3 = x3 → w32 x4 = x4 → xS B xs SL (d + 0) 291 (5, (some .int), [], 13) 1 10 [(0, xa 536), (2, xi x2), (3, xi x3), (4, xi x4)] [] m (yl291_10 B r10 x2 x3 x4 m) := by
  intro x2 x3 x4 m c2 c3 c4
  unfold yl291_10
  refine xS_of (pc' := 13) (L' := [(0, xa 536), (2, xi x2), (3, xi x3), (4, xi x4)]) (st' := [xi x2, xi x4]) (m' := m) (fun ex ns r q => ?_) ?_
  · refine xw_iload rfl rfl ?_
    refine xw_iload_n rfl rfl ?_
    exact q
  refine xS_if (fun h0 => ?_) (fun h0 => ?_)
  · refine xS_g (fun g1 => ?_)
    refine xS_g (fun g2 => ?_)
    refine xS_g (fun g3 => ?_)
    refine xS_of (pc' := 10) (L' := [(0, xa 536), (2, xi x2), (3, xi (x3 / (w32 ((xR m 538 x4) + 1)))), (4, xi (w32 (x4 + (-1))))]) (st' := []) (m' := m) (fun ex ns r q => ?_) ?_
    · refine xw_ic_leF rfl (w32_cg c4) (w32_cg c2) (Int.not_le.mpr h0) ?_
      refine xw_iload_n rfl rfl ?_
      refine xw_aload_n rfl rfl rfl ?_
      refine xw_gfR (n := 538) (e := 538) rfl (xw_obd (by decide +kernel)) (by decide +kernel) (by decide +kernel) rfl ?_
      refine xw_iload rfl rfl ?_
      refine xw_ialdc (n := 8) (v := (m 538 x4)) (v' := (xR m 538 x4)) rfl hB (xw_obd (by decide +kernel)) rfl g1 rfl rfl ?_
      refine xw_iconst rfl ?_
      refine xw_iadd rfl ?_
      refine xw_cst (st' := [xi (w32 ((xR m 538 x4) + 1)), xi x3]) (xw_sc (xi_c rfl) (xw_sc rfl rfl)) ?_
      refine xw_idiv (z := (x3 / (w32 ((xR m 538 x4) + 1)))) rfl (xw_idivn ⟨g3, (w32_cg (w32_w _)).2⟩) (xw_idive ⟨g2, (w32_cg c3).2⟩ ⟨g3, (w32_cg (w32_w _)).2⟩) ?_
      refine xw_istore_n (L' := [(3, xi (x3 / (w32 ((xR m 538 x4) + 1)))), (0, xa 536), (2, xi x2), (4, xi x4)]) rfl (by decide) rfl ?_
      refine xw_iincc (z := (w32 (x4 + (-1)))) (L' := [(4, xi (w32 (x4 + (-1)))), (3, xi (x3 / (w32 ((xR m 538 x4) + 1)))), (0, xa 536), (2, xi x2)]) rfl rfl (by decide) rfl rfl ?_
      refine xw_goto rfl ?_
      refine xw_lo (L2 := [(0, xa 536), (2, xi x2), (3, xi (x3 / (w32 ((xR m 538 x4) + 1)))), (4, xi (w32 (x4 + (-1))))]) (List.forall_mem_cons.mpr ⟨rfl, List.forall_mem_cons.mpr ⟨rfl, List.forall_mem_cons.mpr ⟨rfl, List.forall_mem_cons.mpr ⟨rfl, fun _ h => absurd h List.not_mem_nil⟩⟩⟩⟩) ?_
      exact q
    exact hr10 _ _ _ _ c2 (w32_dv c3 ⟨g2, g3⟩) (w32_w _)
  · refine xS_g (fun g1 => ?_)
    refine xS_g (fun g2 => ?_)
    refine xS_g (fun g3 => ?_)
    refine xS_of (pc' := 44) (L' := [(0, xa 536), (2, xi x2), (3, xi x3), (4, xi x4)]) (st' := [xi (x3 % (w32 ((xR m 538 x2) + 1)))]) (m' := m) (fun ex ns r q => ?_) ?_
    · refine xw_ic_leT rfl (w32_cg c4) (w32_cg c2) (Int.not_lt.mp h0) ?_
      refine xw_iload_n rfl rfl ?_
      refine xw_aload_n rfl rfl rfl ?_
      refine xw_gfR (n := 538) (e := 538) rfl (xw_obd (by decide +kernel)) (by decide +kernel) (by decide +kernel) rfl ?_
      refine xw_iload_n rfl rfl ?_
      refine xw_ialdc (n := 8) (v := (m 538 x2)) (v' := (xR m 538 x2)) rfl hB (xw_obd (by decide +kernel)) rfl g1 rfl rfl ?_
      refine xw_iconst rfl ?_
      refine xw_iadd rfl ?_
      refine xw_cst (st' := [xi (w32 ((xR m 538 x2) + 1)), xi x3]) (xw_sc (xi_c rfl) (xw_sc rfl rfl)) ?_
      refine xw_irem (z := (x3 % (w32 ((xR m 538 x2) + 1)))) rfl (xw_iremn ⟨g3, (w32_cg (w32_w _)).2⟩) (xw_ireme ⟨g2, (w32_cg c3).2⟩ ⟨g3, (w32_cg (w32_w _)).2⟩) ?_
      exact q
    exact xS_ret (v := (x3 % (w32 ((xR m 538 x2) + 1)))) rfl rfl xw_rtI (w32_md (w32_w _) ⟨g2, g3⟩)
theorem ygl291_10 {B : Nat} (hB : B ≤ 512) {xs : Nat → Int32} {SL d : Nat} : ∀ n x2 x3 x4 m, w32 x2 = x2 → w32 x3 = x3 → w32 x4 = x4 → xS B xs SL (d + 0) 291 (5, (some .int), [], 13) 1 10 [(0, xa 536), (2, xi x2), (3, xi x3), (4, xi x4)] [] m (xl3 (yl291_10 B) n x2 x3 x4 m) := by
  intro n
  induction n with
  | zero => intro x2 x3 x4 m c2 c3 c4; exact xS_none
  | succ n ih => exact ysl291_10 hB ih
theorem ygf291 {B : Nat} (hB : B ≤ 512) {xs : Nat → Int32} {SL d : Nat} : ∀ p0 p1 m, w32 p0 = p0 → w32 p1 = p1 → xS B xs SL (d + 0) 291 (5, (some .int), [], 13) 1 0 [(0, xa 536), (1, xi p0), (2, xi p1)] [] m (yf291 B p0 p1 m) := by
  intro p0 p1 m cp0 cp1
  unfold yf291
  refine xS_of (pc' := 10) (L' := [(0, xa 536), (2, xi p1), (3, xi p0), (4, xi (w32 ((xR m 536 14) - 1)))]) (st' := []) (m' := m) (fun ex ns r q => ?_) ?_
  · refine xw_iload_n rfl rfl ?_
    refine xw_istore_n (L' := [(3, xi p0), (0, xa 536), (1, xi p0), (2, xi p1)]) rfl (by decide) rfl ?_
    refine xw_aload_n rfl rfl rfl ?_
    refine xw_gfIc (v := (m 536 14)) (v' := (xR m 536 14)) rfl (xw_obd (by decide +kernel)) xk12_14 (qi := 14) rfl rfl rfl ?_
    refine xw_iconst rfl ?_
    refine xw_isub rfl ?_
    refine xw_cst (st' := [xi (w32 ((xR m 536 14) - 1))]) (xw_sc (xi_c rfl) rfl) ?_
    refine xw_istore (L' := [(4, xi (w32 ((xR m 536 14) - 1))), (3, xi p0), (0, xa 536), (1, xi p0), (2, xi p1)]) rfl (by decide) rfl ?_
    refine xw_lo (L2 := [(0, xa 536), (2, xi p1), (3, xi p0), (4, xi (w32 ((xR m 536 14) - 1)))]) (List.forall_mem_cons.mpr ⟨rfl, List.forall_mem_cons.mpr ⟨rfl, List.forall_mem_cons.mpr ⟨rfl, List.forall_mem_cons.mpr ⟨rfl, fun _ h => absurd h List.not_mem_nil⟩⟩⟩⟩) ?_
    exact q
  exact ygl291_10 hB 1000000 _ _ _ _ cp1 cp0 (w32_w _)
theorem ygf294 {B : Nat} (hB : B ≤ 512) {xs : Nat → Int32} {SL d : Nat} : ∀ p0 p1 m, w32 p0 = p0 → w32 p1 = p1 → xS B xs SL (d + 0) 294 (3, (some .boolean), [], 13) 4 0 [(0, xa 536), (1, xi p0), (2, xi p1)] [] m (yf294 B p0 p1 m) := by
  intro p0 p1 m cp0 cp1
  unfold yf294
  refine xS_of (pc' := 2) (L' := [(0, xa 536), (1, xi p0), (2, xi p1)]) (st' := [xi (-1), xi p0]) (m' := m) (fun ex ns r q => ?_) ?_
  · refine xw_iload_n rfl rfl ?_
    refine xw_iconst rfl ?_
    exact q
  refine xS_if (fun h0 => ?_) (fun h0 => ?_)
  · refine xS_of (pc' := 14) (L' := [(0, xa 536), (1, xi p0), (2, xi p1)]) (st' := [xi 1, xi (xw_iandf (xw_ishrf ((-2) - p0) p1) 1)]) (m' := m) (fun ex ns r q => ?_) ?_
    · refine xw_ic_geF rfl (w32_cg cp0) (w32_cg rfl) (Int.not_le.mpr h0) ?_
      refine xw_bipush (e := (-2)) rfl (by decide +kernel) ?_
      refine xw_iload_n rfl rfl ?_
      refine xw_isub rfl ?_
      refine xw_iload_n rfl rfl ?_
      refine xw_ishr (z := (xw_ishrf ((-2) - p0) p1)) rfl (xw_ishre _ _) ?_
      refine xw_iconst rfl ?_
      refine xw_iand (z := (xw_iandf (xw_ishrf ((-2) - p0) p1) 1)) rfl (xw_iande _ _) ?_
      refine xw_iconst rfl ?_
      exact q
    refine xS_if (fun h1 => ?_) (fun h1 => ?_)
    · refine xS_of (pc' := 49) (L' := [(0, xa 536), (1, xi p0), (2, xi p1)]) (st' := [xi 1]) (m' := m) (fun ex ns r q => ?_) ?_
      · refine xw_ic_neF rfl (w32_cg (w32_ti _)) (w32_cg rfl) h1 ?_
        refine xw_iconst rfl ?_
        refine xw_goto rfl ?_
        exact q
      exact xS_ret (v := 1) rfl rfl (xw_rtZ (Or.inr rfl)) (Or.inr rfl)
    · refine xS_of (pc' := 49) (L' := [(0, xa 536), (1, xi p0), (2, xi p1)]) (st' := [xi 0]) (m' := m) (fun ex ns r q => ?_) ?_
      · refine xw_ic_neT rfl (w32_cg (w32_ti _)) (w32_cg rfl) h1 ?_
        refine xw_iconst rfl ?_
        refine xw_goto rfl ?_
        exact q
      exact xS_ret (v := 0) rfl rfl (xw_rtZ (Or.inl rfl)) (Or.inl rfl)
  · refine xS_of (pc' := 26) (L' := [(0, xa 536), (1, xi p0), (2, xi p1)]) (st' := [xi p0]) (m' := m) (fun ex ns r q => ?_) ?_
    · refine xw_ic_geT rfl (w32_cg cp0) (w32_cg rfl) (Int.not_lt.mp h0) ?_
      refine xw_iload_n rfl rfl ?_
      exact q
    refine xS_if (fun h1 => ?_) (fun h1 => ?_)
    · refine xS_of (pc' := 49) (L' := [(0, xa 536), (1, xi p0), (2, xi p1)]) (st' := [xi 1]) (m' := m) (fun ex ns r q => ?_) ?_
      · refine xw_if_ltT rfl (w32_cg cp0) h1 ?_
        refine xw_iconst rfl ?_
        refine xw_goto rfl ?_
        exact q
      exact xS_ret (v := 1) rfl rfl (xw_rtZ (Or.inr rfl)) (Or.inr rfl)
    · refine xS_g (fun g2 => ?_)
      refine xS_of (pc' := 41) (L' := [(0, xa 536), (1, xi p0), (2, xi p1)]) (st' := [xi (xR m 538 p1), xi (xR m 603 p1)]) (m' := m) (fun ex ns r q => ?_) ?_
      · refine xw_if_ltF rfl (w32_cg cp0) h1 ?_
        refine xw_aload_n rfl rfl rfl ?_
        refine xw_gfR (n := 603) (e := 603) rfl (xw_obd (by decide +kernel)) (by decide +kernel) (by decide +kernel) rfl ?_
        refine xw_iload_n rfl rfl ?_
        refine xw_ialdc (n := 8) (v := (m 603 p1)) (v' := (xR m 603 p1)) rfl hB (xw_obd (by decide +kernel)) rfl g2 rfl rfl ?_
        refine xw_aload_n rfl rfl rfl ?_
        refine xw_gfR (n := 538) (e := 538) rfl (xw_obd (by decide +kernel)) (by decide +kernel) (by decide +kernel) rfl ?_
        refine xw_iload_n rfl rfl ?_
        refine xw_ialdc (n := 8) (v := (m 538 p1)) (v' := (xR m 538 p1)) rfl hB (xw_obd (by decide +kernel)) rfl g2 rfl rfl ?_
        exact q
      refine xS_if (fun h3 => ?_) (fun h3 => ?_)
      · refine xS_of (pc' := 49) (L' := [(0, xa 536), (1, xi p0), (2, xi p1)]) (st' := [xi 1]) (m' := m) (fun ex ns r q => ?_) ?_
        · refine xw_ic_geF rfl (w32_cg (w32_xR _ _ _)) (w32_cg (w32_xR _ _ _)) (Int.not_le.mpr h3) ?_
          refine xw_iconst rfl ?_
          refine xw_goto rfl ?_
          exact q
        exact xS_ret (v := 1) rfl rfl (xw_rtZ (Or.inr rfl)) (Or.inr rfl)
      · refine xS_of (pc' := 49) (L' := [(0, xa 536), (1, xi p0), (2, xi p1)]) (st' := [xi 0]) (m' := m) (fun ex ns r q => ?_) ?_
        · refine xw_ic_geT rfl (w32_cg (w32_xR _ _ _)) (w32_cg (w32_xR _ _ _)) (Int.not_lt.mp h3) ?_
          refine xw_iconst rfl ?_
          exact q
        exact xS_ret (v := 0) rfl rfl (xw_rtZ (Or.inl rfl)) (Or.inl rfl)
theorem ygf295 {B : Nat} (hB : B ≤ 512) {xs : Nat → Int32} {SL d : Nat} : ∀ p0 p1 p2 m, w32 p0 = p0 → w32 p1 = p1 → w32 p2 = p2 → xS B xs SL (d + 1) 295 (5, (some .int), [], 13) 1 0 [(0, xa 536), (1, xi p0), (2, xi p1), (3, xi p2)] [] m (yf295 B p0 p1 p2 m) := by
  intro p0 p1 p2 m cp0 cp1 cp2
  unfold yf295
  refine xS_of (pc' := 2) (L' := [(0, xa 536), (1, xi p0), (2, xi p1), (3, xi p2)]) (st' := [xi (-1), xi p1]) (m' := m) (fun ex ns r q => ?_) ?_
  · refine xw_iload_n rfl rfl ?_
    refine xw_iconst rfl ?_
    exact q
  refine xS_if (fun h0 => ?_) (fun h0 => ?_)
  · refine xS_g (fun g1 => ?_)
    refine xS_g (fun g2 => ?_)
    refine xS_g (fun g3 => ?_)
    refine xS_g (fun g4 => ?_)
    refine xS_g (fun g5 => ?_)
    refine xS_of (pc' := 39) (L' := []) (st' := [xi (xR m 575 ((8 * p0) + ((xR m (xw_rf (m 536 23) 5) p2) / 4))), xi ((xR m (xw_rf (m 536 23) 5) p2) % 4), xi ((xR m (xw_rf (m 536 23) 5) p2) / 4), xa 536]) (m' := m) (fun ex ns r q => ?_) ?_
    · refine xw_ic_geF rfl (w32_cg cp1) (w32_cg rfl) (Int.not_le.mpr h0) ?_
      refine xw_aload_n rfl rfl rfl ?_
      refine xw_gfM (v := (m 536 23)) rfl (xw_obd (by decide +kernel)) xk12_23 (qi := 23) rfl rfl ?_
      refine xw_gfV (qi := 5) rfl (xw_obd g1) xk13_5 rfl ?_
      refine xw_iload_n rfl rfl ?_
      refine xw_ialdc (n := (xw_le B (xw_rf (m 536 23) 5))) (v := (m (xw_rf (m 536 23) 5) p2)) (v' := (xR m (xw_rf (m 536 23) 5) p2)) rfl hB (xw_obd g3) rfl g2 rfl rfl ?_
      refine xw_istore (L' := [(4, xi (xR m (xw_rf (m 536 23) 5) p2)), (0, xa 536), (1, xi p0), (2, xi p1), (3, xi p2)]) rfl (by decide) rfl ?_
      refine xw_aload_n rfl rfl rfl ?_
      refine xw_iload rfl rfl ?_
      refine xw_iconst rfl ?_
      refine xw_idiv (z := ((xR m (xw_rf (m 536 23) 5) p2) / 4)) rfl (xw_idivn ⟨(by decide), (w32_cg rfl).2⟩) (xw_idive ⟨g4, (w32_cg (w32_xR _ _ _)).2⟩ ⟨(by decide), (w32_cg rfl).2⟩) ?_
      refine xw_iload rfl rfl ?_
      refine xw_iconst rfl ?_
      refine xw_irem (z := ((xR m (xw_rf (m 536 23) 5) p2) % 4)) rfl (xw_iremn ⟨(by decide), (w32_cg rfl).2⟩) (xw_ireme ⟨g4, (w32_cg (w32_xR _ _ _)).2⟩ ⟨(by decide), (w32_cg rfl).2⟩) ?_
      refine xw_aload_n rfl rfl rfl ?_
      refine xw_gfR (n := 575) (e := 575) rfl (xw_obd (by decide +kernel)) (by decide +kernel) (by decide +kernel) rfl ?_
      refine xw_bipush (e := 8) rfl (by decide +kernel) ?_
      refine xw_iload_n rfl rfl ?_
      refine xw_imul rfl ?_
      refine xw_iload rfl rfl ?_
      refine xw_iconst rfl ?_
      refine xw_idiv (z := ((xR m (xw_rf (m 536 23) 5) p2) / 4)) rfl (xw_idivn ⟨(by decide), (w32_cg rfl).2⟩) (xw_idive ⟨g4, (w32_cg (w32_xR _ _ _)).2⟩ ⟨(by decide), (w32_cg rfl).2⟩) ?_
      refine xw_iadd rfl ?_
      refine xw_ialdc (n := 160000) (v := (m 575 ((8 * p0) + ((xR m (xw_rf (m 536 23) 5) p2) / 4)))) (v' := (xR m 575 ((8 * p0) + ((xR m (xw_rf (m 536 23) 5) p2) / 4)))) rfl hB (xw_obd (by decide +kernel)) rfl g5 rfl rfl ?_
      refine xw_lo (L2 := []) (fun _ h => absurd h List.not_mem_nil) ?_
      exact q
    refine xS_call (q := 289) (n := 4) (kq := 1) (as := [xa 536, xi ((xR m (xw_rf (m 536 23) 5) p2) / 4), xi ((xR m (xw_rf (m 536 23) 5) p2) % 4), xi (xR m 575 ((8 * p0) + ((xR m (xw_rf (m 536 23) 5) p2) / 4)))]) (st1 := []) rfl rfl rfl rfl rfl rfl rfl rfl rfl rfl (fun _ => xw_rcv1 (t := 12) (xw_obd (by decide +kernel)) rfl) rfl (List.forall_mem_cons.mpr ⟨rfl, List.forall_mem_cons.mpr ⟨rfl, List.forall_mem_cons.mpr ⟨rfl, List.forall_mem_cons.mpr ⟨rfl, fun _ h => absurd h List.not_mem_nil⟩⟩⟩⟩) (ygf289 hB _ _ _ _ (w32_dv (w32_xR _ _ _) ⟨g4, (by decide)⟩) (w32_md rfl ⟨g4, (by decide)⟩) (w32_xR _ _ _)) (fun v1 m1 cv1 => ?_)
    exact xS_ret (v := v1) rfl rfl xw_rtI cv1
  · refine xS_g (fun g1 => ?_)
    refine xS_of (pc' := 57) (L' := [(4, xi (xR m 575 ((8 * p0) + p2))), (0, xa 536), (1, xi p0), (2, xi p1), (3, xi p2)]) (st' := [xi p1]) (m' := m) (fun ex ns r q => ?_) ?_
    · refine xw_ic_geT rfl (w32_cg cp1) (w32_cg rfl) (Int.not_lt.mp h0) ?_
      refine xw_aload_n rfl rfl rfl ?_
      refine xw_gfR (n := 575) (e := 575) rfl (xw_obd (by decide +kernel)) (by decide +kernel) (by decide +kernel) rfl ?_
      refine xw_bipush (e := 8) rfl (by decide +kernel) ?_
      refine xw_iload_n rfl rfl ?_
      refine xw_imul rfl ?_
      refine xw_iload_n rfl rfl ?_
      refine xw_iadd rfl ?_
      refine xw_ialdc (n := 160000) (v := (m 575 ((8 * p0) + p2))) (v' := (xR m 575 ((8 * p0) + p2))) rfl hB (xw_obd (by decide +kernel)) rfl g1 rfl rfl ?_
      refine xw_istore (L' := [(4, xi (xR m 575 ((8 * p0) + p2))), (0, xa 536), (1, xi p0), (2, xi p1), (3, xi p2)]) rfl (by decide) rfl ?_
      refine xw_iload_n rfl rfl ?_
      exact q
    refine xS_if (fun h2 => ?_) (fun h2 => ?_)
    · refine xS_of (pc' := 87) (L' := [(4, xi (xR m 575 ((8 * p0) + p2))), (0, xa 536), (1, xi p0), (2, xi p1), (3, xi p2)]) (st' := [xi (xR m 575 ((8 * p0) + p2))]) (m' := m) (fun ex ns r q => ?_) ?_
      · refine xw_if_geF rfl (w32_cg cp1) (Int.not_le.mpr h2) ?_
        refine xw_iload rfl rfl ?_
        refine xw_goto rfl ?_
        exact q
      exact xS_ret (v := (xR m 575 ((8 * p0) + p2))) rfl rfl xw_rtI (w32_xR _ _ _)
    · refine xS_g (fun g3 => ?_)
      refine xS_g (fun g4 => ?_)
      refine xS_of (pc' := 87) (L' := [(4, xi (xR m 575 ((8 * p0) + p2))), (0, xa 536), (1, xi p0), (2, xi p1), (3, xi p2)]) (st' := [xi (xR m 573 (((4000 * p2) + (4 * (xR m 575 ((8 * p0) + p2)))) + (xR m 603 p2)))]) (m' := m) (fun ex ns r q => ?_) ?_
      · refine xw_if_geT rfl (w32_cg cp1) (Int.not_lt.mp h2) ?_
        refine xw_aload_n rfl rfl rfl ?_
        refine xw_gfR (n := 573) (e := 573) rfl (xw_obd (by decide +kernel)) (by decide +kernel) (by decide +kernel) rfl ?_
        refine xw_sipush (e := 4000) rfl (by decide +kernel) ?_
        refine xw_iload_n rfl rfl ?_
        refine xw_imul rfl ?_
        refine xw_iconst rfl ?_
        refine xw_iload rfl rfl ?_
        refine xw_imul rfl ?_
        refine xw_iadd rfl ?_
        refine xw_aload_n rfl rfl rfl ?_
        refine xw_gfR (n := 603) (e := 603) rfl (xw_obd (by decide +kernel)) (by decide +kernel) (by decide +kernel) rfl ?_
        refine xw_iload_n rfl rfl ?_
        refine xw_ialdc (n := 8) (v := (m 603 p2)) (v' := (xR m 603 p2)) rfl hB (xw_obd (by decide +kernel)) rfl g3 rfl rfl ?_
        refine xw_iadd rfl ?_
        refine xw_ialdc (n := 32000) (v := (m 573 (((4000 * p2) + (4 * (xR m 575 ((8 * p0) + p2)))) + (xR m 603 p2)))) (v' := (xR m 573 (((4000 * p2) + (4 * (xR m 575 ((8 * p0) + p2)))) + (xR m 603 p2)))) rfl hB (xw_obd (by decide +kernel)) rfl g4 rfl rfl ?_
        exact q
      exact xS_ret (v := (xR m 573 (((4000 * p2) + (4 * (xR m 575 ((8 * p0) + p2)))) + (xR m 603 p2)))) rfl rfl xw_rtI (w32_xR _ _ _)
theorem ysl293_24 {B : Nat} (hB : B ≤ 512) {xs : Nat → Int32} {SL d : Nat} {r24 : Int → Int → Int → Int → Int → xw_M → xP} (hr24 : ∀ x1 x2 x3 x4 x5 m, w32 x1 = x1 → w32 x2 = x2 → w32 x3 = x3 → w32 x4 = x4 → w32 x5 = x5 → xS B xs SL (d + 2) 293 (8, (some .int), [], 13) 1 24 [(0, xa 536), (1, xi x1), (2, xi x2), (3, xi x3), (4, xi x4), (5, xi x5)] [] m (r24 x1 x2 x3 x4 x5 m)) : ∀ x1 x2 x3 x4 x5 m, w32 x1 = x1 → w32 x2 = x2 → w32 x3 = x3 → w32 x4 = x4 → w32 x5 = x5 → xS B xs SL (d + 2) 293 (8, (some .int), [], 13) 1 24 [(0, xa 536), (1, xi x1), (2, xi x2), (3, xi x3), (4, xi x4), (5, xi x5)] [] m (yl293_24 B r24 x1 x2 x3 x4 x5 m) := by
  intro x1 x2 x3 x4 x5 m c1 c2 c3 c4 c5
  unfold yl293_24
  refine xS_of (pc' := 28) (L' := [(0, xa 536), (1, xi x1), (2, xi x2), (3, xi x3), (4, xi x4), (5, xi x5)]) (st' := [xi x4, xi x5]) (m' := m) (fun ex ns r q => ?_) ?_
  · refine xw_iload rfl rfl ?_
    refine xw_iload rfl rfl ?_
    exact q
  refine xS_if (fun h0 => ?_) (fun h0 => ?_)
  · refine xS_of (pc' := 35) (L' := [(0, xa 536), (1, xi x1), (2, xi x2), (3, xi x3), (4, xi x4), (5, xi x5)]) (st' := [xi x5, xi x3, xa 536]) (m' := m) (fun ex ns r q => ?_) ?_
    · refine xw_ic_geF rfl (w32_cg c5) (w32_cg c4) (Int.not_le.mpr h0) ?_
      refine xw_aload_n rfl rfl rfl ?_
      refine xw_iload_n rfl rfl ?_
      refine xw_iload rfl rfl ?_
      refine xw_lo (L2 := [(0, xa 536), (1, xi x1), (2, xi x2), (3, xi x3), (4, xi x4), (5, xi x5)]) (List.forall_mem_cons.mpr ⟨rfl, List.forall_mem_cons.mpr ⟨rfl, List.forall_mem_cons.mpr ⟨rfl, List.forall_mem_cons.mpr ⟨rfl, List.forall_mem_cons.mpr ⟨rfl, List.forall_mem_cons.mpr ⟨rfl, fun _ h => absurd h List.not_mem_nil⟩⟩⟩⟩⟩⟩) ?_
      exact q
    refine xS_call (q := 294) (n := 3) (kq := 4) (as := [xa 536, xi x3, xi x5]) (st1 := []) rfl rfl rfl rfl rfl rfl rfl rfl rfl rfl (fun _ => xw_rcv1 (t := 12) (xw_obd (by decide +kernel)) rfl) rfl (List.forall_mem_cons.mpr ⟨rfl, List.forall_mem_cons.mpr ⟨rfl, List.forall_mem_cons.mpr ⟨rfl, fun _ h => absurd h List.not_mem_nil⟩⟩⟩) (ygf294 hB _ _ _ c3 c5) (fun v1 m1 cv1 => ?_)
    refine xS_if (fun h1 => ?_) (fun h1 => ?_)
    · refine xS_of (pc' := 24) (L' := [(0, xa 536), (1, xi x1), (2, xi x2), (3, xi x3), (4, xi x4), (5, xi (w32 (x5 + 1)))]) (st' := []) (m' := m1) (fun ex ns r q => ?_) ?_
      · refine xw_if_eqT rfl (w32_cg (w32_of (xw_zr cv1))) h1 ?_
        refine xw_iincc (z := (w32 (x5 + 1))) (L' := [(5, xi (w32 (x5 + 1))), (0, xa 536), (1, xi x1), (2, xi x2), (3, xi x3), (4, xi x4)]) rfl rfl (by decide) rfl rfl ?_
        refine xw_goto rfl ?_
        refine xw_lo (L2 := [(0, xa 536), (1, xi x1), (2, xi x2), (3, xi x3), (4, xi x4), (5, xi (w32 (x5 + 1)))]) (List.forall_mem_cons.mpr ⟨rfl, List.forall_mem_cons.mpr ⟨rfl, List.forall_mem_cons.mpr ⟨rfl, List.forall_mem_cons.mpr ⟨rfl, List.forall_mem_cons.mpr ⟨rfl, List.forall_mem_cons.mpr ⟨rfl, fun _ h => absurd h List.not_mem_nil⟩⟩⟩⟩⟩⟩) ?_
        exact q
      exact hr24 _ _ _ _ _ _ c1 c2 c3 c4 (w32_w _)
    · refine xS_of (pc' := 46) (L' := [(0, xa 536), (1, xi x1), (2, xi x2), (3, xi x3), (4, xi x4), (5, xi x5)]) (st' := [xi x5, xi x3, xi x1, xa 536]) (m' := m1) (fun ex ns r q => ?_) ?_
      · refine xw_if_eqF rfl (w32_cg (w32_of (xw_zr cv1))) h1 ?_
        refine xw_aload_n rfl rfl rfl ?_
        refine xw_iload_n rfl rfl ?_
        refine xw_iload_n rfl rfl ?_
        refine xw_iload rfl rfl ?_
        refine xw_lo (L2 := [(0, xa 536), (1, xi x1), (2, xi x2), (3, xi x3), (4, xi x4), (5, xi x5)]) (List.forall_mem_cons.mpr ⟨rfl, List.forall_mem_cons.mpr ⟨rfl, List.forall_mem_cons.mpr ⟨rfl, List.forall_mem_cons.mpr ⟨rfl, List.forall_mem_cons.mpr ⟨rfl, List.forall_mem_cons.mpr ⟨rfl, fun _ h => absurd h List.not_mem_nil⟩⟩⟩⟩⟩⟩) ?_
        exact q
      refine xS_call (q := 295) (n := 4) (kq := 1) (as := [xa 536, xi x1, xi x3, xi x5]) (st1 := []) rfl rfl rfl rfl rfl rfl rfl rfl rfl rfl (fun _ => xw_rcv1 (t := 12) (xw_obd (by decide +kernel)) rfl) rfl (List.forall_mem_cons.mpr ⟨rfl, List.forall_mem_cons.mpr ⟨rfl, List.forall_mem_cons.mpr ⟨rfl, List.forall_mem_cons.mpr ⟨rfl, fun _ h => absurd h List.not_mem_nil⟩⟩⟩⟩) (ygf295 hB _ _ _ _ c1 c3 c5) (fun v2 m2 cv2 => ?_)
      refine xS_of (pc' := 56) (L' := [(0, xa 536), (1, xi x1), (2, xi x2), (3, xi x3), (4, xi x4), (5, xi x5), (6, xi v2)]) (st' := [xi x5, xi x3, xi x2, xa 536]) (m' := m2) (fun ex ns r q => ?_) ?_
      · refine xw_istore (L' := [(6, xi v2), (0, xa 536), (1, xi x1), (2, xi x2), (3, xi x3), (4, xi x4), (5, xi x5)]) rfl (by decide) rfl ?_
        refine xw_aload_n rfl rfl rfl ?_
        refine xw_iload_n rfl rfl ?_
        refine xw_iload_n rfl rfl ?_
        refine xw_iload rfl rfl ?_
        refine xw_lo (L2 := [(0, xa 536), (1, xi x1), (2, xi x2), (3, xi x3), (4, xi x4), (5, xi x5), (6, xi v2)]) (List.forall_mem_cons.mpr ⟨rfl, List.forall_mem_cons.mpr ⟨rfl, List.forall_mem_cons.mpr ⟨rfl, List.forall_mem_cons.mpr ⟨rfl, List.forall_mem_cons.mpr ⟨rfl, List.forall_mem_cons.mpr ⟨rfl, List.forall_mem_cons.mpr ⟨rfl, fun _ h => absurd h List.not_mem_nil⟩⟩⟩⟩⟩⟩⟩) ?_
        exact q
      refine xS_call (q := 295) (n := 4) (kq := 1) (as := [xa 536, xi x2, xi x3, xi x5]) (st1 := []) rfl rfl rfl rfl rfl rfl rfl rfl rfl rfl (fun _ => xw_rcv1 (t := 12) (xw_obd (by decide +kernel)) rfl) rfl (List.forall_mem_cons.mpr ⟨rfl, List.forall_mem_cons.mpr ⟨rfl, List.forall_mem_cons.mpr ⟨rfl, List.forall_mem_cons.mpr ⟨rfl, fun _ h => absurd h List.not_mem_nil⟩⟩⟩⟩) (ygf295 hB _ _ _ _ c2 c3 c5) (fun v3 m3 cv3 => ?_)
      refine xS_of (pc' := 65) (L' := [(7, xi v3), (0, xa 536), (1, xi x1), (2, xi x2), (3, xi x3), (4, xi x4), (5, xi x5), (6, xi v2)]) (st' := [xi v3, xi v2]) (m' := m3) (fun ex ns r q => ?_) ?_
      · refine xw_istore (L' := [(7, xi v3), (0, xa 536), (1, xi x1), (2, xi x2), (3, xi x3), (4, xi x4), (5, xi x5), (6, xi v2)]) rfl (by decide) rfl ?_
        refine xw_iload rfl rfl ?_
        refine xw_iload rfl rfl ?_
        exact q
      refine xS_if (fun h2 => ?_) (fun h2 => ?_)
      · refine xS_of (pc' := 24) (L' := [(0, xa 536), (1, xi x1), (2, xi x2), (3, xi x3), (4, xi x4), (5, xi (w32 (x5 + 1)))]) (st' := []) (m' := m3) (fun ex ns r q => ?_) ?_
        · refine xw_ic_eqT rfl (w32_cg cv2) (w32_cg cv3) h2 ?_
          refine xw_iincc (z := (w32 (x5 + 1))) (L' := [(5, xi (w32 (x5 + 1))), (7, xi v3), (0, xa 536), (1, xi x1), (2, xi x2), (3, xi x3), (4, xi x4), (6, xi v2)]) rfl rfl (by decide) rfl rfl ?_
          refine xw_goto rfl ?_
          refine xw_lo (L2 := [(0, xa 536), (1, xi x1), (2, xi x2), (3, xi x3), (4, xi x4), (5, xi (w32 (x5 + 1)))]) (List.forall_mem_cons.mpr ⟨rfl, List.forall_mem_cons.mpr ⟨rfl, List.forall_mem_cons.mpr ⟨rfl, List.forall_mem_cons.mpr ⟨rfl, List.forall_mem_cons.mpr ⟨rfl, List.forall_mem_cons.mpr ⟨rfl, fun _ h => absurd h List.not_mem_nil⟩⟩⟩⟩⟩⟩) ?_
          exact q
        exact hr24 _ _ _ _ _ _ c1 c2 c3 c4 (w32_w _)
      · refine xS_of (pc' := 72) (L' := [(7, xi v3), (0, xa 536), (1, xi x1), (2, xi x2), (3, xi x3), (4, xi x4), (5, xi x5), (6, xi v2)]) (st' := [xi v3, xi v2]) (m' := m3) (fun ex ns r q => ?_) ?_
        · refine xw_ic_eqF rfl (w32_cg cv2) (w32_cg cv3) h2 ?_
          refine xw_iload rfl rfl ?_
          refine xw_iload rfl rfl ?_
          exact q
        refine xS_if (fun h3 => ?_) (fun h3 => ?_)
        · refine xS_of (pc' := 80) (L' := [(7, xi v3), (0, xa 536), (1, xi x1), (2, xi x2), (3, xi x3), (4, xi x4), (5, xi x5), (6, xi v2)]) (st' := [xi (-1)]) (m' := m3) (fun ex ns r q => ?_) ?_
          · refine xw_ic_geF rfl (w32_cg cv2) (w32_cg cv3) (Int.not_le.mpr h3) ?_
            refine xw_iconst rfl ?_
            refine xw_goto rfl ?_
            exact q
          exact xS_ret (v := (-1)) rfl rfl xw_rtI rfl
        · refine xS_of (pc' := 80) (L' := [(7, xi v3), (0, xa 536), (1, xi x1), (2, xi x2), (3, xi x3), (4, xi x4), (5, xi x5), (6, xi v2)]) (st' := [xi 1]) (m' := m3) (fun ex ns r q => ?_) ?_
          · refine xw_ic_geT rfl (w32_cg cv2) (w32_cg cv3) (Int.not_lt.mp h3) ?_
            refine xw_iconst rfl ?_
            exact q
          exact xS_ret (v := 1) rfl rfl xw_rtI rfl
  · refine xS_of (pc' := 88) (L' := [(0, xa 536), (1, xi x1), (2, xi x2), (3, xi x3), (4, xi x4), (5, xi x5)]) (st' := [xi 0]) (m' := m) (fun ex ns r q => ?_) ?_
    · refine xw_ic_geT rfl (w32_cg c5) (w32_cg c4) (Int.not_lt.mp h0) ?_
      refine xw_iconst rfl ?_
      exact q
    exact xS_ret (v := 0) rfl rfl xw_rtI rfl
theorem ygl293_24 {B : Nat} (hB : B ≤ 512) {xs : Nat → Int32} {SL d : Nat} : ∀ n x1 x2 x3 x4 x5 m, w32 x1 = x1 → w32 x2 = x2 → w32 x3 = x3 → w32 x4 = x4 → w32 x5 = x5 → xS B xs SL (d + 2) 293 (8, (some .int), [], 13) 1 24 [(0, xa 536), (1, xi x1), (2, xi x2), (3, xi x3), (4, xi x4), (5, xi x5)] [] m (xl5 (yl293_24 B) n x1 x2 x3 x4 x5 m) := by
  intro n
  induction n with
  | zero => intro x1 x2 x3 x4 x5 m c1 c2 c3 c4 c5; exact xS_none
  | succ n ih => exact ysl293_24 hB ih
theorem ygf293 {B : Nat} (hB : B ≤ 512) {xs : Nat → Int32} {SL d : Nat} : ∀ p0 p1 p2 m, w32 p0 = p0 → w32 p1 = p1 → w32 p2 = p2 → xS B xs SL (d + 2) 293 (8, (some .int), [], 13) 1 0 [(0, xa 536), (1, xi p0), (2, xi p1), (3, xi p2)] [] m (yf293 B p0 p1 p2 m) := by
  intro p0 p1 p2 m cp0 cp1 cp2
  unfold yf293
  refine xS_of (pc' := 2) (L' := [(0, xa 536), (1, xi p0), (2, xi p1), (3, xi p2)]) (st' := [xi (-1), xi p2]) (m' := m) (fun ex ns r q => ?_) ?_
  · refine xw_iload_n rfl rfl ?_
    refine xw_iconst rfl ?_
    exact q
  refine xS_if (fun h0 => ?_) (fun h0 => ?_)
  · refine xS_g (fun g1 => ?_)
    refine xS_of (pc' := 24) (L' := [(0, xa 536), (1, xi p0), (2, xi p1), (3, xi p2), (4, xi (xR m (m 536 23) 4)), (5, xi 0)]) (st' := []) (m' := m) (fun ex ns r q => ?_) ?_
    · refine xw_ic_geF rfl (w32_cg cp2) (w32_cg rfl) (Int.not_le.mpr h0) ?_
      refine xw_aload_n rfl rfl rfl ?_
      refine xw_gfM (v := (m 536 23)) rfl (xw_obd (by decide +kernel)) xk12_23 (qi := 23) rfl rfl ?_
      refine xw_gfIc (v := (m (m 536 23) 4)) (v' := (xR m (m 536 23) 4)) rfl (xw_obd g1) xk13_4 (qi := 4) rfl rfl rfl ?_
      refine xw_goto rfl ?_
      refine xw_istore (L' := [(4, xi (xR m (m 536 23) 4)), (0, xa 536), (1, xi p0), (2, xi p1), (3, xi p2)]) rfl (by decide) rfl ?_
      refine xw_iconst rfl ?_
      refine xw_istore (L' := [(5, xi 0), (4, xi (xR m (m 536 23) 4)), (0, xa 536), (1, xi p0), (2, xi p1), (3, xi p2)]) rfl (by decide) rfl ?_
      refine xw_lo (L2 := [(0, xa 536), (1, xi p0), (2, xi p1), (3, xi p2), (4, xi (xR m (m 536 23) 4)), (5, xi 0)]) (List.forall_mem_cons.mpr ⟨rfl, List.forall_mem_cons.mpr ⟨rfl, List.forall_mem_cons.mpr ⟨rfl, List.forall_mem_cons.mpr ⟨rfl, List.forall_mem_cons.mpr ⟨rfl, List.forall_mem_cons.mpr ⟨rfl, fun _ h => absurd h List.not_mem_nil⟩⟩⟩⟩⟩⟩) ?_
      exact q
    exact ygl293_24 hB 1000000 _ _ _ _ _ _ cp0 cp1 cp2 (w32_xR _ _ _) rfl
  · refine xS_of (pc' := 24) (L' := [(0, xa 536), (1, xi p0), (2, xi p1), (3, xi p2), (4, xi (xR m 536 14)), (5, xi 0)]) (st' := []) (m' := m) (fun ex ns r q => ?_) ?_
    · refine xw_ic_geT rfl (w32_cg cp2) (w32_cg rfl) (Int.not_lt.mp h0) ?_
      refine xw_aload_n rfl rfl rfl ?_
      refine xw_gfIc (v := (m 536 14)) (v' := (xR m 536 14)) rfl (xw_obd (by decide +kernel)) xk12_14 (qi := 14) rfl rfl rfl ?_
      refine xw_istore (L' := [(4, xi (xR m 536 14)), (0, xa 536), (1, xi p0), (2, xi p1), (3, xi p2)]) rfl (by decide) rfl ?_
      refine xw_iconst rfl ?_
      refine xw_istore (L' := [(5, xi 0), (4, xi (xR m 536 14)), (0, xa 536), (1, xi p0), (2, xi p1), (3, xi p2)]) rfl (by decide) rfl ?_
      refine xw_lo (L2 := [(0, xa 536), (1, xi p0), (2, xi p1), (3, xi p2), (4, xi (xR m 536 14)), (5, xi 0)]) (List.forall_mem_cons.mpr ⟨rfl, List.forall_mem_cons.mpr ⟨rfl, List.forall_mem_cons.mpr ⟨rfl, List.forall_mem_cons.mpr ⟨rfl, List.forall_mem_cons.mpr ⟨rfl, List.forall_mem_cons.mpr ⟨rfl, fun _ h => absurd h List.not_mem_nil⟩⟩⟩⟩⟩⟩) ?_
      exact q
    exact ygl293_24 hB 1000000 _ _ _ _ _ _ cp0 cp1 cp2 (w32_xR _ _ _) rfl
theorem ygk292_50 {B : Nat} (hB : B ≤ 512) {xs : Nat → Int32} {SL d : Nat} {r9 : Int → Int → Int → Int → Int → Int → xw_M → xP} (hr9 : ∀ x2 x3 x4 x5 x6 x7 m, w32 x2 = x2 → w32 x3 = x3 → w32 x4 = x4 → w32 x5 = x5 → w32 x6 = x6 → w32 x7 = x7 → xS B xs SL (d + 3) 292 (9, none, [], 13) 0 9 [(0, xa 536), (2, xi x2), (3, xi x3), (4, xi x4), (5, xi x5), (6, xi x6), (7, xi x7)] [] m (r9 x2 x3 x4 x5 x6 x7 m)) : ∀ x2 x3 x4 x5 x6 x7 m, w32 x2 = x2 → w32 x3 = x3 → w32 x4 = x4 → w32 x5 = x5 → w32 x6 = x6 → w32 x7 = x7 → xS B xs SL (d + 3) 292 (9, none, [], 13) 0 50 [(0, xa 536), (2, xi x2), (3, xi x3), (4, xi x4), (5, xi x5), (6, xi x6), (7, xi x7)] [] m (yk292_50 B r9 x2 x3 x4 x5 x6 x7 m) := by
  intro x2 x3 x4 x5 x6 x7 m c2 c3 c4 c5 c6 c7
  unfold yk292_50
  refine xS_g (fun g0 => ?_)
  refine xS_g (fun g1 => ?_)
  refine xS_g (fun g2 => ?_)
  refine xS_g (fun g3 => ?_)
  refine xS_of (pc' := 9) (L' := [(0, xa 536), (2, xi x2), (3, xi x3), (4, xi x4), (5, xi (w32 (x5 + 1))), (6, xi (w32 (x6 + 0))), (7, xi (w32 (x7 + 1)))]) (st' := []) (m' := (xw_u m (m 536 60) x7 (xR m (m 536 59) x5))) (fun ex ns r q => ?_) ?_
  · refine xw_iconst rfl ?_
    refine xw_goto rfl ?_
    refine xw_istore (L' := [(8, xi 1), (0, xa 536), (2, xi x2), (3, xi x3), (4, xi x4), (5, xi x5), (6, xi x6), (7, xi x7)]) rfl (by decide) rfl ?_
    refine xw_aload_n rfl rfl rfl ?_
    refine xw_gfM (v := (m 536 60)) rfl (xw_obd (by decide +kernel)) xk12_60 (qi := 60) rfl rfl ?_
    refine xw_iload rfl rfl ?_
    refine xw_aload_n rfl rfl rfl ?_
    refine xw_gfM (v := (m 536 59)) rfl (xw_obd (by decide +kernel)) xk12_59 (qi := 59) rfl rfl ?_
    refine xw_iload rfl rfl ?_
    refine xw_if_eqF rfl (w32_cg rfl) (by decide) ?_
    refine xw_iload rfl rfl ?_
    refine xw_goto rfl ?_
    refine xw_ialdc (n := (xw_le B (m 536 59))) (v := (m (m 536 59) x5)) (v' := (xR m (m 536 59) x5)) rfl hB (xw_obd g1) rfl g0 rfl rfl ?_
    refine xw_iast (n := (xw_le B (m 536 60))) rfl hB (xw_obd g3) rfl g2 ?_
    refine xw_iload rfl rfl ?_
    refine xw_iload rfl rfl ?_
    refine xw_if_eqF rfl (w32_cg rfl) (by decide) ?_
    refine xw_iconst rfl ?_
    refine xw_goto rfl ?_
    refine xw_iadd rfl ?_
    refine xw_cst (st' := [xi (w32 (x5 + 1))]) (xw_sc (xi_c rfl) rfl) ?_
    refine xw_istore (L' := [(5, xi (w32 (x5 + 1))), (8, xi 1), (0, xa 536), (2, xi x2), (3, xi x3), (4, xi x4), (6, xi x6), (7, xi x7)]) rfl (by decide) rfl ?_
    refine xw_iload rfl rfl ?_
    refine xw_iload rfl rfl ?_
    refine xw_if_eqF rfl (w32_cg rfl) (by decide) ?_
    refine xw_iconst rfl ?_
    refine xw_goto rfl ?_
    refine xw_iadd rfl ?_
    refine xw_cst (st' := [xi (w32 (x6 + 0))]) (xw_sc (xi_c rfl) rfl) ?_
    refine xw_istore (L' := [(6, xi (w32 (x6 + 0))), (5, xi (w32 (x5 + 1))), (8, xi 1), (0, xa 536), (2, xi x2), (3, xi x3), (4, xi x4), (7, xi x7)]) rfl (by decide) rfl ?_
    refine xw_iincc (z := (w32 (x7 + 1))) (L' := [(7, xi (w32 (x7 + 1))), (6, xi (w32 (x6 + 0))), (5, xi (w32 (x5 + 1))), (8, xi 1), (0, xa 536), (2, xi x2), (3, xi x3), (4, xi x4)]) rfl rfl (by decide) rfl rfl ?_
    refine xw_goto rfl ?_
    refine xw_lo (L2 := [(0, xa 536), (2, xi x2), (3, xi x3), (4, xi x4), (5, xi (w32 (x5 + 1))), (6, xi (w32 (x6 + 0))), (7, xi (w32 (x7 + 1)))]) (List.forall_mem_cons.mpr ⟨rfl, List.forall_mem_cons.mpr ⟨rfl, List.forall_mem_cons.mpr ⟨rfl, List.forall_mem_cons.mpr ⟨rfl, List.forall_mem_cons.mpr ⟨rfl, List.forall_mem_cons.mpr ⟨rfl, List.forall_mem_cons.mpr ⟨rfl, fun _ h => absurd h List.not_mem_nil⟩⟩⟩⟩⟩⟩⟩) ?_
    exact q
  exact hr9 _ _ _ _ _ _ _ c2 c3 c4 (w32_w _) (w32_w _) (w32_w _)
theorem ygk292_54 {B : Nat} (hB : B ≤ 512) {xs : Nat → Int32} {SL d : Nat} {r9 : Int → Int → Int → Int → Int → Int → xw_M → xP} (hr9 : ∀ x2 x3 x4 x5 x6 x7 m, w32 x2 = x2 → w32 x3 = x3 → w32 x4 = x4 → w32 x5 = x5 → w32 x6 = x6 → w32 x7 = x7 → xS B xs SL (d + 3) 292 (9, none, [], 13) 0 9 [(0, xa 536), (2, xi x2), (3, xi x3), (4, xi x4), (5, xi x5), (6, xi x6), (7, xi x7)] [] m (r9 x2 x3 x4 x5 x6 x7 m)) : ∀ x2 x3 x4 x5 x6 x7 m, w32 x2 = x2 → w32 x3 = x3 → w32 x4 = x4 → w32 x5 = x5 → w32 x6 = x6 → w32 x7 = x7 → xS B xs SL (d + 3) 292 (9, none, [], 13) 0 54 [(0, xa 536), (2, xi x2), (3, xi x3), (4, xi x4), (5, xi x5), (6, xi x6), (7, xi x7)] [] m (yk292_54 B r9 x2 x3 x4 x5 x6 x7 m) := by
  intro x2 x3 x4 x5 x6 x7 m c2 c3 c4 c5 c6 c7
  unfold yk292_54
  refine xS_g (fun g0 => ?_)
  refine xS_g (fun g1 => ?_)
  refine xS_g (fun g2 => ?_)
  refine xS_g (fun g3 => ?_)
  refine xS_of (pc' := 9) (L' := [(0, xa 536), (2, xi x2), (3, xi x3), (4, xi x4), (5, xi (w32 (x5 + 0))), (6, xi (w32 (x6 + 1))), (7, xi (w32 (x7 + 1)))]) (st' := []) (m' := (xw_u m (m 536 60) x7 (xR m (m 536 59) x6))) (fun ex ns r q => ?_) ?_
  · refine xw_iconst rfl ?_
    refine xw_istore (L' := [(8, xi 0), (0, xa 536), (2, xi x2), (3, xi x3), (4, xi x4), (5, xi x5), (6, xi x6), (7, xi x7)]) rfl (by decide) rfl ?_
    refine xw_aload_n rfl rfl rfl ?_
    refine xw_gfM (v := (m 536 60)) rfl (xw_obd (by decide +kernel)) xk12_60 (qi := 60) rfl rfl ?_
    refine xw_iload rfl rfl ?_
    refine xw_aload_n rfl rfl rfl ?_
    refine xw_gfM (v := (m 536 59)) rfl (xw_obd (by decide +kernel)) xk12_59 (qi := 59) rfl rfl ?_
    refine xw_iload rfl rfl ?_
    refine xw_if_eqT rfl (w32_cg rfl) (by decide) ?_
    refine xw_iload rfl rfl ?_
    refine xw_ialdc (n := (xw_le B (m 536 59))) (v := (m (m 536 59) x6)) (v' := (xR m (m 536 59) x6)) rfl hB (xw_obd g1) rfl g0 rfl rfl ?_
    refine xw_iast (n := (xw_le B (m 536 60))) rfl hB (xw_obd g3) rfl g2 ?_
    refine xw_iload rfl rfl ?_
    refine xw_iload rfl rfl ?_
    refine xw_if_eqT rfl (w32_cg rfl) (by decide) ?_
    refine xw_iconst rfl ?_
    refine xw_iadd rfl ?_
    refine xw_cst (st' := [xi (w32 (x5 + 0))]) (xw_sc (xi_c rfl) rfl) ?_
    refine xw_istore (L' := [(5, xi (w32 (x5 + 0))), (8, xi 0), (0, xa 536), (2, xi x2), (3, xi x3), (4, xi x4), (6, xi x6), (7, xi x7)]) rfl (by decide) rfl ?_
    refine xw_iload rfl rfl ?_
    refine xw_iload rfl rfl ?_
    refine xw_if_eqT rfl (w32_cg rfl) (by decide) ?_
    refine xw_iconst rfl ?_
    refine xw_iadd rfl ?_
    refine xw_cst (st' := [xi (w32 (x6 + 1))]) (xw_sc (xi_c rfl) rfl) ?_
    refine xw_istore (L' := [(6, xi (w32 (x6 + 1))), (5, xi (w32 (x5 + 0))), (8, xi 0), (0, xa 536), (2, xi x2), (3, xi x3), (4, xi x4), (7, xi x7)]) rfl (by decide) rfl ?_
    refine xw_iincc (z := (w32 (x7 + 1))) (L' := [(7, xi (w32 (x7 + 1))), (6, xi (w32 (x6 + 1))), (5, xi (w32 (x5 + 0))), (8, xi 0), (0, xa 536), (2, xi x2), (3, xi x3), (4, xi x4)]) rfl rfl (by decide) rfl rfl ?_
    refine xw_goto rfl ?_
    refine xw_lo (L2 := [(0, xa 536), (2, xi x2), (3, xi x3), (4, xi x4), (5, xi (w32 (x5 + 0))), (6, xi (w32 (x6 + 1))), (7, xi (w32 (x7 + 1)))]) (List.forall_mem_cons.mpr ⟨rfl, List.forall_mem_cons.mpr ⟨rfl, List.forall_mem_cons.mpr ⟨rfl, List.forall_mem_cons.mpr ⟨rfl, List.forall_mem_cons.mpr ⟨rfl, List.forall_mem_cons.mpr ⟨rfl, List.forall_mem_cons.mpr ⟨rfl, fun _ h => absurd h List.not_mem_nil⟩⟩⟩⟩⟩⟩⟩) ?_
    exact q
  exact hr9 _ _ _ _ _ _ _ c2 c3 c4 (w32_w _) (w32_w _) (w32_w _)
theorem ysl292_9 {B : Nat} (hB : B ≤ 512) {xs : Nat → Int32} {SL d : Nat} {r9 : Int → Int → Int → Int → Int → Int → xw_M → xP} (hr9 : ∀ x2 x3 x4 x5 x6 x7 m, w32 x2 = x2 → w32 x3 = x3 → w32 x4 = x4 → w32 x5 = x5 → w32 x6 = x6 → w32 x7 = x7 → xS B xs SL (d + 3) 292 (9, none, [], 13) 0 9 [(0, xa 536), (2, xi x2), (3, xi x3), (4, xi x4), (5, xi x5), (6, xi x6), (7, xi x7)] [] m (r9 x2 x3 x4 x5 x6 x7 m)) : ∀ x2 x3 x4 x5 x6 x7 m, w32 x2 = x2 → w32 x3 = x3 → w32 x4 = x4 → w32 x5 = x5 → w32 x6 = x6 → w32 x7 = x7 → xS B xs SL (d + 3) 292 (9, none, [], 13) 0 9 [(0, xa 536), (2, xi x2), (3, xi x3), (4, xi x4), (5, xi x5), (6, xi x6), (7, xi x7)] [] m (yl292_9 B r9 x2 x3 x4 x5 x6 x7 m) := by
  intro x2 x3 x4 x5 x6 x7 m c2 c3 c4 c5 c6 c7
  unfold yl292_9
  refine xS_of (pc' := 12) (L' := [(0, xa 536), (2, xi x2), (3, xi x3), (4, xi x4), (5, xi x5), (6, xi x6), (7, xi x7)]) (st' := [xi x3, xi x7]) (m' := m) (fun ex ns r q => ?_) ?_
  · refine xw_iload rfl rfl ?_
    refine xw_iload_n rfl rfl ?_
    exact q
  refine xS_if (fun h0 => ?_) (fun h0 => ?_)
  · refine xS_of (pc' := 18) (L' := [(0, xa 536), (2, xi x2), (3, xi x3), (4, xi x4), (5, xi x5), (6, xi x6), (7, xi x7)]) (st' := [xi x3, xi x6]) (m' := m) (fun ex ns r q => ?_) ?_
    · refine xw_ic_geF rfl (w32_cg c7) (w32_cg c3) (Int.not_le.mpr h0) ?_
      refine xw_iload rfl rfl ?_
      refine xw_iload_n rfl rfl ?_
      exact q
    refine xS_if (fun h1 => ?_) (fun h1 => ?_)
    · refine xS_of (pc' := 50) (L' := [(0, xa 536), (2, xi x2), (3, xi x3), (4, xi x4), (5, xi x5), (6, xi x6), (7, xi x7)]) (st' := []) (m' := m) (fun ex ns r q => ?_) ?_
      · refine xw_ic_eqT rfl (w32_cg c6) (w32_cg c3) h1 ?_
        refine xw_lo (L2 := [(0, xa 536), (2, xi x2), (3, xi x3), (4, xi x4), (5, xi x5), (6, xi x6), (7, xi x7)]) (List.forall_mem_cons.mpr ⟨rfl, List.forall_mem_cons.mpr ⟨rfl, List.forall_mem_cons.mpr ⟨rfl, List.forall_mem_cons.mpr ⟨rfl, List.forall_mem_cons.mpr ⟨rfl, List.forall_mem_cons.mpr ⟨rfl, List.forall_mem_cons.mpr ⟨rfl, fun _ h => absurd h List.not_mem_nil⟩⟩⟩⟩⟩⟩⟩) ?_
        exact q
      exact ygk292_50 hB hr9 _ _ _ _ _ _ _ c2 c3 c4 c5 c6 c7
    · refine xS_of (pc' := 24) (L' := [(0, xa 536), (2, xi x2), (3, xi x3), (4, xi x4), (5, xi x5), (6, xi x6), (7, xi x7)]) (st' := [xi x2, xi x5]) (m' := m) (fun ex ns r q => ?_) ?_
      · refine xw_ic_eqF rfl (w32_cg c6) (w32_cg c3) h1 ?_
        refine xw_iload rfl rfl ?_
        refine xw_iload_n rfl rfl ?_
        exact q
      refine xS_if (fun h2 => ?_) (fun h2 => ?_)
      · refine xS_g (fun g3 => ?_)
        refine xS_g (fun g4 => ?_)
        refine xS_g (fun g5 => ?_)
        refine xS_of (pc' := 44) (L' := [(0, xa 536), (2, xi x2), (3, xi x3), (4, xi x4), (5, xi x5), (6, xi x6), (7, xi x7)]) (st' := [xi x4, xi (xR m (m 536 59) x6), xi (xR m (m 536 59) x5), xa 536]) (m' := m) (fun ex ns r q => ?_) ?_
        · refine xw_ic_geF rfl (w32_cg c5) (w32_cg c2) (Int.not_le.mpr h2) ?_
          refine xw_aload_n rfl rfl rfl ?_
          refine xw_aload_n rfl rfl rfl ?_
          refine xw_gfM (v := (m 536 59)) rfl (xw_obd (by decide +kernel)) xk12_59 (qi := 59) rfl rfl ?_
          refine xw_iload rfl rfl ?_
          refine xw_ialdc (n := (xw_le B (m 536 59))) (v := (m (m 536 59) x5)) (v' := (xR m (m 536 59) x5)) rfl hB (xw_obd g4) rfl g3 rfl rfl ?_
          refine xw_aload_n rfl rfl rfl ?_
          refine xw_gfM (v := (m 536 59)) rfl (xw_obd (by decide +kernel)) xk12_59 (qi := 59) rfl rfl ?_
          refine xw_iload rfl rfl ?_
          refine xw_ialdc (n := (xw_le B (m 536 59))) (v := (m (m 536 59) x6)) (v' := (xR m (m 536 59) x6)) rfl hB (xw_obd g4) rfl g5 rfl rfl ?_
          refine xw_iload rfl rfl ?_
          refine xw_lo (L2 := [(0, xa 536), (2, xi x2), (3, xi x3), (4, xi x4), (5, xi x5), (6, xi x6), (7, xi x7)]) (List.forall_mem_cons.mpr ⟨rfl, List.forall_mem_cons.mpr ⟨rfl, List.forall_mem_cons.mpr ⟨rfl, List.forall_mem_cons.mpr ⟨rfl, List.forall_mem_cons.mpr ⟨rfl, List.forall_mem_cons.mpr ⟨rfl, List.forall_mem_cons.mpr ⟨rfl, fun _ h => absurd h List.not_mem_nil⟩⟩⟩⟩⟩⟩⟩) ?_
          exact q
        refine xS_call (q := 293) (n := 4) (kq := 1) (as := [xa 536, xi (xR m (m 536 59) x5), xi (xR m (m 536 59) x6), xi x4]) (st1 := []) rfl rfl rfl rfl rfl rfl rfl rfl rfl rfl (fun _ => xw_rcv1 (t := 12) (xw_obd (by decide +kernel)) rfl) rfl (List.forall_mem_cons.mpr ⟨rfl, List.forall_mem_cons.mpr ⟨rfl, List.forall_mem_cons.mpr ⟨rfl, List.forall_mem_cons.mpr ⟨rfl, fun _ h => absurd h List.not_mem_nil⟩⟩⟩⟩) (ygf293 hB _ _ _ _ (w32_xR _ _ _) (w32_xR _ _ _) c4) (fun v1 m1 cv1 => ?_)
        refine xS_if (fun h6 => ?_) (fun h6 => ?_)
        · refine xS_of (pc' := 54) (L' := [(0, xa 536), (2, xi x2), (3, xi x3), (4, xi x4), (5, xi x5), (6, xi x6), (7, xi x7)]) (st' := []) (m' := m1) (fun ex ns r q => ?_) ?_
          · refine xw_if_gtT rfl (w32_cg cv1) h6 ?_
            refine xw_lo (L2 := [(0, xa 536), (2, xi x2), (3, xi x3), (4, xi x4), (5, xi x5), (6, xi x6), (7, xi x7)]) (List.forall_mem_cons.mpr ⟨rfl, List.forall_mem_cons.mpr ⟨rfl, List.forall_mem_cons.mpr ⟨rfl, List.forall_mem_cons.mpr ⟨rfl, List.forall_mem_cons.mpr ⟨rfl, List.forall_mem_cons.mpr ⟨rfl, List.forall_mem_cons.mpr ⟨rfl, fun _ h => absurd h List.not_mem_nil⟩⟩⟩⟩⟩⟩⟩) ?_
            exact q
          exact ygk292_54 hB hr9 _ _ _ _ _ _ _ c2 c3 c4 c5 c6 c7
        · refine xS_of (pc' := 50) (L' := [(0, xa 536), (2, xi x2), (3, xi x3), (4, xi x4), (5, xi x5), (6, xi x6), (7, xi x7)]) (st' := []) (m' := m1) (fun ex ns r q => ?_) ?_
          · refine xw_if_gtF rfl (w32_cg cv1) h6 ?_
            refine xw_lo (L2 := [(0, xa 536), (2, xi x2), (3, xi x3), (4, xi x4), (5, xi x5), (6, xi x6), (7, xi x7)]) (List.forall_mem_cons.mpr ⟨rfl, List.forall_mem_cons.mpr ⟨rfl, List.forall_mem_cons.mpr ⟨rfl, List.forall_mem_cons.mpr ⟨rfl, List.forall_mem_cons.mpr ⟨rfl, List.forall_mem_cons.mpr ⟨rfl, List.forall_mem_cons.mpr ⟨rfl, fun _ h => absurd h List.not_mem_nil⟩⟩⟩⟩⟩⟩⟩) ?_
            exact q
          exact ygk292_50 hB hr9 _ _ _ _ _ _ _ c2 c3 c4 c5 c6 c7
      · refine xS_of (pc' := 54) (L' := [(0, xa 536), (2, xi x2), (3, xi x3), (4, xi x4), (5, xi x5), (6, xi x6), (7, xi x7)]) (st' := []) (m' := m) (fun ex ns r q => ?_) ?_
        · refine xw_ic_geT rfl (w32_cg c5) (w32_cg c2) (Int.not_lt.mp h2) ?_
          refine xw_lo (L2 := [(0, xa 536), (2, xi x2), (3, xi x3), (4, xi x4), (5, xi x5), (6, xi x6), (7, xi x7)]) (List.forall_mem_cons.mpr ⟨rfl, List.forall_mem_cons.mpr ⟨rfl, List.forall_mem_cons.mpr ⟨rfl, List.forall_mem_cons.mpr ⟨rfl, List.forall_mem_cons.mpr ⟨rfl, List.forall_mem_cons.mpr ⟨rfl, List.forall_mem_cons.mpr ⟨rfl, fun _ h => absurd h List.not_mem_nil⟩⟩⟩⟩⟩⟩⟩) ?_
          exact q
        exact ygk292_54 hB hr9 _ _ _ _ _ _ _ c2 c3 c4 c5 c6 c7
  · refine xS_of (pc' := 117) (L' := [(0, xa 536), (2, xi x2), (3, xi x3), (4, xi x4), (5, xi x5), (6, xi x6), (7, xi x7)]) (st' := []) (m' := m) (fun ex ns r q => ?_) ?_
    · refine xw_ic_geT rfl (w32_cg c7) (w32_cg c3) (Int.not_lt.mp h0) ?_
      exact q
    exact xS_ret (v := 0) rfl rfl rfl rfl
theorem ygl292_9 {B : Nat} (hB : B ≤ 512) {xs : Nat → Int32} {SL d : Nat} : ∀ n x2 x3 x4 x5 x6 x7 m, w32 x2 = x2 → w32 x3 = x3 → w32 x4 = x4 → w32 x5 = x5 → w32 x6 = x6 → w32 x7 = x7 → xS B xs SL (d + 3) 292 (9, none, [], 13) 0 9 [(0, xa 536), (2, xi x2), (3, xi x3), (4, xi x4), (5, xi x5), (6, xi x6), (7, xi x7)] [] m (xl6 (yl292_9 B) n x2 x3 x4 x5 x6 x7 m) := by
  intro n
  induction n with
  | zero => intro x2 x3 x4 x5 x6 x7 m c2 c3 c4 c5 c6 c7; exact xS_none
  | succ n ih => exact ysl292_9 hB ih
theorem ygf292 {B : Nat} (hB : B ≤ 512) {xs : Nat → Int32} {SL d : Nat} : ∀ p0 p1 p2 p3 m, w32 p0 = p0 → w32 p1 = p1 → w32 p2 = p2 → w32 p3 = p3 → xS B xs SL (d + 3) 292 (9, none, [], 13) 0 0 [(0, xa 536), (1, xi p0), (2, xi p1), (3, xi p2), (4, xi p3)] [] m (yf292 B p0 p1 p2 p3 m) := by
  intro p0 p1 p2 p3 m cp0 cp1 cp2 cp3
  unfold yf292
  refine xS_of (pc' := 9) (L' := [(0, xa 536), (2, xi p1), (3, xi p2), (4, xi p3), (5, xi p0), (6, xi p1), (7, xi p0)]) (st' := []) (m' := m) (fun ex ns r q => ?_) ?_
  · refine xw_iload_n rfl rfl ?_
    refine xw_istore (L' := [(5, xi p0), (0, xa 536), (1, xi p0), (2, xi p1), (3, xi p2), (4, xi p3)]) rfl (by decide) rfl ?_
    refine xw_iload_n rfl rfl ?_
    refine xw_istore (L' := [(6, xi p1), (5, xi p0), (0, xa 536), (1, xi p0), (2, xi p1), (3, xi p2), (4, xi p3)]) rfl (by decide) rfl ?_
    refine xw_iload_n rfl rfl ?_
    refine xw_istore (L' := [(7, xi p0), (6, xi p1), (5, xi p0), (0, xa 536), (1, xi p0), (2, xi p1), (3, xi p2), (4, xi p3)]) rfl (by decide) rfl ?_
    refine xw_lo (L2 := [(0, xa 536), (2, xi p1), (3, xi p2), (4, xi p3), (5, xi p0), (6, xi p1), (7, xi p0)]) (List.forall_mem_cons.mpr ⟨rfl, List.forall_mem_cons.mpr ⟨rfl, List.forall_mem_cons.mpr ⟨rfl, List.forall_mem_cons.mpr ⟨rfl, List.forall_mem_cons.mpr ⟨rfl, List.forall_mem_cons.mpr ⟨rfl, List.forall_mem_cons.mpr ⟨rfl, fun _ h => absurd h List.not_mem_nil⟩⟩⟩⟩⟩⟩⟩) ?_
    exact q
  exact ygl292_9 hB 1000000 _ _ _ _ _ _ _ cp1 cp2 cp3 cp0 cp1 cp0
theorem ysl290_44 {B : Nat} (hB : B ≤ 512) {xs : Nat → Int32} {SL d : Nat} {r34 : Int → Int → xw_M → xP} (hr34 : ∀ x1 x2 m, w32 x1 = x1 → w32 x2 = x2 → xS B xs SL (d + 4) 290 (4, none, [], 13) 0 34 [(0, xa 536), (1, xi x1), (2, xi x2)] [] m (r34 x1 x2 m)) {r44 : Int → Int → Int → xw_M → xP} (hr44 : ∀ x1 x2 x3 m, w32 x1 = x1 → w32 x2 = x2 → w32 x3 = x3 → xS B xs SL (d + 4) 290 (4, none, [], 13) 0 44 [(0, xa 536), (1, xi x1), (2, xi x2), (3, xi x3)] [] m (r44 x1 x2 x3 m)) : ∀ x1 x2 x3 m, w32 x1 = x1 → w32 x2 = x2 → w32 x3 = x3 → xS B xs SL (d + 4) 290 (4, none, [], 13) 0 44 [(0, xa 536), (1, xi x1), (2, xi x2), (3, xi x3)] [] m (yl290_44 B r34 r44 x1 x2 x3 m) := by
  intro x1 x2 x3 m c1 c2 c3
  unfold yl290_44
  refine xS_of (pc' := 49) (L' := [(0, xa 536), (1, xi x1), (2, xi x2), (3, xi x3)]) (st' := [xi (xR m 536 58), xi x3]) (m' := m) (fun ex ns r q => ?_) ?_
  · refine xw_iload_n rfl rfl ?_
    refine xw_aload_n rfl rfl rfl ?_
    refine xw_gfIc (v := (m 536 58)) (v' := (xR m 536 58)) rfl (xw_obd (by decide +kernel)) xk12_58 (qi := 58) rfl rfl rfl ?_
    exact q
  refine xS_if (fun h0 => ?_) (fun h0 => ?_)
  · refine xS_of (pc' := 77) (L' := [(0, xa 536), (1, xi x1), (2, xi x2), (3, xi x3)]) (st' := [xi x1, xi (min (w32 (x3 + (2 * x2))) (xR m 536 58)), xi (min (w32 (x3 + x2)) (xR m 536 58)), xi x3, xa 536]) (m' := m) (fun ex ns r q => ?_) ?_
    · refine xw_ic_geF rfl (w32_cg c3) (w32_cg (w32_xR _ _ _)) (Int.not_le.mpr h0) ?_
      refine xw_aload_n rfl rfl rfl ?_
      refine xw_iload_n rfl rfl ?_
      refine xw_iload_n rfl rfl ?_
      refine xw_iload_n rfl rfl ?_
      refine xw_iadd rfl ?_
      refine xw_aload_n rfl rfl rfl ?_
      refine xw_gfIc (v := (m 536 58)) (v' := (xR m 536 58)) rfl (xw_obd (by decide +kernel)) xk12_58 (qi := 58) rfl rfl rfl ?_
      refine xw_cst (st' := [xi (xR m 536 58), xi (w32 (x3 + x2)), xi x3, xa 536]) (xw_sc rfl (xw_sc (xi_c rfl) rfl)) ?_
      refine xw_minI rfl rfl (w32_cg (w32_w _)) (w32_cg (w32_xR _ _ _)) rfl ?_
      refine xw_iload_n rfl rfl ?_
      refine xw_iconst rfl ?_
      refine xw_iload_n rfl rfl ?_
      refine xw_imul rfl ?_
      refine xw_iadd rfl ?_
      refine xw_aload_n rfl rfl rfl ?_
      refine xw_gfIc (v := (m 536 58)) (v' := (xR m 536 58)) rfl (xw_obd (by decide +kernel)) xk12_58 (qi := 58) rfl rfl rfl ?_
      refine xw_cst (st' := [xi (xR m 536 58), xi (w32 (x3 + (2 * x2))), xi (min (w32 (x3 + x2)) (xR m 536 58)), xi x3, xa 536]) (xw_sc rfl (xw_sc (xi_c rfl) rfl)) ?_
      refine xw_minI rfl rfl (w32_cg (w32_w _)) (w32_cg (w32_xR _ _ _)) rfl ?_
      refine xw_iload_n rfl rfl ?_
      refine xw_lo (L2 := [(0, xa 536), (1, xi x1), (2, xi x2), (3, xi x3)]) (List.forall_mem_cons.mpr ⟨rfl, List.forall_mem_cons.mpr ⟨rfl, List.forall_mem_cons.mpr ⟨rfl, List.forall_mem_cons.mpr ⟨rfl, fun _ h => absurd h List.not_mem_nil⟩⟩⟩⟩) ?_
      exact q
    refine xS_call (q := 292) (n := 5) (kq := 0) (as := [xa 536, xi x3, xi (min (w32 (x3 + x2)) (xR m 536 58)), xi (min (w32 (x3 + (2 * x2))) (xR m 536 58)), xi x1]) (st1 := []) rfl rfl rfl rfl rfl rfl rfl rfl rfl rfl (fun _ => xw_rcv1 (t := 12) (xw_obd (by decide +kernel)) rfl) rfl (List.forall_mem_cons.mpr ⟨rfl, List.forall_mem_cons.mpr ⟨rfl, List.forall_mem_cons.mpr ⟨rfl, List.forall_mem_cons.mpr ⟨rfl, List.forall_mem_cons.mpr ⟨rfl, fun _ h => absurd h List.not_mem_nil⟩⟩⟩⟩⟩) (ygf292 hB _ _ _ _ _ c3 (w32_mn (w32_w _) (w32_xR _ _ _)) (w32_mn (w32_w _) (w32_xR _ _ _)) c1) (fun v1 m1 cv1 => ?_)
    refine xS_of (pc' := 44) (L' := [(0, xa 536), (1, xi x1), (2, xi x2), (3, xi (w32 (x3 + (2 * x2))))]) (st' := []) (m' := m1) (fun ex ns r q => ?_) ?_
    · refine xw_iload_n rfl rfl ?_
      refine xw_iconst rfl ?_
      refine xw_iload_n rfl rfl ?_
      refine xw_imul rfl ?_
      refine xw_iadd rfl ?_
      refine xw_cst (st' := [xi (w32 (x3 + (2 * x2)))]) (xw_sc (xi_c rfl) rfl) ?_
      refine xw_istore_n (L' := [(3, xi (w32 (x3 + (2 * x2)))), (0, xa 536), (1, xi x1), (2, xi x2)]) rfl (by decide) rfl ?_
      refine xw_goto rfl ?_
      refine xw_lo (L2 := [(0, xa 536), (1, xi x1), (2, xi x2), (3, xi (w32 (x3 + (2 * x2))))]) (List.forall_mem_cons.mpr ⟨rfl, List.forall_mem_cons.mpr ⟨rfl, List.forall_mem_cons.mpr ⟨rfl, List.forall_mem_cons.mpr ⟨rfl, fun _ h => absurd h List.not_mem_nil⟩⟩⟩⟩) ?_
      exact q
    exact hr44 _ _ _ _ c1 c2 (w32_w _)
  · refine xS_of (pc' := 34) (L' := [(0, xa 536), (1, xi x1), (2, xi (w32 (x2 * 2)))]) (st' := []) (m' := (xw_u (xw_u m 536 59 (m 536 60)) 536 60 (m 536 59))) (fun ex ns r q => ?_) ?_
    · refine xw_ic_geT rfl (w32_cg c3) (w32_cg (w32_xR _ _ _)) (Int.not_lt.mp h0) ?_
      refine xw_aload_n rfl rfl rfl ?_
      refine xw_gfM (v := (m 536 59)) rfl (xw_obd (by decide +kernel)) xk12_59 (qi := 59) rfl rfl ?_
      refine xw_astore_n (L' := [(3, xa (m 536 59)), (0, xa 536), (1, xi x1), (2, xi x2)]) rfl rfl (by decide) rfl ?_
      refine xw_aload_n rfl rfl rfl ?_
      refine xw_aload_n rfl rfl rfl ?_
      refine xw_gfM (v := (m 536 60)) rfl (xw_obd (by decide +kernel)) xk12_60 (qi := 60) rfl rfl ?_
      refine xw_pfM rfl (xw_obd (by decide +kernel)) xk12_59 (qi := 59) rfl (xw_okM rfl rfl rfl) ?_
      refine xw_aload_n rfl rfl rfl ?_
      refine xw_aload_n rfl rfl rfl ?_
      refine xw_pfM rfl (xw_obd (by decide +kernel)) xk12_60 (qi := 60) rfl (xw_okM rfl rfl rfl) ?_
      refine xw_iload_n rfl rfl ?_
      refine xw_iconst rfl ?_
      refine xw_imul rfl ?_
      refine xw_cst (st' := [xi (w32 (x2 * 2))]) (xw_sc (xi_c rfl) rfl) ?_
      refine xw_istore_n (L' := [(2, xi (w32 (x2 * 2))), (3, xa (m 536 59)), (0, xa 536), (1, xi x1)]) rfl (by decide) rfl ?_
      refine xw_goto rfl ?_
      refine xw_lo (L2 := [(0, xa 536), (1, xi x1), (2, xi (w32 (x2 * 2)))]) (List.forall_mem_cons.mpr ⟨rfl, List.forall_mem_cons.mpr ⟨rfl, List.forall_mem_cons.mpr ⟨rfl, fun _ h => absurd h List.not_mem_nil⟩⟩⟩) ?_
      exact q
    exact hr34 _ _ _ c1 (w32_w _)
theorem ygl290_44 {B : Nat} (hB : B ≤ 512) {xs : Nat → Int32} {SL d : Nat} {r34 : Int → Int → xw_M → xP} (hr34 : ∀ x1 x2 m, w32 x1 = x1 → w32 x2 = x2 → xS B xs SL (d + 4) 290 (4, none, [], 13) 0 34 [(0, xa 536), (1, xi x1), (2, xi x2)] [] m (r34 x1 x2 m)) : ∀ n x1 x2 x3 m, w32 x1 = x1 → w32 x2 = x2 → w32 x3 = x3 → xS B xs SL (d + 4) 290 (4, none, [], 13) 0 44 [(0, xa 536), (1, xi x1), (2, xi x2), (3, xi x3)] [] m (xl3 (yl290_44 B r34) n x1 x2 x3 m) := by
  intro n
  induction n with
  | zero => intro x1 x2 x3 m c1 c2 c3; exact xS_none
  | succ n ih => exact ysl290_44 hB hr34 ih
theorem ygk290_160 {B : Nat} (hB : B ≤ 512) {xs : Nat → Int32} {SL d : Nat} {r121 : Int → Int → xw_M → xP} (hr121 : ∀ x1 x2 m, w32 x1 = x1 → w32 x2 = x2 → xS B xs SL (d + 4) 290 (4, none, [], 13) 0 121 [(0, xa 536), (1, xi x1), (2, xi x2)] [] m (r121 x1 x2 m)) : ∀ x1 x2 m, w32 x1 = x1 → w32 x2 = x2 → xS B xs SL (d + 4) 290 (4, none, [], 13) 0 160 [(0, xa 536), (1, xi x1), (2, xi x2)] [] m (yk290_160 B r121 x1 x2 m) := by
  intro x1 x2 m c1 c2
  unfold yk290_160
  refine xS_g (fun g0 => ?_)
  refine xS_of (pc' := 121) (L' := [(0, xa 536), (1, xi x1), (2, xi (w32 (x2 + 1)))]) (st' := []) (m' := (xw_u (xw_u m 592 (xR m 536 61) x2) 536 61 ((xR m 536 61) + 1))) (fun ex ns r q => ?_) ?_
  · refine xw_aload_n rfl rfl rfl ?_
    refine xw_gfR (n := 592) (e := 592) rfl (xw_obd (by decide +kernel)) (by decide +kernel) (by decide +kernel) rfl ?_
    refine xw_aload_n rfl rfl rfl ?_
    refine xw_gfIc (v := (m 536 61)) (v' := (xR m 536 61)) rfl (xw_obd (by decide +kernel)) xk12_61 (qi := 61) rfl rfl rfl ?_
    refine xw_iload_n rfl rfl ?_
    refine xw_iast (n := 20001) rfl hB (xw_obd (by decide +kernel)) rfl g0 ?_
    refine xw_aload_n rfl rfl rfl ?_
    refine xw_dup rfl rfl ?_
    refine xw_gfIc (v := (m 536 61)) (v' := (xR m 536 61)) rfl (xw_obd (by decide +kernel)) xk12_61 (qi := 61) rfl (xw_un (fun e => absurd e.1 (by decide)) rfl) rfl ?_
    refine xw_iconst rfl ?_
    refine xw_iadd rfl ?_
    refine xw_pfI rfl (xw_obd (by decide +kernel)) xk12_61 (qi := 61) rfl (xw_okI rfl) ?_
    refine xw_iincc (z := (w32 (x2 + 1))) (L' := [(2, xi (w32 (x2 + 1))), (0, xa 536), (1, xi x1)]) rfl rfl (by decide) rfl rfl ?_
    refine xw_goto rfl ?_
    refine xw_lo (L2 := [(0, xa 536), (1, xi x1), (2, xi (w32 (x2 + 1)))]) (List.forall_mem_cons.mpr ⟨rfl, List.forall_mem_cons.mpr ⟨rfl, List.forall_mem_cons.mpr ⟨rfl, fun _ h => absurd h List.not_mem_nil⟩⟩⟩) ?_
    exact q
  exact hr121 _ _ _ c1 (w32_w _)
theorem ysl290_121 {B : Nat} (hB : B ≤ 512) {xs : Nat → Int32} {SL d : Nat} {r121 : Int → Int → xw_M → xP} (hr121 : ∀ x1 x2 m, w32 x1 = x1 → w32 x2 = x2 → xS B xs SL (d + 4) 290 (4, none, [], 13) 0 121 [(0, xa 536), (1, xi x1), (2, xi x2)] [] m (r121 x1 x2 m)) : ∀ x1 x2 m, w32 x1 = x1 → w32 x2 = x2 → xS B xs SL (d + 4) 290 (4, none, [], 13) 0 121 [(0, xa 536), (1, xi x1), (2, xi x2)] [] m (yl290_121 B r121 x1 x2 m) := by
  intro x1 x2 m c1 c2
  unfold yl290_121
  refine xS_of (pc' := 126) (L' := [(0, xa 536), (1, xi x1), (2, xi x2)]) (st' := [xi (xR m 536 58), xi x2]) (m' := m) (fun ex ns r q => ?_) ?_
  · refine xw_iload_n rfl rfl ?_
    refine xw_aload_n rfl rfl rfl ?_
    refine xw_gfIc (v := (m 536 58)) (v' := (xR m 536 58)) rfl (xw_obd (by decide +kernel)) xk12_58 (qi := 58) rfl rfl rfl ?_
    exact q
  refine xS_if (fun h0 => ?_) (fun h0 => ?_)
  · refine xS_of (pc' := 130) (L' := [(0, xa 536), (1, xi x1), (2, xi x2)]) (st' := [xi x2]) (m' := m) (fun ex ns r q => ?_) ?_
    · refine xw_ic_geF rfl (w32_cg c2) (w32_cg (w32_xR _ _ _)) (Int.not_le.mpr h0) ?_
      refine xw_iload_n rfl rfl ?_
      exact q
    refine xS_if (fun h1 => ?_) (fun h1 => ?_)
    · refine xS_of (pc' := 160) (L' := [(0, xa 536), (1, xi x1), (2, xi x2)]) (st' := []) (m' := m) (fun ex ns r q => ?_) ?_
      · refine xw_if_eqT rfl (w32_cg c2) h1 ?_
        refine xw_lo (L2 := [(0, xa 536), (1, xi x1), (2, xi x2)]) (List.forall_mem_cons.mpr ⟨rfl, List.forall_mem_cons.mpr ⟨rfl, List.forall_mem_cons.mpr ⟨rfl, fun _ h => absurd h List.not_mem_nil⟩⟩⟩) ?_
        exact q
      exact ygk290_160 hB hr121 _ _ _ c1 c2
    · refine xS_of (pc' := 135) (L' := [(0, xa 536), (1, xi x1), (2, xi x2)]) (st' := [xi (-1), xi x1]) (m' := m) (fun ex ns r q => ?_) ?_
      · refine xw_if_eqF rfl (w32_cg c2) h1 ?_
        refine xw_iload_n rfl rfl ?_
        refine xw_iconst rfl ?_
        exact q
      refine xS_if (fun h2 => ?_) (fun h2 => ?_)
      · refine xS_of (pc' := 160) (L' := [(0, xa 536), (1, xi x1), (2, xi x2)]) (st' := []) (m' := m) (fun ex ns r q => ?_) ?_
        · refine xw_ic_eqT rfl (w32_cg c1) (w32_cg rfl) h2 ?_
          refine xw_lo (L2 := [(0, xa 536), (1, xi x1), (2, xi x2)]) (List.forall_mem_cons.mpr ⟨rfl, List.forall_mem_cons.mpr ⟨rfl, List.forall_mem_cons.mpr ⟨rfl, fun _ h => absurd h List.not_mem_nil⟩⟩⟩) ?_
          exact q
        exact ygk290_160 hB hr121 _ _ _ c1 c2
      · refine xS_g (fun g3 => ?_)
        refine xS_g (fun g4 => ?_)
        refine xS_g (fun g5 => ?_)
        refine xS_of (pc' := 154) (L' := [(0, xa 536), (1, xi x1), (2, xi x2)]) (st' := [xi x1, xi (xR m (m 536 59) x2), xi (xR m (m 536 59) (x2 - 1)), xa 536]) (m' := m) (fun ex ns r q => ?_) ?_
        · refine xw_ic_eqF rfl (w32_cg c1) (w32_cg rfl) h2 ?_
          refine xw_aload_n rfl rfl rfl ?_
          refine xw_aload_n rfl rfl rfl ?_
          refine xw_gfM (v := (m 536 59)) rfl (xw_obd (by decide +kernel)) xk12_59 (qi := 59) rfl rfl ?_
          refine xw_iload_n rfl rfl ?_
          refine xw_iconst rfl ?_
          refine xw_isub rfl ?_
          refine xw_ialdc (n := (xw_le B (m 536 59))) (v := (m (m 536 59) (x2 - 1))) (v' := (xR m (m 536 59) (x2 - 1))) rfl hB (xw_obd g4) rfl g3 rfl rfl ?_
          refine xw_aload_n rfl rfl rfl ?_
          refine xw_gfM (v := (m 536 59)) rfl (xw_obd (by decide +kernel)) xk12_59 (qi := 59) rfl rfl ?_
          refine xw_iload_n rfl rfl ?_
          refine xw_ialdc (n := (xw_le B (m 536 59))) (v := (m (m 536 59) x2)) (v' := (xR m (m 536 59) x2)) rfl hB (xw_obd g4) rfl g5 rfl rfl ?_
          refine xw_iload_n rfl rfl ?_
          refine xw_lo (L2 := [(0, xa 536), (1, xi x1), (2, xi x2)]) (List.forall_mem_cons.mpr ⟨rfl, List.forall_mem_cons.mpr ⟨rfl, List.forall_mem_cons.mpr ⟨rfl, fun _ h => absurd h List.not_mem_nil⟩⟩⟩) ?_
          exact q
        refine xS_call (q := 293) (n := 4) (kq := 1) (as := [xa 536, xi (xR m (m 536 59) (x2 - 1)), xi (xR m (m 536 59) x2), xi x1]) (st1 := []) rfl rfl rfl rfl rfl rfl rfl rfl rfl rfl (fun _ => xw_rcv1 (t := 12) (xw_obd (by decide +kernel)) rfl) rfl (List.forall_mem_cons.mpr ⟨rfl, List.forall_mem_cons.mpr ⟨rfl, List.forall_mem_cons.mpr ⟨rfl, List.forall_mem_cons.mpr ⟨rfl, fun _ h => absurd h List.not_mem_nil⟩⟩⟩⟩) (ygf293 hB _ _ _ _ (w32_xR _ _ _) (w32_xR _ _ _) c1) (fun v1 m1 cv1 => ?_)
        refine xS_if (fun h6 => ?_) (fun h6 => ?_)
        · refine xS_of (pc' := 121) (L' := [(0, xa 536), (1, xi x1), (2, xi (w32 (x2 + 1)))]) (st' := []) (m' := m1) (fun ex ns r q => ?_) ?_
          · refine xw_if_eqT rfl (w32_cg cv1) h6 ?_
            refine xw_iincc (z := (w32 (x2 + 1))) (L' := [(2, xi (w32 (x2 + 1))), (0, xa 536), (1, xi x1)]) rfl rfl (by decide) rfl rfl ?_
            refine xw_goto rfl ?_
            refine xw_lo (L2 := [(0, xa 536), (1, xi x1), (2, xi (w32 (x2 + 1)))]) (List.forall_mem_cons.mpr ⟨rfl, List.forall_mem_cons.mpr ⟨rfl, List.forall_mem_cons.mpr ⟨rfl, fun _ h => absurd h List.not_mem_nil⟩⟩⟩) ?_
            exact q
          exact hr121 _ _ _ c1 (w32_w _)
        · refine xS_of (pc' := 160) (L' := [(0, xa 536), (1, xi x1), (2, xi x2)]) (st' := []) (m' := m1) (fun ex ns r q => ?_) ?_
          · refine xw_if_eqF rfl (w32_cg cv1) h6 ?_
            refine xw_lo (L2 := [(0, xa 536), (1, xi x1), (2, xi x2)]) (List.forall_mem_cons.mpr ⟨rfl, List.forall_mem_cons.mpr ⟨rfl, List.forall_mem_cons.mpr ⟨rfl, fun _ h => absurd h List.not_mem_nil⟩⟩⟩) ?_
            exact q
          exact ygk290_160 hB hr121 _ _ _ c1 c2
  · refine xS_g (fun g1 => ?_)
    refine xS_of (pc' := 199) (L' := [(0, xa 536), (1, xi x1), (2, xi x2)]) (st' := []) (m' := (xw_u m 592 (xR m 536 61) (xR m 536 58))) (fun ex ns r q => ?_) ?_
    · refine xw_ic_geT rfl (w32_cg c2) (w32_cg (w32_xR _ _ _)) (Int.not_lt.mp h0) ?_
      refine xw_aload_n rfl rfl rfl ?_
      refine xw_gfR (n := 592) (e := 592) rfl (xw_obd (by decide +kernel)) (by decide +kernel) (by decide +kernel) rfl ?_
      refine xw_aload_n rfl rfl rfl ?_
      refine xw_gfIc (v := (m 536 61)) (v' := (xR m 536 61)) rfl (xw_obd (by decide +kernel)) xk12_61 (qi := 61) rfl rfl rfl ?_
      refine xw_aload_n rfl rfl rfl ?_
      refine xw_gfIc (v := (m 536 58)) (v' := (xR m 536 58)) rfl (xw_obd (by decide +kernel)) xk12_58 (qi := 58) rfl rfl rfl ?_
      refine xw_iast (n := 20001) rfl hB (xw_obd (by decide +kernel)) rfl g1 ?_
      exact q
    exact xS_ret (v := 0) rfl rfl rfl rfl
theorem ygl290_121 {B : Nat} (hB : B ≤ 512) {xs : Nat → Int32} {SL d : Nat} : ∀ n x1 x2 m, w32 x1 = x1 → w32 x2 = x2 → xS B xs SL (d + 4) 290 (4, none, [], 13) 0 121 [(0, xa 536), (1, xi x1), (2, xi x2)] [] m (xl2 (yl290_121 B) n x1 x2 m) := by
  intro n
  induction n with
  | zero => intro x1 x2 m c1 c2; exact xS_none
  | succ n ih => exact ysl290_121 hB ih
theorem ysl290_34 {B : Nat} (hB : B ≤ 512) {xs : Nat → Int32} {SL d : Nat} {r34 : Int → Int → xw_M → xP} (hr34 : ∀ x1 x2 m, w32 x1 = x1 → w32 x2 = x2 → xS B xs SL (d + 4) 290 (4, none, [], 13) 0 34 [(0, xa 536), (1, xi x1), (2, xi x2)] [] m (r34 x1 x2 m)) : ∀ x1 x2 m, w32 x1 = x1 → w32 x2 = x2 → xS B xs SL (d + 4) 290 (4, none, [], 13) 0 34 [(0, xa 536), (1, xi x1), (2, xi x2)] [] m (yl290_34 B r34 x1 x2 m) := by
  intro x1 x2 m c1 c2
  unfold yl290_34
  refine xS_of (pc' := 39) (L' := [(0, xa 536), (1, xi x1), (2, xi x2)]) (st' := [xi (xR m 536 58), xi x2]) (m' := m) (fun ex ns r q => ?_) ?_
  · refine xw_iload_n rfl rfl ?_
    refine xw_aload_n rfl rfl rfl ?_
    refine xw_gfIc (v := (m 536 58)) (v' := (xR m 536 58)) rfl (xw_obd (by decide +kernel)) xk12_58 (qi := 58) rfl rfl rfl ?_
    exact q
  refine xS_if (fun h0 => ?_) (fun h0 => ?_)
  · refine xS_of (pc' := 44) (L' := [(0, xa 536), (1, xi x1), (2, xi x2), (3, xi 0)]) (st' := []) (m' := m) (fun ex ns r q => ?_) ?_
    · refine xw_ic_geF rfl (w32_cg c2) (w32_cg (w32_xR _ _ _)) (Int.not_le.mpr h0) ?_
      refine xw_iconst rfl ?_
      refine xw_istore_n (L' := [(3, xi 0), (0, xa 536), (1, xi x1), (2, xi x2)]) rfl (by decide) rfl ?_
      refine xw_lo (L2 := [(0, xa 536), (1, xi x1), (2, xi x2), (3, xi 0)]) (List.forall_mem_cons.mpr ⟨rfl, List.forall_mem_cons.mpr ⟨rfl, List.forall_mem_cons.mpr ⟨rfl, List.forall_mem_cons.mpr ⟨rfl, fun _ h => absurd h List.not_mem_nil⟩⟩⟩⟩) ?_
      exact q
    exact ygl290_44 hB hr34 1000000 _ _ _ _ c1 c2 rfl
  · refine xS_of (pc' := 121) (L' := [(0, xa 536), (1, xi x1), (2, xi 0)]) (st' := []) (m' := (xw_u m 536 61 0)) (fun ex ns r q => ?_) ?_
    · refine xw_ic_geT rfl (w32_cg c2) (w32_cg (w32_xR _ _ _)) (Int.not_lt.mp h0) ?_
      refine xw_aload_n rfl rfl rfl ?_
      refine xw_iconst rfl ?_
      refine xw_pfI rfl (xw_obd (by decide +kernel)) xk12_61 (qi := 61) rfl (xw_okI rfl) ?_
      refine xw_iconst rfl ?_
      refine xw_istore_n (L' := [(2, xi 0), (0, xa 536), (1, xi x1)]) rfl (by decide) rfl ?_
      refine xw_lo (L2 := [(0, xa 536), (1, xi x1), (2, xi 0)]) (List.forall_mem_cons.mpr ⟨rfl, List.forall_mem_cons.mpr ⟨rfl, List.forall_mem_cons.mpr ⟨rfl, fun _ h => absurd h List.not_mem_nil⟩⟩⟩) ?_
      exact q
    exact ygl290_121 hB 1000000 _ _ _ c1 rfl
theorem ygl290_34 {B : Nat} (hB : B ≤ 512) {xs : Nat → Int32} {SL d : Nat} : ∀ n x1 x2 m, w32 x1 = x1 → w32 x2 = x2 → xS B xs SL (d + 4) 290 (4, none, [], 13) 0 34 [(0, xa 536), (1, xi x1), (2, xi x2)] [] m (xl2 (yl290_34 B) n x1 x2 m) := by
  intro n
  induction n with
  | zero => intro x1 x2 m c1 c2; exact xS_none
  | succ n ih => exact ysl290_34 hB ih
theorem ysl290_2 {B : Nat} (hB : B ≤ 512) {xs : Nat → Int32} {SL d : Nat} {r2 : Int → Int → xw_M → xP} (hr2 : ∀ x1 x2 m, w32 x1 = x1 → w32 x2 = x2 → xS B xs SL (d + 4) 290 (4, none, [], 13) 0 2 [(0, xa 536), (1, xi x1), (2, xi x2)] [] m (r2 x1 x2 m)) : ∀ x1 x2 m, w32 x1 = x1 → w32 x2 = x2 → xS B xs SL (d + 4) 290 (4, none, [], 13) 0 2 [(0, xa 536), (1, xi x1), (2, xi x2)] [] m (yl290_2 B r2 x1 x2 m) := by
  intro x1 x2 m c1 c2
  unfold yl290_2
  refine xS_of (pc' := 7) (L' := [(0, xa 536), (1, xi x1), (2, xi x2)]) (st' := [xi (xR m 536 14), xi x2]) (m' := m) (fun ex ns r q => ?_) ?_
  · refine xw_iload_n rfl rfl ?_
    refine xw_aload_n rfl rfl rfl ?_
    refine xw_gfIc (v := (m 536 14)) (v' := (xR m 536 14)) rfl (xw_obd (by decide +kernel)) xk12_14 (qi := 14) rfl rfl rfl ?_
    exact q
  refine xS_if (fun h0 => ?_) (fun h0 => ?_)
  · refine xS_of (pc' := 11) (L' := [(0, xa 536), (1, xi x1), (2, xi x2)]) (st' := [xi x1]) (m' := m) (fun ex ns r q => ?_) ?_
    · refine xw_ic_geF rfl (w32_cg c2) (w32_cg (w32_xR _ _ _)) (Int.not_le.mpr h0) ?_
      refine xw_iload_n rfl rfl ?_
      exact q
    refine xS_if (fun h1 => ?_) (fun h1 => ?_)
    · refine xS_of (pc' := 34) (L' := [(0, xa 536), (1, xi x1), (2, xi 1)]) (st' := []) (m' := m) (fun ex ns r q => ?_) ?_
      · refine xw_if_ltT rfl (w32_cg c1) h1 ?_
        refine xw_iconst rfl ?_
        refine xw_istore_n (L' := [(2, xi 1), (0, xa 536), (1, xi x1)]) rfl (by decide) rfl ?_
        refine xw_lo (L2 := [(0, xa 536), (1, xi x1), (2, xi 1)]) (List.forall_mem_cons.mpr ⟨rfl, List.forall_mem_cons.mpr ⟨rfl, List.forall_mem_cons.mpr ⟨rfl, fun _ h => absurd h List.not_mem_nil⟩⟩⟩) ?_
        exact q
      exact ygl290_34 hB 1000000 _ _ _ c1 rfl
    · refine xS_of (pc' := 22) (L' := [(0, xa 536), (1, xi x1), (2, xi x2)]) (st' := [xi x2, xi x1, xa 536, xi x2, xa 603]) (m' := m) (fun ex ns r q => ?_) ?_
      · refine xw_if_ltF rfl (w32_cg c1) h1 ?_
        refine xw_aload_n rfl rfl rfl ?_
        refine xw_gfR (n := 603) (e := 603) rfl (xw_obd (by decide +kernel)) (by decide +kernel) (by decide +kernel) rfl ?_
        refine xw_iload_n rfl rfl ?_
        refine xw_aload_n rfl rfl rfl ?_
        refine xw_iload_n rfl rfl ?_
        refine xw_iload_n rfl rfl ?_
        refine xw_lo (L2 := [(0, xa 536), (1, xi x1), (2, xi x2)]) (List.forall_mem_cons.mpr ⟨rfl, List.forall_mem_cons.mpr ⟨rfl, List.forall_mem_cons.mpr ⟨rfl, fun _ h => absurd h List.not_mem_nil⟩⟩⟩) ?_
        exact q
      refine xS_call (q := 291) (n := 3) (kq := 1) (as := [xa 536, xi x1, xi x2]) (st1 := [xi x2, xa 603]) rfl rfl rfl rfl rfl rfl rfl rfl rfl rfl (fun _ => xw_rcv1 (t := 12) (xw_obd (by decide +kernel)) rfl) rfl (List.forall_mem_cons.mpr ⟨rfl, List.forall_mem_cons.mpr ⟨rfl, List.forall_mem_cons.mpr ⟨rfl, fun _ h => absurd h List.not_mem_nil⟩⟩⟩) (ygf291 hB _ _ _ c1 c2) (fun v1 m1 cv1 => ?_)
      refine xS_g (fun g2 => ?_)
      refine xS_of (pc' := 2) (L' := [(0, xa 536), (1, xi x1), (2, xi (w32 (x2 + 1)))]) (st' := []) (m' := (xw_u m1 603 x2 v1)) (fun ex ns r q => ?_) ?_
      · refine xw_iast (n := 8) rfl hB (xw_obd (by decide +kernel)) rfl g2 ?_
        refine xw_iincc (z := (w32 (x2 + 1))) (L' := [(2, xi (w32 (x2 + 1))), (0, xa 536), (1, xi x1)]) rfl rfl (by decide) rfl rfl ?_
        refine xw_goto rfl ?_
        refine xw_lo (L2 := [(0, xa 536), (1, xi x1), (2, xi (w32 (x2 + 1)))]) (List.forall_mem_cons.mpr ⟨rfl, List.forall_mem_cons.mpr ⟨rfl, List.forall_mem_cons.mpr ⟨rfl, fun _ h => absurd h List.not_mem_nil⟩⟩⟩) ?_
        exact q
      exact hr2 _ _ _ c1 (w32_w _)
  · refine xS_of (pc' := 34) (L' := [(0, xa 536), (1, xi x1), (2, xi 1)]) (st' := []) (m' := m) (fun ex ns r q => ?_) ?_
    · refine xw_ic_geT rfl (w32_cg c2) (w32_cg (w32_xR _ _ _)) (Int.not_lt.mp h0) ?_
      refine xw_iconst rfl ?_
      refine xw_istore_n (L' := [(2, xi 1), (0, xa 536), (1, xi x1)]) rfl (by decide) rfl ?_
      refine xw_lo (L2 := [(0, xa 536), (1, xi x1), (2, xi 1)]) (List.forall_mem_cons.mpr ⟨rfl, List.forall_mem_cons.mpr ⟨rfl, List.forall_mem_cons.mpr ⟨rfl, fun _ h => absurd h List.not_mem_nil⟩⟩⟩) ?_
      exact q
    exact ygl290_34 hB 1000000 _ _ _ c1 rfl
theorem ygl290_2 {B : Nat} (hB : B ≤ 512) {xs : Nat → Int32} {SL d : Nat} : ∀ n x1 x2 m, w32 x1 = x1 → w32 x2 = x2 → xS B xs SL (d + 4) 290 (4, none, [], 13) 0 2 [(0, xa 536), (1, xi x1), (2, xi x2)] [] m (xl2 (yl290_2 B) n x1 x2 m) := by
  intro n
  induction n with
  | zero => intro x1 x2 m c1 c2; exact xS_none
  | succ n ih => exact ysl290_2 hB ih
theorem ygf290 {B : Nat} (hB : B ≤ 512) {xs : Nat → Int32} {SL d : Nat} : ∀ p0 m, w32 p0 = p0 → xS B xs SL (d + 4) 290 (4, none, [], 13) 0 0 [(0, xa 536), (1, xi p0)] [] m (yf290 B p0 m) := by
  intro p0 m cp0
  unfold yf290
  refine xS_of (pc' := 2) (L' := [(0, xa 536), (1, xi p0), (2, xi 0)]) (st' := []) (m' := m) (fun ex ns r q => ?_) ?_
  · refine xw_iconst rfl ?_
    refine xw_istore_n (L' := [(2, xi 0), (0, xa 536), (1, xi p0)]) rfl (by decide) rfl ?_
    refine xw_lo (L2 := [(0, xa 536), (1, xi p0), (2, xi 0)]) (List.forall_mem_cons.mpr ⟨rfl, List.forall_mem_cons.mpr ⟨rfl, List.forall_mem_cons.mpr ⟨rfl, fun _ h => absurd h List.not_mem_nil⟩⟩⟩) ?_
    exact q
  exact ygl290_2 hB 1000000 _ _ _ cp0 rfl
theorem ygk285_62 {B : Nat} (hB : B ≤ 512) {xs : Nat → Int32} {SL d : Nat} : ∀ x2 m, w32 x2 = x2 → xS B xs SL (d + 5) 285 (4, (some .boolean), [], 13) 4 62 [(2, xi x2)] [] m (yk285_62 B x2 m) := by
  intro x2 m c2
  unfold yk285_62
  refine xS_of (pc' := 66) (L' := [(2, xi x2)]) (st' := [xi 4000, xi x2]) (m' := m) (fun ex ns r q => ?_) ?_
  · refine xw_iload_n rfl rfl ?_
    refine xw_sipush (e := 4000) rfl (by decide +kernel) ?_
    exact q
  refine xS_if (fun h0 => ?_) (fun h0 => ?_)
  · refine xS_of (pc' := 74) (L' := [(2, xi x2)]) (st' := [xi 0]) (m' := m) (fun ex ns r q => ?_) ?_
    · refine xw_ic_gtT rfl (w32_cg c2) (w32_cg rfl) h0 ?_
      refine xw_iconst rfl ?_
      exact q
    exact xS_ret (v := 0) rfl rfl (xw_rtZ (Or.inl rfl)) (Or.inl rfl)
  · refine xS_of (pc' := 74) (L' := [(2, xi x2)]) (st' := [xi 1]) (m' := m) (fun ex ns r q => ?_) ?_
    · refine xw_ic_gtF rfl (w32_cg c2) (w32_cg rfl) h0 ?_
      refine xw_iconst rfl ?_
      refine xw_goto rfl ?_
      exact q
    exact xS_ret (v := 1) rfl rfl (xw_rtZ (Or.inr rfl)) (Or.inr rfl)
theorem ysl285_8 {B : Nat} (hB : B ≤ 512) {xs : Nat → Int32} {SL d : Nat} {r8 : Int → Int → Int → xw_M → xP} (hr8 : ∀ x1 x2 x3 m, w32 x2 = x2 → w32 x3 = x3 → xS B xs SL (d + 5) 285 (4, (some .boolean), [], 13) 4 8 [(0, xa 536), (1, xa x1), (2, xi x2), (3, xi x3)] [] m (r8 x1 x2 x3 m)) : ∀ x1 x2 x3 m, w32 x2 = x2 → w32 x3 = x3 → xS B xs SL (d + 5) 285 (4, (some .boolean), [], 13) 4 8 [(0, xa 536), (1, xa x1), (2, xi x2), (3, xi x3)] [] m (yl285_8 B r8 x1 x2 x3 m) := by
  intro x1 x2 x3 m c2 c3
  unfold yl285_8
  refine xS_g (fun g0 => ?_)
  refine xS_of (pc' := 13) (L' := [(0, xa 536), (1, xa x1), (2, xi x2), (3, xi x3)]) (st' := [xi (xR m x1 9), xi x3]) (m' := m) (fun ex ns r q => ?_) ?_
  · refine xw_iload_n rfl rfl ?_
    refine xw_aload_n rfl rfl rfl ?_
    refine xw_gfIc (v := (m x1 9)) (v' := (xR m x1 9)) rfl (xw_obd g0) xk13_9 (qi := 9) rfl rfl rfl ?_
    exact q
  refine xS_if (fun h1 => ?_) (fun h1 => ?_)
  · refine xS_of (pc' := 20) (L' := [(0, xa 536), (1, xa x1), (2, xi x2), (3, xi x3)]) (st' := [xi 4000, xi x2]) (m' := m) (fun ex ns r q => ?_) ?_
    · refine xw_ic_geF rfl (w32_cg c3) (w32_cg (w32_xR _ _ _)) (Int.not_le.mpr h1) ?_
      refine xw_iload_n rfl rfl ?_
      refine xw_sipush (e := 4000) rfl (by decide +kernel) ?_
      exact q
    refine xS_if (fun h2 => ?_) (fun h2 => ?_)
    · refine xS_of (pc' := 62) (L' := [(2, xi x2)]) (st' := []) (m' := m) (fun ex ns r q => ?_) ?_
      · refine xw_ic_gtT rfl (w32_cg c2) (w32_cg rfl) h2 ?_
        refine xw_lo (L2 := [(2, xi x2)]) (List.forall_mem_cons.mpr ⟨rfl, fun _ h => absurd h List.not_mem_nil⟩) ?_
        exact q
      exact ygk285_62 hB _ _ c2
    · refine xS_g (fun g3 => ?_)
      refine xS_g (fun g4 => ?_)
      refine xS_of (pc' := 33) (L' := [(0, xa 536), (1, xa x1), (2, xi x2), (3, xi x3)]) (st' := [xi (w32 ((-2) - (xR m (xw_rf x1 10) x3))), xa 536]) (m' := m) (fun ex ns r q => ?_) ?_
      · refine xw_ic_gtF rfl (w32_cg c2) (w32_cg rfl) h2 ?_
        refine xw_aload_n rfl rfl rfl ?_
        refine xw_bipush (e := (-2)) rfl (by decide +kernel) ?_
        refine xw_aload_n rfl rfl rfl ?_
        refine xw_gfV (qi := 10) rfl (xw_obd g0) xk13_10 rfl ?_
        refine xw_iload_n rfl rfl ?_
        refine xw_ialdc (n := (xw_le B (xw_rf x1 10))) (v := (m (xw_rf x1 10) x3)) (v' := (xR m (xw_rf x1 10) x3)) rfl hB (xw_obd g4) rfl g3 rfl rfl ?_
        refine xw_isub rfl ?_
        refine xw_cst (st' := [xi (w32 ((-2) - (xR m (xw_rf x1 10) x3))), xa 536]) (xw_sc (xi_c rfl) (xw_sc rfl rfl)) ?_
        refine xw_lo (L2 := [(0, xa 536), (1, xa x1), (2, xi x2), (3, xi x3)]) (List.forall_mem_cons.mpr ⟨rfl, List.forall_mem_cons.mpr ⟨rfl, List.forall_mem_cons.mpr ⟨rfl, List.forall_mem_cons.mpr ⟨rfl, fun _ h => absurd h List.not_mem_nil⟩⟩⟩⟩) ?_
        exact q
      refine xS_call (q := 290) (n := 2) (kq := 0) (as := [xa 536, xi (w32 ((-2) - (xR m (xw_rf x1 10) x3)))]) (st1 := []) rfl rfl rfl rfl rfl rfl rfl rfl rfl rfl (fun _ => xw_rcv1 (t := 12) (xw_obd (by decide +kernel)) rfl) rfl (List.forall_mem_cons.mpr ⟨rfl, List.forall_mem_cons.mpr ⟨rfl, fun _ h => absurd h List.not_mem_nil⟩⟩) (ygf290 hB _ _ (w32_w _)) (fun v1 m1 cv1 => ?_)
      refine xS_of (pc' := 43) (L' := [(0, xa 536), (1, xa x1), (2, xi x2), (3, xi x3)]) (st' := [xi (xR m1 (xw_rf x1 10) x3), xi x2]) (m' := m1) (fun ex ns r q => ?_) ?_
      · refine xw_iload_n rfl rfl ?_
        refine xw_aload_n rfl rfl rfl ?_
        refine xw_gfV (qi := 10) rfl (xw_obd g0) xk13_10 rfl ?_
        refine xw_iload_n rfl rfl ?_
        refine xw_ialdc (n := (xw_le B (xw_rf x1 10))) (v := (m1 (xw_rf x1 10) x3)) (v' := (xR m1 (xw_rf x1 10) x3)) rfl hB (xw_obd g4) rfl g3 rfl rfl ?_
        exact q
      refine xS_if (fun h5 => ?_) (fun h5 => ?_)
      · refine xS_of (pc' := 8) (L' := [(0, xa 536), (1, xa x1), (2, xi (w32 (x2 + 1))), (3, xi (w32 (x3 + 1)))]) (st' := []) (m' := m1) (fun ex ns r q => ?_) ?_
        · refine xw_if_neF rfl (w32_cg (w32_xR _ _ _)) h5 ?_
          refine xw_iconst rfl ?_
          refine xw_goto rfl ?_
          refine xw_iadd rfl ?_
          refine xw_cst (st' := [xi (w32 (x2 + 1))]) (xw_sc (xi_c rfl) rfl) ?_
          refine xw_istore_n (L' := [(2, xi (w32 (x2 + 1))), (0, xa 536), (1, xa x1), (3, xi x3)]) rfl (by decide) rfl ?_
          refine xw_iincc (z := (w32 (x3 + 1))) (L' := [(3, xi (w32 (x3 + 1))), (2, xi (w32 (x2 + 1))), (0, xa 536), (1, xa x1)]) rfl rfl (by decide) rfl rfl ?_
          refine xw_goto rfl ?_
          refine xw_lo (L2 := [(0, xa 536), (1, xa x1), (2, xi (w32 (x2 + 1))), (3, xi (w32 (x3 + 1)))]) (List.forall_mem_cons.mpr ⟨rfl, List.forall_mem_cons.mpr ⟨rfl, List.forall_mem_cons.mpr ⟨rfl, List.forall_mem_cons.mpr ⟨rfl, fun _ h => absurd h List.not_mem_nil⟩⟩⟩⟩) ?_
          exact q
        exact hr8 _ _ _ _ (w32_w _) (w32_w _)
      · refine xS_of (pc' := 8) (L' := [(0, xa 536), (1, xa x1), (2, xi (w32 (x2 + (xR m1 536 61)))), (3, xi (w32 (x3 + 1)))]) (st' := []) (m' := m1) (fun ex ns r q => ?_) ?_
        · refine xw_if_neT rfl (w32_cg (w32_xR _ _ _)) h5 ?_
          refine xw_aload_n rfl rfl rfl ?_
          refine xw_gfIc (v := (m1 536 61)) (v' := (xR m1 536 61)) rfl (xw_obd (by decide +kernel)) xk12_61 (qi := 61) rfl rfl rfl ?_
          refine xw_iadd rfl ?_
          refine xw_cst (st' := [xi (w32 (x2 + (xR m1 536 61)))]) (xw_sc (xi_c rfl) rfl) ?_
          refine xw_istore_n (L' := [(2, xi (w32 (x2 + (xR m1 536 61)))), (0, xa 536), (1, xa x1), (3, xi x3)]) rfl (by decide) rfl ?_
          refine xw_iincc (z := (w32 (x3 + 1))) (L' := [(3, xi (w32 (x3 + 1))), (2, xi (w32 (x2 + (xR m1 536 61)))), (0, xa 536), (1, xa x1)]) rfl rfl (by decide) rfl rfl ?_
          refine xw_goto rfl ?_
          refine xw_lo (L2 := [(0, xa 536), (1, xa x1), (2, xi (w32 (x2 + (xR m1 536 61)))), (3, xi (w32 (x3 + 1)))]) (List.forall_mem_cons.mpr ⟨rfl, List.forall_mem_cons.mpr ⟨rfl, List.forall_mem_cons.mpr ⟨rfl, List.forall_mem_cons.mpr ⟨rfl, fun _ h => absurd h List.not_mem_nil⟩⟩⟩⟩) ?_
          exact q
        exact hr8 _ _ _ _ (w32_w _) (w32_w _)
  · refine xS_of (pc' := 62) (L' := [(2, xi x2)]) (st' := []) (m' := m) (fun ex ns r q => ?_) ?_
    · refine xw_ic_geT rfl (w32_cg c3) (w32_cg (w32_xR _ _ _)) (Int.not_lt.mp h1) ?_
      refine xw_lo (L2 := [(2, xi x2)]) (List.forall_mem_cons.mpr ⟨rfl, fun _ h => absurd h List.not_mem_nil⟩) ?_
      exact q
    exact ygk285_62 hB _ _ c2
theorem ygl285_8 {B : Nat} (hB : B ≤ 512) {xs : Nat → Int32} {SL d : Nat} : ∀ n x1 x2 x3 m, w32 x2 = x2 → w32 x3 = x3 → xS B xs SL (d + 5) 285 (4, (some .boolean), [], 13) 4 8 [(0, xa 536), (1, xa x1), (2, xi x2), (3, xi x3)] [] m (xl3 (yl285_8 B) n x1 x2 x3 m) := by
  intro n
  induction n with
  | zero => intro x1 x2 x3 m c2 c3; exact xS_none
  | succ n ih => exact ysl285_8 hB ih
theorem ygf285 {B : Nat} (hB : B ≤ 512) {xs : Nat → Int32} {SL d : Nat} : ∀ p0 m, xS B xs SL (d + 5) 285 (4, (some .boolean), [], 13) 4 0 [(0, xa 536), (1, xa p0)] [] m (yf285 B p0 m) := by
  intro p0 m
  unfold yf285
  refine xS_of (pc' := 1) (L' := [(0, xa 536), (1, xa p0)]) (st' := [xa 536]) (m' := m) (fun ex ns r q => ?_) ?_
  · refine xw_aload_n rfl rfl rfl ?_
    refine xw_lo (L2 := [(0, xa 536), (1, xa p0)]) (List.forall_mem_cons.mpr ⟨rfl, List.forall_mem_cons.mpr ⟨rfl, fun _ h => absurd h List.not_mem_nil⟩⟩) ?_
    exact q
  refine xS_call (q := 286) (n := 1) (kq := 0) (as := [xa 536]) (st1 := []) rfl rfl rfl rfl rfl rfl rfl rfl rfl rfl (fun _ => xw_rcv1 (t := 12) (xw_obd (by decide +kernel)) rfl) rfl (List.forall_mem_cons.mpr ⟨rfl, fun _ h => absurd h List.not_mem_nil⟩) (ygf286 hB _) (fun v1 m1 cv1 => ?_)
  refine xS_of (pc' := 8) (L' := [(0, xa 536), (1, xa p0), (2, xi 0), (3, xi 0)]) (st' := []) (m' := m1) (fun ex ns r q => ?_) ?_
  · refine xw_iconst rfl ?_
    refine xw_istore_n (L' := [(2, xi 0), (0, xa 536), (1, xa p0)]) rfl (by decide) rfl ?_
    refine xw_iconst rfl ?_
    refine xw_istore_n (L' := [(3, xi 0), (2, xi 0), (0, xa 536), (1, xa p0)]) rfl (by decide) rfl ?_
    refine xw_lo (L2 := [(0, xa 536), (1, xa p0), (2, xi 0), (3, xi 0)]) (List.forall_mem_cons.mpr ⟨rfl, List.forall_mem_cons.mpr ⟨rfl, List.forall_mem_cons.mpr ⟨rfl, List.forall_mem_cons.mpr ⟨rfl, fun _ h => absurd h List.not_mem_nil⟩⟩⟩⟩) ?_
    exact q
  exact ygl285_8 hB 1000000 _ _ _ _ rfl rfl
theorem ysl297_115 {B : Nat} (hB : B ≤ 512) {xs : Nat → Int32} {SL d : Nat} {r90 : Int → Int → Int → Int → xw_M → xP} (hr90 : ∀ x3 x4 x5 x6 m, w32 x3 = x3 → w32 x4 = x4 → w32 x5 = x5 → w32 x6 = x6 → xS B xs SL (d + 2) 297 (16, none, [], 13) 0 90 [(0, xa 536), (3, xi x3), (4, xi x4), (5, xi x5), (6, xi x6)] [] m (r90 x3 x4 x5 x6 m)) {r115 : Int → Int → Int → Int → Int → Int → Int → Int → xw_M → xP} (hr115 : ∀ x3 x4 x5 x6 x7 x9 x11 x13 m, w32 x3 = x3 → w32 x4 = x4 → w32 x5 = x5 → w32 x6 = x6 → w64 x7 = x7 → w64 x9 = x9 → w64 x11 = x11 → w32 x13 = x13 → xS B xs SL (d + 2) 297 (16, none, [], 13) 0 115 [(0, xa 536), (3, xi x3), (4, xi x4), (5, xi x5), (6, xi x6), (7, xj x7), (9, xj x9), (11, xj x11), (13, xi x13)] [] m (r115 x3 x4 x5 x6 x7 x9 x11 x13 m)) : ∀ x3 x4 x5 x6 x7 x9 x11 x13 m, w32 x3 = x3 → w32 x4 = x4 → w32 x5 = x5 → w32 x6 = x6 → w64 x7 = x7 → w64 x9 = x9 → w64 x11 = x11 → w32 x13 = x13 → xS B xs SL (d + 2) 297 (16, none, [], 13) 0 115 [(0, xa 536), (3, xi x3), (4, xi x4), (5, xi x5), (6, xi x6), (7, xj x7), (9, xj x9), (11, xj x11), (13, xi x13)] [] m (yl297_115 B r90 r115 x3 x4 x5 x6 x7 x9 x11 x13 m) := by
  intro x3 x4 x5 x6 x7 x9 x11 x13 m c3 c4 c5 c6 c7 c9 c11 c13
  unfold yl297_115
  refine xS_of (pc' := 119) (L' := [(0, xa 536), (3, xi x3), (4, xi x4), (5, xi x5), (6, xi x6), (7, xj x7), (9, xj x9), (11, xj x11), (13, xi x13)]) (st' := [xi x4, xi x13]) (m' := m) (fun ex ns r q => ?_) ?_
  · refine xw_iload rfl rfl ?_
    refine xw_iload rfl rfl ?_
    exact q
  refine xS_if (fun h0 => ?_) (fun h0 => ?_)
  · refine xS_g (fun g1 => ?_)
    refine xS_g (fun g2 => ?_)
    refine xS_g (fun g3 => ?_)
    refine xS_of (pc' := 115) (L' := [(0, xa 536), (3, xi x3), (4, xi x4), (5, xi x5), (6, xi x6), (7, xj (w64 (x7 + (xJ m 576 ((8 * (xR m (m 536 59) x13)) + x6))))), (9, xj (min x9 (xJ m 576 ((8 * (xR m (m 536 59) x13)) + x6)))), (11, xj (max x11 (xJ m 576 ((8 * (xR m (m 536 59) x13)) + x6)))), (13, xi (w32 (x13 + 1)))]) (st' := []) (m' := m) (fun ex ns r q => ?_) ?_
    · refine xw_ic_geF rfl (w32_cg c13) (w32_cg c4) (Int.not_le.mpr h0) ?_
      refine xw_aload_n rfl rfl rfl ?_
      refine xw_gfR (n := 576) (e := 576) rfl (xw_obd (by decide +kernel)) (by decide +kernel) (by decide +kernel) rfl ?_
      refine xw_bipush (e := 8) rfl (by decide +kernel) ?_
      refine xw_aload_n rfl rfl rfl ?_
      refine xw_gfM (v := (m 536 59)) rfl (xw_obd (by decide +kernel)) xk12_59 (qi := 59) rfl rfl ?_
      refine xw_iload rfl rfl ?_
      refine xw_ialdc (n := (xw_le B (m 536 59))) (v := (m (m 536 59) x13)) (v' := (xR m (m 536 59) x13)) rfl hB (xw_obd g2) rfl g1 rfl rfl ?_
      refine xw_imul rfl ?_
      refine xw_iload rfl rfl ?_
      refine xw_iadd rfl ?_
      refine xw_laldc (n := 160000) (v := (m 576 ((8 * (xR m (m 536 59) x13)) + x6))) (v' := (xJ m 576 ((8 * (xR m (m 536 59) x13)) + x6))) rfl hB (xw_obd (by decide +kernel)) rfl g3 rfl rfl ?_
      refine xw_lstore (L' := [(14, xj (xJ m 576 ((8 * (xR m (m 536 59) x13)) + x6))), (0, xa 536), (3, xi x3), (4, xi x4), (5, xi x5), (6, xi x6), (7, xj x7), (9, xj x9), (11, xj x11), (13, xi x13)]) rfl (by decide) rfl ?_
      refine xw_lload rfl rfl ?_
      refine xw_lload rfl rfl ?_
      refine xw_ladd rfl ?_
      refine xw_cst (st' := [xj (w64 (x7 + (xJ m 576 ((8 * (xR m (m 536 59) x13)) + x6))))]) (xw_sc (xj_c rfl) rfl) ?_
      refine xw_lstore (L' := [(7, xj (w64 (x7 + (xJ m 576 ((8 * (xR m (m 536 59) x13)) + x6))))), (14, xj (xJ m 576 ((8 * (xR m (m 536 59) x13)) + x6))), (0, xa 536), (3, xi x3), (4, xi x4), (5, xi x5), (6, xi x6), (9, xj x9), (11, xj x11), (13, xi x13)]) rfl (by decide) rfl ?_
      refine xw_lload rfl rfl ?_
      refine xw_lload rfl rfl ?_
      refine xw_minJ rfl rfl (w64_cg c9) (w64_cg (w64_xJ _ _ _)) rfl ?_
      refine xw_lstore (L' := [(9, xj (min x9 (xJ m 576 ((8 * (xR m (m 536 59) x13)) + x6)))), (7, xj (w64 (x7 + (xJ m 576 ((8 * (xR m (m 536 59) x13)) + x6))))), (14, xj (xJ m 576 ((8 * (xR m (m 536 59) x13)) + x6))), (0, xa 536), (3, xi x3), (4, xi x4), (5, xi x5), (6, xi x6), (11, xj x11), (13, xi x13)]) rfl (by decide) rfl ?_
      refine xw_lload rfl rfl ?_
      refine xw_lload rfl rfl ?_
      refine xw_maxJ rfl rfl (w64_cg c11) (w64_cg (w64_xJ _ _ _)) rfl ?_
      refine xw_lstore (L' := [(11, xj (max x11 (xJ m 576 ((8 * (xR m (m 536 59) x13)) + x6)))), (9, xj (min x9 (xJ m 576 ((8 * (xR m (m 536 59) x13)) + x6)))), (7, xj (w64 (x7 + (xJ m 576 ((8 * (xR m (m 536 59) x13)) + x6))))), (14, xj (xJ m 576 ((8 * (xR m (m 536 59) x13)) + x6))), (0, xa 536), (3, xi x3), (4, xi x4), (5, xi x5), (6, xi x6), (13, xi x13)]) rfl (by decide) rfl ?_
      refine xw_iincc (z := (w32 (x13 + 1))) (L' := [(13, xi (w32 (x13 + 1))), (11, xj (max x11 (xJ m 576 ((8 * (xR m (m 536 59) x13)) + x6)))), (9, xj (min x9 (xJ m 576 ((8 * (xR m (m 536 59) x13)) + x6)))), (7, xj (w64 (x7 + (xJ m 576 ((8 * (xR m (m 536 59) x13)) + x6))))), (14, xj (xJ m 576 ((8 * (xR m (m 536 59) x13)) + x6))), (0, xa 536), (3, xi x3), (4, xi x4), (5, xi x5), (6, xi x6)]) rfl rfl (by decide) rfl rfl ?_
      refine xw_goto rfl ?_
      refine xw_lo (L2 := [(0, xa 536), (3, xi x3), (4, xi x4), (5, xi x5), (6, xi x6), (7, xj (w64 (x7 + (xJ m 576 ((8 * (xR m (m 536 59) x13)) + x6))))), (9, xj (min x9 (xJ m 576 ((8 * (xR m (m 536 59) x13)) + x6)))), (11, xj (max x11 (xJ m 576 ((8 * (xR m (m 536 59) x13)) + x6)))), (13, xi (w32 (x13 + 1)))]) (List.forall_mem_cons.mpr ⟨rfl, List.forall_mem_cons.mpr ⟨rfl, List.forall_mem_cons.mpr ⟨rfl, List.forall_mem_cons.mpr ⟨rfl, List.forall_mem_cons.mpr ⟨rfl, List.forall_mem_cons.mpr ⟨rfl, List.forall_mem_cons.mpr ⟨rfl, List.forall_mem_cons.mpr ⟨rfl, List.forall_mem_cons.mpr ⟨rfl, fun _ h => absurd h List.not_mem_nil⟩⟩⟩⟩⟩⟩⟩⟩⟩) ?_
      exact q
    exact hr115 _ _ _ _ _ _ _ _ _ c3 c4 c5 c6 (w64_w _) (w64_mn c9 (w64_xJ _ _ _)) (w64_mx c11 (w64_xJ _ _ _)) (w32_w _)
  · refine xS_g (fun g1 => ?_)
    refine xS_of (pc' := 90) (L' := [(0, xa 536), (3, xi x3), (4, xi x4), (5, xi x5), (6, xi (w32 (x6 + 1)))]) (st' := []) (m' := (xw_u (xw_u (xw_u m 598 ((8 * x5) + x6) x7) 599 ((8 * x5) + x6) x9) 600 ((8 * x5) + x6) x11)) (fun ex ns r q => ?_) ?_
    · refine xw_ic_geT rfl (w32_cg c13) (w32_cg c4) (Int.not_lt.mp h0) ?_
      refine xw_aload_n rfl rfl rfl ?_
      refine xw_gfR (n := 598) (e := 598) rfl (xw_obd (by decide +kernel)) (by decide +kernel) (by decide +kernel) rfl ?_
      refine xw_bipush (e := 8) rfl (by decide +kernel) ?_
      refine xw_iload rfl rfl ?_
      refine xw_imul rfl ?_
      refine xw_iload rfl rfl ?_
      refine xw_iadd rfl ?_
      refine xw_lload rfl rfl ?_
      refine xw_last (n := 32000) rfl hB (xw_obd (by decide +kernel)) rfl g1 ?_
      refine xw_aload_n rfl rfl rfl ?_
      refine xw_gfR (n := 599) (e := 599) rfl (xw_obd (by decide +kernel)) (by decide +kernel) (by decide +kernel) rfl ?_
      refine xw_bipush (e := 8) rfl (by decide +kernel) ?_
      refine xw_iload rfl rfl ?_
      refine xw_imul rfl ?_
      refine xw_iload rfl rfl ?_
      refine xw_iadd rfl ?_
      refine xw_lload rfl rfl ?_
      refine xw_last (n := 32000) rfl hB (xw_obd (by decide +kernel)) rfl g1 ?_
      refine xw_aload_n rfl rfl rfl ?_
      refine xw_gfR (n := 600) (e := 600) rfl (xw_obd (by decide +kernel)) (by decide +kernel) (by decide +kernel) rfl ?_
      refine xw_bipush (e := 8) rfl (by decide +kernel) ?_
      refine xw_iload rfl rfl ?_
      refine xw_imul rfl ?_
      refine xw_iload rfl rfl ?_
      refine xw_iadd rfl ?_
      refine xw_lload rfl rfl ?_
      refine xw_last (n := 32000) rfl hB (xw_obd (by decide +kernel)) rfl g1 ?_
      refine xw_iincc (z := (w32 (x6 + 1))) (L' := [(6, xi (w32 (x6 + 1))), (0, xa 536), (3, xi x3), (4, xi x4), (5, xi x5), (7, xj x7), (9, xj x9), (11, xj x11), (13, xi x13)]) rfl rfl (by decide) rfl rfl ?_
      refine xw_goto rfl ?_
      refine xw_lo (L2 := [(0, xa 536), (3, xi x3), (4, xi x4), (5, xi x5), (6, xi (w32 (x6 + 1)))]) (List.forall_mem_cons.mpr ⟨rfl, List.forall_mem_cons.mpr ⟨rfl, List.forall_mem_cons.mpr ⟨rfl, List.forall_mem_cons.mpr ⟨rfl, List.forall_mem_cons.mpr ⟨rfl, fun _ h => absurd h List.not_mem_nil⟩⟩⟩⟩⟩) ?_
      exact q
    exact hr90 _ _ _ _ _ c3 c4 c5 (w32_w _)
theorem ygl297_115 {B : Nat} (hB : B ≤ 512) {xs : Nat → Int32} {SL d : Nat} {r90 : Int → Int → Int → Int → xw_M → xP} (hr90 : ∀ x3 x4 x5 x6 m, w32 x3 = x3 → w32 x4 = x4 → w32 x5 = x5 → w32 x6 = x6 → xS B xs SL (d + 2) 297 (16, none, [], 13) 0 90 [(0, xa 536), (3, xi x3), (4, xi x4), (5, xi x5), (6, xi x6)] [] m (r90 x3 x4 x5 x6 m)) : ∀ n x3 x4 x5 x6 x7 x9 x11 x13 m, w32 x3 = x3 → w32 x4 = x4 → w32 x5 = x5 → w32 x6 = x6 → w64 x7 = x7 → w64 x9 = x9 → w64 x11 = x11 → w32 x13 = x13 → xS B xs SL (d + 2) 297 (16, none, [], 13) 0 115 [(0, xa 536), (3, xi x3), (4, xi x4), (5, xi x5), (6, xi x6), (7, xj x7), (9, xj x9), (11, xj x11), (13, xi x13)] [] m (xl8 (yl297_115 B r90) n x3 x4 x5 x6 x7 x9 x11 x13 m) := by
  intro n
  induction n with
  | zero => intro x3 x4 x5 x6 x7 x9 x11 x13 m c3 c4 c5 c6 c7 c9 c11 c13; exact xS_none
  | succ n ih => exact ysl297_115 hB hr90 ih
theorem ysl297_90 {B : Nat} (hB : B ≤ 512) {xs : Nat → Int32} {SL d : Nat} {r90 : Int → Int → Int → Int → xw_M → xP} (hr90 : ∀ x3 x4 x5 x6 m, w32 x3 = x3 → w32 x4 = x4 → w32 x5 = x5 → w32 x6 = x6 → xS B xs SL (d + 2) 297 (16, none, [], 13) 0 90 [(0, xa 536), (3, xi x3), (4, xi x4), (5, xi x5), (6, xi x6)] [] m (r90 x3 x4 x5 x6 m)) : ∀ x3 x4 x5 x6 m, w32 x3 = x3 → w32 x4 = x4 → w32 x5 = x5 → w32 x6 = x6 → xS B xs SL (d + 2) 297 (16, none, [], 13) 0 90 [(0, xa 536), (3, xi x3), (4, xi x4), (5, xi x5), (6, xi x6)] [] m (yl297_90 B r90 x3 x4 x5 x6 m) := by
  intro x3 x4 x5 x6 m c3 c4 c5 c6
  unfold yl297_90
  refine xS_of (pc' := 96) (L' := [(0, xa 536), (3, xi x3), (4, xi x4), (5, xi x5), (6, xi x6)]) (st' := [xi (xR m 536 19), xi x6]) (m' := m) (fun ex ns r q => ?_) ?_
  · refine xw_iload rfl rfl ?_
    refine xw_aload_n rfl rfl rfl ?_
    refine xw_gfIc (v := (m 536 19)) (v' := (xR m 536 19)) rfl (xw_obd (by decide +kernel)) xk12_19 (qi := 19) rfl rfl rfl ?_
    exact q
  refine xS_if (fun h0 => ?_) (fun h0 => ?_)
  · refine xS_of (pc' := 115) (L' := [(0, xa 536), (3, xi x3), (4, xi x4), (5, xi x5), (6, xi x6), (7, xj 0), (9, xj 9223372036854775807), (11, xj (-9223372036854775808)), (13, xi x3)]) (st' := []) (m' := m) (fun ex ns r q => ?_) ?_
    · refine xw_ic_geF rfl (w32_cg c6) (w32_cg (w32_xR _ _ _)) (Int.not_le.mpr h0) ?_
      refine xw_lconst (e := 0) rfl rfl ?_
      refine xw_lstore (L' := [(7, xj 0), (0, xa 536), (3, xi x3), (4, xi x4), (5, xi x5), (6, xi x6)]) rfl (by decide) rfl ?_
      refine xw_ldc2 (e := 9223372036854775807) rfl (by decide +kernel) ?_
      refine xw_lstore (L' := [(9, xj 9223372036854775807), (7, xj 0), (0, xa 536), (3, xi x3), (4, xi x4), (5, xi x5), (6, xi x6)]) rfl (by decide) rfl ?_
      refine xw_ldc2 (e := (-9223372036854775808)) rfl (by decide +kernel) ?_
      refine xw_lstore (L' := [(11, xj (-9223372036854775808)), (9, xj 9223372036854775807), (7, xj 0), (0, xa 536), (3, xi x3), (4, xi x4), (5, xi x5), (6, xi x6)]) rfl (by decide) rfl ?_
      refine xw_iload_n rfl rfl ?_
      refine xw_istore (L' := [(13, xi x3), (11, xj (-9223372036854775808)), (9, xj 9223372036854775807), (7, xj 0), (0, xa 536), (3, xi x3), (4, xi x4), (5, xi x5), (6, xi x6)]) rfl (by decide) rfl ?_
      refine xw_lo (L2 := [(0, xa 536), (3, xi x3), (4, xi x4), (5, xi x5), (6, xi x6), (7, xj 0), (9, xj 9223372036854775807), (11, xj (-9223372036854775808)), (13, xi x3)]) (List.forall_mem_cons.mpr ⟨rfl, List.forall_mem_cons.mpr ⟨rfl, List.forall_mem_cons.mpr ⟨rfl, List.forall_mem_cons.mpr ⟨rfl, List.forall_mem_cons.mpr ⟨rfl, List.forall_mem_cons.mpr ⟨rfl, List.forall_mem_cons.mpr ⟨rfl, List.forall_mem_cons.mpr ⟨rfl, List.forall_mem_cons.mpr ⟨rfl, fun _ h => absurd h List.not_mem_nil⟩⟩⟩⟩⟩⟩⟩⟩⟩) ?_
      exact q
    exact ygl297_115 hB hr90 1000000 _ _ _ _ _ _ _ _ _ c3 c4 c5 c6 rfl rfl rfl c3
  · refine xS_of (pc' := 234) (L' := [(0, xa 536), (3, xi x3), (4, xi x4), (5, xi x5), (6, xi x6)]) (st' := []) (m' := (xw_u m 536 65 ((xR m 536 65) + 1))) (fun ex ns r q => ?_) ?_
    · refine xw_ic_geT rfl (w32_cg c6) (w32_cg (w32_xR _ _ _)) (Int.not_lt.mp h0) ?_
      refine xw_aload_n rfl rfl rfl ?_
      refine xw_dup rfl rfl ?_
      refine xw_gfIc (v := (m 536 65)) (v' := (xR m 536 65)) rfl (xw_obd (by decide +kernel)) xk12_65 (qi := 65) rfl rfl rfl ?_
      refine xw_iconst rfl ?_
      refine xw_iadd rfl ?_
      refine xw_pfI rfl (xw_obd (by decide +kernel)) xk12_65 (qi := 65) rfl (xw_okI rfl) ?_
      exact q
    exact xS_ret (v := 0) rfl rfl rfl rfl
theorem ygl297_90 {B : Nat} (hB : B ≤ 512) {xs : Nat → Int32} {SL d : Nat} : ∀ n x3 x4 x5 x6 m, w32 x3 = x3 → w32 x4 = x4 → w32 x5 = x5 → w32 x6 = x6 → xS B xs SL (d + 2) 297 (16, none, [], 13) 0 90 [(0, xa 536), (3, xi x3), (4, xi x4), (5, xi x5), (6, xi x6)] [] m (xl4 (yl297_90 B) n x3 x4 x5 x6 m) := by
  intro n
  induction n with
  | zero => intro x3 x4 x5 x6 m c3 c4 c5 c6; exact xS_none
  | succ n ih => exact ysl297_90 hB ih
theorem ysl297_29 {B : Nat} (hB : B ≤ 512) {xs : Nat → Int32} {SL d : Nat} {r29 : Int → Int → Int → Int → Int → Int → xw_M → xP} (hr29 : ∀ x1 x2 x3 x4 x5 x6 m, w32 x2 = x2 → w32 x3 = x3 → w32 x4 = x4 → w32 x5 = x5 → w32 x6 = x6 → xS B xs SL (d + 2) 297 (16, none, [], 13) 0 29 [(0, xa 536), (1, xa x1), (2, xi x2), (3, xi x3), (4, xi x4), (5, xi x5), (6, xi x6)] [] m (r29 x1 x2 x3 x4 x5 x6 m)) : ∀ x1 x2 x3 x4 x5 x6 m, w32 x2 = x2 → w32 x3 = x3 → w32 x4 = x4 → w32 x5 = x5 → w32 x6 = x6 → xS B xs SL (d + 2) 297 (16, none, [], 13) 0 29 [(0, xa 536), (1, xa x1), (2, xi x2), (3, xi x3), (4, xi x4), (5, xi x5), (6, xi x6)] [] m (yl297_29 B r29 x1 x2 x3 x4 x5 x6 m) := by
  intro x1 x2 x3 x4 x5 x6 m c2 c3 c4 c5 c6
  unfold yl297_29
  refine xS_g (fun g0 => ?_)
  refine xS_of (pc' := 35) (L' := [(0, xa 536), (1, xa x1), (2, xi x2), (3, xi x3), (4, xi x4), (5, xi x5), (6, xi x6)]) (st' := [xi (xR m x1 4), xi x6]) (m' := m) (fun ex ns r q => ?_) ?_
  · refine xw_iload rfl rfl ?_
    refine xw_aload_n rfl rfl rfl ?_
    refine xw_gfIc (v := (m x1 4)) (v' := (xR m x1 4)) rfl (xw_obd g0) xk13_4 (qi := 4) rfl rfl rfl ?_
    exact q
  refine xS_if (fun h1 => ?_) (fun h1 => ?_)
  · refine xS_of (pc' := 57) (L' := [(0, xa 536), (1, xa x1), (2, xi x2), (3, xi x3), (4, xi x4), (5, xi x5), (6, xi x6)]) (st' := [xi 1, xi (xw_iandf (xw_ishrf x2 x6) 1), xi ((8 * x5) + x6), xa 596]) (m' := m) (fun ex ns r q => ?_) ?_
    · refine xw_ic_geF rfl (w32_cg c6) (w32_cg (w32_xR _ _ _)) (Int.not_le.mpr h1) ?_
      refine xw_aload_n rfl rfl rfl ?_
      refine xw_gfR (n := 596) (e := 596) rfl (xw_obd (by decide +kernel)) (by decide +kernel) (by decide +kernel) rfl ?_
      refine xw_bipush (e := 8) rfl (by decide +kernel) ?_
      refine xw_iload rfl rfl ?_
      refine xw_imul rfl ?_
      refine xw_iload rfl rfl ?_
      refine xw_iadd rfl ?_
      refine xw_iload_n rfl rfl ?_
      refine xw_iload rfl rfl ?_
      refine xw_ishr (z := (xw_ishrf x2 x6)) rfl (xw_ishre _ _) ?_
      refine xw_iconst rfl ?_
      refine xw_iand (z := (xw_iandf (xw_ishrf x2 x6) 1)) rfl (xw_iande _ _) ?_
      refine xw_iconst rfl ?_
      exact q
    refine xS_if (fun h2 => ?_) (fun h2 => ?_)
    · refine xS_g (fun g3 => ?_)
      refine xS_g (fun g4 => ?_)
      refine xS_of (pc' := 73) (L' := [(0, xa 536), (1, xa x1), (2, xi x2), (3, xi x3), (4, xi x4), (5, xi x5), (6, xi x6)]) (st' := [xi x6, xi (w32 ((-2) - x2)), xi (xR m (m 536 59) x3), xa 536, xi ((8 * x5) + x6), xa 596]) (m' := m) (fun ex ns r q => ?_) ?_
      · refine xw_ic_neF rfl (w32_cg (w32_ti _)) (w32_cg rfl) h2 ?_
        refine xw_aload_n rfl rfl rfl ?_
        refine xw_aload_n rfl rfl rfl ?_
        refine xw_gfM (v := (m 536 59)) rfl (xw_obd (by decide +kernel)) xk12_59 (qi := 59) rfl rfl ?_
        refine xw_iload_n rfl rfl ?_
        refine xw_ialdc (n := (xw_le B (m 536 59))) (v := (m (m 536 59) x3)) (v' := (xR m (m 536 59) x3)) rfl hB (xw_obd g4) rfl g3 rfl rfl ?_
        refine xw_bipush (e := (-2)) rfl (by decide +kernel) ?_
        refine xw_iload_n rfl rfl ?_
        refine xw_isub rfl ?_
        refine xw_iload rfl rfl ?_
        refine xw_cst (st' := [xi x6, xi (w32 ((-2) - x2)), xi (xR m (m 536 59) x3), xa 536, xi ((8 * x5) + x6), xa 596]) (xw_sc rfl (xw_sc (xi_c rfl) (xw_sc rfl (xw_sc rfl rfl)))) ?_
        refine xw_lo (L2 := [(0, xa 536), (1, xa x1), (2, xi x2), (3, xi x3), (4, xi x4), (5, xi x5), (6, xi x6)]) (List.forall_mem_cons.mpr ⟨rfl, List.forall_mem_cons.mpr ⟨rfl, List.forall_mem_cons.mpr ⟨rfl, List.forall_mem_cons.mpr ⟨rfl, List.forall_mem_cons.mpr ⟨rfl, List.forall_mem_cons.mpr ⟨rfl, List.forall_mem_cons.mpr ⟨rfl, fun _ h => absurd h List.not_mem_nil⟩⟩⟩⟩⟩⟩⟩) ?_
        exact q
      refine xS_call (q := 295) (n := 4) (kq := 1) (as := [xa 536, xi (xR m (m 536 59) x3), xi (w32 ((-2) - x2)), xi x6]) (st1 := [xi ((8 * x5) + x6), xa 596]) rfl rfl rfl rfl rfl rfl rfl rfl rfl rfl (fun _ => xw_rcv1 (t := 12) (xw_obd (by decide +kernel)) rfl) rfl (List.forall_mem_cons.mpr ⟨rfl, List.forall_mem_cons.mpr ⟨rfl, List.forall_mem_cons.mpr ⟨rfl, List.forall_mem_cons.mpr ⟨rfl, fun _ h => absurd h List.not_mem_nil⟩⟩⟩⟩) (ygf295 hB _ _ _ _ (w32_xR _ _ _) (w32_w _) c6) (fun v1 m1 cv1 => ?_)
      refine xS_g (fun g5 => ?_)
      refine xS_of (pc' := 29) (L' := [(0, xa 536), (1, xa x1), (2, xi x2), (3, xi x3), (4, xi x4), (5, xi x5), (6, xi (w32 (x6 + 1)))]) (st' := []) (m' := (xw_u m1 596 ((8 * x5) + x6) v1)) (fun ex ns r q => ?_) ?_
      · refine xw_goto rfl ?_
        refine xw_iast (n := 32000) rfl hB (xw_obd (by decide +kernel)) rfl g5 ?_
        refine xw_iincc (z := (w32 (x6 + 1))) (L' := [(6, xi (w32 (x6 + 1))), (0, xa 536), (1, xa x1), (2, xi x2), (3, xi x3), (4, xi x4), (5, xi x5)]) rfl rfl (by decide) rfl rfl ?_
        refine xw_goto rfl ?_
        refine xw_lo (L2 := [(0, xa 536), (1, xa x1), (2, xi x2), (3, xi x3), (4, xi x4), (5, xi x5), (6, xi (w32 (x6 + 1)))]) (List.forall_mem_cons.mpr ⟨rfl, List.forall_mem_cons.mpr ⟨rfl, List.forall_mem_cons.mpr ⟨rfl, List.forall_mem_cons.mpr ⟨rfl, List.forall_mem_cons.mpr ⟨rfl, List.forall_mem_cons.mpr ⟨rfl, List.forall_mem_cons.mpr ⟨rfl, fun _ h => absurd h List.not_mem_nil⟩⟩⟩⟩⟩⟩⟩) ?_
        exact q
      exact hr29 _ _ _ _ _ _ _ c2 c3 c4 c5 (w32_w _)
    · refine xS_g (fun g3 => ?_)
      refine xS_of (pc' := 29) (L' := [(0, xa 536), (1, xa x1), (2, xi x2), (3, xi x3), (4, xi x4), (5, xi x5), (6, xi (w32 (x6 + 1)))]) (st' := []) (m' := (xw_u m 596 ((8 * x5) + x6) 0)) (fun ex ns r q => ?_) ?_
      · refine xw_ic_neT rfl (w32_cg (w32_ti _)) (w32_cg rfl) h2 ?_
        refine xw_iconst rfl ?_
        refine xw_iast (n := 32000) rfl hB (xw_obd (by decide +kernel)) rfl g3 ?_
        refine xw_iincc (z := (w32 (x6 + 1))) (L' := [(6, xi (w32 (x6 + 1))), (0, xa 536), (1, xa x1), (2, xi x2), (3, xi x3), (4, xi x4), (5, xi x5)]) rfl rfl (by decide) rfl rfl ?_
        refine xw_goto rfl ?_
        refine xw_lo (L2 := [(0, xa 536), (1, xa x1), (2, xi x2), (3, xi x3), (4, xi x4), (5, xi x5), (6, xi (w32 (x6 + 1)))]) (List.forall_mem_cons.mpr ⟨rfl, List.forall_mem_cons.mpr ⟨rfl, List.forall_mem_cons.mpr ⟨rfl, List.forall_mem_cons.mpr ⟨rfl, List.forall_mem_cons.mpr ⟨rfl, List.forall_mem_cons.mpr ⟨rfl, List.forall_mem_cons.mpr ⟨rfl, fun _ h => absurd h List.not_mem_nil⟩⟩⟩⟩⟩⟩⟩) ?_
        exact q
      exact hr29 _ _ _ _ _ _ _ c2 c3 c4 c5 (w32_w _)
  · refine xS_of (pc' := 90) (L' := [(0, xa 536), (3, xi x3), (4, xi x4), (5, xi x5), (6, xi 0)]) (st' := []) (m' := m) (fun ex ns r q => ?_) ?_
    · refine xw_ic_geT rfl (w32_cg c6) (w32_cg (w32_xR _ _ _)) (Int.not_lt.mp h1) ?_
      refine xw_iconst rfl ?_
      refine xw_istore (L' := [(6, xi 0), (0, xa 536), (1, xa x1), (2, xi x2), (3, xi x3), (4, xi x4), (5, xi x5)]) rfl (by decide) rfl ?_
      refine xw_lo (L2 := [(0, xa 536), (3, xi x3), (4, xi x4), (5, xi x5), (6, xi 0)]) (List.forall_mem_cons.mpr ⟨rfl, List.forall_mem_cons.mpr ⟨rfl, List.forall_mem_cons.mpr ⟨rfl, List.forall_mem_cons.mpr ⟨rfl, List.forall_mem_cons.mpr ⟨rfl, fun _ h => absurd h List.not_mem_nil⟩⟩⟩⟩⟩) ?_
      exact q
    exact ygl297_90 hB 1000000 _ _ _ _ _ c3 c4 c5 rfl
theorem ygl297_29 {B : Nat} (hB : B ≤ 512) {xs : Nat → Int32} {SL d : Nat} : ∀ n x1 x2 x3 x4 x5 x6 m, w32 x2 = x2 → w32 x3 = x3 → w32 x4 = x4 → w32 x5 = x5 → w32 x6 = x6 → xS B xs SL (d + 2) 297 (16, none, [], 13) 0 29 [(0, xa 536), (1, xa x1), (2, xi x2), (3, xi x3), (4, xi x4), (5, xi x5), (6, xi x6)] [] m (xl6 (yl297_29 B) n x1 x2 x3 x4 x5 x6 m) := by
  intro n
  induction n with
  | zero => intro x1 x2 x3 x4 x5 x6 m c2 c3 c4 c5 c6; exact xS_none
  | succ n ih => exact ysl297_29 hB ih
theorem ygf297 {B : Nat} (hB : B ≤ 512) {xs : Nat → Int32} {SL d : Nat} : ∀ p0 p1 p2 p3 m, w32 p1 = p1 → w32 p2 = p2 → w32 p3 = p3 → xS B xs SL (d + 2) 297 (16, none, [], 13) 0 0 [(0, xa 536), (1, xa p0), (2, xi p1), (3, xi p2), (4, xi p3)] [] m (yf297 B p0 p1 p2 p3 m) := by
  intro p0 p1 p2 p3 m cp1 cp2 cp3
  unfold yf297
  refine xS_g (fun g0 => ?_)
  refine xS_of (pc' := 29) (L' := [(0, xa 536), (1, xa p0), (2, xi p1), (3, xi p2), (4, xi p3), (5, xi (xR m 536 65)), (6, xi 0)]) (st' := []) (m' := (xw_u (xw_u m 595 (xR m 536 65) p1) 597 (xR m 536 65) (w32 (p3 - p2)))) (fun ex ns r q => ?_) ?_
  · refine xw_aload_n rfl rfl rfl ?_
    refine xw_gfIc (v := (m 536 65)) (v' := (xR m 536 65)) rfl (xw_obd (by decide +kernel)) xk12_65 (qi := 65) rfl rfl rfl ?_
    refine xw_istore (L' := [(5, xi (xR m 536 65)), (0, xa 536), (1, xa p0), (2, xi p1), (3, xi p2), (4, xi p3)]) rfl (by decide) rfl ?_
    refine xw_aload_n rfl rfl rfl ?_
    refine xw_gfR (n := 595) (e := 595) rfl (xw_obd (by decide +kernel)) (by decide +kernel) (by decide +kernel) rfl ?_
    refine xw_iload rfl rfl ?_
    refine xw_iload_n rfl rfl ?_
    refine xw_iast (n := 4000) rfl hB (xw_obd (by decide +kernel)) rfl g0 ?_
    refine xw_aload_n rfl rfl rfl ?_
    refine xw_gfR (n := 597) (e := 597) rfl (xw_obd (by decide +kernel)) (by decide +kernel) (by decide +kernel) rfl ?_
    refine xw_iload rfl rfl ?_
    refine xw_iload rfl rfl ?_
    refine xw_iload_n rfl rfl ?_
    refine xw_isub rfl ?_
    refine xw_cst (st' := [xi (w32 (p3 - p2)), xi (xR m 536 65), xa 597]) (xw_sc (xi_c rfl) rfl) ?_
    refine xw_i2l rfl (w32_cg (w32_w _)) ?_
    refine xw_last (n := 4000) rfl hB (xw_obd (by decide +kernel)) rfl g0 ?_
    refine xw_iconst rfl ?_
    refine xw_istore (L' := [(6, xi 0), (5, xi (xR m 536 65)), (0, xa 536), (1, xa p0), (2, xi p1), (3, xi p2), (4, xi p3)]) rfl (by decide) rfl ?_
    refine xw_lo (L2 := [(0, xa 536), (1, xa p0), (2, xi p1), (3, xi p2), (4, xi p3), (5, xi (xR m 536 65)), (6, xi 0)]) (List.forall_mem_cons.mpr ⟨rfl, List.forall_mem_cons.mpr ⟨rfl, List.forall_mem_cons.mpr ⟨rfl, List.forall_mem_cons.mpr ⟨rfl, List.forall_mem_cons.mpr ⟨rfl, List.forall_mem_cons.mpr ⟨rfl, List.forall_mem_cons.mpr ⟨rfl, fun _ h => absurd h List.not_mem_nil⟩⟩⟩⟩⟩⟩⟩) ?_
    exact q
  exact ygl297_29 hB 1000000 _ _ _ _ _ _ _ cp1 cp2 cp3 (w32_xR _ _ _) rfl
theorem ysl299_3 {B : Nat} (hB : B ≤ 512) {xs : Nat → Int32} {SL d : Nat} {r3 : Int → Int → Int → Int → xw_M → xP} (hr3 : ∀ x1 x2 x3 x4 m, w32 x1 = x1 → w32 x2 = x2 → w32 x3 = x3 → w32 x4 = x4 → xS B xs SL (d + 0) 299 (7, (some .int), [], 13) 1 3 [(0, xa 536), (1, xi x1), (2, xi x2), (3, xi x3), (4, xi x4)] [] m (r3 x1 x2 x3 x4 m)) : ∀ x1 x2 x3 x4 m, w32 x1 = x1 → w32 x2 = x2 → w32 x3 = x3 → w32 x4 = x4 → xS B xs SL (d + 0) 299 (7, (some .int), [], 13) 1 3 [(0, xa 536), (1, xi x1), (2, xi x2), (3, xi x3), (4, xi x4)] [] m (yl299_3 B r3 x1 x2 x3 x4 m) := by
  intro x1 x2 x3 x4 m c1 c2 c3 c4
  unfold yl299_3
  refine xS_of (pc' := 6) (L' := [(0, xa 536), (1, xi x1), (2, xi x2), (3, xi x3), (4, xi x4)]) (st' := [xi x3, xi x4]) (m' := m) (fun ex ns r q => ?_) ?_
  · refine xw_iload rfl rfl ?_
    refine xw_iload_n rfl rfl ?_
    exact q
  refine xS_if (fun h0 => ?_) (fun h0 => ?_)
  · refine xS_g (fun g1 => ?_)
    refine xS_of (pc' := 21) (L' := [(0, xa 536), (1, xi x1), (2, xi x2), (3, xi x3), (4, xi x4)]) (st' := [xi 1, xi (xw_iandf (xw_ishrf (xR m 595 x1) x4) 1)]) (m' := m) (fun ex ns r q => ?_) ?_
    · refine xw_ic_geF rfl (w32_cg c4) (w32_cg c3) (Int.not_le.mpr h0) ?_
      refine xw_aload_n rfl rfl rfl ?_
      refine xw_gfR (n := 595) (e := 595) rfl (xw_obd (by decide +kernel)) (by decide +kernel) (by decide +kernel) rfl ?_
      refine xw_iload_n rfl rfl ?_
      refine xw_ialdc (n := 4000) (v := (m 595 x1)) (v' := (xR m 595 x1)) rfl hB (xw_obd (by decide +kernel)) rfl g1 rfl rfl ?_
      refine xw_iload rfl rfl ?_
      refine xw_ishr (z := (xw_ishrf (xR m 595 x1) x4)) rfl (xw_ishre _ _) ?_
      refine xw_iconst rfl ?_
      refine xw_iand (z := (xw_iandf (xw_ishrf (xR m 595 x1) x4) 1)) rfl (xw_iande _ _) ?_
      refine xw_iconst rfl ?_
      exact q
    refine xS_if (fun h2 => ?_) (fun h2 => ?_)
    · refine xS_g (fun g3 => ?_)
      refine xS_of (pc' := 43) (L' := [(5, xi 1), (0, xa 536), (1, xi x1), (2, xi x2), (3, xi x3), (4, xi x4)]) (st' := [xi 1, xi (xw_iandf (xw_ishrf (xR m 595 x2) x4) 1)]) (m' := m) (fun ex ns r q => ?_) ?_
      · refine xw_ic_neF rfl (w32_cg (w32_ti _)) (w32_cg rfl) h2 ?_
        refine xw_iconst rfl ?_
        refine xw_goto rfl ?_
        refine xw_istore (L' := [(5, xi 1), (0, xa 536), (1, xi x1), (2, xi x2), (3, xi x3), (4, xi x4)]) rfl (by decide) rfl ?_
        refine xw_aload_n rfl rfl rfl ?_
        refine xw_gfR (n := 595) (e := 595) rfl (xw_obd (by decide +kernel)) (by decide +kernel) (by decide +kernel) rfl ?_
        refine xw_iload_n rfl rfl ?_
        refine xw_ialdc (n := 4000) (v := (m 595 x2)) (v' := (xR m 595 x2)) rfl hB (xw_obd (by decide +kernel)) rfl g3 rfl rfl ?_
        refine xw_iload rfl rfl ?_
        refine xw_ishr (z := (xw_ishrf (xR m 595 x2) x4)) rfl (xw_ishre _ _) ?_
        refine xw_iconst rfl ?_
        refine xw_iand (z := (xw_iandf (xw_ishrf (xR m 595 x2) x4) 1)) rfl (xw_iande _ _) ?_
        refine xw_iconst rfl ?_
        exact q
      refine xS_if (fun h4 => ?_) (fun h4 => ?_)
      · refine xS_g (fun g5 => ?_)
        refine xS_g (fun g6 => ?_)
        refine xS_of (pc' := 95) (L' := [(6, xi 1), (5, xi 1), (0, xa 536), (1, xi x1), (2, xi x2), (3, xi x3), (4, xi x4)]) (st' := [xi (xR m 596 ((8 * x2) + x4)), xi (xR m 596 ((8 * x1) + x4))]) (m' := m) (fun ex ns r q => ?_) ?_
        · refine xw_ic_neF rfl (w32_cg (w32_ti _)) (w32_cg rfl) h4 ?_
          refine xw_iconst rfl ?_
          refine xw_goto rfl ?_
          refine xw_istore (L' := [(6, xi 1), (5, xi 1), (0, xa 536), (1, xi x1), (2, xi x2), (3, xi x3), (4, xi x4)]) rfl (by decide) rfl ?_
          refine xw_iload rfl rfl ?_
          refine xw_iload rfl rfl ?_
          refine xw_ic_eqT rfl (w32_cg rfl) (w32_cg rfl) (by decide) ?_
          refine xw_aload_n rfl rfl rfl ?_
          refine xw_gfR (n := 596) (e := 596) rfl (xw_obd (by decide +kernel)) (by decide +kernel) (by decide +kernel) rfl ?_
          refine xw_bipush (e := 8) rfl (by decide +kernel) ?_
          refine xw_iload_n rfl rfl ?_
          refine xw_imul rfl ?_
          refine xw_iload rfl rfl ?_
          refine xw_iadd rfl ?_
          refine xw_ialdc (n := 32000) (v := (m 596 ((8 * x1) + x4))) (v' := (xR m 596 ((8 * x1) + x4))) rfl hB (xw_obd (by decide +kernel)) rfl g5 rfl rfl ?_
          refine xw_aload_n rfl rfl rfl ?_
          refine xw_gfR (n := 596) (e := 596) rfl (xw_obd (by decide +kernel)) (by decide +kernel) (by decide +kernel) rfl ?_
          refine xw_bipush (e := 8) rfl (by decide +kernel) ?_
          refine xw_iload_n rfl rfl ?_
          refine xw_imul rfl ?_
          refine xw_iload rfl rfl ?_
          refine xw_iadd rfl ?_
          refine xw_ialdc (n := 32000) (v := (m 596 ((8 * x2) + x4))) (v' := (xR m 596 ((8 * x2) + x4))) rfl hB (xw_obd (by decide +kernel)) rfl g6 rfl rfl ?_
          exact q
        refine xS_if (fun h7 => ?_) (fun h7 => ?_)
        · refine xS_of (pc' := 3) (L' := [(0, xa 536), (1, xi x1), (2, xi x2), (3, xi x3), (4, xi (w32 (x4 + 1)))]) (st' := []) (m' := m) (fun ex ns r q => ?_) ?_
          · refine xw_ic_eqT rfl (w32_cg (w32_xR _ _ _)) (w32_cg (w32_xR _ _ _)) h7 ?_
            refine xw_iincc (z := (w32 (x4 + 1))) (L' := [(4, xi (w32 (x4 + 1))), (6, xi 1), (5, xi 1), (0, xa 536), (1, xi x1), (2, xi x2), (3, xi x3)]) rfl rfl (by decide) rfl rfl ?_
            refine xw_goto rfl ?_
            refine xw_lo (L2 := [(0, xa 536), (1, xi x1), (2, xi x2), (3, xi x3), (4, xi (w32 (x4 + 1)))]) (List.forall_mem_cons.mpr ⟨rfl, List.forall_mem_cons.mpr ⟨rfl, List.forall_mem_cons.mpr ⟨rfl, List.forall_mem_cons.mpr ⟨rfl, List.forall_mem_cons.mpr ⟨rfl, fun _ h => absurd h List.not_mem_nil⟩⟩⟩⟩⟩) ?_
            exact q
          exact hr3 _ _ _ _ _ c1 c2 c3 (w32_w _)
        · refine xS_of (pc' := 122) (L' := [(6, xi 1), (5, xi 1), (0, xa 536), (1, xi x1), (2, xi x2), (3, xi x3), (4, xi x4)]) (st' := [xi (xR m 596 ((8 * x2) + x4)), xi (xR m 596 ((8 * x1) + x4))]) (m' := m) (fun ex ns r q => ?_) ?_
          · refine xw_ic_eqF rfl (w32_cg (w32_xR _ _ _)) (w32_cg (w32_xR _ _ _)) h7 ?_
            refine xw_aload_n rfl rfl rfl ?_
            refine xw_gfR (n := 596) (e := 596) rfl (xw_obd (by decide +kernel)) (by decide +kernel) (by decide +kernel) rfl ?_
            refine xw_bipush (e := 8) rfl (by decide +kernel) ?_
            refine xw_iload_n rfl rfl ?_
            refine xw_imul rfl ?_
            refine xw_iload rfl rfl ?_
            refine xw_iadd rfl ?_
            refine xw_ialdc (n := 32000) (v := (m 596 ((8 * x1) + x4))) (v' := (xR m 596 ((8 * x1) + x4))) rfl hB (xw_obd (by decide +kernel)) rfl g5 rfl rfl ?_
            refine xw_aload_n rfl rfl rfl ?_
            refine xw_gfR (n := 596) (e := 596) rfl (xw_obd (by decide +kernel)) (by decide +kernel) (by decide +kernel) rfl ?_
            refine xw_bipush (e := 8) rfl (by decide +kernel) ?_
            refine xw_iload_n rfl rfl ?_
            refine xw_imul rfl ?_
            refine xw_iload rfl rfl ?_
            refine xw_iadd rfl ?_
            refine xw_ialdc (n := 32000) (v := (m 596 ((8 * x2) + x4))) (v' := (xR m 596 ((8 * x2) + x4))) rfl hB (xw_obd (by decide +kernel)) rfl g6 rfl rfl ?_
            exact q
          refine xS_if (fun h8 => ?_) (fun h8 => ?_)
          · refine xS_of (pc' := 130) (L' := [(6, xi 1), (5, xi 1), (0, xa 536), (1, xi x1), (2, xi x2), (3, xi x3), (4, xi x4)]) (st' := [xi (-1)]) (m' := m) (fun ex ns r q => ?_) ?_
            · refine xw_ic_geF rfl (w32_cg (w32_xR _ _ _)) (w32_cg (w32_xR _ _ _)) (Int.not_le.mpr h8) ?_
              refine xw_iconst rfl ?_
              refine xw_goto rfl ?_
              exact q
            exact xS_ret (v := (-1)) rfl rfl xw_rtI rfl
          · refine xS_of (pc' := 130) (L' := [(6, xi 1), (5, xi 1), (0, xa 536), (1, xi x1), (2, xi x2), (3, xi x3), (4, xi x4)]) (st' := [xi 1]) (m' := m) (fun ex ns r q => ?_) ?_
            · refine xw_ic_geT rfl (w32_cg (w32_xR _ _ _)) (w32_cg (w32_xR _ _ _)) (Int.not_lt.mp h8) ?_
              refine xw_iconst rfl ?_
              exact q
            exact xS_ret (v := 1) rfl rfl xw_rtI rfl
      · refine xS_of (pc' := 70) (L' := [(6, xi 0), (5, xi 1), (0, xa 536), (1, xi x1), (2, xi x2), (3, xi x3), (4, xi x4)]) (st' := [xi (-1)]) (m' := m) (fun ex ns r q => ?_) ?_
        · refine xw_ic_neT rfl (w32_cg (w32_ti _)) (w32_cg rfl) h4 ?_
          refine xw_iconst rfl ?_
          refine xw_istore (L' := [(6, xi 0), (5, xi 1), (0, xa 536), (1, xi x1), (2, xi x2), (3, xi x3), (4, xi x4)]) rfl (by decide) rfl ?_
          refine xw_iload rfl rfl ?_
          refine xw_iload rfl rfl ?_
          refine xw_ic_eqF rfl (w32_cg rfl) (w32_cg rfl) (by decide) ?_
          refine xw_iload rfl rfl ?_
          refine xw_if_eqF rfl (w32_cg rfl) (by decide) ?_
          refine xw_iconst rfl ?_
          refine xw_goto rfl ?_
          exact q
        exact xS_ret (v := (-1)) rfl rfl xw_rtI rfl
    · refine xS_g (fun g3 => ?_)
      refine xS_of (pc' := 43) (L' := [(5, xi 0), (0, xa 536), (1, xi x1), (2, xi x2), (3, xi x3), (4, xi x4)]) (st' := [xi 1, xi (xw_iandf (xw_ishrf (xR m 595 x2) x4) 1)]) (m' := m) (fun ex ns r q => ?_) ?_
      · refine xw_ic_neT rfl (w32_cg (w32_ti _)) (w32_cg rfl) h2 ?_
        refine xw_iconst rfl ?_
        refine xw_istore (L' := [(5, xi 0), (0, xa 536), (1, xi x1), (2, xi x2), (3, xi x3), (4, xi x4)]) rfl (by decide) rfl ?_
        refine xw_aload_n rfl rfl rfl ?_
        refine xw_gfR (n := 595) (e := 595) rfl (xw_obd (by decide +kernel)) (by decide +kernel) (by decide +kernel) rfl ?_
        refine xw_iload_n rfl rfl ?_
        refine xw_ialdc (n := 4000) (v := (m 595 x2)) (v' := (xR m 595 x2)) rfl hB (xw_obd (by decide +kernel)) rfl g3 rfl rfl ?_
        refine xw_iload rfl rfl ?_
        refine xw_ishr (z := (xw_ishrf (xR m 595 x2) x4)) rfl (xw_ishre _ _) ?_
        refine xw_iconst rfl ?_
        refine xw_iand (z := (xw_iandf (xw_ishrf (xR m 595 x2) x4) 1)) rfl (xw_iande _ _) ?_
        refine xw_iconst rfl ?_
        exact q
      refine xS_if (fun h4 => ?_) (fun h4 => ?_)
      · refine xS_of (pc' := 70) (L' := [(6, xi 1), (5, xi 0), (0, xa 536), (1, xi x1), (2, xi x2), (3, xi x3), (4, xi x4)]) (st' := [xi 1]) (m' := m) (fun ex ns r q => ?_) ?_
        · refine xw_ic_neF rfl (w32_cg (w32_ti _)) (w32_cg rfl) h4 ?_
          refine xw_iconst rfl ?_
          refine xw_goto rfl ?_
          refine xw_istore (L' := [(6, xi 1), (5, xi 0), (0, xa 536), (1, xi x1), (2, xi x2), (3, xi x3), (4, xi x4)]) rfl (by decide) rfl ?_
          refine xw_iload rfl rfl ?_
          refine xw_iload rfl rfl ?_
          refine xw_ic_eqF rfl (w32_cg rfl) (w32_cg rfl) (by decide) ?_
          refine xw_iload rfl rfl ?_
          refine xw_if_eqT rfl (w32_cg rfl) (by decide) ?_
          refine xw_iconst rfl ?_
          exact q
        exact xS_ret (v := 1) rfl rfl xw_rtI rfl
      · refine xS_g (fun g5 => ?_)
        refine xS_g (fun g6 => ?_)
        refine xS_of (pc' := 95) (L' := [(6, xi 0), (5, xi 0), (0, xa 536), (1, xi x1), (2, xi x2), (3, xi x3), (4, xi x4)]) (st' := [xi (xR m 596 ((8 * x2) + x4)), xi (xR m 596 ((8 * x1) + x4))]) (m' := m) (fun ex ns r q => ?_) ?_
        · refine xw_ic_neT rfl (w32_cg (w32_ti _)) (w32_cg rfl) h4 ?_
          refine xw_iconst rfl ?_
          refine xw_istore (L' := [(6, xi 0), (5, xi 0), (0, xa 536), (1, xi x1), (2, xi x2), (3, xi x3), (4, xi x4)]) rfl (by decide) rfl ?_
          refine xw_iload rfl rfl ?_
          refine xw_iload rfl rfl ?_
          refine xw_ic_eqT rfl (w32_cg rfl) (w32_cg rfl) (by decide) ?_
          refine xw_aload_n rfl rfl rfl ?_
          refine xw_gfR (n := 596) (e := 596) rfl (xw_obd (by decide +kernel)) (by decide +kernel) (by decide +kernel) rfl ?_
          refine xw_bipush (e := 8) rfl (by decide +kernel) ?_
          refine xw_iload_n rfl rfl ?_
          refine xw_imul rfl ?_
          refine xw_iload rfl rfl ?_
          refine xw_iadd rfl ?_
          refine xw_ialdc (n := 32000) (v := (m 596 ((8 * x1) + x4))) (v' := (xR m 596 ((8 * x1) + x4))) rfl hB (xw_obd (by decide +kernel)) rfl g5 rfl rfl ?_
          refine xw_aload_n rfl rfl rfl ?_
          refine xw_gfR (n := 596) (e := 596) rfl (xw_obd (by decide +kernel)) (by decide +kernel) (by decide +kernel) rfl ?_
          refine xw_bipush (e := 8) rfl (by decide +kernel) ?_
          refine xw_iload_n rfl rfl ?_
          refine xw_imul rfl ?_
          refine xw_iload rfl rfl ?_
          refine xw_iadd rfl ?_
          refine xw_ialdc (n := 32000) (v := (m 596 ((8 * x2) + x4))) (v' := (xR m 596 ((8 * x2) + x4))) rfl hB (xw_obd (by decide +kernel)) rfl g6 rfl rfl ?_
          exact q
        refine xS_if (fun h7 => ?_) (fun h7 => ?_)
        · refine xS_of (pc' := 3) (L' := [(0, xa 536), (1, xi x1), (2, xi x2), (3, xi x3), (4, xi (w32 (x4 + 1)))]) (st' := []) (m' := m) (fun ex ns r q => ?_) ?_
          · refine xw_ic_eqT rfl (w32_cg (w32_xR _ _ _)) (w32_cg (w32_xR _ _ _)) h7 ?_
            refine xw_iincc (z := (w32 (x4 + 1))) (L' := [(4, xi (w32 (x4 + 1))), (6, xi 0), (5, xi 0), (0, xa 536), (1, xi x1), (2, xi x2), (3, xi x3)]) rfl rfl (by decide) rfl rfl ?_
            refine xw_goto rfl ?_
            refine xw_lo (L2 := [(0, xa 536), (1, xi x1), (2, xi x2), (3, xi x3), (4, xi (w32 (x4 + 1)))]) (List.forall_mem_cons.mpr ⟨rfl, List.forall_mem_cons.mpr ⟨rfl, List.forall_mem_cons.mpr ⟨rfl, List.forall_mem_cons.mpr ⟨rfl, List.forall_mem_cons.mpr ⟨rfl, fun _ h => absurd h List.not_mem_nil⟩⟩⟩⟩⟩) ?_
            exact q
          exact hr3 _ _ _ _ _ c1 c2 c3 (w32_w _)
        · refine xS_of (pc' := 122) (L' := [(6, xi 0), (5, xi 0), (0, xa 536), (1, xi x1), (2, xi x2), (3, xi x3), (4, xi x4)]) (st' := [xi (xR m 596 ((8 * x2) + x4)), xi (xR m 596 ((8 * x1) + x4))]) (m' := m) (fun ex ns r q => ?_) ?_
          · refine xw_ic_eqF rfl (w32_cg (w32_xR _ _ _)) (w32_cg (w32_xR _ _ _)) h7 ?_
            refine xw_aload_n rfl rfl rfl ?_
            refine xw_gfR (n := 596) (e := 596) rfl (xw_obd (by decide +kernel)) (by decide +kernel) (by decide +kernel) rfl ?_
            refine xw_bipush (e := 8) rfl (by decide +kernel) ?_
            refine xw_iload_n rfl rfl ?_
            refine xw_imul rfl ?_
            refine xw_iload rfl rfl ?_
            refine xw_iadd rfl ?_
            refine xw_ialdc (n := 32000) (v := (m 596 ((8 * x1) + x4))) (v' := (xR m 596 ((8 * x1) + x4))) rfl hB (xw_obd (by decide +kernel)) rfl g5 rfl rfl ?_
            refine xw_aload_n rfl rfl rfl ?_
            refine xw_gfR (n := 596) (e := 596) rfl (xw_obd (by decide +kernel)) (by decide +kernel) (by decide +kernel) rfl ?_
            refine xw_bipush (e := 8) rfl (by decide +kernel) ?_
            refine xw_iload_n rfl rfl ?_
            refine xw_imul rfl ?_
            refine xw_iload rfl rfl ?_
            refine xw_iadd rfl ?_
            refine xw_ialdc (n := 32000) (v := (m 596 ((8 * x2) + x4))) (v' := (xR m 596 ((8 * x2) + x4))) rfl hB (xw_obd (by decide +kernel)) rfl g6 rfl rfl ?_
            exact q
          refine xS_if (fun h8 => ?_) (fun h8 => ?_)
          · refine xS_of (pc' := 130) (L' := [(6, xi 0), (5, xi 0), (0, xa 536), (1, xi x1), (2, xi x2), (3, xi x3), (4, xi x4)]) (st' := [xi (-1)]) (m' := m) (fun ex ns r q => ?_) ?_
            · refine xw_ic_geF rfl (w32_cg (w32_xR _ _ _)) (w32_cg (w32_xR _ _ _)) (Int.not_le.mpr h8) ?_
              refine xw_iconst rfl ?_
              refine xw_goto rfl ?_
              exact q
            exact xS_ret (v := (-1)) rfl rfl xw_rtI rfl
          · refine xS_of (pc' := 130) (L' := [(6, xi 0), (5, xi 0), (0, xa 536), (1, xi x1), (2, xi x2), (3, xi x3), (4, xi x4)]) (st' := [xi 1]) (m' := m) (fun ex ns r q => ?_) ?_
            · refine xw_ic_geT rfl (w32_cg (w32_xR _ _ _)) (w32_cg (w32_xR _ _ _)) (Int.not_lt.mp h8) ?_
              refine xw_iconst rfl ?_
              exact q
            exact xS_ret (v := 1) rfl rfl xw_rtI rfl
  · refine xS_of (pc' := 138) (L' := [(0, xa 536), (1, xi x1), (2, xi x2), (3, xi x3), (4, xi x4)]) (st' := [xi 0]) (m' := m) (fun ex ns r q => ?_) ?_
    · refine xw_ic_geT rfl (w32_cg c4) (w32_cg c3) (Int.not_lt.mp h0) ?_
      refine xw_iconst rfl ?_
      exact q
    exact xS_ret (v := 0) rfl rfl xw_rtI rfl
theorem ygl299_3 {B : Nat} (hB : B ≤ 512) {xs : Nat → Int32} {SL d : Nat} : ∀ n x1 x2 x3 x4 m, w32 x1 = x1 → w32 x2 = x2 → w32 x3 = x3 → w32 x4 = x4 → xS B xs SL (d + 0) 299 (7, (some .int), [], 13) 1 3 [(0, xa 536), (1, xi x1), (2, xi x2), (3, xi x3), (4, xi x4)] [] m (xl4 (yl299_3 B) n x1 x2 x3 x4 m) := by
  intro n
  induction n with
  | zero => intro x1 x2 x3 x4 m c1 c2 c3 c4; exact xS_none
  | succ n ih => exact ysl299_3 hB ih
theorem ygf299 {B : Nat} (hB : B ≤ 512) {xs : Nat → Int32} {SL d : Nat} : ∀ p0 p1 p2 m, w32 p0 = p0 → w32 p1 = p1 → w32 p2 = p2 → xS B xs SL (d + 0) 299 (7, (some .int), [], 13) 1 0 [(0, xa 536), (1, xi p0), (2, xi p1), (3, xi p2)] [] m (yf299 B p0 p1 p2 m) := by
  intro p0 p1 p2 m cp0 cp1 cp2
  unfold yf299
  refine xS_of (pc' := 3) (L' := [(0, xa 536), (1, xi p0), (2, xi p1), (3, xi p2), (4, xi 0)]) (st' := []) (m' := m) (fun ex ns r q => ?_) ?_
  · refine xw_iconst rfl ?_
    refine xw_istore (L' := [(4, xi 0), (0, xa 536), (1, xi p0), (2, xi p1), (3, xi p2)]) rfl (by decide) rfl ?_
    refine xw_lo (L2 := [(0, xa 536), (1, xi p0), (2, xi p1), (3, xi p2), (4, xi 0)]) (List.forall_mem_cons.mpr ⟨rfl, List.forall_mem_cons.mpr ⟨rfl, List.forall_mem_cons.mpr ⟨rfl, List.forall_mem_cons.mpr ⟨rfl, List.forall_mem_cons.mpr ⟨rfl, fun _ h => absurd h List.not_mem_nil⟩⟩⟩⟩⟩) ?_
    exact q
  exact ygl299_3 hB 1000000 _ _ _ _ _ cp0 cp1 cp2 rfl
theorem ygk298_125 {B : Nat} (hB : B ≤ 512) {xs : Nat → Int32} {SL d : Nat} {r25 : Int → Int → xw_M → xP} (hr25 : ∀ x1 x2 m, w32 x2 = x2 → xS B xs SL (d + 1) 298 (10, none, [], 13) 0 25 [(0, xa 536), (1, xa x1), (2, xi x2)] [] m (r25 x1 x2 m)) {r35 : Int → Int → Int → xw_M → xP} (hr35 : ∀ x1 x2 x3 m, w32 x2 = x2 → w32 x3 = x3 → xS B xs SL (d + 1) 298 (10, none, [], 13) 0 35 [(0, xa 536), (1, xa x1), (2, xi x2), (3, xi x3)] [] m (r35 x1 x2 x3 m)) {r79 : Int → Int → Int → Int → Int → Int → Int → Int → xw_M → xP} (hr79 : ∀ x1 x2 x3 x4 x5 x6 x7 x8 m, w32 x2 = x2 → w32 x3 = x3 → w32 x4 = x4 → w32 x5 = x5 → w32 x6 = x6 → w32 x7 = x7 → w32 x8 = x8 → xS B xs SL (d + 1) 298 (10, none, [], 13) 0 79 [(0, xa 536), (1, xa x1), (2, xi x2), (3, xi x3), (4, xi x4), (5, xi x5), (6, xi x6), (7, xi x7), (8, xi x8)] [] m (r79 x1 x2 x3 x4 x5 x6 x7 x8 m)) : ∀ x1 x2 x3 x4 x5 x6 x7 x8 m, w32 x2 = x2 → w32 x3 = x3 → w32 x4 = x4 → w32 x5 = x5 → w32 x6 = x6 → w32 x7 = x7 → w32 x8 = x8 → xS B xs SL (d + 1) 298 (10, none, [], 13) 0 125 [(0, xa 536), (1, xa x1), (2, xi x2), (3, xi x3), (4, xi x4), (5, xi x5), (6, xi x6), (7, xi x7), (8, xi x8)] [] m (yk298_125 B r25 r35 r79 x1 x2 x3 x4 x5 x6 x7 x8 m) := by
  intro x1 x2 x3 x4 x5 x6 x7 x8 m c2 c3 c4 c5 c6 c7 c8
  unfold yk298_125
  refine xS_g (fun g0 => ?_)
  refine xS_g (fun g1 => ?_)
  refine xS_g (fun g2 => ?_)
  refine xS_g (fun g3 => ?_)
  refine xS_of (pc' := 79) (L' := [(0, xa 536), (1, xa x1), (2, xi x2), (3, xi x3), (4, xi x4), (5, xi x5), (6, xi (w32 (x6 + 1))), (7, xi (w32 (x7 + 0))), (8, xi (w32 (x8 + 1)))]) (st' := []) (m' := (xw_u m (m 536 74) x8 (xR m (m 536 73) x6))) (fun ex ns r q => ?_) ?_
  · refine xw_iconst rfl ?_
    refine xw_goto rfl ?_
    refine xw_istore (L' := [(9, xi 1), (0, xa 536), (1, xa x1), (2, xi x2), (3, xi x3), (4, xi x4), (5, xi x5), (6, xi x6), (7, xi x7), (8, xi x8)]) rfl (by decide) rfl ?_
    refine xw_aload_n rfl rfl rfl ?_
    refine xw_gfM (v := (m 536 74)) rfl (xw_obd (by decide +kernel)) xk12_74 (qi := 74) rfl rfl ?_
    refine xw_iload rfl rfl ?_
    refine xw_aload_n rfl rfl rfl ?_
    refine xw_gfM (v := (m 536 73)) rfl (xw_obd (by decide +kernel)) xk12_73 (qi := 73) rfl rfl ?_
    refine xw_iload rfl rfl ?_
    refine xw_if_eqF rfl (w32_cg rfl) (by decide) ?_
    refine xw_iload rfl rfl ?_
    refine xw_goto rfl ?_
    refine xw_ialdc (n := (xw_le B (m 536 73))) (v := (m (m 536 73) x6)) (v' := (xR m (m 536 73) x6)) rfl hB (xw_obd g1) rfl g0 rfl rfl ?_
    refine xw_iast (n := (xw_le B (m 536 74))) rfl hB (xw_obd g3) rfl g2 ?_
    refine xw_iload rfl rfl ?_
    refine xw_iload rfl rfl ?_
    refine xw_if_eqF rfl (w32_cg rfl) (by decide) ?_
    refine xw_iconst rfl ?_
    refine xw_goto rfl ?_
    refine xw_iadd rfl ?_
    refine xw_cst (st' := [xi (w32 (x6 + 1))]) (xw_sc (xi_c rfl) rfl) ?_
    refine xw_istore (L' := [(6, xi (w32 (x6 + 1))), (9, xi 1), (0, xa 536), (1, xa x1), (2, xi x2), (3, xi x3), (4, xi x4), (5, xi x5), (7, xi x7), (8, xi x8)]) rfl (by decide) rfl ?_
    refine xw_iload rfl rfl ?_
    refine xw_iload rfl rfl ?_
    refine xw_if_eqF rfl (w32_cg rfl) (by decide) ?_
    refine xw_iconst rfl ?_
    refine xw_goto rfl ?_
    refine xw_iadd rfl ?_
    refine xw_cst (st' := [xi (w32 (x7 + 0))]) (xw_sc (xi_c rfl) rfl) ?_
    refine xw_istore (L' := [(7, xi (w32 (x7 + 0))), (6, xi (w32 (x6 + 1))), (9, xi 1), (0, xa 536), (1, xa x1), (2, xi x2), (3, xi x3), (4, xi x4), (5, xi x5), (8, xi x8)]) rfl (by decide) rfl ?_
    refine xw_iincc (z := (w32 (x8 + 1))) (L' := [(8, xi (w32 (x8 + 1))), (7, xi (w32 (x7 + 0))), (6, xi (w32 (x6 + 1))), (9, xi 1), (0, xa 536), (1, xa x1), (2, xi x2), (3, xi x3), (4, xi x4), (5, xi x5)]) rfl rfl (by decide) rfl rfl ?_
    refine xw_goto rfl ?_
    refine xw_lo (L2 := [(0, xa 536), (1, xa x1), (2, xi x2), (3, xi x3), (4, xi x4), (5, xi x5), (6, xi (w32 (x6 + 1))), (7, xi (w32 (x7 + 0))), (8, xi (w32 (x8 + 1)))]) (List.forall_mem_cons.mpr ⟨rfl, List.forall_mem_cons.mpr ⟨rfl, List.forall_mem_cons.mpr ⟨rfl, List.forall_mem_cons.mpr ⟨rfl, List.forall_mem_cons.mpr ⟨rfl, List.forall_mem_cons.mpr ⟨rfl, List.forall_mem_cons.mpr ⟨rfl, List.forall_mem_cons.mpr ⟨rfl, List.forall_mem_cons.mpr ⟨rfl, fun _ h => absurd h List.not_mem_nil⟩⟩⟩⟩⟩⟩⟩⟩⟩) ?_
    exact q
  exact hr79 _ _ _ _ _ _ _ _ _ c2 c3 c4 c5 (w32_w _) (w32_w _) (w32_w _)
theorem ygk298_129 {B : Nat} (hB : B ≤ 512) {xs : Nat → Int32} {SL d : Nat} {r25 : Int → Int → xw_M → xP} (hr25 : ∀ x1 x2 m, w32 x2 = x2 → xS B xs SL (d + 1) 298 (10, none, [], 13) 0 25 [(0, xa 536), (1, xa x1), (2, xi x2)] [] m (r25 x1 x2 m)) {r35 : Int → Int → Int → xw_M → xP} (hr35 : ∀ x1 x2 x3 m, w32 x2 = x2 → w32 x3 = x3 → xS B xs SL (d + 1) 298 (10, none, [], 13) 0 35 [(0, xa 536), (1, xa x1), (2, xi x2), (3, xi x3)] [] m (r35 x1 x2 x3 m)) {r79 : Int → Int → Int → Int → Int → Int → Int → Int → xw_M → xP} (hr79 : ∀ x1 x2 x3 x4 x5 x6 x7 x8 m, w32 x2 = x2 → w32 x3 = x3 → w32 x4 = x4 → w32 x5 = x5 → w32 x6 = x6 → w32 x7 = x7 → w32 x8 = x8 → xS B xs SL (d + 1) 298 (10, none, [], 13) 0 79 [(0, xa 536), (1, xa x1), (2, xi x2), (3, xi x3), (4, xi x4), (5, xi x5), (6, xi x6), (7, xi x7), (8, xi x8)] [] m (r79 x1 x2 x3 x4 x5 x6 x7 x8 m)) : ∀ x1 x2 x3 x4 x5 x6 x7 x8 m, w32 x2 = x2 → w32 x3 = x3 → w32 x4 = x4 → w32 x5 = x5 → w32 x6 = x6 → w32 x7 = x7 → w32 x8 = x8 → xS B xs SL (d + 1) 298 (10, none, [], 13) 0 129 [(0, xa 536), (1, xa x1), (2, xi x2), (3, xi x3), (4, xi x4), (5, xi x5), (6, xi x6), (7, xi x7), (8, xi x8)] [] m (yk298_129 B r25 r35 r79 x1 x2 x3 x4 x5 x6 x7 x8 m) := by
  intro x1 x2 x3 x4 x5 x6 x7 x8 m c2 c3 c4 c5 c6 c7 c8
  unfold yk298_129
  refine xS_g (fun g0 => ?_)
  refine xS_g (fun g1 => ?_)
  refine xS_g (fun g2 => ?_)
  refine xS_g (fun g3 => ?_)
  refine xS_of (pc' := 79) (L' := [(0, xa 536), (1, xa x1), (2, xi x2), (3, xi x3), (4, xi x4), (5, xi x5), (6, xi (w32 (x6 + 0))), (7, xi (w32 (x7 + 1))), (8, xi (w32 (x8 + 1)))]) (st' := []) (m' := (xw_u m (m 536 74) x8 (xR m (m 536 73) x7))) (fun ex ns r q => ?_) ?_
  · refine xw_iconst rfl ?_
    refine xw_istore (L' := [(9, xi 0), (0, xa 536), (1, xa x1), (2, xi x2), (3, xi x3), (4, xi x4), (5, xi x5), (6, xi x6), (7, xi x7), (8, xi x8)]) rfl (by decide) rfl ?_
    refine xw_aload_n rfl rfl rfl ?_
    refine xw_gfM (v := (m 536 74)) rfl (xw_obd (by decide +kernel)) xk12_74 (qi := 74) rfl rfl ?_
    refine xw_iload rfl rfl ?_
    refine xw_aload_n rfl rfl rfl ?_
    refine xw_gfM (v := (m 536 73)) rfl (xw_obd (by decide +kernel)) xk12_73 (qi := 73) rfl rfl ?_
    refine xw_iload rfl rfl ?_
    refine xw_if_eqT rfl (w32_cg rfl) (by decide) ?_
    refine xw_iload rfl rfl ?_
    refine xw_ialdc (n := (xw_le B (m 536 73))) (v := (m (m 536 73) x7)) (v' := (xR m (m 536 73) x7)) rfl hB (xw_obd g1) rfl g0 rfl rfl ?_
    refine xw_iast (n := (xw_le B (m 536 74))) rfl hB (xw_obd g3) rfl g2 ?_
    refine xw_iload rfl rfl ?_
    refine xw_iload rfl rfl ?_
    refine xw_if_eqT rfl (w32_cg rfl) (by decide) ?_
    refine xw_iconst rfl ?_
    refine xw_iadd rfl ?_
    refine xw_cst (st' := [xi (w32 (x6 + 0))]) (xw_sc (xi_c rfl) rfl) ?_
    refine xw_istore (L' := [(6, xi (w32 (x6 + 0))), (9, xi 0), (0, xa 536), (1, xa x1), (2, xi x2), (3, xi x3), (4, xi x4), (5, xi x5), (7, xi x7), (8, xi x8)]) rfl (by decide) rfl ?_
    refine xw_iload rfl rfl ?_
    refine xw_iload rfl rfl ?_
    refine xw_if_eqT rfl (w32_cg rfl) (by decide) ?_
    refine xw_iconst rfl ?_
    refine xw_iadd rfl ?_
    refine xw_cst (st' := [xi (w32 (x7 + 1))]) (xw_sc (xi_c rfl) rfl) ?_
    refine xw_istore (L' := [(7, xi (w32 (x7 + 1))), (6, xi (w32 (x6 + 0))), (9, xi 0), (0, xa 536), (1, xa x1), (2, xi x2), (3, xi x3), (4, xi x4), (5, xi x5), (8, xi x8)]) rfl (by decide) rfl ?_
    refine xw_iincc (z := (w32 (x8 + 1))) (L' := [(8, xi (w32 (x8 + 1))), (7, xi (w32 (x7 + 1))), (6, xi (w32 (x6 + 0))), (9, xi 0), (0, xa 536), (1, xa x1), (2, xi x2), (3, xi x3), (4, xi x4), (5, xi x5)]) rfl rfl (by decide) rfl rfl ?_
    refine xw_goto rfl ?_
    refine xw_lo (L2 := [(0, xa 536), (1, xa x1), (2, xi x2), (3, xi x3), (4, xi x4), (5, xi x5), (6, xi (w32 (x6 + 0))), (7, xi (w32 (x7 + 1))), (8, xi (w32 (x8 + 1)))]) (List.forall_mem_cons.mpr ⟨rfl, List.forall_mem_cons.mpr ⟨rfl, List.forall_mem_cons.mpr ⟨rfl, List.forall_mem_cons.mpr ⟨rfl, List.forall_mem_cons.mpr ⟨rfl, List.forall_mem_cons.mpr ⟨rfl, List.forall_mem_cons.mpr ⟨rfl, List.forall_mem_cons.mpr ⟨rfl, List.forall_mem_cons.mpr ⟨rfl, fun _ h => absurd h List.not_mem_nil⟩⟩⟩⟩⟩⟩⟩⟩⟩) ?_
    exact q
  exact hr79 _ _ _ _ _ _ _ _ _ c2 c3 c4 c5 (w32_w _) (w32_w _) (w32_w _)
theorem ysl298_79 {B : Nat} (hB : B ≤ 512) {xs : Nat → Int32} {SL d : Nat} {r25 : Int → Int → xw_M → xP} (hr25 : ∀ x1 x2 m, w32 x2 = x2 → xS B xs SL (d + 1) 298 (10, none, [], 13) 0 25 [(0, xa 536), (1, xa x1), (2, xi x2)] [] m (r25 x1 x2 m)) {r35 : Int → Int → Int → xw_M → xP} (hr35 : ∀ x1 x2 x3 m, w32 x2 = x2 → w32 x3 = x3 → xS B xs SL (d + 1) 298 (10, none, [], 13) 0 35 [(0, xa 536), (1, xa x1), (2, xi x2), (3, xi x3)] [] m (r35 x1 x2 x3 m)) {r79 : Int → Int → Int → Int → Int → Int → Int → Int → xw_M → xP} (hr79 : ∀ x1 x2 x3 x4 x5 x6 x7 x8 m, w32 x2 = x2 → w32 x3 = x3 → w32 x4 = x4 → w32 x5 = x5 → w32 x6 = x6 → w32 x7 = x7 → w32 x8 = x8 → xS B xs SL (d + 1) 298 (10, none, [], 13) 0 79 [(0, xa 536), (1, xa x1), (2, xi x2), (3, xi x3), (4, xi x4), (5, xi x5), (6, xi x6), (7, xi x7), (8, xi x8)] [] m (r79 x1 x2 x3 x4 x5 x6 x7 x8 m)) : ∀ x1 x2 x3 x4 x5 x6 x7 x8 m, w32 x2 = x2 → w32 x3 = x3 → w32 x4 = x4 → w32 x5 = x5 → w32 x6 = x6 → w32 x7 = x7 → w32 x8 = x8 → xS B xs SL (d + 1) 298 (10, none, [], 13) 0 79 [(0, xa 536), (1, xa x1), (2, xi x2), (3, xi x3), (4, xi x4), (5, xi x5), (6, xi x6), (7, xi x7), (8, xi x8)] [] m (yl298_79 B r25 r35 r79 x1 x2 x3 x4 x5 x6 x7 x8 m) := by
  intro x1 x2 x3 x4 x5 x6 x7 x8 m c2 c3 c4 c5 c6 c7 c8
  unfold yl298_79
  refine xS_of (pc' := 83) (L' := [(0, xa 536), (1, xa x1), (2, xi x2), (3, xi x3), (4, xi x4), (5, xi x5), (6, xi x6), (7, xi x7), (8, xi x8)]) (st' := [xi x5, xi x8]) (m' := m) (fun ex ns r q => ?_) ?_
  · refine xw_iload rfl rfl ?_
    refine xw_iload rfl rfl ?_
    exact q
  refine xS_if (fun h0 => ?_) (fun h0 => ?_)
  · refine xS_of (pc' := 90) (L' := [(0, xa 536), (1, xa x1), (2, xi x2), (3, xi x3), (4, xi x4), (5, xi x5), (6, xi x6), (7, xi x7), (8, xi x8)]) (st' := [xi x5, xi x7]) (m' := m) (fun ex ns r q => ?_) ?_
    · refine xw_ic_geF rfl (w32_cg c8) (w32_cg c5) (Int.not_le.mpr h0) ?_
      refine xw_iload rfl rfl ?_
      refine xw_iload rfl rfl ?_
      exact q
    refine xS_if (fun h1 => ?_) (fun h1 => ?_)
    · refine xS_of (pc' := 125) (L' := [(0, xa 536), (1, xa x1), (2, xi x2), (3, xi x3), (4, xi x4), (5, xi x5), (6, xi x6), (7, xi x7), (8, xi x8)]) (st' := []) (m' := m) (fun ex ns r q => ?_) ?_
      · refine xw_ic_eqT rfl (w32_cg c7) (w32_cg c5) h1 ?_
        refine xw_lo (L2 := [(0, xa 536), (1, xa x1), (2, xi x2), (3, xi x3), (4, xi x4), (5, xi x5), (6, xi x6), (7, xi x7), (8, xi x8)]) (List.forall_mem_cons.mpr ⟨rfl, List.forall_mem_cons.mpr ⟨rfl, List.forall_mem_cons.mpr ⟨rfl, List.forall_mem_cons.mpr ⟨rfl, List.forall_mem_cons.mpr ⟨rfl, List.forall_mem_cons.mpr ⟨rfl, List.forall_mem_cons.mpr ⟨rfl, List.forall_mem_cons.mpr ⟨rfl, List.forall_mem_cons.mpr ⟨rfl, fun _ h => absurd h List.not_mem_nil⟩⟩⟩⟩⟩⟩⟩⟩⟩) ?_
        exact q
      exact ygk298_125 hB hr25 hr35 hr79 _ _ _ _ _ _ _ _ _ c2 c3 c4 c5 c6 c7 c8
    · refine xS_of (pc' := 97) (L' := [(0, xa 536), (1, xa x1), (2, xi x2), (3, xi x3), (4, xi x4), (5, xi x5), (6, xi x6), (7, xi x7), (8, xi x8)]) (st' := [xi x4, xi x6]) (m' := m) (fun ex ns r q => ?_) ?_
      · refine xw_ic_eqF rfl (w32_cg c7) (w32_cg c5) h1 ?_
        refine xw_iload rfl rfl ?_
        refine xw_iload rfl rfl ?_
        exact q
      refine xS_if (fun h2 => ?_) (fun h2 => ?_)
      · refine xS_g (fun g3 => ?_)
        refine xS_g (fun g4 => ?_)
        refine xS_g (fun g5 => ?_)
        refine xS_g (fun g6 => ?_)
        refine xS_of (pc' := 119) (L' := [(0, xa 536), (1, xa x1), (2, xi x2), (3, xi x3), (4, xi x4), (5, xi x5), (6, xi x6), (7, xi x7), (8, xi x8)]) (st' := [xi (xR m x1 4), xi (xR m (m 536 73) x7), xi (xR m (m 536 73) x6), xa 536]) (m' := m) (fun ex ns r q => ?_) ?_
        · refine xw_ic_geF rfl (w32_cg c6) (w32_cg c4) (Int.not_le.mpr h2) ?_
          refine xw_aload_n rfl rfl rfl ?_
          refine xw_aload_n rfl rfl rfl ?_
          refine xw_gfM (v := (m 536 73)) rfl (xw_obd (by decide +kernel)) xk12_73 (qi := 73) rfl rfl ?_
          refine xw_iload rfl rfl ?_
          refine xw_ialdc (n := (xw_le B (m 536 73))) (v := (m (m 536 73) x6)) (v' := (xR m (m 536 73) x6)) rfl hB (xw_obd g4) rfl g3 rfl rfl ?_
          refine xw_aload_n rfl rfl rfl ?_
          refine xw_gfM (v := (m 536 73)) rfl (xw_obd (by decide +kernel)) xk12_73 (qi := 73) rfl rfl ?_
          refine xw_iload rfl rfl ?_
          refine xw_ialdc (n := (xw_le B (m 536 73))) (v := (m (m 536 73) x7)) (v' := (xR m (m 536 73) x7)) rfl hB (xw_obd g4) rfl g5 rfl rfl ?_
          refine xw_aload_n rfl rfl rfl ?_
          refine xw_gfIc (v := (m x1 4)) (v' := (xR m x1 4)) rfl (xw_obd g6) xk13_4 (qi := 4) rfl rfl rfl ?_
          refine xw_lo (L2 := [(0, xa 536), (1, xa x1), (2, xi x2), (3, xi x3), (4, xi x4), (5, xi x5), (6, xi x6), (7, xi x7), (8, xi x8)]) (List.forall_mem_cons.mpr ⟨rfl, List.forall_mem_cons.mpr ⟨rfl, List.forall_mem_cons.mpr ⟨rfl, List.forall_mem_cons.mpr ⟨rfl, List.forall_mem_cons.mpr ⟨rfl, List.forall_mem_cons.mpr ⟨rfl, List.forall_mem_cons.mpr ⟨rfl, List.forall_mem_cons.mpr ⟨rfl, List.forall_mem_cons.mpr ⟨rfl, fun _ h => absurd h List.not_mem_nil⟩⟩⟩⟩⟩⟩⟩⟩⟩) ?_
          exact q
        refine xS_call (q := 299) (n := 4) (kq := 1) (as := [xa 536, xi (xR m (m 536 73) x6), xi (xR m (m 536 73) x7), xi (xR m x1 4)]) (st1 := []) rfl rfl rfl rfl rfl rfl rfl rfl rfl rfl (fun _ => xw_rcv1 (t := 12) (xw_obd (by decide +kernel)) rfl) rfl (List.forall_mem_cons.mpr ⟨rfl, List.forall_mem_cons.mpr ⟨rfl, List.forall_mem_cons.mpr ⟨rfl, List.forall_mem_cons.mpr ⟨rfl, fun _ h => absurd h List.not_mem_nil⟩⟩⟩⟩) (ygf299 hB _ _ _ _ (w32_xR _ _ _) (w32_xR _ _ _) (w32_xR _ _ _)) (fun v1 m1 cv1 => ?_)
        refine xS_if (fun h7 => ?_) (fun h7 => ?_)
        · refine xS_of (pc' := 129) (L' := [(0, xa 536), (1, xa x1), (2, xi x2), (3, xi x3), (4, xi x4), (5, xi x5), (6, xi x6), (7, xi x7), (8, xi x8)]) (st' := []) (m' := m1) (fun ex ns r q => ?_) ?_
          · refine xw_if_gtT rfl (w32_cg cv1) h7 ?_
            refine xw_lo (L2 := [(0, xa 536), (1, xa x1), (2, xi x2), (3, xi x3), (4, xi x4), (5, xi x5), (6, xi x6), (7, xi x7), (8, xi x8)]) (List.forall_mem_cons.mpr ⟨rfl, List.forall_mem_cons.mpr ⟨rfl, List.forall_mem_cons.mpr ⟨rfl, List.forall_mem_cons.mpr ⟨rfl, List.forall_mem_cons.mpr ⟨rfl, List.forall_mem_cons.mpr ⟨rfl, List.forall_mem_cons.mpr ⟨rfl, List.forall_mem_cons.mpr ⟨rfl, List.forall_mem_cons.mpr ⟨rfl, fun _ h => absurd h List.not_mem_nil⟩⟩⟩⟩⟩⟩⟩⟩⟩) ?_
            exact q
          exact ygk298_129 hB hr25 hr35 hr79 _ _ _ _ _ _ _ _ _ c2 c3 c4 c5 c6 c7 c8
        · refine xS_of (pc' := 125) (L' := [(0, xa 536), (1, xa x1), (2, xi x2), (3, xi x3), (4, xi x4), (5, xi x5), (6, xi x6), (7, xi x7), (8, xi x8)]) (st' := []) (m' := m1) (fun ex ns r q => ?_) ?_
          · refine xw_if_gtF rfl (w32_cg cv1) h7 ?_
            refine xw_lo (L2 := [(0, xa 536), (1, xa x1), (2, xi x2), (3, xi x3), (4, xi x4), (5, xi x5), (6, xi x6), (7, xi x7), (8, xi x8)]) (List.forall_mem_cons.mpr ⟨rfl, List.forall_mem_cons.mpr ⟨rfl, List.forall_mem_cons.mpr ⟨rfl, List.forall_mem_cons.mpr ⟨rfl, List.forall_mem_cons.mpr ⟨rfl, List.forall_mem_cons.mpr ⟨rfl, List.forall_mem_cons.mpr ⟨rfl, List.forall_mem_cons.mpr ⟨rfl, List.forall_mem_cons.mpr ⟨rfl, fun _ h => absurd h List.not_mem_nil⟩⟩⟩⟩⟩⟩⟩⟩⟩) ?_
            exact q
          exact ygk298_125 hB hr25 hr35 hr79 _ _ _ _ _ _ _ _ _ c2 c3 c4 c5 c6 c7 c8
      · refine xS_of (pc' := 129) (L' := [(0, xa 536), (1, xa x1), (2, xi x2), (3, xi x3), (4, xi x4), (5, xi x5), (6, xi x6), (7, xi x7), (8, xi x8)]) (st' := []) (m' := m) (fun ex ns r q => ?_) ?_
        · refine xw_ic_geT rfl (w32_cg c6) (w32_cg c4) (Int.not_lt.mp h2) ?_
          refine xw_lo (L2 := [(0, xa 536), (1, xa x1), (2, xi x2), (3, xi x3), (4, xi x4), (5, xi x5), (6, xi x6), (7, xi x7), (8, xi x8)]) (List.forall_mem_cons.mpr ⟨rfl, List.forall_mem_cons.mpr ⟨rfl, List.forall_mem_cons.mpr ⟨rfl, List.forall_mem_cons.mpr ⟨rfl, List.forall_mem_cons.mpr ⟨rfl, List.forall_mem_cons.mpr ⟨rfl, List.forall_mem_cons.mpr ⟨rfl, List.forall_mem_cons.mpr ⟨rfl, List.forall_mem_cons.mpr ⟨rfl, fun _ h => absurd h List.not_mem_nil⟩⟩⟩⟩⟩⟩⟩⟩⟩) ?_
          exact q
        exact ygk298_129 hB hr25 hr35 hr79 _ _ _ _ _ _ _ _ _ c2 c3 c4 c5 c6 c7 c8
  · refine xS_of (pc' := 35) (L' := [(0, xa 536), (1, xa x1), (2, xi x2), (3, xi (w32 (x3 + (2 * x2))))]) (st' := []) (m' := m) (fun ex ns r q => ?_) ?_
    · refine xw_ic_geT rfl (w32_cg c8) (w32_cg c5) (Int.not_lt.mp h0) ?_
      refine xw_iload_n rfl rfl ?_
      refine xw_iconst rfl ?_
      refine xw_iload_n rfl rfl ?_
      refine xw_imul rfl ?_
      refine xw_iadd rfl ?_
      refine xw_cst (st' := [xi (w32 (x3 + (2 * x2)))]) (xw_sc (xi_c rfl) rfl) ?_
      refine xw_istore_n (L' := [(3, xi (w32 (x3 + (2 * x2)))), (0, xa 536), (1, xa x1), (2, xi x2), (4, xi x4), (5, xi x5), (6, xi x6), (7, xi x7), (8, xi x8)]) rfl (by decide) rfl ?_
      refine xw_goto rfl ?_
      refine xw_lo (L2 := [(0, xa 536), (1, xa x1), (2, xi x2), (3, xi (w32 (x3 + (2 * x2))))]) (List.forall_mem_cons.mpr ⟨rfl, List.forall_mem_cons.mpr ⟨rfl, List.forall_mem_cons.mpr ⟨rfl, List.forall_mem_cons.mpr ⟨rfl, fun _ h => absurd h List.not_mem_nil⟩⟩⟩⟩) ?_
      exact q
    exact hr35 _ _ _ _ c2 (w32_w _)
theorem ygl298_79 {B : Nat} (hB : B ≤ 512) {xs : Nat → Int32} {SL d : Nat} {r25 : Int → Int → xw_M → xP} (hr25 : ∀ x1 x2 m, w32 x2 = x2 → xS B xs SL (d + 1) 298 (10, none, [], 13) 0 25 [(0, xa 536), (1, xa x1), (2, xi x2)] [] m (r25 x1 x2 m)) {r35 : Int → Int → Int → xw_M → xP} (hr35 : ∀ x1 x2 x3 m, w32 x2 = x2 → w32 x3 = x3 → xS B xs SL (d + 1) 298 (10, none, [], 13) 0 35 [(0, xa 536), (1, xa x1), (2, xi x2), (3, xi x3)] [] m (r35 x1 x2 x3 m)) : ∀ n x1 x2 x3 x4 x5 x6 x7 x8 m, w32 x2 = x2 → w32 x3 = x3 → w32 x4 = x4 → w32 x5 = x5 → w32 x6 = x6 → w32 x7 = x7 → w32 x8 = x8 → xS B xs SL (d + 1) 298 (10, none, [], 13) 0 79 [(0, xa 536), (1, xa x1), (2, xi x2), (3, xi x3), (4, xi x4), (5, xi x5), (6, xi x6), (7, xi x7), (8, xi x8)] [] m (xl8 (yl298_79 B r25 r35) n x1 x2 x3 x4 x5 x6 x7 x8 m) := by
  intro n
  induction n with
  | zero => intro x1 x2 x3 x4 x5 x6 x7 x8 m c2 c3 c4 c5 c6 c7 c8; exact xS_none
  | succ n ih => exact ysl298_79 hB hr25 hr35 ih
theorem ysl298_35 {B : Nat} (hB : B ≤ 512) {xs : Nat → Int32} {SL d : Nat} {r25 : Int → Int → xw_M → xP} (hr25 : ∀ x1 x2 m, w32 x2 = x2 → xS B xs SL (d + 1) 298 (10, none, [], 13) 0 25 [(0, xa 536), (1, xa x1), (2, xi x2)] [] m (r25 x1 x2 m)) {r35 : Int → Int → Int → xw_M → xP} (hr35 : ∀ x1 x2 x3 m, w32 x2 = x2 → w32 x3 = x3 → xS B xs SL (d + 1) 298 (10, none, [], 13) 0 35 [(0, xa 536), (1, xa x1), (2, xi x2), (3, xi x3)] [] m (r35 x1 x2 x3 m)) : ∀ x1 x2 x3 m, w32 x2 = x2 → w32 x3 = x3 → xS B xs SL (d + 1) 298 (10, none, [], 13) 0 35 [(0, xa 536), (1, xa x1), (2, xi x2), (3, xi x3)] [] m (yl298_35 B r25 r35 x1 x2 x3 m) := by
  intro x1 x2 x3 m c2 c3
  unfold yl298_35
  refine xS_of (pc' := 40) (L' := [(0, xa 536), (1, xa x1), (2, xi x2), (3, xi x3)]) (st' := [xi (xR m 536 65), xi x3]) (m' := m) (fun ex ns r q => ?_) ?_
  · refine xw_iload_n rfl rfl ?_
    refine xw_aload_n rfl rfl rfl ?_
    refine xw_gfIc (v := (m 536 65)) (v' := (xR m 536 65)) rfl (xw_obd (by decide +kernel)) xk12_65 (qi := 65) rfl rfl rfl ?_
    exact q
  refine xS_if (fun h0 => ?_) (fun h0 => ?_)
  · refine xS_of (pc' := 79) (L' := [(0, xa 536), (1, xa x1), (2, xi x2), (3, xi x3), (4, xi (min (w32 (x3 + x2)) (xR m 536 65))), (5, xi (min (w32 (x3 + (2 * x2))) (xR m 536 65))), (6, xi x3), (7, xi (min (w32 (x3 + x2)) (xR m 536 65))), (8, xi x3)]) (st' := []) (m' := m) (fun ex ns r q => ?_) ?_
    · refine xw_ic_geF rfl (w32_cg c3) (w32_cg (w32_xR _ _ _)) (Int.not_le.mpr h0) ?_
      refine xw_iload_n rfl rfl ?_
      refine xw_iload_n rfl rfl ?_
      refine xw_iadd rfl ?_
      refine xw_aload_n rfl rfl rfl ?_
      refine xw_gfIc (v := (m 536 65)) (v' := (xR m 536 65)) rfl (xw_obd (by decide +kernel)) xk12_65 (qi := 65) rfl rfl rfl ?_
      refine xw_cst (st' := [xi (xR m 536 65), xi (w32 (x3 + x2))]) (xw_sc rfl (xw_sc (xi_c rfl) rfl)) ?_
      refine xw_minI rfl rfl (w32_cg (w32_w _)) (w32_cg (w32_xR _ _ _)) rfl ?_
      refine xw_istore (L' := [(4, xi (min (w32 (x3 + x2)) (xR m 536 65))), (0, xa 536), (1, xa x1), (2, xi x2), (3, xi x3)]) rfl (by decide) rfl ?_
      refine xw_iload_n rfl rfl ?_
      refine xw_iconst rfl ?_
      refine xw_iload_n rfl rfl ?_
      refine xw_imul rfl ?_
      refine xw_iadd rfl ?_
      refine xw_aload_n rfl rfl rfl ?_
      refine xw_gfIc (v := (m 536 65)) (v' := (xR m 536 65)) rfl (xw_obd (by decide +kernel)) xk12_65 (qi := 65) rfl rfl rfl ?_
      refine xw_cst (st' := [xi (xR m 536 65), xi (w32 (x3 + (2 * x2)))]) (xw_sc rfl (xw_sc (xi_c rfl) rfl)) ?_
      refine xw_minI rfl rfl (w32_cg (w32_w _)) (w32_cg (w32_xR _ _ _)) rfl ?_
      refine xw_istore (L' := [(5, xi (min (w32 (x3 + (2 * x2))) (xR m 536 65))), (4, xi (min (w32 (x3 + x2)) (xR m 536 65))), (0, xa 536), (1, xa x1), (2, xi x2), (3, xi x3)]) rfl (by decide) rfl ?_
      refine xw_iload_n rfl rfl ?_
      refine xw_istore (L' := [(6, xi x3), (5, xi (min (w32 (x3 + (2 * x2))) (xR m 536 65))), (4, xi (min (w32 (x3 + x2)) (xR m 536 65))), (0, xa 536), (1, xa x1), (2, xi x2), (3, xi x3)]) rfl (by decide) rfl ?_
      refine xw_iload rfl rfl ?_
      refine xw_istore (L' := [(7, xi (min (w32 (x3 + x2)) (xR m 536 65))), (6, xi x3), (5, xi (min (w32 (x3 + (2 * x2))) (xR m 536 65))), (4, xi (min (w32 (x3 + x2)) (xR m 536 65))), (0, xa 536), (1, xa x1), (2, xi x2), (3, xi x3)]) rfl (by decide) rfl ?_
      refine xw_iload_n rfl rfl ?_
      refine xw_istore (L' := [(8, xi x3), (7, xi (min (w32 (x3 + x2)) (xR m 536 65))), (6, xi x3), (5, xi (min (w32 (x3 + (2 * x2))) (xR m 536 65))), (4, xi (min (w32 (x3 + x2)) (xR m 536 65))), (0, xa 536), (1, xa x1), (2, xi x2), (3, xi x3)]) rfl (by decide) rfl ?_
      refine xw_lo (L2 := [(0, xa 536), (1, xa x1), (2, xi x2), (3, xi x3), (4, xi (min (w32 (x3 + x2)) (xR m 536 65))), (5, xi (min (w32 (x3 + (2 * x2))) (xR m 536 65))), (6, xi x3), (7, xi (min (w32 (x3 + x2)) (xR m 536 65))), (8, xi x3)]) (List.forall_mem_cons.mpr ⟨rfl, List.forall_mem_cons.mpr ⟨rfl, List.forall_mem_cons.mpr ⟨rfl, List.forall_mem_cons.mpr ⟨rfl, List.forall_mem_cons.mpr ⟨rfl, List.forall_mem_cons.mpr ⟨rfl, List.forall_mem_cons.mpr ⟨rfl, List.forall_mem_cons.mpr ⟨rfl, List.forall_mem_cons.mpr ⟨rfl, fun _ h => absurd h List.not_mem_nil⟩⟩⟩⟩⟩⟩⟩⟩⟩) ?_
      exact q
    exact ygl298_79 hB hr25 hr35 1000000 _ _ _ _ _ _ _ _ _ c2 c3 (w32_mn (w32_w _) (w32_xR _ _ _)) (w32_mn (w32_w _) (w32_xR _ _ _)) c3 (w32_mn (w32_w _) (w32_xR _ _ _)) c3
  · refine xS_of (pc' := 25) (L' := [(0, xa 536), (1, xa x1), (2, xi (w32 (x2 * 2)))]) (st' := []) (m' := (xw_u (xw_u m 536 73 (m 536 74)) 536 74 (m 536 73))) (fun ex ns r q => ?_) ?_
    · refine xw_ic_geT rfl (w32_cg c3) (w32_cg (w32_xR _ _ _)) (Int.not_lt.mp h0) ?_
      refine xw_aload_n rfl rfl rfl ?_
      refine xw_gfM (v := (m 536 73)) rfl (xw_obd (by decide +kernel)) xk12_73 (qi := 73) rfl rfl ?_
      refine xw_astore_n (L' := [(3, xa (m 536 73)), (0, xa 536), (1, xa x1), (2, xi x2)]) rfl rfl (by decide) rfl ?_
      refine xw_aload_n rfl rfl rfl ?_
      refine xw_aload_n rfl rfl rfl ?_
      refine xw_gfM (v := (m 536 74)) rfl (xw_obd (by decide +kernel)) xk12_74 (qi := 74) rfl rfl ?_
      refine xw_pfM rfl (xw_obd (by decide +kernel)) xk12_73 (qi := 73) rfl (xw_okM rfl rfl rfl) ?_
      refine xw_aload_n rfl rfl rfl ?_
      refine xw_aload_n rfl rfl rfl ?_
      refine xw_pfM rfl (xw_obd (by decide +kernel)) xk12_74 (qi := 74) rfl (xw_okM rfl rfl rfl) ?_
      refine xw_iload_n rfl rfl ?_
      refine xw_iconst rfl ?_
      refine xw_imul rfl ?_
      refine xw_cst (st' := [xi (w32 (x2 * 2))]) (xw_sc (xi_c rfl) rfl) ?_
      refine xw_istore_n (L' := [(2, xi (w32 (x2 * 2))), (3, xa (m 536 73)), (0, xa 536), (1, xa x1)]) rfl (by decide) rfl ?_
      refine xw_goto rfl ?_
      refine xw_lo (L2 := [(0, xa 536), (1, xa x1), (2, xi (w32 (x2 * 2)))]) (List.forall_mem_cons.mpr ⟨rfl, List.forall_mem_cons.mpr ⟨rfl, List.forall_mem_cons.mpr ⟨rfl, fun _ h => absurd h List.not_mem_nil⟩⟩⟩) ?_
      exact q
    exact hr25 _ _ _ (w32_w _)
theorem ygl298_35 {B : Nat} (hB : B ≤ 512) {xs : Nat → Int32} {SL d : Nat} {r25 : Int → Int → xw_M → xP} (hr25 : ∀ x1 x2 m, w32 x2 = x2 → xS B xs SL (d + 1) 298 (10, none, [], 13) 0 25 [(0, xa 536), (1, xa x1), (2, xi x2)] [] m (r25 x1 x2 m)) : ∀ n x1 x2 x3 m, w32 x2 = x2 → w32 x3 = x3 → xS B xs SL (d + 1) 298 (10, none, [], 13) 0 35 [(0, xa 536), (1, xa x1), (2, xi x2), (3, xi x3)] [] m (xl3 (yl298_35 B r25) n x1 x2 x3 m) := by
  intro n
  induction n with
  | zero => intro x1 x2 x3 m c2 c3; exact xS_none
  | succ n ih => exact ysl298_35 hB hr25 ih
theorem ysl298_25 {B : Nat} (hB : B ≤ 512) {xs : Nat → Int32} {SL d : Nat} {r25 : Int → Int → xw_M → xP} (hr25 : ∀ x1 x2 m, w32 x2 = x2 → xS B xs SL (d + 1) 298 (10, none, [], 13) 0 25 [(0, xa 536), (1, xa x1), (2, xi x2)] [] m (r25 x1 x2 m)) : ∀ x1 x2 m, w32 x2 = x2 → xS B xs SL (d + 1) 298 (10, none, [], 13) 0 25 [(0, xa 536), (1, xa x1), (2, xi x2)] [] m (yl298_25 B r25 x1 x2 m) := by
  intro x1 x2 m c2
  unfold yl298_25
  refine xS_of (pc' := 30) (L' := [(0, xa 536), (1, xa x1), (2, xi x2)]) (st' := [xi (xR m 536 65), xi x2]) (m' := m) (fun ex ns r q => ?_) ?_
  · refine xw_iload_n rfl rfl ?_
    refine xw_aload_n rfl rfl rfl ?_
    refine xw_gfIc (v := (m 536 65)) (v' := (xR m 536 65)) rfl (xw_obd (by decide +kernel)) xk12_65 (qi := 65) rfl rfl rfl ?_
    exact q
  refine xS_if (fun h0 => ?_) (fun h0 => ?_)
  · refine xS_of (pc' := 35) (L' := [(0, xa 536), (1, xa x1), (2, xi x2), (3, xi 0)]) (st' := []) (m' := m) (fun ex ns r q => ?_) ?_
    · refine xw_ic_geF rfl (w32_cg c2) (w32_cg (w32_xR _ _ _)) (Int.not_le.mpr h0) ?_
      refine xw_iconst rfl ?_
      refine xw_istore_n (L' := [(3, xi 0), (0, xa 536), (1, xa x1), (2, xi x2)]) rfl (by decide) rfl ?_
      refine xw_lo (L2 := [(0, xa 536), (1, xa x1), (2, xi x2), (3, xi 0)]) (List.forall_mem_cons.mpr ⟨rfl, List.forall_mem_cons.mpr ⟨rfl, List.forall_mem_cons.mpr ⟨rfl, List.forall_mem_cons.mpr ⟨rfl, fun _ h => absurd h List.not_mem_nil⟩⟩⟩⟩) ?_
      exact q
    exact ygl298_35 hB hr25 1000000 _ _ _ _ c2 rfl
  · refine xS_of (pc' := 226) (L' := [(0, xa 536), (1, xa x1), (2, xi x2)]) (st' := []) (m' := m) (fun ex ns r q => ?_) ?_
    · refine xw_ic_geT rfl (w32_cg c2) (w32_cg (w32_xR _ _ _)) (Int.not_lt.mp h0) ?_
      exact q
    exact xS_ret (v := 0) rfl rfl rfl rfl
theorem ygl298_25 {B : Nat} (hB : B ≤ 512) {xs : Nat → Int32} {SL d : Nat} : ∀ n x1 x2 m, w32 x2 = x2 → xS B xs SL (d + 1) 298 (10, none, [], 13) 0 25 [(0, xa 536), (1, xa x1), (2, xi x2)] [] m (xl2 (yl298_25 B) n x1 x2 m) := by
  intro n
  induction n with
  | zero => intro x1 x2 m c2; exact xS_none
  | succ n ih => exact ysl298_25 hB ih
theorem ysl298_2 {B : Nat} (hB : B ≤ 512) {xs : Nat → Int32} {SL d : Nat} {r2 : Int → Int → xw_M → xP} (hr2 : ∀ x1 x2 m, w32 x2 = x2 → xS B xs SL (d + 1) 298 (10, none, [], 13) 0 2 [(0, xa 536), (1, xa x1), (2, xi x2)] [] m (r2 x1 x2 m)) : ∀ x1 x2 m, w32 x2 = x2 → xS B xs SL (d + 1) 298 (10, none, [], 13) 0 2 [(0, xa 536), (1, xa x1), (2, xi x2)] [] m (yl298_2 B r2 x1 x2 m) := by
  intro x1 x2 m c2
  unfold yl298_2
  refine xS_of (pc' := 7) (L' := [(0, xa 536), (1, xa x1), (2, xi x2)]) (st' := [xi (xR m 536 65), xi x2]) (m' := m) (fun ex ns r q => ?_) ?_
  · refine xw_iload_n rfl rfl ?_
    refine xw_aload_n rfl rfl rfl ?_
    refine xw_gfIc (v := (m 536 65)) (v' := (xR m 536 65)) rfl (xw_obd (by decide +kernel)) xk12_65 (qi := 65) rfl rfl rfl ?_
    exact q
  refine xS_if (fun h0 => ?_) (fun h0 => ?_)
  · refine xS_g (fun g1 => ?_)
    refine xS_g (fun g2 => ?_)
    refine xS_of (pc' := 2) (L' := [(0, xa 536), (1, xa x1), (2, xi (w32 (x2 + 1)))]) (st' := []) (m' := (xw_u m (m 536 73) x2 x2)) (fun ex ns r q => ?_) ?_
    · refine xw_ic_geF rfl (w32_cg c2) (w32_cg (w32_xR _ _ _)) (Int.not_le.mpr h0) ?_
      refine xw_aload_n rfl rfl rfl ?_
      refine xw_gfM (v := (m 536 73)) rfl (xw_obd (by decide +kernel)) xk12_73 (qi := 73) rfl rfl ?_
      refine xw_iload_n rfl rfl ?_
      refine xw_iload_n rfl rfl ?_
      refine xw_iast (n := (xw_le B (m 536 73))) rfl hB (xw_obd g2) rfl g1 ?_
      refine xw_iincc (z := (w32 (x2 + 1))) (L' := [(2, xi (w32 (x2 + 1))), (0, xa 536), (1, xa x1)]) rfl rfl (by decide) rfl rfl ?_
      refine xw_goto rfl ?_
      refine xw_lo (L2 := [(0, xa 536), (1, xa x1), (2, xi (w32 (x2 + 1)))]) (List.forall_mem_cons.mpr ⟨rfl, List.forall_mem_cons.mpr ⟨rfl, List.forall_mem_cons.mpr ⟨rfl, fun _ h => absurd h List.not_mem_nil⟩⟩⟩) ?_
      exact q
    exact hr2 _ _ _ (w32_w _)
  · refine xS_of (pc' := 25) (L' := [(0, xa 536), (1, xa x1), (2, xi 1)]) (st' := []) (m' := m) (fun ex ns r q => ?_) ?_
    · refine xw_ic_geT rfl (w32_cg c2) (w32_cg (w32_xR _ _ _)) (Int.not_lt.mp h0) ?_
      refine xw_iconst rfl ?_
      refine xw_istore_n (L' := [(2, xi 1), (0, xa 536), (1, xa x1)]) rfl (by decide) rfl ?_
      refine xw_lo (L2 := [(0, xa 536), (1, xa x1), (2, xi 1)]) (List.forall_mem_cons.mpr ⟨rfl, List.forall_mem_cons.mpr ⟨rfl, List.forall_mem_cons.mpr ⟨rfl, fun _ h => absurd h List.not_mem_nil⟩⟩⟩) ?_
      exact q
    exact ygl298_25 hB 1000000 _ _ _ rfl
theorem ygl298_2 {B : Nat} (hB : B ≤ 512) {xs : Nat → Int32} {SL d : Nat} : ∀ n x1 x2 m, w32 x2 = x2 → xS B xs SL (d + 1) 298 (10, none, [], 13) 0 2 [(0, xa 536), (1, xa x1), (2, xi x2)] [] m (xl2 (yl298_2 B) n x1 x2 m) := by
  intro n
  induction n with
  | zero => intro x1 x2 m c2; exact xS_none
  | succ n ih => exact ysl298_2 hB ih
theorem ygf298 {B : Nat} (hB : B ≤ 512) {xs : Nat → Int32} {SL d : Nat} : ∀ p0 m, xS B xs SL (d + 1) 298 (10, none, [], 13) 0 0 [(0, xa 536), (1, xa p0)] [] m (yf298 B p0 m) := by
  intro p0 m
  unfold yf298
  refine xS_of (pc' := 2) (L' := [(0, xa 536), (1, xa p0), (2, xi 0)]) (st' := []) (m' := m) (fun ex ns r q => ?_) ?_
  · refine xw_iconst rfl ?_
    refine xw_istore_n (L' := [(2, xi 0), (0, xa 536), (1, xa p0)]) rfl (by decide) rfl ?_
    refine xw_lo (L2 := [(0, xa 536), (1, xa p0), (2, xi 0)]) (List.forall_mem_cons.mpr ⟨rfl, List.forall_mem_cons.mpr ⟨rfl, List.forall_mem_cons.mpr ⟨rfl, fun _ h => absurd h List.not_mem_nil⟩⟩⟩) ?_
    exact q
  exact ygl298_2 hB 1000000 _ _ _ rfl
theorem ysl301_59 {B : Nat} (hB : B ≤ 512) {xs : Nat → Int32} {SL d : Nat} {r59 : Int → Int → Int → Int → xw_M → xP} (hr59 : ∀ x1 x2 x3 x4 m, w32 x1 = x1 → w32 x3 = x3 → w32 x4 = x4 → xS B xs SL (d + 1) 301 (5, (some .boolean), [], 13) 4 59 [(0, xa 536), (1, xi x1), (2, xa x2), (3, xi x3), (4, xi x4)] [] m (r59 x1 x2 x3 x4 m)) : ∀ x1 x2 x3 x4 m, w32 x1 = x1 → w32 x3 = x3 → w32 x4 = x4 → xS B xs SL (d + 1) 301 (5, (some .boolean), [], 13) 4 59 [(0, xa 536), (1, xi x1), (2, xa x2), (3, xi x3), (4, xi x4)] [] m (yl301_59 B r59 x1 x2 x3 x4 m) := by
  intro x1 x2 x3 x4 m c1 c3 c4
  unfold yl301_59
  refine xS_g (fun g0 => ?_)
  refine xS_of (pc' := 65) (L' := [(0, xa 536), (1, xi x1), (2, xa x2), (3, xi x3), (4, xi x4)]) (st' := [xi (xR m x2 13), xi x4]) (m' := m) (fun ex ns r q => ?_) ?_
  · refine xw_iload rfl rfl ?_
    refine xw_aload_n rfl rfl rfl ?_
    refine xw_gfIc (v := (m x2 13)) (v' := (xR m x2 13)) rfl (xw_obd g0) xk13_13 (qi := 13) rfl rfl rfl ?_
    exact q
  refine xS_if (fun h1 => ?_) (fun h1 => ?_)
  · refine xS_of (pc' := 69) (L' := [(0, xa 536), (1, xi x1), (2, xa x2), (3, xi x3), (4, xi x4)]) (st' := [xi x3]) (m' := m) (fun ex ns r q => ?_) ?_
    · refine xw_ic_geF rfl (w32_cg c4) (w32_cg (w32_xR _ _ _)) (Int.not_le.mpr h1) ?_
      refine xw_iload_n rfl rfl ?_
      exact q
    refine xS_if (fun h2 => ?_) (fun h2 => ?_)
    · refine xS_of (pc' := 59) (L' := [(0, xa 536), (1, xi x1), (2, xa x2), (3, xi 0), (4, xi (w32 (x4 + 1)))]) (st' := []) (m' := m) (fun ex ns r q => ?_) ?_
      · refine xw_if_eqT rfl (w32_cg c3) h2 ?_
        refine xw_iconst rfl ?_
        refine xw_istore_n (L' := [(3, xi 0), (0, xa 536), (1, xi x1), (2, xa x2), (4, xi x4)]) rfl (by decide) rfl ?_
        refine xw_iincc (z := (w32 (x4 + 1))) (L' := [(4, xi (w32 (x4 + 1))), (3, xi 0), (0, xa 536), (1, xi x1), (2, xa x2)]) rfl rfl (by decide) rfl rfl ?_
        refine xw_goto rfl ?_
        refine xw_lo (L2 := [(0, xa 536), (1, xi x1), (2, xa x2), (3, xi 0), (4, xi (w32 (x4 + 1)))]) (List.forall_mem_cons.mpr ⟨rfl, List.forall_mem_cons.mpr ⟨rfl, List.forall_mem_cons.mpr ⟨rfl, List.forall_mem_cons.mpr ⟨rfl, List.forall_mem_cons.mpr ⟨rfl, fun _ h => absurd h List.not_mem_nil⟩⟩⟩⟩⟩) ?_
        exact q
      exact hr59 _ _ _ _ _ c1 rfl (w32_w _)
    · refine xS_g (fun g3 => ?_)
      refine xS_g (fun g4 => ?_)
      refine xS_g (fun g5 => ?_)
      refine xS_of (pc' := 83) (L' := [(0, xa 536), (1, xi x1), (2, xa x2), (4, xi x4)]) (st' := [xi ((xR m (xw_rf x2 14) x4) / 4), xi x1, xa 536]) (m' := m) (fun ex ns r q => ?_) ?_
      · refine xw_if_eqF rfl (w32_cg c3) h2 ?_
        refine xw_aload_n rfl rfl rfl ?_
        refine xw_iload_n rfl rfl ?_
        refine xw_aload_n rfl rfl rfl ?_
        refine xw_gfV (qi := 14) rfl (xw_obd g0) xk13_14 rfl ?_
        refine xw_iload rfl rfl ?_
        refine xw_ialdc (n := (xw_le B (xw_rf x2 14))) (v := (m (xw_rf x2 14) x4)) (v' := (xR m (xw_rf x2 14) x4)) rfl hB (xw_obd g4) rfl g3 rfl rfl ?_
        refine xw_iconst rfl ?_
        refine xw_idiv (z := ((xR m (xw_rf x2 14) x4) / 4)) rfl (xw_idivn ⟨(by decide), (w32_cg rfl).2⟩) (xw_idive ⟨g5, (w32_cg (w32_xR _ _ _)).2⟩ ⟨(by decide), (w32_cg rfl).2⟩) ?_
        refine xw_lo (L2 := [(0, xa 536), (1, xi x1), (2, xa x2), (4, xi x4)]) (List.forall_mem_cons.mpr ⟨rfl, List.forall_mem_cons.mpr ⟨rfl, List.forall_mem_cons.mpr ⟨rfl, List.forall_mem_cons.mpr ⟨rfl, fun _ h => absurd h List.not_mem_nil⟩⟩⟩⟩) ?_
        exact q
      refine xS_call (q := 291) (n := 3) (kq := 1) (as := [xa 536, xi x1, xi ((xR m (xw_rf x2 14) x4) / 4)]) (st1 := []) rfl rfl rfl rfl rfl rfl rfl rfl rfl rfl (fun _ => xw_rcv1 (t := 12) (xw_obd (by decide +kernel)) rfl) rfl (List.forall_mem_cons.mpr ⟨rfl, List.forall_mem_cons.mpr ⟨rfl, List.forall_mem_cons.mpr ⟨rfl, fun _ h => absurd h List.not_mem_nil⟩⟩⟩) (ygf291 hB _ _ _ c1 (w32_dv (w32_xR _ _ _) ⟨g5, (by decide)⟩)) (fun v1 m1 cv1 => ?_)
      refine xS_g (fun g6 => ?_)
      refine xS_of (pc' := 95) (L' := [(0, xa 536), (1, xi x1), (2, xa x2), (4, xi x4)]) (st' := [xi ((xR m1 (xw_rf x2 14) x4) % 4), xi v1]) (m' := m1) (fun ex ns r q => ?_) ?_
      · refine xw_aload_n rfl rfl rfl ?_
        refine xw_gfV (qi := 14) rfl (xw_obd g0) xk13_14 rfl ?_
        refine xw_iload rfl rfl ?_
        refine xw_ialdc (n := (xw_le B (xw_rf x2 14))) (v := (m1 (xw_rf x2 14) x4)) (v' := (xR m1 (xw_rf x2 14) x4)) rfl hB (xw_obd g4) rfl g3 rfl rfl ?_
        refine xw_iconst rfl ?_
        refine xw_irem (z := ((xR m1 (xw_rf x2 14) x4) % 4)) rfl (xw_iremn ⟨(by decide), (w32_cg rfl).2⟩) (xw_ireme ⟨g6, (w32_cg (w32_xR _ _ _)).2⟩ ⟨(by decide), (w32_cg rfl).2⟩) ?_
        exact q
      refine xS_if (fun h7 => ?_) (fun h7 => ?_)
      · refine xS_of (pc' := 59) (L' := [(0, xa 536), (1, xi x1), (2, xa x2), (3, xi 0), (4, xi (w32 (x4 + 1)))]) (st' := []) (m' := m1) (fun ex ns r q => ?_) ?_
        · refine xw_ic_gtT rfl (w32_cg cv1) (w32_cg (w32_md rfl ⟨g6, (by decide)⟩)) h7 ?_
          refine xw_iconst rfl ?_
          refine xw_istore_n (L' := [(3, xi 0), (0, xa 536), (1, xi x1), (2, xa x2), (4, xi x4)]) rfl (by decide) rfl ?_
          refine xw_iincc (z := (w32 (x4 + 1))) (L' := [(4, xi (w32 (x4 + 1))), (3, xi 0), (0, xa 536), (1, xi x1), (2, xa x2)]) rfl rfl (by decide) rfl rfl ?_
          refine xw_goto rfl ?_
          refine xw_lo (L2 := [(0, xa 536), (1, xi x1), (2, xa x2), (3, xi 0), (4, xi (w32 (x4 + 1)))]) (List.forall_mem_cons.mpr ⟨rfl, List.forall_mem_cons.mpr ⟨rfl, List.forall_mem_cons.mpr ⟨rfl, List.forall_mem_cons.mpr ⟨rfl, List.forall_mem_cons.mpr ⟨rfl, fun _ h => absurd h List.not_mem_nil⟩⟩⟩⟩⟩) ?_
          exact q
        exact hr59 _ _ _ _ _ c1 rfl (w32_w _)
      · refine xS_of (pc' := 59) (L' := [(0, xa 536), (1, xi x1), (2, xa x2), (3, xi 1), (4, xi (w32 (x4 + 1)))]) (st' := []) (m' := m1) (fun ex ns r q => ?_) ?_
        · refine xw_ic_gtF rfl (w32_cg cv1) (w32_cg (w32_md rfl ⟨g6, (by decide)⟩)) h7 ?_
          refine xw_iconst rfl ?_
          refine xw_goto rfl ?_
          refine xw_istore_n (L' := [(3, xi 1), (0, xa 536), (1, xi x1), (2, xa x2), (4, xi x4)]) rfl (by decide) rfl ?_
          refine xw_iincc (z := (w32 (x4 + 1))) (L' := [(4, xi (w32 (x4 + 1))), (3, xi 1), (0, xa 536), (1, xi x1), (2, xa x2)]) rfl rfl (by decide) rfl rfl ?_
          refine xw_goto rfl ?_
          refine xw_lo (L2 := [(0, xa 536), (1, xi x1), (2, xa x2), (3, xi 1), (4, xi (w32 (x4 + 1)))]) (List.forall_mem_cons.mpr ⟨rfl, List.forall_mem_cons.mpr ⟨rfl, List.forall_mem_cons.mpr ⟨rfl, List.forall_mem_cons.mpr ⟨rfl, List.forall_mem_cons.mpr ⟨rfl, fun _ h => absurd h List.not_mem_nil⟩⟩⟩⟩⟩) ?_
          exact q
        exact hr59 _ _ _ _ _ c1 rfl (w32_w _)
  · refine xS_g (fun g2 => ?_)
    refine xS_of (pc' := 111) (L' := [(0, xa 536), (1, xi x1), (2, xa x2), (3, xi x3), (4, xi x4)]) (st' := [xi x3]) (m' := m) (fun ex ns r q => ?_) ?_
    · refine xw_ic_geT rfl (w32_cg c4) (w32_cg (w32_xR _ _ _)) (Int.not_lt.mp h1) ?_
      refine xw_iload_n rfl rfl ?_
      exact q
    exact xS_ret (v := x3) rfl rfl (xw_rtZ g2) g2
theorem ygl301_59 {B : Nat} (hB : B ≤ 512) {xs : Nat → Int32} {SL d : Nat} : ∀ n x1 x2 x3 x4 m, w32 x1 = x1 → w32 x3 = x3 → w32 x4 = x4 → xS B xs SL (d + 1) 301 (5, (some .boolean), [], 13) 4 59 [(0, xa 536), (1, xi x1), (2, xa x2), (3, xi x3), (4, xi x4)] [] m (xl4 (yl301_59 B) n x1 x2 x3 x4 m) := by
  intro n
  induction n with
  | zero => intro x1 x2 x3 x4 m c1 c3 c4; exact xS_none
  | succ n ih => exact ysl301_59 hB ih
theorem ysl301_5 {B : Nat} (hB : B ≤ 512) {xs : Nat → Int32} {SL d : Nat} {r5 : Int → Int → Int → Int → xw_M → xP} (hr5 : ∀ x1 x2 x3 x4 m, w32 x1 = x1 → w32 x3 = x3 → w32 x4 = x4 → xS B xs SL (d + 1) 301 (5, (some .boolean), [], 13) 4 5 [(0, xa 536), (1, xi x1), (2, xa x2), (3, xi x3), (4, xi x4)] [] m (r5 x1 x2 x3 x4 m)) : ∀ x1 x2 x3 x4 m, w32 x1 = x1 → w32 x3 = x3 → w32 x4 = x4 → xS B xs SL (d + 1) 301 (5, (some .boolean), [], 13) 4 5 [(0, xa 536), (1, xi x1), (2, xa x2), (3, xi x3), (4, xi x4)] [] m (yl301_5 B r5 x1 x2 x3 x4 m) := by
  intro x1 x2 x3 x4 m c1 c3 c4
  unfold yl301_5
  refine xS_g (fun g0 => ?_)
  refine xS_of (pc' := 11) (L' := [(0, xa 536), (1, xi x1), (2, xa x2), (3, xi x3), (4, xi x4)]) (st' := [xi (xR m x2 4), xi x4]) (m' := m) (fun ex ns r q => ?_) ?_
  · refine xw_iload rfl rfl ?_
    refine xw_aload_n rfl rfl rfl ?_
    refine xw_gfIc (v := (m x2 4)) (v' := (xR m x2 4)) rfl (xw_obd g0) xk13_4 (qi := 4) rfl rfl rfl ?_
    exact q
  refine xS_if (fun h1 => ?_) (fun h1 => ?_)
  · refine xS_of (pc' := 15) (L' := [(0, xa 536), (1, xi x1), (2, xa x2), (3, xi x3), (4, xi x4)]) (st' := [xi x3]) (m' := m) (fun ex ns r q => ?_) ?_
    · refine xw_ic_geF rfl (w32_cg c4) (w32_cg (w32_xR _ _ _)) (Int.not_le.mpr h1) ?_
      refine xw_iload_n rfl rfl ?_
      exact q
    refine xS_if (fun h2 => ?_) (fun h2 => ?_)
    · refine xS_of (pc' := 5) (L' := [(0, xa 536), (1, xi x1), (2, xa x2), (3, xi 0), (4, xi (w32 (x4 + 1)))]) (st' := []) (m' := m) (fun ex ns r q => ?_) ?_
      · refine xw_if_eqT rfl (w32_cg c3) h2 ?_
        refine xw_iconst rfl ?_
        refine xw_istore_n (L' := [(3, xi 0), (0, xa 536), (1, xi x1), (2, xa x2), (4, xi x4)]) rfl (by decide) rfl ?_
        refine xw_iincc (z := (w32 (x4 + 1))) (L' := [(4, xi (w32 (x4 + 1))), (3, xi 0), (0, xa 536), (1, xi x1), (2, xa x2)]) rfl rfl (by decide) rfl rfl ?_
        refine xw_goto rfl ?_
        refine xw_lo (L2 := [(0, xa 536), (1, xi x1), (2, xa x2), (3, xi 0), (4, xi (w32 (x4 + 1)))]) (List.forall_mem_cons.mpr ⟨rfl, List.forall_mem_cons.mpr ⟨rfl, List.forall_mem_cons.mpr ⟨rfl, List.forall_mem_cons.mpr ⟨rfl, List.forall_mem_cons.mpr ⟨rfl, fun _ h => absurd h List.not_mem_nil⟩⟩⟩⟩⟩) ?_
        exact q
      exact hr5 _ _ _ _ _ c1 rfl (w32_w _)
    · refine xS_g (fun g3 => ?_)
      refine xS_g (fun g4 => ?_)
      refine xS_g (fun g5 => ?_)
      refine xS_of (pc' := 29) (L' := [(0, xa 536), (1, xi x1), (2, xa x2), (4, xi x4)]) (st' := [xi ((xR m (xw_rf x2 5) x4) / 4), xi x1, xa 536]) (m' := m) (fun ex ns r q => ?_) ?_
      · refine xw_if_eqF rfl (w32_cg c3) h2 ?_
        refine xw_aload_n rfl rfl rfl ?_
        refine xw_iload_n rfl rfl ?_
        refine xw_aload_n rfl rfl rfl ?_
        refine xw_gfV (qi := 5) rfl (xw_obd g0) xk13_5 rfl ?_
        refine xw_iload rfl rfl ?_
        refine xw_ialdc (n := (xw_le B (xw_rf x2 5))) (v := (m (xw_rf x2 5) x4)) (v' := (xR m (xw_rf x2 5) x4)) rfl hB (xw_obd g4) rfl g3 rfl rfl ?_
        refine xw_iconst rfl ?_
        refine xw_idiv (z := ((xR m (xw_rf x2 5) x4) / 4)) rfl (xw_idivn ⟨(by decide), (w32_cg rfl).2⟩) (xw_idive ⟨g5, (w32_cg (w32_xR _ _ _)).2⟩ ⟨(by decide), (w32_cg rfl).2⟩) ?_
        refine xw_lo (L2 := [(0, xa 536), (1, xi x1), (2, xa x2), (4, xi x4)]) (List.forall_mem_cons.mpr ⟨rfl, List.forall_mem_cons.mpr ⟨rfl, List.forall_mem_cons.mpr ⟨rfl, List.forall_mem_cons.mpr ⟨rfl, fun _ h => absurd h List.not_mem_nil⟩⟩⟩⟩) ?_
        exact q
      refine xS_call (q := 291) (n := 3) (kq := 1) (as := [xa 536, xi x1, xi ((xR m (xw_rf x2 5) x4) / 4)]) (st1 := []) rfl rfl rfl rfl rfl rfl rfl rfl rfl rfl (fun _ => xw_rcv1 (t := 12) (xw_obd (by decide +kernel)) rfl) rfl (List.forall_mem_cons.mpr ⟨rfl, List.forall_mem_cons.mpr ⟨rfl, List.forall_mem_cons.mpr ⟨rfl, fun _ h => absurd h List.not_mem_nil⟩⟩⟩) (ygf291 hB _ _ _ c1 (w32_dv (w32_xR _ _ _) ⟨g5, (by decide)⟩)) (fun v1 m1 cv1 => ?_)
      refine xS_g (fun g6 => ?_)
      refine xS_of (pc' := 41) (L' := [(0, xa 536), (1, xi x1), (2, xa x2), (4, xi x4)]) (st' := [xi ((xR m1 (xw_rf x2 5) x4) % 4), xi v1]) (m' := m1) (fun ex ns r q => ?_) ?_
      · refine xw_aload_n rfl rfl rfl ?_
        refine xw_gfV (qi := 5) rfl (xw_obd g0) xk13_5 rfl ?_
        refine xw_iload rfl rfl ?_
        refine xw_ialdc (n := (xw_le B (xw_rf x2 5))) (v := (m1 (xw_rf x2 5) x4)) (v' := (xR m1 (xw_rf x2 5) x4)) rfl hB (xw_obd g4) rfl g3 rfl rfl ?_
        refine xw_iconst rfl ?_
        refine xw_irem (z := ((xR m1 (xw_rf x2 5) x4) % 4)) rfl (xw_iremn ⟨(by decide), (w32_cg rfl).2⟩) (xw_ireme ⟨g6, (w32_cg (w32_xR _ _ _)).2⟩ ⟨(by decide), (w32_cg rfl).2⟩) ?_
        exact q
      refine xS_if (fun h7 => ?_) (fun h7 => ?_)
      · refine xS_of (pc' := 5) (L' := [(0, xa 536), (1, xi x1), (2, xa x2), (3, xi 0), (4, xi (w32 (x4 + 1)))]) (st' := []) (m' := m1) (fun ex ns r q => ?_) ?_
        · refine xw_ic_gtT rfl (w32_cg cv1) (w32_cg (w32_md rfl ⟨g6, (by decide)⟩)) h7 ?_
          refine xw_iconst rfl ?_
          refine xw_istore_n (L' := [(3, xi 0), (0, xa 536), (1, xi x1), (2, xa x2), (4, xi x4)]) rfl (by decide) rfl ?_
          refine xw_iincc (z := (w32 (x4 + 1))) (L' := [(4, xi (w32 (x4 + 1))), (3, xi 0), (0, xa 536), (1, xi x1), (2, xa x2)]) rfl rfl (by decide) rfl rfl ?_
          refine xw_goto rfl ?_
          refine xw_lo (L2 := [(0, xa 536), (1, xi x1), (2, xa x2), (3, xi 0), (4, xi (w32 (x4 + 1)))]) (List.forall_mem_cons.mpr ⟨rfl, List.forall_mem_cons.mpr ⟨rfl, List.forall_mem_cons.mpr ⟨rfl, List.forall_mem_cons.mpr ⟨rfl, List.forall_mem_cons.mpr ⟨rfl, fun _ h => absurd h List.not_mem_nil⟩⟩⟩⟩⟩) ?_
          exact q
        exact hr5 _ _ _ _ _ c1 rfl (w32_w _)
      · refine xS_of (pc' := 5) (L' := [(0, xa 536), (1, xi x1), (2, xa x2), (3, xi 1), (4, xi (w32 (x4 + 1)))]) (st' := []) (m' := m1) (fun ex ns r q => ?_) ?_
        · refine xw_ic_gtF rfl (w32_cg cv1) (w32_cg (w32_md rfl ⟨g6, (by decide)⟩)) h7 ?_
          refine xw_iconst rfl ?_
          refine xw_goto rfl ?_
          refine xw_istore_n (L' := [(3, xi 1), (0, xa 536), (1, xi x1), (2, xa x2), (4, xi x4)]) rfl (by decide) rfl ?_
          refine xw_iincc (z := (w32 (x4 + 1))) (L' := [(4, xi (w32 (x4 + 1))), (3, xi 1), (0, xa 536), (1, xi x1), (2, xa x2)]) rfl rfl (by decide) rfl rfl ?_
          refine xw_goto rfl ?_
          refine xw_lo (L2 := [(0, xa 536), (1, xi x1), (2, xa x2), (3, xi 1), (4, xi (w32 (x4 + 1)))]) (List.forall_mem_cons.mpr ⟨rfl, List.forall_mem_cons.mpr ⟨rfl, List.forall_mem_cons.mpr ⟨rfl, List.forall_mem_cons.mpr ⟨rfl, List.forall_mem_cons.mpr ⟨rfl, fun _ h => absurd h List.not_mem_nil⟩⟩⟩⟩⟩) ?_
          exact q
        exact hr5 _ _ _ _ _ c1 rfl (w32_w _)
  · refine xS_of (pc' := 59) (L' := [(0, xa 536), (1, xi x1), (2, xa x2), (3, xi x3), (4, xi 0)]) (st' := []) (m' := m) (fun ex ns r q => ?_) ?_
    · refine xw_ic_geT rfl (w32_cg c4) (w32_cg (w32_xR _ _ _)) (Int.not_lt.mp h1) ?_
      refine xw_iconst rfl ?_
      refine xw_istore (L' := [(4, xi 0), (0, xa 536), (1, xi x1), (2, xa x2), (3, xi x3)]) rfl (by decide) rfl ?_
      refine xw_lo (L2 := [(0, xa 536), (1, xi x1), (2, xa x2), (3, xi x3), (4, xi 0)]) (List.forall_mem_cons.mpr ⟨rfl, List.forall_mem_cons.mpr ⟨rfl, List.forall_mem_cons.mpr ⟨rfl, List.forall_mem_cons.mpr ⟨rfl, List.forall_mem_cons.mpr ⟨rfl, fun _ h => absurd h List.not_mem_nil⟩⟩⟩⟩⟩) ?_
      exact q
    exact ygl301_59 hB 1000000 _ _ _ _ _ c1 c3 rfl
theorem ygl301_5 {B : Nat} (hB : B ≤ 512) {xs : Nat → Int32} {SL d : Nat} : ∀ n x1 x2 x3 x4 m, w32 x1 = x1 → w32 x3 = x3 → w32 x4 = x4 → xS B xs SL (d + 1) 301 (5, (some .boolean), [], 13) 4 5 [(0, xa 536), (1, xi x1), (2, xa x2), (3, xi x3), (4, xi x4)] [] m (xl4 (yl301_5 B) n x1 x2 x3 x4 m) := by
  intro n
  induction n with
  | zero => intro x1 x2 x3 x4 m c1 c3 c4; exact xS_none
  | succ n ih => exact ysl301_5 hB ih
theorem ygf301 {B : Nat} (hB : B ≤ 512) {xs : Nat → Int32} {SL d : Nat} : ∀ p0 p1 m, w32 p0 = p0 → xS B xs SL (d + 1) 301 (5, (some .boolean), [], 13) 4 0 [(0, xa 536), (1, xi p0), (2, xa p1)] [] m (yf301 B p0 p1 m) := by
  intro p0 p1 m cp0
  unfold yf301
  refine xS_of (pc' := 5) (L' := [(0, xa 536), (1, xi p0), (2, xa p1), (3, xi 1), (4, xi 0)]) (st' := []) (m' := m) (fun ex ns r q => ?_) ?_
  · refine xw_iconst rfl ?_
    refine xw_istore_n (L' := [(3, xi 1), (0, xa 536), (1, xi p0), (2, xa p1)]) rfl (by decide) rfl ?_
    refine xw_iconst rfl ?_
    refine xw_istore (L' := [(4, xi 0), (3, xi 1), (0, xa 536), (1, xi p0), (2, xa p1)]) rfl (by decide) rfl ?_
    refine xw_lo (L2 := [(0, xa 536), (1, xi p0), (2, xa p1), (3, xi 1), (4, xi 0)]) (List.forall_mem_cons.mpr ⟨rfl, List.forall_mem_cons.mpr ⟨rfl, List.forall_mem_cons.mpr ⟨rfl, List.forall_mem_cons.mpr ⟨rfl, List.forall_mem_cons.mpr ⟨rfl, fun _ h => absurd h List.not_mem_nil⟩⟩⟩⟩⟩) ?_
    exact q
  exact ygl301_5 hB 1000000 _ _ _ _ _ cp0 rfl rfl
theorem ysl300_10 {B : Nat} (hB : B ≤ 512) {xs : Nat → Int32} {SL d : Nat} {r10 : Int → Int → Int → Int → xw_M → xP} (hr10 : ∀ x1 x2 x3 x4 m, w32 x2 = x2 → w32 x3 = x3 → w32 x4 = x4 → xS B xs SL (d + 2) 300 (5, (some .int), [], 13) 1 10 [(0, xa 536), (1, xa x1), (2, xi x2), (3, xi x3), (4, xi x4)] [] m (r10 x1 x2 x3 x4 m)) : ∀ x1 x2 x3 x4 m, w32 x2 = x2 → w32 x3 = x3 → w32 x4 = x4 → xS B xs SL (d + 2) 300 (5, (some .int), [], 13) 1 10 [(0, xa 536), (1, xa x1), (2, xi x2), (3, xi x3), (4, xi x4)] [] m (yl300_10 B r10 x1 x2 x3 x4 m) := by
  intro x1 x2 x3 x4 m c2 c3 c4
  unfold yl300_10
  refine xS_of (pc' := 16) (L' := [(0, xa 536), (1, xa x1), (2, xi x2), (3, xi x3), (4, xi x4)]) (st' := [xi (xR m 536 40), xi x4]) (m' := m) (fun ex ns r q => ?_) ?_
  · refine xw_iload rfl rfl ?_
    refine xw_aload_n rfl rfl rfl ?_
    refine xw_gfIc (v := (m 536 40)) (v' := (xR m 536 40)) rfl (xw_obd (by decide +kernel)) xk12_40 (qi := 40) rfl rfl rfl ?_
    exact q
  refine xS_if (fun h0 => ?_) (fun h0 => ?_)
  · refine xS_g (fun g1 => ?_)
    refine xS_of (pc' := 27) (L' := [(0, xa 536), (1, xa x1), (2, xi x2), (3, xi x3), (4, xi x4)]) (st' := [xi x3, xi (xR m 580 x4)]) (m' := m) (fun ex ns r q => ?_) ?_
    · refine xw_ic_geF rfl (w32_cg c4) (w32_cg (w32_xR _ _ _)) (Int.not_le.mpr h0) ?_
      refine xw_aload_n rfl rfl rfl ?_
      refine xw_gfR (n := 580) (e := 580) rfl (xw_obd (by decide +kernel)) (by decide +kernel) (by decide +kernel) rfl ?_
      refine xw_iload rfl rfl ?_
      refine xw_ialdc (n := 16) (v := (m 580 x4)) (v' := (xR m 580 x4)) rfl hB (xw_obd (by decide +kernel)) rfl g1 rfl rfl ?_
      refine xw_iload_n rfl rfl ?_
      exact q
    refine xS_if (fun h2 => ?_) (fun h2 => ?_)
    · refine xS_of (pc' := 39) (L' := [(0, xa 536), (1, xa x1), (2, xi x2), (3, xi x3), (4, xi x4)]) (st' := [xa x1, xi (xR m 579 x4), xa 536]) (m' := m) (fun ex ns r q => ?_) ?_
      · refine xw_ic_geF rfl (w32_cg (w32_xR _ _ _)) (w32_cg c3) (Int.not_le.mpr h2) ?_
        refine xw_aload_n rfl rfl rfl ?_
        refine xw_aload_n rfl rfl rfl ?_
        refine xw_gfR (n := 579) (e := 579) rfl (xw_obd (by decide +kernel)) (by decide +kernel) (by decide +kernel) rfl ?_
        refine xw_iload rfl rfl ?_
        refine xw_ialdc (n := 16) (v := (m 579 x4)) (v' := (xR m 579 x4)) rfl hB (xw_obd (by decide +kernel)) rfl g1 rfl rfl ?_
        refine xw_aload_n rfl rfl rfl ?_
        refine xw_lo (L2 := [(0, xa 536), (1, xa x1), (2, xi x2), (3, xi x3), (4, xi x4)]) (List.forall_mem_cons.mpr ⟨rfl, List.forall_mem_cons.mpr ⟨rfl, List.forall_mem_cons.mpr ⟨rfl, List.forall_mem_cons.mpr ⟨rfl, List.forall_mem_cons.mpr ⟨rfl, fun _ h => absurd h List.not_mem_nil⟩⟩⟩⟩⟩) ?_
        exact q
      refine xS_call (q := 301) (n := 3) (kq := 4) (as := [xa 536, xi (xR m 579 x4), xa x1]) (st1 := []) rfl rfl rfl rfl rfl rfl rfl rfl rfl rfl (fun _ => xw_rcv1 (t := 12) (xw_obd (by decide +kernel)) rfl) rfl (List.forall_mem_cons.mpr ⟨rfl, List.forall_mem_cons.mpr ⟨rfl, List.forall_mem_cons.mpr ⟨rfl, fun _ h => absurd h List.not_mem_nil⟩⟩⟩) (ygf301 hB _ _ _ (w32_xR _ _ _)) (fun v1 m1 cv1 => ?_)
      refine xS_if (fun h3 => ?_) (fun h3 => ?_)
      · refine xS_of (pc' := 10) (L' := [(0, xa 536), (1, xa x1), (2, xi x2), (3, xi x3), (4, xi (w32 (x4 + 1)))]) (st' := []) (m' := m1) (fun ex ns r q => ?_) ?_
        · refine xw_if_eqT rfl (w32_cg (w32_of (xw_zr cv1))) h3 ?_
          refine xw_iincc (z := (w32 (x4 + 1))) (L' := [(4, xi (w32 (x4 + 1))), (0, xa 536), (1, xa x1), (2, xi x2), (3, xi x3)]) rfl rfl (by decide) rfl rfl ?_
          refine xw_goto rfl ?_
          refine xw_lo (L2 := [(0, xa 536), (1, xa x1), (2, xi x2), (3, xi x3), (4, xi (w32 (x4 + 1)))]) (List.forall_mem_cons.mpr ⟨rfl, List.forall_mem_cons.mpr ⟨rfl, List.forall_mem_cons.mpr ⟨rfl, List.forall_mem_cons.mpr ⟨rfl, List.forall_mem_cons.mpr ⟨rfl, fun _ h => absurd h List.not_mem_nil⟩⟩⟩⟩⟩) ?_
          exact q
        exact hr10 _ _ _ _ _ c2 c3 (w32_w _)
      · refine xS_of (pc' := 10) (L' := [(0, xa 536), (1, xa x1), (2, xi x4), (3, xi (xR m1 580 x4)), (4, xi (w32 (x4 + 1)))]) (st' := []) (m' := m1) (fun ex ns r q => ?_) ?_
        · refine xw_if_eqF rfl (w32_cg (w32_of (xw_zr cv1))) h3 ?_
          refine xw_aload_n rfl rfl rfl ?_
          refine xw_gfR (n := 580) (e := 580) rfl (xw_obd (by decide +kernel)) (by decide +kernel) (by decide +kernel) rfl ?_
          refine xw_iload rfl rfl ?_
          refine xw_ialdc (n := 16) (v := (m1 580 x4)) (v' := (xR m1 580 x4)) rfl hB (xw_obd (by decide +kernel)) rfl g1 rfl rfl ?_
          refine xw_istore_n (L' := [(3, xi (xR m1 580 x4)), (0, xa 536), (1, xa x1), (2, xi x2), (4, xi x4)]) rfl (by decide) rfl ?_
          refine xw_iload rfl rfl ?_
          refine xw_istore_n (L' := [(2, xi x4), (3, xi (xR m1 580 x4)), (0, xa 536), (1, xa x1), (4, xi x4)]) rfl (by decide) rfl ?_
          refine xw_iincc (z := (w32 (x4 + 1))) (L' := [(4, xi (w32 (x4 + 1))), (2, xi x4), (3, xi (xR m1 580 x4)), (0, xa 536), (1, xa x1)]) rfl rfl (by decide) rfl rfl ?_
          refine xw_goto rfl ?_
          refine xw_lo (L2 := [(0, xa 536), (1, xa x1), (2, xi x4), (3, xi (xR m1 580 x4)), (4, xi (w32 (x4 + 1)))]) (List.forall_mem_cons.mpr ⟨rfl, List.forall_mem_cons.mpr ⟨rfl, List.forall_mem_cons.mpr ⟨rfl, List.forall_mem_cons.mpr ⟨rfl, List.forall_mem_cons.mpr ⟨rfl, fun _ h => absurd h List.not_mem_nil⟩⟩⟩⟩⟩) ?_
          exact q
        exact hr10 _ _ _ _ _ c4 (w32_xR _ _ _) (w32_w _)
    · refine xS_of (pc' := 10) (L' := [(0, xa 536), (1, xa x1), (2, xi x2), (3, xi x3), (4, xi (w32 (x4 + 1)))]) (st' := []) (m' := m) (fun ex ns r q => ?_) ?_
      · refine xw_ic_geT rfl (w32_cg (w32_xR _ _ _)) (w32_cg c3) (Int.not_lt.mp h2) ?_
        refine xw_iincc (z := (w32 (x4 + 1))) (L' := [(4, xi (w32 (x4 + 1))), (0, xa 536), (1, xa x1), (2, xi x2), (3, xi x3)]) rfl rfl (by decide) rfl rfl ?_
        refine xw_goto rfl ?_
        refine xw_lo (L2 := [(0, xa 536), (1, xa x1), (2, xi x2), (3, xi x3), (4, xi (w32 (x4 + 1)))]) (List.forall_mem_cons.mpr ⟨rfl, List.forall_mem_cons.mpr ⟨rfl, List.forall_mem_cons.mpr ⟨rfl, List.forall_mem_cons.mpr ⟨rfl, List.forall_mem_cons.mpr ⟨rfl, fun _ h => absurd h List.not_mem_nil⟩⟩⟩⟩⟩) ?_
        exact q
      exact hr10 _ _ _ _ _ c2 c3 (w32_w _)
  · refine xS_of (pc' := 63) (L' := [(0, xa 536), (1, xa x1), (2, xi x2), (3, xi x3), (4, xi x4)]) (st' := [xi x2]) (m' := m) (fun ex ns r q => ?_) ?_
    · refine xw_ic_geT rfl (w32_cg c4) (w32_cg (w32_xR _ _ _)) (Int.not_lt.mp h0) ?_
      refine xw_iload_n rfl rfl ?_
      exact q
    exact xS_ret (v := x2) rfl rfl xw_rtI c2
theorem ygl300_10 {B : Nat} (hB : B ≤ 512) {xs : Nat → Int32} {SL d : Nat} : ∀ n x1 x2 x3 x4 m, w32 x2 = x2 → w32 x3 = x3 → w32 x4 = x4 → xS B xs SL (d + 2) 300 (5, (some .int), [], 13) 1 10 [(0, xa 536), (1, xa x1), (2, xi x2), (3, xi x3), (4, xi x4)] [] m (xl4 (yl300_10 B) n x1 x2 x3 x4 m) := by
  intro n
  induction n with
  | zero => intro x1 x2 x3 x4 m c2 c3 c4; exact xS_none
  | succ n ih => exact ysl300_10 hB ih
theorem ygf300 {B : Nat} (hB : B ≤ 512) {xs : Nat → Int32} {SL d : Nat} : ∀ p0 m, xS B xs SL (d + 2) 300 (5, (some .int), [], 13) 1 0 [(0, xa 536), (1, xa p0)] [] m (yf300 B p0 m) := by
  intro p0 m
  unfold yf300
  refine xS_of (pc' := 10) (L' := [(0, xa 536), (1, xa p0), (2, xi (-1)), (3, xi (xR m 536 31)), (4, xi 0)]) (st' := []) (m' := m) (fun ex ns r q => ?_) ?_
  · refine xw_iconst rfl ?_
    refine xw_istore_n (L' := [(2, xi (-1)), (0, xa 536), (1, xa p0)]) rfl (by decide) rfl ?_
    refine xw_aload_n rfl rfl rfl ?_
    refine xw_gfIc (v := (m 536 31)) (v' := (xR m 536 31)) rfl (xw_obd (by decide +kernel)) xk12_31 (qi := 31) rfl rfl rfl ?_
    refine xw_istore_n (L' := [(3, xi (xR m 536 31)), (2, xi (-1)), (0, xa 536), (1, xa p0)]) rfl (by decide) rfl ?_
    refine xw_iconst rfl ?_
    refine xw_istore (L' := [(4, xi 0), (3, xi (xR m 536 31)), (2, xi (-1)), (0, xa 536), (1, xa p0)]) rfl (by decide) rfl ?_
    refine xw_lo (L2 := [(0, xa 536), (1, xa p0), (2, xi (-1)), (3, xi (xR m 536 31)), (4, xi 0)]) (List.forall_mem_cons.mpr ⟨rfl, List.forall_mem_cons.mpr ⟨rfl, List.forall_mem_cons.mpr ⟨rfl, List.forall_mem_cons.mpr ⟨rfl, List.forall_mem_cons.mpr ⟨rfl, fun _ h => absurd h List.not_mem_nil⟩⟩⟩⟩⟩) ?_
    exact q
  exact ygl300_10 hB 1000000 _ _ _ _ _ rfl (w32_xR _ _ _) rfl
theorem ysl296_57 {B : Nat} (hB : B ≤ 512) {xs : Nat → Int32} {SL d : Nat} {r11 : Int → Int → xw_M → xP} (hr11 : ∀ x1 x2 m, w32 x2 = x2 → xS B xs SL (d + 5) 296 (4, none, [], 13) 0 11 [(0, xa 536), (1, xa x1), (2, xi x2)] [] m (r11 x1 x2 m)) {r57 : Int → Int → Int → xw_M → xP} (hr57 : ∀ x1 x2 x3 m, w32 x2 = x2 → w32 x3 = x3 → xS B xs SL (d + 5) 296 (4, none, [], 13) 0 57 [(0, xa 536), (1, xa x1), (2, xi x2), (3, xi x3)] [] m (r57 x1 x2 x3 m)) : ∀ x1 x2 x3 m, w32 x2 = x2 → w32 x3 = x3 → xS B xs SL (d + 5) 296 (4, none, [], 13) 0 57 [(0, xa 536), (1, xa x1), (2, xi x2), (3, xi x3)] [] m (yl296_57 B r11 r57 x1 x2 x3 m) := by
  intro x1 x2 x3 m c2 c3
  unfold yl296_57
  refine xS_of (pc' := 62) (L' := [(0, xa 536), (1, xa x1), (2, xi x2), (3, xi x3)]) (st' := [xi (xR m 536 61), xi x3]) (m' := m) (fun ex ns r q => ?_) ?_
  · refine xw_iload_n rfl rfl ?_
    refine xw_aload_n rfl rfl rfl ?_
    refine xw_gfIc (v := (m 536 61)) (v' := (xR m 536 61)) rfl (xw_obd (by decide +kernel)) xk12_61 (qi := 61) rfl rfl rfl ?_
    exact q
  refine xS_if (fun h0 => ?_) (fun h0 => ?_)
  · refine xS_g (fun g1 => ?_)
    refine xS_g (fun g2 => ?_)
    refine xS_g (fun g3 => ?_)
    refine xS_g (fun g4 => ?_)
    refine xS_g (fun g5 => ?_)
    refine xS_of (pc' := 87) (L' := [(0, xa 536), (1, xa x1), (2, xi x2), (3, xi x3)]) (st' := [xi (xR m 592 (x3 + 1)), xi (xR m 592 x3), xi (xR m (xw_rf x1 10) x2), xa x1, xa 536]) (m' := m) (fun ex ns r q => ?_) ?_
    · refine xw_ic_geF rfl (w32_cg c3) (w32_cg (w32_xR _ _ _)) (Int.not_le.mpr h0) ?_
      refine xw_aload_n rfl rfl rfl ?_
      refine xw_aload_n rfl rfl rfl ?_
      refine xw_aload_n rfl rfl rfl ?_
      refine xw_gfV (qi := 10) rfl (xw_obd g1) xk13_10 rfl ?_
      refine xw_iload_n rfl rfl ?_
      refine xw_ialdc (n := (xw_le B (xw_rf x1 10))) (v := (m (xw_rf x1 10) x2)) (v' := (xR m (xw_rf x1 10) x2)) rfl hB (xw_obd g3) rfl g2 rfl rfl ?_
      refine xw_aload_n rfl rfl rfl ?_
      refine xw_gfR (n := 592) (e := 592) rfl (xw_obd (by decide +kernel)) (by decide +kernel) (by decide +kernel) rfl ?_
      refine xw_iload_n rfl rfl ?_
      refine xw_ialdc (n := 20001) (v := (m 592 x3)) (v' := (xR m 592 x3)) rfl hB (xw_obd (by decide +kernel)) rfl g4 rfl rfl ?_
      refine xw_aload_n rfl rfl rfl ?_
      refine xw_gfR (n := 592) (e := 592) rfl (xw_obd (by decide +kernel)) (by decide +kernel) (by decide +kernel) rfl ?_
      refine xw_iload_n rfl rfl ?_
      refine xw_iconst rfl ?_
      refine xw_iadd rfl ?_
      refine xw_ialdc (n := 20001) (v := (m 592 (x3 + 1))) (v' := (xR m 592 (x3 + 1))) rfl hB (xw_obd (by decide +kernel)) rfl g5 rfl rfl ?_
      refine xw_lo (L2 := [(0, xa 536), (1, xa x1), (2, xi x2), (3, xi x3)]) (List.forall_mem_cons.mpr ⟨rfl, List.forall_mem_cons.mpr ⟨rfl, List.forall_mem_cons.mpr ⟨rfl, List.forall_mem_cons.mpr ⟨rfl, fun _ h => absurd h List.not_mem_nil⟩⟩⟩⟩) ?_
      exact q
    refine xS_call (q := 297) (n := 5) (kq := 0) (as := [xa 536, xa x1, xi (xR m (xw_rf x1 10) x2), xi (xR m 592 x3), xi (xR m 592 (x3 + 1))]) (st1 := []) rfl rfl rfl rfl rfl rfl rfl rfl rfl rfl (fun _ => xw_rcv1 (t := 12) (xw_obd (by decide +kernel)) rfl) rfl (List.forall_mem_cons.mpr ⟨rfl, List.forall_mem_cons.mpr ⟨rfl, List.forall_mem_cons.mpr ⟨rfl, List.forall_mem_cons.mpr ⟨rfl, List.forall_mem_cons.mpr ⟨rfl, fun _ h => absurd h List.not_mem_nil⟩⟩⟩⟩⟩) (ygf297 hB _ _ _ _ _ (w32_xR _ _ _) (w32_xR _ _ _) (w32_xR _ _ _)) (fun v1 m1 cv1 => ?_)
    refine xS_of (pc' := 57) (L' := [(0, xa 536), (1, xa x1), (2, xi x2), (3, xi (w32 (x3 + 1)))]) (st' := []) (m' := m1) (fun ex ns r q => ?_) ?_
    · refine xw_iincc (z := (w32 (x3 + 1))) (L' := [(3, xi (w32 (x3 + 1))), (0, xa 536), (1, xa x1), (2, xi x2)]) rfl rfl (by decide) rfl rfl ?_
      refine xw_goto rfl ?_
      refine xw_lo (L2 := [(0, xa 536), (1, xa x1), (2, xi x2), (3, xi (w32 (x3 + 1)))]) (List.forall_mem_cons.mpr ⟨rfl, List.forall_mem_cons.mpr ⟨rfl, List.forall_mem_cons.mpr ⟨rfl, List.forall_mem_cons.mpr ⟨rfl, fun _ h => absurd h List.not_mem_nil⟩⟩⟩⟩) ?_
      exact q
    exact hr57 _ _ _ _ c2 (w32_w _)
  · refine xS_of (pc' := 11) (L' := [(0, xa 536), (1, xa x1), (2, xi (w32 (x2 + 1)))]) (st' := []) (m' := m) (fun ex ns r q => ?_) ?_
    · refine xw_ic_geT rfl (w32_cg c3) (w32_cg (w32_xR _ _ _)) (Int.not_lt.mp h0) ?_
      refine xw_iincc (z := (w32 (x2 + 1))) (L' := [(2, xi (w32 (x2 + 1))), (0, xa 536), (1, xa x1), (3, xi x3)]) rfl rfl (by decide) rfl rfl ?_
      refine xw_goto rfl ?_
      refine xw_lo (L2 := [(0, xa 536), (1, xa x1), (2, xi (w32 (x2 + 1)))]) (List.forall_mem_cons.mpr ⟨rfl, List.forall_mem_cons.mpr ⟨rfl, List.forall_mem_cons.mpr ⟨rfl, fun _ h => absurd h List.not_mem_nil⟩⟩⟩) ?_
      exact q
    exact hr11 _ _ _ (w32_w _)
theorem ygl296_57 {B : Nat} (hB : B ≤ 512) {xs : Nat → Int32} {SL d : Nat} {r11 : Int → Int → xw_M → xP} (hr11 : ∀ x1 x2 m, w32 x2 = x2 → xS B xs SL (d + 5) 296 (4, none, [], 13) 0 11 [(0, xa 536), (1, xa x1), (2, xi x2)] [] m (r11 x1 x2 m)) : ∀ n x1 x2 x3 m, w32 x2 = x2 → w32 x3 = x3 → xS B xs SL (d + 5) 296 (4, none, [], 13) 0 57 [(0, xa 536), (1, xa x1), (2, xi x2), (3, xi x3)] [] m (xl3 (yl296_57 B r11) n x1 x2 x3 m) := by
  intro n
  induction n with
  | zero => intro x1 x2 x3 m c2 c3; exact xS_none
  | succ n ih => exact ysl296_57 hB hr11 ih
theorem ysl296_11 {B : Nat} (hB : B ≤ 512) {xs : Nat → Int32} {SL d : Nat} {r11 : Int → Int → xw_M → xP} (hr11 : ∀ x1 x2 m, w32 x2 = x2 → xS B xs SL (d + 5) 296 (4, none, [], 13) 0 11 [(0, xa 536), (1, xa x1), (2, xi x2)] [] m (r11 x1 x2 m)) : ∀ x1 x2 m, w32 x2 = x2 → xS B xs SL (d + 5) 296 (4, none, [], 13) 0 11 [(0, xa 536), (1, xa x1), (2, xi x2)] [] m (yl296_11 B r11 x1 x2 m) := by
  intro x1 x2 m c2
  unfold yl296_11
  refine xS_g (fun g0 => ?_)
  refine xS_of (pc' := 16) (L' := [(0, xa 536), (1, xa x1), (2, xi x2)]) (st' := [xi (xR m x1 9), xi x2]) (m' := m) (fun ex ns r q => ?_) ?_
  · refine xw_iload_n rfl rfl ?_
    refine xw_aload_n rfl rfl rfl ?_
    refine xw_gfIc (v := (m x1 9)) (v' := (xR m x1 9)) rfl (xw_obd g0) xk13_9 (qi := 9) rfl rfl rfl ?_
    exact q
  refine xS_if (fun h1 => ?_) (fun h1 => ?_)
  · refine xS_g (fun g2 => ?_)
    refine xS_g (fun g3 => ?_)
    refine xS_of (pc' := 25) (L' := [(0, xa 536), (1, xa x1), (2, xi x2)]) (st' := [xi (xR m (xw_rf x1 10) x2)]) (m' := m) (fun ex ns r q => ?_) ?_
    · refine xw_ic_geF rfl (w32_cg c2) (w32_cg (w32_xR _ _ _)) (Int.not_le.mpr h1) ?_
      refine xw_aload_n rfl rfl rfl ?_
      refine xw_gfV (qi := 10) rfl (xw_obd g0) xk13_10 rfl ?_
      refine xw_iload_n rfl rfl ?_
      refine xw_ialdc (n := (xw_le B (xw_rf x1 10))) (v := (m (xw_rf x1 10) x2)) (v' := (xR m (xw_rf x1 10) x2)) rfl hB (xw_obd g3) rfl g2 rfl rfl ?_
      exact q
    refine xS_if (fun h4 => ?_) (fun h4 => ?_)
    · refine xS_of (pc' := 36) (L' := [(0, xa 536), (1, xa x1), (2, xi x2)]) (st' := [xi (xR m 536 58), xi 0, xi 0, xa x1, xa 536]) (m' := m) (fun ex ns r q => ?_) ?_
      · refine xw_if_neF rfl (w32_cg (w32_xR _ _ _)) h4 ?_
        refine xw_aload_n rfl rfl rfl ?_
        refine xw_aload_n rfl rfl rfl ?_
        refine xw_iconst rfl ?_
        refine xw_iconst rfl ?_
        refine xw_aload_n rfl rfl rfl ?_
        refine xw_gfIc (v := (m 536 58)) (v' := (xR m 536 58)) rfl (xw_obd (by decide +kernel)) xk12_58 (qi := 58) rfl rfl rfl ?_
        refine xw_lo (L2 := [(0, xa 536), (1, xa x1), (2, xi x2)]) (List.forall_mem_cons.mpr ⟨rfl, List.forall_mem_cons.mpr ⟨rfl, List.forall_mem_cons.mpr ⟨rfl, fun _ h => absurd h List.not_mem_nil⟩⟩⟩) ?_
        exact q
      refine xS_call (q := 297) (n := 5) (kq := 0) (as := [xa 536, xa x1, xi 0, xi 0, xi (xR m 536 58)]) (st1 := []) rfl rfl rfl rfl rfl rfl rfl rfl rfl rfl (fun _ => xw_rcv1 (t := 12) (xw_obd (by decide +kernel)) rfl) rfl (List.forall_mem_cons.mpr ⟨rfl, List.forall_mem_cons.mpr ⟨rfl, List.forall_mem_cons.mpr ⟨rfl, List.forall_mem_cons.mpr ⟨rfl, List.forall_mem_cons.mpr ⟨rfl, fun _ h => absurd h List.not_mem_nil⟩⟩⟩⟩⟩) (ygf297 hB _ _ _ _ _ rfl rfl (w32_xR _ _ _)) (fun v1 m1 cv1 => ?_)
      refine xS_of (pc' := 11) (L' := [(0, xa 536), (1, xa x1), (2, xi (w32 (x2 + 1)))]) (st' := []) (m' := m1) (fun ex ns r q => ?_) ?_
      · refine xw_goto rfl ?_
        refine xw_iincc (z := (w32 (x2 + 1))) (L' := [(2, xi (w32 (x2 + 1))), (0, xa 536), (1, xa x1)]) rfl rfl (by decide) rfl rfl ?_
        refine xw_goto rfl ?_
        refine xw_lo (L2 := [(0, xa 536), (1, xa x1), (2, xi (w32 (x2 + 1)))]) (List.forall_mem_cons.mpr ⟨rfl, List.forall_mem_cons.mpr ⟨rfl, List.forall_mem_cons.mpr ⟨rfl, fun _ h => absurd h List.not_mem_nil⟩⟩⟩) ?_
        exact q
      exact hr11 _ _ _ (w32_w _)
    · refine xS_of (pc' := 52) (L' := [(0, xa 536), (1, xa x1), (2, xi x2)]) (st' := [xi (w32 ((-2) - (xR m (xw_rf x1 10) x2))), xa 536]) (m' := m) (fun ex ns r q => ?_) ?_
      · refine xw_if_neT rfl (w32_cg (w32_xR _ _ _)) h4 ?_
        refine xw_aload_n rfl rfl rfl ?_
        refine xw_bipush (e := (-2)) rfl (by decide +kernel) ?_
        refine xw_aload_n rfl rfl rfl ?_
        refine xw_gfV (qi := 10) rfl (xw_obd g0) xk13_10 rfl ?_
        refine xw_iload_n rfl rfl ?_
        refine xw_ialdc (n := (xw_le B (xw_rf x1 10))) (v := (m (xw_rf x1 10) x2)) (v' := (xR m (xw_rf x1 10) x2)) rfl hB (xw_obd g3) rfl g2 rfl rfl ?_
        refine xw_isub rfl ?_
        refine xw_cst (st' := [xi (w32 ((-2) - (xR m (xw_rf x1 10) x2))), xa 536]) (xw_sc (xi_c rfl) (xw_sc rfl rfl)) ?_
        refine xw_lo (L2 := [(0, xa 536), (1, xa x1), (2, xi x2)]) (List.forall_mem_cons.mpr ⟨rfl, List.forall_mem_cons.mpr ⟨rfl, List.forall_mem_cons.mpr ⟨rfl, fun _ h => absurd h List.not_mem_nil⟩⟩⟩) ?_
        exact q
      refine xS_call (q := 290) (n := 2) (kq := 0) (as := [xa 536, xi (w32 ((-2) - (xR m (xw_rf x1 10) x2)))]) (st1 := []) rfl rfl rfl rfl rfl rfl rfl rfl rfl rfl (fun _ => xw_rcv1 (t := 12) (xw_obd (by decide +kernel)) rfl) rfl (List.forall_mem_cons.mpr ⟨rfl, List.forall_mem_cons.mpr ⟨rfl, fun _ h => absurd h List.not_mem_nil⟩⟩) (ygf290 hB _ _ (w32_w _)) (fun v2 m2 cv2 => ?_)
      refine xS_of (pc' := 57) (L' := [(0, xa 536), (1, xa x1), (2, xi x2), (3, xi 0)]) (st' := []) (m' := m2) (fun ex ns r q => ?_) ?_
      · refine xw_iconst rfl ?_
        refine xw_istore_n (L' := [(3, xi 0), (0, xa 536), (1, xa x1), (2, xi x2)]) rfl (by decide) rfl ?_
        refine xw_lo (L2 := [(0, xa 536), (1, xa x1), (2, xi x2), (3, xi 0)]) (List.forall_mem_cons.mpr ⟨rfl, List.forall_mem_cons.mpr ⟨rfl, List.forall_mem_cons.mpr ⟨rfl, List.forall_mem_cons.mpr ⟨rfl, fun _ h => absurd h List.not_mem_nil⟩⟩⟩⟩) ?_
        exact q
      exact ygl296_57 hB hr11 1000000 _ _ _ _ c2 rfl
  · refine xS_of (pc' := 104) (L' := [(0, xa 536), (1, xa x1)]) (st' := [xa x1, xa 536]) (m' := m) (fun ex ns r q => ?_) ?_
    · refine xw_ic_geT rfl (w32_cg c2) (w32_cg (w32_xR _ _ _)) (Int.not_lt.mp h1) ?_
      refine xw_aload_n rfl rfl rfl ?_
      refine xw_aload_n rfl rfl rfl ?_
      refine xw_lo (L2 := [(0, xa 536), (1, xa x1)]) (List.forall_mem_cons.mpr ⟨rfl, List.forall_mem_cons.mpr ⟨rfl, fun _ h => absurd h List.not_mem_nil⟩⟩) ?_
      exact q
    refine xS_call (q := 298) (n := 2) (kq := 0) (as := [xa 536, xa x1]) (st1 := []) rfl rfl rfl rfl rfl rfl rfl rfl rfl rfl (fun _ => xw_rcv1 (t := 12) (xw_obd (by decide +kernel)) rfl) rfl (List.forall_mem_cons.mpr ⟨rfl, List.forall_mem_cons.mpr ⟨rfl, fun _ h => absurd h List.not_mem_nil⟩⟩) (ygf298 hB _ _) (fun v3 m3 cv3 => ?_)
    refine xS_of (pc' := 110) (L' := []) (st' := [xa x1, xa 536, xa 536]) (m' := m3) (fun ex ns r q => ?_) ?_
    · refine xw_aload_n rfl rfl rfl ?_
      refine xw_aload_n rfl rfl rfl ?_
      refine xw_aload_n rfl rfl rfl ?_
      refine xw_lo (L2 := []) (fun _ h => absurd h List.not_mem_nil) ?_
      exact q
    refine xS_call (q := 300) (n := 2) (kq := 1) (as := [xa 536, xa x1]) (st1 := [xa 536]) rfl rfl rfl rfl rfl rfl rfl rfl rfl rfl (fun _ => xw_rcv1 (t := 12) (xw_obd (by decide +kernel)) rfl) rfl (List.forall_mem_cons.mpr ⟨rfl, List.forall_mem_cons.mpr ⟨rfl, fun _ h => absurd h List.not_mem_nil⟩⟩) (ygf300 hB _ _) (fun v4 m4 cv4 => ?_)
    refine xS_of (pc' := 116) (L' := []) (st' := []) (m' := (xw_u m4 536 66 v4)) (fun ex ns r q => ?_) ?_
    · refine xw_pfI rfl (xw_obd (by decide +kernel)) xk12_66 (qi := 66) rfl (xw_okI rfl) ?_
      exact q
    exact xS_ret (v := 0) rfl rfl rfl rfl
theorem ygl296_11 {B : Nat} (hB : B ≤ 512) {xs : Nat → Int32} {SL d : Nat} : ∀ n x1 x2 m, w32 x2 = x2 → xS B xs SL (d + 5) 296 (4, none, [], 13) 0 11 [(0, xa 536), (1, xa x1), (2, xi x2)] [] m (xl2 (yl296_11 B) n x1 x2 m) := by
  intro n
  induction n with
  | zero => intro x1 x2 m c2; exact xS_none
  | succ n ih => exact ysl296_11 hB ih
theorem ygf296 {B : Nat} (hB : B ≤ 512) {xs : Nat → Int32} {SL d : Nat} : ∀ p0 m, xS B xs SL (d + 5) 296 (4, none, [], 13) 0 0 [(0, xa 536), (1, xa p0)] [] m (yf296 B p0 m) := by
  intro p0 m
  unfold yf296
  refine xS_of (pc' := 1) (L' := [(0, xa 536), (1, xa p0)]) (st' := [xa 536]) (m' := m) (fun ex ns r q => ?_) ?_
  · refine xw_aload_n rfl rfl rfl ?_
    refine xw_lo (L2 := [(0, xa 536), (1, xa p0)]) (List.forall_mem_cons.mpr ⟨rfl, List.forall_mem_cons.mpr ⟨rfl, fun _ h => absurd h List.not_mem_nil⟩⟩) ?_
    exact q
  refine xS_call (q := 286) (n := 1) (kq := 0) (as := [xa 536]) (st1 := []) rfl rfl rfl rfl rfl rfl rfl rfl rfl rfl (fun _ => xw_rcv1 (t := 12) (xw_obd (by decide +kernel)) rfl) rfl (List.forall_mem_cons.mpr ⟨rfl, fun _ h => absurd h List.not_mem_nil⟩) (ygf286 hB _) (fun v1 m1 cv1 => ?_)
  refine xS_of (pc' := 11) (L' := [(0, xa 536), (1, xa p0), (2, xi 0)]) (st' := []) (m' := (xw_u m1 536 65 0)) (fun ex ns r q => ?_) ?_
  · refine xw_aload_n rfl rfl rfl ?_
    refine xw_iconst rfl ?_
    refine xw_pfI rfl (xw_obd (by decide +kernel)) xk12_65 (qi := 65) rfl (xw_okI rfl) ?_
    refine xw_iconst rfl ?_
    refine xw_istore_n (L' := [(2, xi 0), (0, xa 536), (1, xa p0)]) rfl (by decide) rfl ?_
    refine xw_lo (L2 := [(0, xa 536), (1, xa p0), (2, xi 0)]) (List.forall_mem_cons.mpr ⟨rfl, List.forall_mem_cons.mpr ⟨rfl, List.forall_mem_cons.mpr ⟨rfl, fun _ h => absurd h List.not_mem_nil⟩⟩⟩) ?_
    exact q
  exact ygl296_11 hB 1000000 _ _ _ rfl
