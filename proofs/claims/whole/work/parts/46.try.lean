theorem xc38_13 {B : Nat} {xs : Nat → Int32} {SL d : Nat} {L : xm_L} {m m' : xw_M} {ex : xm_H} {ns : Nat} {r : xw_R} {q0 : Int} (h : xwR B (xm_gg xs SL) xq_P d 39 (1, none, [], 0) [xi q0] m none m') (k : xw B (xm_gg xs SL) xq_P (d + 1) 38 (1, none, [], 1) 16 L [] m' ex ns r) : xw B (xm_gg xs SL) xq_P (d + 1) 38 (1, none, [], 1) 13 L [xi q0] m ex ns r := xw_call rfl rfl rfl rfl rfl rfl rfl rfl rfl rfl (fun _ => xw_rcv0 rfl) h k
theorem xe38_13 {B : Nat} {xs : Nat → Int32} {SL d : Nat} {L : xm_L} {m m' : xw_M} {ex : xm_H} {ns : Nat} {t : Nat} {q0 : Int} (hc : 606 + ex.length ≤ xm_cm) (hs : ns + 6 ≤ xm_sm) (h : xwX B (xm_gg xs SL) xq_P d 39 (1, none, [], 0) [xi q0] m t m') : xw B (xm_gg xs SL) xq_P (d + 1) 38 (1, none, [], 1) 13 L [xi q0] m ex ns (.inr (605 + ex.length), xw_h B m' (ex ++ [(t, List.replicate 6 .null)]), ns + 6) := xw_callT rfl rfl rfl rfl rfl rfl rfl rfl rfl (fun _ => xw_rcv0 rfl) rfl hc hs h
theorem xb38_0_0 {B : Nat} (hB : B ≤ 512) {xs : Nat → Int32} {SL d : Nat} {m : xw_M} {ex : xm_H} {ns : Nat} {r : xw_R} (h0 : -2147483648 ≤ (m 0 14) ∧ (m 0 14) < 2147483648) (h1 : ¬ (m 0 14) = 2) (k : xw B (xm_gg xs SL) xq_P d 38 (1, none, [], 1) 13 [] [xi 0] m ex ns r) : xw B (xm_gg xs SL) xq_P d 38 (1, none, [], 1) 0 [(0, xa 0)] [] m ex ns r := by
  refine xw_aload_n rfl rfl rfl ?_
  refine xw_gfI (v := (m 0 14)) rfl (xw_obd (by decide +kernel)) xk0_14 (qi := 14) rfl rfl ?_
  refine xw_iconst rfl ?_
  refine xw_ic_neT rfl h0 ⟨by decide, by decide⟩ h1 ?_
  refine xw_iconst rfl ?_
  refine xw_lo (L2 := []) (fun _ h => absurd h List.not_mem_nil) ?_
  exact k
theorem xb38_0_1 {B : Nat} (hB : B ≤ 512) {xs : Nat → Int32} {SL d : Nat} {m : xw_M} {ex : xm_H} {ns : Nat} {r : xw_R} (h0 : -2147483648 ≤ (m 0 14) ∧ (m 0 14) < 2147483648) (h1 : (m 0 14) = 2) (k : xw B (xm_gg xs SL) xq_P d 38 (1, none, [], 1) 13 [] [xi 1] m ex ns r) : xw B (xm_gg xs SL) xq_P d 38 (1, none, [], 1) 0 [(0, xa 0)] [] m ex ns r := by
  refine xw_aload_n rfl rfl rfl ?_
  refine xw_gfI (v := (m 0 14)) rfl (xw_obd (by decide +kernel)) xk0_14 (qi := 14) rfl rfl ?_
  refine xw_iconst rfl ?_
  refine xw_ic_neF rfl h0 ⟨by decide, by decide⟩ h1 ?_
  refine xw_iconst rfl ?_
  refine xw_goto rfl ?_
  refine xw_lo (L2 := []) (fun _ h => absurd h List.not_mem_nil) ?_
  exact k
theorem xb38_16_0 {B : Nat} (hB : B ≤ 512) {xs : Nat → Int32} {SL d : Nat} {m : xw_M} {ex : xm_H} {ns : Nat}  : xw B (xm_gg xs SL) xq_P d 38 (1, none, [], 1) 16 [] [] m ex ns (.inl none, xw_h B m ex, ns) := by
  exact xw_ret rfl rfl rfl
theorem xb39_0_0 {B : Nat} (hB : B ≤ 512) {xs : Nat → Int32} {SL d : Nat} {m : xw_M} {ex : xm_H} {ns : Nat} {p0 : Int} (h0 : -2147483648 ≤ p0 ∧ p0 < 2147483648) (h1 : p0 = 0) : xw B (xm_gg xs SL) xq_P d 39 (1, none, [], 0) 0 [(0, xi p0)] [] m ex ns (.inl none, xw_h B m ex, ns) := by
  refine xw_iload_n rfl rfl ?_
  refine xw_if_eqT rfl h0 h1 ?_
  exact xw_ret rfl rfl rfl
theorem xb39_0_1 {B : Nat} (hB : B ≤ 512) {xs : Nat → Int32} {SL d : Nat} {m : xw_M} {ex : xm_H} {ns : Nat} {p0 : Int} (h0 : -2147483648 ≤ p0 ∧ p0 < 2147483648) (h1 : ¬ (p0 = 0)) (hc : 606 + ex.length ≤ xm_cm) (hs : ns + 6 ≤ xm_sm) : xw B (xm_gg xs SL) xq_P d 39 (1, none, [], 0) 0 [(0, xi p0)] [] m ex ns (.inr (605 + ex.length), xw_h B m (ex ++ [(14, List.replicate 6 .null)]), ns + 6) := by
  refine xw_iload_n rfl rfl ?_
  refine xw_if_eqF rfl h0 h1 ?_
  exact xw_thr (E := (.new 156, 3, 14, 0)) rfl rfl rfl hc hs
theorem xb40_0_0 {B : Nat} (hB : B ≤ 512) {xs : Nat → Int32} {SL d : Nat} {m : xw_M} {ex : xm_H} {ns : Nat} {r : xw_R} {p0 : Int}  (k : xw B (xm_gg xs SL) xq_P d 40 (3, none, [], 2) 3 [(0, xa 1), (1, xi p0), (2, xi 24)] [] m ex ns r) : xw B (xm_gg xs SL) xq_P d 40 (3, none, [], 2) 0 [(0, xa 1), (1, xi p0)] [] m ex ns r := by
  refine xw_bipush (e := 24) rfl (by decide +kernel) ?_
  refine xw_istore_n (L' := [(2, xi 24), (0, xa 1), (1, xi p0)]) rfl (by decide) rfl ?_
  refine xw_lo (L2 := [(0, xa 1), (1, xi p0), (2, xi 24)]) (List.forall_mem_cons.mpr ⟨rfl, List.forall_mem_cons.mpr ⟨rfl, List.forall_mem_cons.mpr ⟨rfl, fun _ h => absurd h List.not_mem_nil⟩⟩⟩) ?_
  exact k
theorem xb40_3_0 {B : Nat} (hB : B ≤ 512) {xs : Nat → Int32} {SL d : Nat} {m : xw_M} {ex : xm_H} {ns : Nat} {x1 x2 : Int} (h0 : -2147483648 ≤ x2 ∧ x2 < 2147483648) (h1 : x2 < 0) : xw B (xm_gg xs SL) xq_P d 40 (3, none, [], 2) 3 [(0, xa 1), (1, xi x1), (2, xi x2)] [] m ex ns (.inl none, xw_h B m ex, ns) := by
  refine xw_iload_n rfl rfl ?_
  refine xw_if_ltT rfl h0 h1 ?_
  exact xw_ret rfl rfl rfl
theorem xb40_3_1 {B : Nat} (hB : B ≤ 512) {xs : Nat → Int32} {SL d : Nat} {m : xw_M} {ex : xm_H} {ns : Nat} {r : xw_R} {x1 x2 : Int} (h0 : -2147483648 ≤ x2 ∧ x2 < 2147483648) (h1 : ¬ (x2 < 0)) (h2 : 0 ≤ (m 1 1) ∧ (m 1 1) < 65536) (k : xw B (xm_gg xs SL) xq_P d 40 (3, none, [], 2) 3 [(0, xa 1), (1, xi x1), (2, xi (x2 + (-8)))] [] (xw_u (xw_u m 1 1 ((m 1 1) + 1)) 2 (m 1 1) (Int.bmod (Int.bmod (xw_ishrf x1 x2) 256) 256)) ex ns r) : xw B (xm_gg xs SL) xq_P d 40 (3, none, [], 2) 3 [(0, xa 1), (1, xi x1), (2, xi x2)] [] m ex ns r := by
  refine xw_iload_n rfl rfl ?_
  refine xw_if_ltF rfl h0 h1 ?_
  refine xw_aload_n rfl rfl rfl ?_
  refine xw_gfR (n := 2) (e := 2) rfl (xw_obd (by decide +kernel)) (by decide +kernel) (by decide +kernel) rfl ?_
  refine xw_aload_n rfl rfl rfl ?_
  refine xw_dup rfl rfl ?_
  refine xw_gfI (v := (m 1 1)) rfl (xw_obd (by decide +kernel)) xk1_1 (qi := 1) rfl rfl ?_
  refine xw_dup_x1 rfl rfl ?_
  refine xw_iconst rfl ?_
  refine xw_iadd rfl ?_
  refine xw_pfI rfl (xw_obd (by decide +kernel)) xk1_1 (qi := 1) rfl (xw_okI rfl) ?_
  refine xw_iload_n rfl rfl ?_
  refine xw_iload_n rfl rfl ?_
  refine xw_ishr (z := (xw_ishrf x1 x2)) rfl (xw_ishre _ _) ?_
  refine xw_i2b rfl ?_
  refine xw_bast rfl hB (xw_obd (by decide +kernel)) rfl h2 ?_
  refine xw_iinc (L' := [(2, xi (x2 + (-8))), (0, xa 1), (1, xi x1)]) rfl rfl (by decide) rfl ?_
  refine xw_goto rfl ?_
  refine xw_lo (L2 := [(0, xa 1), (1, xi x1), (2, xi (x2 + (-8)))]) (List.forall_mem_cons.mpr ⟨rfl, List.forall_mem_cons.mpr ⟨rfl, List.forall_mem_cons.mpr ⟨rfl, fun _ h => absurd h List.not_mem_nil⟩⟩⟩) ?_
  exact k
theorem xc37_1 {B : Nat} {xs : Nat → Int32} {SL d : Nat} {L : xm_L} {m m' : xw_M} {ex : xm_H} {ns : Nat} {r : xw_R} (h : xwR B (xm_gg xs SL) xq_P d 38 (1, none, [], 1) [xa 0] m none m') (k : xw B (xm_gg xs SL) xq_P (d + 1) 37 (6, (some .int), [], 1) 4 L [] m' ex ns r) : xw B (xm_gg xs SL) xq_P (d + 1) 37 (6, (some .int), [], 1) 1 L [xa 0] m ex ns r := xw_call rfl rfl rfl rfl rfl rfl rfl rfl rfl rfl (fun _ => xw_rcv1 (t := 0) (xw_obd (by decide +kernel)) rfl) h k
theorem xe37_1 {B : Nat} {xs : Nat → Int32} {SL d : Nat} {L : xm_L} {m m' : xw_M} {ex : xm_H} {ns : Nat} {t : Nat} (hc : 606 + ex.length ≤ xm_cm) (hs : ns + 6 ≤ xm_sm) (h : xwX B (xm_gg xs SL) xq_P d 38 (1, none, [], 1) [xa 0] m t m') : xw B (xm_gg xs SL) xq_P (d + 1) 37 (6, (some .int), [], 1) 1 L [xa 0] m ex ns (.inr (605 + ex.length), xw_h B m' (ex ++ [(t, List.replicate 6 .null)]), ns + 6) := xw_callT rfl rfl rfl rfl rfl rfl rfl rfl rfl (fun _ => xw_rcv1 (t := 0) (xw_obd (by decide +kernel)) rfl) rfl hc hs h
theorem xb37_0_0 {B : Nat} (hB : B ≤ 512) {xs : Nat → Int32} {SL d : Nat} {m : xw_M} {ex : xm_H} {ns : Nat} {r : xw_R} {p0 p1 p2 p3 p4 : Int}  (k : xw B (xm_gg xs SL) xq_P d 37 (6, (some .int), [], 1) 1 [(0, xa 0), (1, xi p0), (2, xi p1), (3, xi p2), (4, xi p3), (5, xi p4)] [xa 0] m ex ns r) : xw B (xm_gg xs SL) xq_P d 37 (6, (some .int), [], 1) 0 [(0, xa 0), (1, xi p0), (2, xi p1), (3, xi p2), (4, xi p3), (5, xi p4)] [] m ex ns r := by
  refine xw_aload_n rfl rfl rfl ?_
  refine xw_lo (L2 := [(0, xa 0), (1, xi p0), (2, xi p1), (3, xi p2), (4, xi p3), (5, xi p4)]) (List.forall_mem_cons.mpr ⟨rfl, List.forall_mem_cons.mpr ⟨rfl, List.forall_mem_cons.mpr ⟨rfl, List.forall_mem_cons.mpr ⟨rfl, List.forall_mem_cons.mpr ⟨rfl, List.forall_mem_cons.mpr ⟨rfl, fun _ h => absurd h List.not_mem_nil⟩⟩⟩⟩⟩⟩) ?_
  exact k
theorem xc37_21 {B : Nat} {xs : Nat → Int32} {SL d : Nat} {L : xm_L} {m m' : xw_M} {ex : xm_H} {ns : Nat} {r : xw_R} {q0 : Int} (h : xwR B (xm_gg xs SL) xq_P d 39 (1, none, [], 0) [xi q0] m none m') (k : xw B (xm_gg xs SL) xq_P (d + 1) 37 (6, (some .int), [], 1) 24 L [] m' ex ns r) : xw B (xm_gg xs SL) xq_P (d + 1) 37 (6, (some .int), [], 1) 21 L [xi q0] m ex ns r := xw_call rfl rfl rfl rfl rfl rfl rfl rfl rfl rfl (fun _ => xw_rcv0 rfl) h k
theorem xe37_21 {B : Nat} {xs : Nat → Int32} {SL d : Nat} {L : xm_L} {m m' : xw_M} {ex : xm_H} {ns : Nat} {t : Nat} {q0 : Int} (hc : 606 + ex.length ≤ xm_cm) (hs : ns + 6 ≤ xm_sm) (h : xwX B (xm_gg xs SL) xq_P d 39 (1, none, [], 0) [xi q0] m t m') : xw B (xm_gg xs SL) xq_P (d + 1) 37 (6, (some .int), [], 1) 21 L [xi q0] m ex ns (.inr (605 + ex.length), xw_h B m' (ex ++ [(t, List.replicate 6 .null)]), ns + 6) := xw_callT rfl rfl rfl rfl rfl rfl rfl rfl rfl (fun _ => xw_rcv0 rfl) rfl hc hs h
theorem xb37_4_0 {B : Nat} (hB : B ≤ 512) {xs : Nat → Int32} {SL d : Nat} {m : xw_M} {ex : xm_H} {ns : Nat} {r : xw_R} {x1 x2 x3 x4 x5 : Int} (h0 : -2147483648 ≤ (m 1 1) ∧ (m 1 1) < 2147483648) (h1 : (m 1 1) ≤ 65516) (k : xw B (xm_gg xs SL) xq_P d 37 (6, (some .int), [], 1) 21 [(0, xa 0), (1, xi x1), (2, xi x2), (3, xi x3), (4, xi x4), (5, xi x5)] [xi 0] m ex ns r) : xw B (xm_gg xs SL) xq_P d 37 (6, (some .int), [], 1) 4 [(0, xa 0), (1, xi x1), (2, xi x2), (3, xi x3), (4, xi x4), (5, xi x5)] [] m ex ns r := by
  refine xw_aload_n rfl rfl rfl ?_
  refine xw_gfR (n := 1) (e := 1) rfl (xw_obd (by decide +kernel)) (by decide +kernel) (by decide +kernel) rfl ?_
  refine xw_gfI (v := (m 1 1)) rfl (xw_obd (by decide +kernel)) xk1_1 (qi := 1) rfl rfl ?_
  refine xw_ldc (e := 65516) rfl (by decide +kernel) ?_
  refine xw_ic_leT rfl h0 ⟨by decide, by decide⟩ h1 ?_
  refine xw_iconst rfl ?_
  refine xw_lo (L2 := [(0, xa 0), (1, xi x1), (2, xi x2), (3, xi x3), (4, xi x4), (5, xi x5)]) (List.forall_mem_cons.mpr ⟨rfl, List.forall_mem_cons.mpr ⟨rfl, List.forall_mem_cons.mpr ⟨rfl, List.forall_mem_cons.mpr ⟨rfl, List.forall_mem_cons.mpr ⟨rfl, List.forall_mem_cons.mpr ⟨rfl, fun _ h => absurd h List.not_mem_nil⟩⟩⟩⟩⟩⟩) ?_
  exact k
theorem xb37_4_1 {B : Nat} (hB : B ≤ 512) {xs : Nat → Int32} {SL d : Nat} {m : xw_M} {ex : xm_H} {ns : Nat} {r : xw_R} {x1 x2 x3 x4 x5 : Int} (h0 : -2147483648 ≤ (m 1 1) ∧ (m 1 1) < 2147483648) (h1 : ¬ ((m 1 1) ≤ 65516)) (k : xw B (xm_gg xs SL) xq_P d 37 (6, (some .int), [], 1) 21 [(0, xa 0), (1, xi x1), (2, xi x2), (3, xi x3), (4, xi x4), (5, xi x5)] [xi 1] m ex ns r) : xw B (xm_gg xs SL) xq_P d 37 (6, (some .int), [], 1) 4 [(0, xa 0), (1, xi x1), (2, xi x2), (3, xi x3), (4, xi x4), (5, xi x5)] [] m ex ns r := by
  refine xw_aload_n rfl rfl rfl ?_
  refine xw_gfR (n := 1) (e := 1) rfl (xw_obd (by decide +kernel)) (by decide +kernel) (by decide +kernel) rfl ?_
  refine xw_gfI (v := (m 1 1)) rfl (xw_obd (by decide +kernel)) xk1_1 (qi := 1) rfl rfl ?_
  refine xw_ldc (e := 65516) rfl (by decide +kernel) ?_
  refine xw_ic_leF rfl h0 ⟨by decide, by decide⟩ h1 ?_
  refine xw_iconst rfl ?_
  refine xw_goto rfl ?_
  refine xw_lo (L2 := [(0, xa 0), (1, xi x1), (2, xi x2), (3, xi x3), (4, xi x4), (5, xi x5)]) (List.forall_mem_cons.mpr ⟨rfl, List.forall_mem_cons.mpr ⟨rfl, List.forall_mem_cons.mpr ⟨rfl, List.forall_mem_cons.mpr ⟨rfl, List.forall_mem_cons.mpr ⟨rfl, List.forall_mem_cons.mpr ⟨rfl, fun _ h => absurd h List.not_mem_nil⟩⟩⟩⟩⟩⟩) ?_
  exact k
theorem xc37_29 {B : Nat} {xs : Nat → Int32} {SL d : Nat} {L : xm_L} {m m' : xw_M} {ex : xm_H} {ns : Nat} {r : xw_R} {q0 : Int} (h : xwR B (xm_gg xs SL) xq_P d 40 (3, none, [], 2) [xa 1, xi q0] m none m') (k : xw B (xm_gg xs SL) xq_P (d + 1) 37 (6, (some .int), [], 1) 32 L [] m' ex ns r) : xw B (xm_gg xs SL) xq_P (d + 1) 37 (6, (some .int), [], 1) 29 L [xi q0, xa 1] m ex ns r := xw_call rfl rfl rfl rfl rfl rfl rfl rfl rfl rfl (fun _ => xw_rcv1 (t := 1) (xw_obd (by decide +kernel)) rfl) h k
theorem xe37_29 {B : Nat} {xs : Nat → Int32} {SL d : Nat} {L : xm_L} {m m' : xw_M} {ex : xm_H} {ns : Nat} {t : Nat} {q0 : Int} (hc : 606 + ex.length ≤ xm_cm) (hs : ns + 6 ≤ xm_sm) (h : xwX B (xm_gg xs SL) xq_P d 40 (3, none, [], 2) [xa 1, xi q0] m t m') : xw B (xm_gg xs SL) xq_P (d + 1) 37 (6, (some .int), [], 1) 29 L [xi q0, xa 1] m ex ns (.inr (605 + ex.length), xw_h B m' (ex ++ [(t, List.replicate 6 .null)]), ns + 6) := xw_callT rfl rfl rfl rfl rfl rfl rfl rfl rfl (fun _ => xw_rcv1 (t := 1) (xw_obd (by decide +kernel)) rfl) rfl hc hs h
theorem xb37_24_0 {B : Nat} (hB : B ≤ 512) {xs : Nat → Int32} {SL d : Nat} {m : xw_M} {ex : xm_H} {ns : Nat} {r : xw_R} {x1 x2 x3 x4 x5 : Int}  (k : xw B (xm_gg xs SL) xq_P d 37 (6, (some .int), [], 1) 29 [(0, xa 0), (2, xi x2), (3, xi x3), (4, xi x4), (5, xi x5)] [xi x1, xa 1] m ex ns r) : xw B (xm_gg xs SL) xq_P d 37 (6, (some .int), [], 1) 24 [(0, xa 0), (1, xi x1), (2, xi x2), (3, xi x3), (4, xi x4), (5, xi x5)] [] m ex ns r := by
  refine xw_aload_n rfl rfl rfl ?_
  refine xw_gfR (n := 1) (e := 1) rfl (xw_obd (by decide +kernel)) (by decide +kernel) (by decide +kernel) rfl ?_
  refine xw_iload_n rfl rfl ?_
  refine xw_lo (L2 := [(0, xa 0), (2, xi x2), (3, xi x3), (4, xi x4), (5, xi x5)]) (List.forall_mem_cons.mpr ⟨rfl, List.forall_mem_cons.mpr ⟨rfl, List.forall_mem_cons.mpr ⟨rfl, List.forall_mem_cons.mpr ⟨rfl, List.forall_mem_cons.mpr ⟨rfl, fun _ h => absurd h List.not_mem_nil⟩⟩⟩⟩⟩) ?_
  exact k
theorem xc37_37 {B : Nat} {xs : Nat → Int32} {SL d : Nat} {L : xm_L} {m m' : xw_M} {ex : xm_H} {ns : Nat} {r : xw_R} {q0 : Int} (h : xwR B (xm_gg xs SL) xq_P d 40 (3, none, [], 2) [xa 1, xi q0] m none m') (k : xw B (xm_gg xs SL) xq_P (d + 1) 37 (6, (some .int), [], 1) 40 L [] m' ex ns r) : xw B (xm_gg xs SL) xq_P (d + 1) 37 (6, (some .int), [], 1) 37 L [xi q0, xa 1] m ex ns r := xw_call rfl rfl rfl rfl rfl rfl rfl rfl rfl rfl (fun _ => xw_rcv1 (t := 1) (xw_obd (by decide +kernel)) rfl) h k
theorem xe37_37 {B : Nat} {xs : Nat → Int32} {SL d : Nat} {L : xm_L} {m m' : xw_M} {ex : xm_H} {ns : Nat} {t : Nat} {q0 : Int} (hc : 606 + ex.length ≤ xm_cm) (hs : ns + 6 ≤ xm_sm) (h : xwX B (xm_gg xs SL) xq_P d 40 (3, none, [], 2) [xa 1, xi q0] m t m') : xw B (xm_gg xs SL) xq_P (d + 1) 37 (6, (some .int), [], 1) 37 L [xi q0, xa 1] m ex ns (.inr (605 + ex.length), xw_h B m' (ex ++ [(t, List.replicate 6 .null)]), ns + 6) := xw_callT rfl rfl rfl rfl rfl rfl rfl rfl rfl (fun _ => xw_rcv1 (t := 1) (xw_obd (by decide +kernel)) rfl) rfl hc hs h
theorem xb37_32_0 {B : Nat} (hB : B ≤ 512) {xs : Nat → Int32} {SL d : Nat} {m : xw_M} {ex : xm_H} {ns : Nat} {r : xw_R} {x2 x3 x4 x5 : Int}  (k : xw B (xm_gg xs SL) xq_P d 37 (6, (some .int), [], 1) 37 [(0, xa 0), (3, xi x3), (4, xi x4), (5, xi x5)] [xi x2, xa 1] m ex ns r) : xw B (xm_gg xs SL) xq_P d 37 (6, (some .int), [], 1) 32 [(0, xa 0), (2, xi x2), (3, xi x3), (4, xi x4), (5, xi x5)] [] m ex ns r := by
  refine xw_aload_n rfl rfl rfl ?_
  refine xw_gfR (n := 1) (e := 1) rfl (xw_obd (by decide +kernel)) (by decide +kernel) (by decide +kernel) rfl ?_
  refine xw_iload_n rfl rfl ?_
  refine xw_lo (L2 := [(0, xa 0), (3, xi x3), (4, xi x4), (5, xi x5)]) (List.forall_mem_cons.mpr ⟨rfl, List.forall_mem_cons.mpr ⟨rfl, List.forall_mem_cons.mpr ⟨rfl, List.forall_mem_cons.mpr ⟨rfl, fun _ h => absurd h List.not_mem_nil⟩⟩⟩⟩) ?_
  exact k
theorem xc37_45 {B : Nat} {xs : Nat → Int32} {SL d : Nat} {L : xm_L} {m m' : xw_M} {ex : xm_H} {ns : Nat} {r : xw_R} {q0 : Int} (h : xwR B (xm_gg xs SL) xq_P d 40 (3, none, [], 2) [xa 1, xi q0] m none m') (k : xw B (xm_gg xs SL) xq_P (d + 1) 37 (6, (some .int), [], 1) 48 L [] m' ex ns r) : xw B (xm_gg xs SL) xq_P (d + 1) 37 (6, (some .int), [], 1) 45 L [xi q0, xa 1] m ex ns r := xw_call rfl rfl rfl rfl rfl rfl rfl rfl rfl rfl (fun _ => xw_rcv1 (t := 1) (xw_obd (by decide +kernel)) rfl) h k
theorem xe37_45 {B : Nat} {xs : Nat → Int32} {SL d : Nat} {L : xm_L} {m m' : xw_M} {ex : xm_H} {ns : Nat} {t : Nat} {q0 : Int} (hc : 606 + ex.length ≤ xm_cm) (hs : ns + 6 ≤ xm_sm) (h : xwX B (xm_gg xs SL) xq_P d 40 (3, none, [], 2) [xa 1, xi q0] m t m') : xw B (xm_gg xs SL) xq_P (d + 1) 37 (6, (some .int), [], 1) 45 L [xi q0, xa 1] m ex ns (.inr (605 + ex.length), xw_h B m' (ex ++ [(t, List.replicate 6 .null)]), ns + 6) := xw_callT rfl rfl rfl rfl rfl rfl rfl rfl rfl (fun _ => xw_rcv1 (t := 1) (xw_obd (by decide +kernel)) rfl) rfl hc hs h
theorem xb37_40_0 {B : Nat} (hB : B ≤ 512) {xs : Nat → Int32} {SL d : Nat} {m : xw_M} {ex : xm_H} {ns : Nat} {r : xw_R} {x3 x4 x5 : Int}  (k : xw B (xm_gg xs SL) xq_P d 37 (6, (some .int), [], 1) 45 [(0, xa 0), (4, xi x4), (5, xi x5)] [xi x3, xa 1] m ex ns r) : xw B (xm_gg xs SL) xq_P d 37 (6, (some .int), [], 1) 40 [(0, xa 0), (3, xi x3), (4, xi x4), (5, xi x5)] [] m ex ns r := by
  refine xw_aload_n rfl rfl rfl ?_
  refine xw_gfR (n := 1) (e := 1) rfl (xw_obd (by decide +kernel)) (by decide +kernel) (by decide +kernel) rfl ?_
  refine xw_iload_n rfl rfl ?_
  refine xw_lo (L2 := [(0, xa 0), (4, xi x4), (5, xi x5)]) (List.forall_mem_cons.mpr ⟨rfl, List.forall_mem_cons.mpr ⟨rfl, List.forall_mem_cons.mpr ⟨rfl, fun _ h => absurd h List.not_mem_nil⟩⟩⟩) ?_
  exact k
theorem xc37_54 {B : Nat} {xs : Nat → Int32} {SL d : Nat} {L : xm_L} {m m' : xw_M} {ex : xm_H} {ns : Nat} {r : xw_R} {q0 : Int} (h : xwR B (xm_gg xs SL) xq_P d 40 (3, none, [], 2) [xa 1, xi q0] m none m') (k : xw B (xm_gg xs SL) xq_P (d + 1) 37 (6, (some .int), [], 1) 57 L [] m' ex ns r) : xw B (xm_gg xs SL) xq_P (d + 1) 37 (6, (some .int), [], 1) 54 L [xi q0, xa 1] m ex ns r := xw_call rfl rfl rfl rfl rfl rfl rfl rfl rfl rfl (fun _ => xw_rcv1 (t := 1) (xw_obd (by decide +kernel)) rfl) h k
theorem xe37_54 {B : Nat} {xs : Nat → Int32} {SL d : Nat} {L : xm_L} {m m' : xw_M} {ex : xm_H} {ns : Nat} {t : Nat} {q0 : Int} (hc : 606 + ex.length ≤ xm_cm) (hs : ns + 6 ≤ xm_sm) (h : xwX B (xm_gg xs SL) xq_P d 40 (3, none, [], 2) [xa 1, xi q0] m t m') : xw B (xm_gg xs SL) xq_P (d + 1) 37 (6, (some .int), [], 1) 54 L [xi q0, xa 1] m ex ns (.inr (605 + ex.length), xw_h B m' (ex ++ [(t, List.replicate 6 .null)]), ns + 6) := xw_callT rfl rfl rfl rfl rfl rfl rfl rfl rfl (fun _ => xw_rcv1 (t := 1) (xw_obd (by decide +kernel)) rfl) rfl hc hs h
theorem xb37_48_0 {B : Nat} (hB : B ≤ 512) {xs : Nat → Int32} {SL d : Nat} {m : xw_M} {ex : xm_H} {ns : Nat} {r : xw_R} {x4 x5 : Int}  (k : xw B (xm_gg xs SL) xq_P d 37 (6, (some .int), [], 1) 54 [(0, xa 0), (5, xi x5)] [xi x4, xa 1] m ex ns r) : xw B (xm_gg xs SL) xq_P d 37 (6, (some .int), [], 1) 48 [(0, xa 0), (4, xi x4), (5, xi x5)] [] m ex ns r := by
  refine xw_aload_n rfl rfl rfl ?_
  refine xw_gfR (n := 1) (e := 1) rfl (xw_obd (by decide +kernel)) (by decide +kernel) (by decide +kernel) rfl ?_
  refine xw_iload rfl rfl ?_
  refine xw_lo (L2 := [(0, xa 0), (5, xi x5)]) (List.forall_mem_cons.mpr ⟨rfl, List.forall_mem_cons.mpr ⟨rfl, fun _ h => absurd h List.not_mem_nil⟩⟩) ?_
  exact k
theorem xc37_63 {B : Nat} {xs : Nat → Int32} {SL d : Nat} {L : xm_L} {m m' : xw_M} {ex : xm_H} {ns : Nat} {r : xw_R} {q0 : Int} (h : xwR B (xm_gg xs SL) xq_P d 40 (3, none, [], 2) [xa 1, xi q0] m none m') (k : xw B (xm_gg xs SL) xq_P (d + 1) 37 (6, (some .int), [], 1) 66 L [] m' ex ns r) : xw B (xm_gg xs SL) xq_P (d + 1) 37 (6, (some .int), [], 1) 63 L [xi q0, xa 1] m ex ns r := xw_call rfl rfl rfl rfl rfl rfl rfl rfl rfl rfl (fun _ => xw_rcv1 (t := 1) (xw_obd (by decide +kernel)) rfl) h k
theorem xe37_63 {B : Nat} {xs : Nat → Int32} {SL d : Nat} {L : xm_L} {m m' : xw_M} {ex : xm_H} {ns : Nat} {t : Nat} {q0 : Int} (hc : 606 + ex.length ≤ xm_cm) (hs : ns + 6 ≤ xm_sm) (h : xwX B (xm_gg xs SL) xq_P d 40 (3, none, [], 2) [xa 1, xi q0] m t m') : xw B (xm_gg xs SL) xq_P (d + 1) 37 (6, (some .int), [], 1) 63 L [xi q0, xa 1] m ex ns (.inr (605 + ex.length), xw_h B m' (ex ++ [(t, List.replicate 6 .null)]), ns + 6) := xw_callT rfl rfl rfl rfl rfl rfl rfl rfl rfl (fun _ => xw_rcv1 (t := 1) (xw_obd (by decide +kernel)) rfl) rfl hc hs h
theorem xb37_57_0 {B : Nat} (hB : B ≤ 512) {xs : Nat → Int32} {SL d : Nat} {m : xw_M} {ex : xm_H} {ns : Nat} {r : xw_R} {x5 : Int}  (k : xw B (xm_gg xs SL) xq_P d 37 (6, (some .int), [], 1) 63 [(0, xa 0)] [xi x5, xa 1] m ex ns r) : xw B (xm_gg xs SL) xq_P d 37 (6, (some .int), [], 1) 57 [(0, xa 0), (5, xi x5)] [] m ex ns r := by
  refine xw_aload_n rfl rfl rfl ?_
  refine xw_gfR (n := 1) (e := 1) rfl (xw_obd (by decide +kernel)) (by decide +kernel) (by decide +kernel) rfl ?_
  refine xw_iload rfl rfl ?_
  refine xw_lo (L2 := [(0, xa 0)]) (List.forall_mem_cons.mpr ⟨rfl, fun _ h => absurd h List.not_mem_nil⟩) ?_
  exact k
theorem xb37_66_0 {B : Nat} (hB : B ≤ 512) {xs : Nat → Int32} {SL d : Nat} {m : xw_M} {ex : xm_H} {ns : Nat}  : xw B (xm_gg xs SL) xq_P d 37 (6, (some .int), [], 1) 66 [(0, xa 0)] [] m ex ns (.inl (some (xi (m 1 1))), xw_h B m ex, ns) := by
  refine xw_aload_n rfl rfl rfl ?_
  refine xw_gfR (n := 1) (e := 1) rfl (xw_obd (by decide +kernel)) (by decide +kernel) (by decide +kernel) rfl ?_
  refine xw_gfI (v := (m 1 1)) rfl (xw_obd (by decide +kernel)) xk1_1 (qi := 1) rfl rfl ?_
  exact xw_ret rfl rfl xw_rtI
theorem xb245_0_0 {B : Nat} (hB : B ≤ 512) {xs : Nat → Int32} {SL d : Nat} {m : xw_M} {ex : xm_H} {ns : Nat} {p0 : Int} (h0 : 0 ≤ (m 536 5) ∧ (m 536 5) < 65536) (h1 : 0 ≤ ((m 536 5) + 1) ∧ ((m 536 5) + 1) < 65536) (h2 : 0 ≤ ((m 536 5) + 2) ∧ ((m 536 5) + 2) < 65536) (h3 : 0 ≤ ((m 536 5) + 3) ∧ ((m 536 5) + 3) < 65536) : xw B (xm_gg xs SL) xq_P d 245 (2, none, [], 13) 0 [(0, xa 536), (1, xi p0)] [] m ex ns (.inl none, xw_h B (xw_u (xw_u (xw_u (xw_u (xw_u m 537 (m 536 5) (Int.bmod (Int.bmod (xw_ishrf p0 24) 256) 256)) 537 ((m 536 5) + 1) (Int.bmod (Int.bmod (xw_ishrf p0 16) 256) 256)) 537 ((m 536 5) + 2) (Int.bmod (Int.bmod (xw_ishrf p0 8) 256) 256)) 537 ((m 536 5) + 3) (Int.bmod (Int.bmod p0 256) 256)) 536 5 ((m 536 5) + 4)) ex, ns) := by
  refine xw_aload_n rfl rfl rfl ?_
  refine xw_gfR (n := 537) (e := 537) rfl (xw_obd (by decide +kernel)) (by decide +kernel) (by decide +kernel) rfl ?_
  refine xw_aload_n rfl rfl rfl ?_
  refine xw_gfI (v := (m 536 5)) rfl (xw_obd (by decide +kernel)) xk12_5 (qi := 5) rfl rfl ?_
  refine xw_iload_n rfl rfl ?_
  refine xw_bipush (e := 24) rfl (by decide +kernel) ?_
  refine xw_ishr (z := (xw_ishrf p0 24)) rfl (xw_ishre _ _) ?_
  refine xw_i2b rfl ?_
  refine xw_bast rfl hB (xw_obd (by decide +kernel)) rfl h0 ?_
  refine xw_aload_n rfl rfl rfl ?_
  refine xw_gfR (n := 537) (e := 537) rfl (xw_obd (by decide +kernel)) (by decide +kernel) (by decide +kernel) rfl ?_
  refine xw_aload_n rfl rfl rfl ?_
  refine xw_gfI (v := (m 536 5)) rfl (xw_obd (by decide +kernel)) xk12_5 (qi := 5) rfl (xw_un (by omega) rfl) ?_
  refine xw_iconst rfl ?_
  refine xw_iadd rfl ?_
  refine xw_iload_n rfl rfl ?_
  refine xw_bipush (e := 16) rfl (by decide +kernel) ?_
  refine xw_ishr (z := (xw_ishrf p0 16)) rfl (xw_ishre _ _) ?_
  refine xw_i2b rfl ?_
  refine xw_bast rfl hB (xw_obd (by decide +kernel)) rfl h1 ?_
  refine xw_aload_n rfl rfl rfl ?_
  refine xw_gfR (n := 537) (e := 537) rfl (xw_obd (by decide +kernel)) (by decide +kernel) (by decide +kernel) rfl ?_
  refine xw_aload_n rfl rfl rfl ?_
  refine xw_gfI (v := (m 536 5)) rfl (xw_obd (by decide +kernel)) xk12_5 (qi := 5) rfl (xw_un (by omega) (xw_un (by omega) rfl)) ?_
  refine xw_iconst rfl ?_
  refine xw_iadd rfl ?_
  refine xw_iload_n rfl rfl ?_
  refine xw_bipush (e := 8) rfl (by decide +kernel) ?_
  refine xw_ishr (z := (xw_ishrf p0 8)) rfl (xw_ishre _ _) ?_
  refine xw_i2b rfl ?_
  refine xw_bast rfl hB (xw_obd (by decide +kernel)) rfl h2 ?_
  refine xw_aload_n rfl rfl rfl ?_
  refine xw_gfR (n := 537) (e := 537) rfl (xw_obd (by decide +kernel)) (by decide +kernel) (by decide +kernel) rfl ?_
  refine xw_aload_n rfl rfl rfl ?_
  refine xw_gfI (v := (m 536 5)) rfl (xw_obd (by decide +kernel)) xk12_5 (qi := 5) rfl (xw_un (by omega) (xw_un (by omega) (xw_un (by omega) rfl))) ?_
  refine xw_iconst rfl ?_
  refine xw_iadd rfl ?_
  refine xw_iload_n rfl rfl ?_
  refine xw_i2b rfl ?_
  refine xw_bast rfl hB (xw_obd (by decide +kernel)) rfl h3 ?_
  refine xw_aload_n rfl rfl rfl ?_
  refine xw_dup rfl rfl ?_
  refine xw_gfI (v := (m 536 5)) rfl (xw_obd (by decide +kernel)) xk12_5 (qi := 5) rfl (xw_un (by omega) (xw_un (by omega) (xw_un (by omega) (xw_un (by omega) rfl)))) ?_
  refine xw_iconst rfl ?_
  refine xw_iadd rfl ?_
  refine xw_pfI rfl (xw_obd (by decide +kernel)) xk12_5 (qi := 5) rfl (xw_okI rfl) ?_
  exact xw_ret rfl rfl rfl
theorem xb244_0_0 {B : Nat} (hB : B ≤ 512) {xs : Nat → Int32} {SL d : Nat} {m : xw_M} {ex : xm_H} {ns : Nat} {p0 p1 p2 p3 p4 : Int} (h0 : -2147483648 ≤ (m 536 3) ∧ (m 536 3) < 2147483648) (h1 : ¬ (m 536 3) = 0) : xw B (xm_gg xs SL) xq_P d 244 (6, (some .int), [], 13) 0 [(0, xa 536), (1, xi p0), (2, xi p1), (3, xi p2), (4, xi p3), (5, xi p4)] [] m ex ns (.inl (some (xi 0)), xw_h B (xw_u m 536 1 1) ex, ns) := by
  refine xw_aload_n rfl rfl rfl ?_
  refine xw_aload_n rfl rfl rfl ?_
  refine xw_gfI (v := (m 536 3)) rfl (xw_obd (by decide +kernel)) xk12_3 (qi := 3) rfl rfl ?_
  refine xw_if_neT rfl h0 h1 ?_
  refine xw_iconst rfl ?_
  refine xw_goto rfl ?_
  refine xw_pfI rfl (xw_obd (by decide +kernel)) xk12_1 (qi := 1) rfl (xw_okI rfl) ?_
  refine xw_aload_n rfl rfl rfl ?_
  refine xw_gfI (v := 1) rfl (xw_obd (by decide +kernel)) xk12_1 (qi := 1) rfl xw_us ?_
  refine xw_if_leF rfl ⟨by decide, by decide⟩ (by decide) ?_
  refine xw_iconst rfl ?_
  exact xw_ret rfl rfl xw_rtI
theorem xc244_39 {B : Nat} {xs : Nat → Int32} {SL d : Nat} {L : xm_L} {m m' : xw_M} {ex : xm_H} {ns : Nat} {r : xw_R} {q0 : Int} (h : xwR B (xm_gg xs SL) xq_P d 245 (2, none, [], 13) [xa 536, xi q0] m none m') (k : xw B (xm_gg xs SL) xq_P (d + 1) 244 (6, (some .int), [], 13) 42 L [] m' ex ns r) : xw B (xm_gg xs SL) xq_P (d + 1) 244 (6, (some .int), [], 13) 39 L [xi q0, xa 536] m ex ns r := xw_call rfl rfl rfl rfl rfl rfl rfl rfl rfl rfl (fun _ => xw_rcv1 (t := 12) (xw_obd (by decide +kernel)) rfl) h k
theorem xe244_39 {B : Nat} {xs : Nat → Int32} {SL d : Nat} {L : xm_L} {m m' : xw_M} {ex : xm_H} {ns : Nat} {t : Nat} {q0 : Int} (hc : 606 + ex.length ≤ xm_cm) (hs : ns + 6 ≤ xm_sm) (h : xwX B (xm_gg xs SL) xq_P d 245 (2, none, [], 13) [xa 536, xi q0] m t m') : xw B (xm_gg xs SL) xq_P (d + 1) 244 (6, (some .int), [], 13) 39 L [xi q0, xa 536] m ex ns (.inr (605 + ex.length), xw_h B m' (ex ++ [(t, List.replicate 6 .null)]), ns + 6) := xw_callT rfl rfl rfl rfl rfl rfl rfl rfl rfl (fun _ => xw_rcv1 (t := 12) (xw_obd (by decide +kernel)) rfl) rfl hc hs h
theorem xb244_0_1 {B : Nat} (hB : B ≤ 512) {xs : Nat → Int32} {SL d : Nat} {m : xw_M} {ex : xm_H} {ns : Nat} {r : xw_R} {p0 p1 p2 p3 p4 : Int} (h0 : -2147483648 ≤ (m 536 3) ∧ (m 536 3) < 2147483648) (h1 : (m 536 3) = 0) (h2 : -2147483648 ≤ ((m 536 5) + 20) ∧ ((m 536 5) + 20) < 2147483648) (h3 : ((m 536 5) + 20) ≤ 65536) (k : xw B (xm_gg xs SL) xq_P d 244 (6, (some .int), [], 13) 39 [(0, xa 536), (2, xi p1), (3, xi p2), (4, xi p3), (5, xi p4)] [xi p0, xa 536] (xw_u m 536 1 0) ex ns r) : xw B (xm_gg xs SL) xq_P d 244 (6, (some .int), [], 13) 0 [(0, xa 536), (1, xi p0), (2, xi p1), (3, xi p2), (4, xi p3), (5, xi p4)] [] m ex ns r := by
  refine xw_aload_n rfl rfl rfl ?_
  refine xw_aload_n rfl rfl rfl ?_
  refine xw_gfI (v := (m 536 3)) rfl (xw_obd (by decide +kernel)) xk12_3 (qi := 3) rfl rfl ?_
  refine xw_if_neF rfl h0 h1 ?_
  refine xw_aload_n rfl rfl rfl ?_
  refine xw_gfI (v := (m 536 5)) rfl (xw_obd (by decide +kernel)) xk12_5 (qi := 5) rfl rfl ?_
  refine xw_bipush (e := 20) rfl (by decide +kernel) ?_
  refine xw_iadd rfl ?_
  refine xw_ldc (e := 65536) rfl (by decide +kernel) ?_
  refine xw_ic_leT rfl h2 ⟨by decide, by decide⟩ h3 ?_
  refine xw_iconst rfl ?_
  refine xw_pfI rfl (xw_obd (by decide +kernel)) xk12_1 (qi := 1) rfl (xw_okI rfl) ?_
  refine xw_aload_n rfl rfl rfl ?_
  refine xw_gfI (v := 0) rfl (xw_obd (by decide +kernel)) xk12_1 (qi := 1) rfl xw_us ?_
  refine xw_if_leT rfl ⟨by decide, by decide⟩ (by decide) ?_
  refine xw_aload_n rfl rfl rfl ?_
  refine xw_iload_n rfl rfl ?_
  refine xw_lo (L2 := [(0, xa 536), (2, xi p1), (3, xi p2), (4, xi p3), (5, xi p4)]) (List.forall_mem_cons.mpr ⟨rfl, List.forall_mem_cons.mpr ⟨rfl, List.forall_mem_cons.mpr ⟨rfl, List.forall_mem_cons.mpr ⟨rfl, List.forall_mem_cons.mpr ⟨rfl, fun _ h => absurd h List.not_mem_nil⟩⟩⟩⟩⟩) ?_
  exact k
theorem xb244_0_2 {B : Nat} (hB : B ≤ 512) {xs : Nat → Int32} {SL d : Nat} {m : xw_M} {ex : xm_H} {ns : Nat} {p0 p1 p2 p3 p4 : Int} (h0 : -2147483648 ≤ (m 536 3) ∧ (m 536 3) < 2147483648) (h1 : (m 536 3) = 0) (h2 : -2147483648 ≤ ((m 536 5) + 20) ∧ ((m 536 5) + 20) < 2147483648) (h3 : ¬ (((m 536 5) + 20) ≤ 65536)) : xw B (xm_gg xs SL) xq_P d 244 (6, (some .int), [], 13) 0 [(0, xa 536), (1, xi p0), (2, xi p1), (3, xi p2), (4, xi p3), (5, xi p4)] [] m ex ns (.inl (some (xi 0)), xw_h B (xw_u m 536 1 1) ex, ns) := by
  refine xw_aload_n rfl rfl rfl ?_
  refine xw_aload_n rfl rfl rfl ?_
  refine xw_gfI (v := (m 536 3)) rfl (xw_obd (by decide +kernel)) xk12_3 (qi := 3) rfl rfl ?_
  refine xw_if_neF rfl h0 h1 ?_
  refine xw_aload_n rfl rfl rfl ?_
  refine xw_gfI (v := (m 536 5)) rfl (xw_obd (by decide +kernel)) xk12_5 (qi := 5) rfl rfl ?_
  refine xw_bipush (e := 20) rfl (by decide +kernel) ?_
  refine xw_iadd rfl ?_
  refine xw_ldc (e := 65536) rfl (by decide +kernel) ?_
  refine xw_ic_leF rfl h2 ⟨by decide, by decide⟩ h3 ?_
  refine xw_iconst rfl ?_
  refine xw_goto rfl ?_
  refine xw_pfI rfl (xw_obd (by decide +kernel)) xk12_1 (qi := 1) rfl (xw_okI rfl) ?_
  refine xw_aload_n rfl rfl rfl ?_
  refine xw_gfI (v := 1) rfl (xw_obd (by decide +kernel)) xk12_1 (qi := 1) rfl xw_us ?_
  refine xw_if_leF rfl ⟨by decide, by decide⟩ (by decide) ?_
  refine xw_iconst rfl ?_
  exact xw_ret rfl rfl xw_rtI
theorem xc244_44 {B : Nat} {xs : Nat → Int32} {SL d : Nat} {L : xm_L} {m m' : xw_M} {ex : xm_H} {ns : Nat} {r : xw_R} {q0 : Int} (h : xwR B (xm_gg xs SL) xq_P d 245 (2, none, [], 13) [xa 536, xi q0] m none m') (k : xw B (xm_gg xs SL) xq_P (d + 1) 244 (6, (some .int), [], 13) 47 L [] m' ex ns r) : xw B (xm_gg xs SL) xq_P (d + 1) 244 (6, (some .int), [], 13) 44 L [xi q0, xa 536] m ex ns r := xw_call rfl rfl rfl rfl rfl rfl rfl rfl rfl rfl (fun _ => xw_rcv1 (t := 12) (xw_obd (by decide +kernel)) rfl) h k
theorem xe244_44 {B : Nat} {xs : Nat → Int32} {SL d : Nat} {L : xm_L} {m m' : xw_M} {ex : xm_H} {ns : Nat} {t : Nat} {q0 : Int} (hc : 606 + ex.length ≤ xm_cm) (hs : ns + 6 ≤ xm_sm) (h : xwX B (xm_gg xs SL) xq_P d 245 (2, none, [], 13) [xa 536, xi q0] m t m') : xw B (xm_gg xs SL) xq_P (d + 1) 244 (6, (some .int), [], 13) 44 L [xi q0, xa 536] m ex ns (.inr (605 + ex.length), xw_h B m' (ex ++ [(t, List.replicate 6 .null)]), ns + 6) := xw_callT rfl rfl rfl rfl rfl rfl rfl rfl rfl (fun _ => xw_rcv1 (t := 12) (xw_obd (by decide +kernel)) rfl) rfl hc hs h
theorem xb244_42_0 {B : Nat} (hB : B ≤ 512) {xs : Nat → Int32} {SL d : Nat} {m : xw_M} {ex : xm_H} {ns : Nat} {r : xw_R} {x2 x3 x4 x5 : Int}  (k : xw B (xm_gg xs SL) xq_P d 244 (6, (some .int), [], 13) 44 [(0, xa 536), (3, xi x3), (4, xi x4), (5, xi x5)] [xi x2, xa 536] m ex ns r) : xw B (xm_gg xs SL) xq_P d 244 (6, (some .int), [], 13) 42 [(0, xa 536), (2, xi x2), (3, xi x3), (4, xi x4), (5, xi x5)] [] m ex ns r := by
  refine xw_aload_n rfl rfl rfl ?_
  refine xw_iload_n rfl rfl ?_
  refine xw_lo (L2 := [(0, xa 536), (3, xi x3), (4, xi x4), (5, xi x5)]) (List.forall_mem_cons.mpr ⟨rfl, List.forall_mem_cons.mpr ⟨rfl, List.forall_mem_cons.mpr ⟨rfl, List.forall_mem_cons.mpr ⟨rfl, fun _ h => absurd h List.not_mem_nil⟩⟩⟩⟩) ?_
  exact k
theorem xc244_49 {B : Nat} {xs : Nat → Int32} {SL d : Nat} {L : xm_L} {m m' : xw_M} {ex : xm_H} {ns : Nat} {r : xw_R} {q0 : Int} (h : xwR B (xm_gg xs SL) xq_P d 245 (2, none, [], 13) [xa 536, xi q0] m none m') (k : xw B (xm_gg xs SL) xq_P (d + 1) 244 (6, (some .int), [], 13) 52 L [] m' ex ns r) : xw B (xm_gg xs SL) xq_P (d + 1) 244 (6, (some .int), [], 13) 49 L [xi q0, xa 536] m ex ns r := xw_call rfl rfl rfl rfl rfl rfl rfl rfl rfl rfl (fun _ => xw_rcv1 (t := 12) (xw_obd (by decide +kernel)) rfl) h k
theorem xe244_49 {B : Nat} {xs : Nat → Int32} {SL d : Nat} {L : xm_L} {m m' : xw_M} {ex : xm_H} {ns : Nat} {t : Nat} {q0 : Int} (hc : 606 + ex.length ≤ xm_cm) (hs : ns + 6 ≤ xm_sm) (h : xwX B (xm_gg xs SL) xq_P d 245 (2, none, [], 13) [xa 536, xi q0] m t m') : xw B (xm_gg xs SL) xq_P (d + 1) 244 (6, (some .int), [], 13) 49 L [xi q0, xa 536] m ex ns (.inr (605 + ex.length), xw_h B m' (ex ++ [(t, List.replicate 6 .null)]), ns + 6) := xw_callT rfl rfl rfl rfl rfl rfl rfl rfl rfl (fun _ => xw_rcv1 (t := 12) (xw_obd (by decide +kernel)) rfl) rfl hc hs h
theorem xb244_47_0 {B : Nat} (hB : B ≤ 512) {xs : Nat → Int32} {SL d : Nat} {m : xw_M} {ex : xm_H} {ns : Nat} {r : xw_R} {x3 x4 x5 : Int}  (k : xw B (xm_gg xs SL) xq_P d 244 (6, (some .int), [], 13) 49 [(0, xa 536), (4, xi x4), (5, xi x5)] [xi x3, xa 536] m ex ns r) : xw B (xm_gg xs SL) xq_P d 244 (6, (some .int), [], 13) 47 [(0, xa 536), (3, xi x3), (4, xi x4), (5, xi x5)] [] m ex ns r := by
  refine xw_aload_n rfl rfl rfl ?_
  refine xw_iload_n rfl rfl ?_
  refine xw_lo (L2 := [(0, xa 536), (4, xi x4), (5, xi x5)]) (List.forall_mem_cons.mpr ⟨rfl, List.forall_mem_cons.mpr ⟨rfl, List.forall_mem_cons.mpr ⟨rfl, fun _ h => absurd h List.not_mem_nil⟩⟩⟩) ?_
  exact k
theorem xc244_55 {B : Nat} {xs : Nat → Int32} {SL d : Nat} {L : xm_L} {m m' : xw_M} {ex : xm_H} {ns : Nat} {r : xw_R} {q0 : Int} (h : xwR B (xm_gg xs SL) xq_P d 245 (2, none, [], 13) [xa 536, xi q0] m none m') (k : xw B (xm_gg xs SL) xq_P (d + 1) 244 (6, (some .int), [], 13) 58 L [] m' ex ns r) : xw B (xm_gg xs SL) xq_P (d + 1) 244 (6, (some .int), [], 13) 55 L [xi q0, xa 536] m ex ns r := xw_call rfl rfl rfl rfl rfl rfl rfl rfl rfl rfl (fun _ => xw_rcv1 (t := 12) (xw_obd (by decide +kernel)) rfl) h k
theorem xe244_55 {B : Nat} {xs : Nat → Int32} {SL d : Nat} {L : xm_L} {m m' : xw_M} {ex : xm_H} {ns : Nat} {t : Nat} {q0 : Int} (hc : 606 + ex.length ≤ xm_cm) (hs : ns + 6 ≤ xm_sm) (h : xwX B (xm_gg xs SL) xq_P d 245 (2, none, [], 13) [xa 536, xi q0] m t m') : xw B (xm_gg xs SL) xq_P (d + 1) 244 (6, (some .int), [], 13) 55 L [xi q0, xa 536] m ex ns (.inr (605 + ex.length), xw_h B m' (ex ++ [(t, List.replicate 6 .null)]), ns + 6) := xw_callT rfl rfl rfl rfl rfl rfl rfl rfl rfl (fun _ => xw_rcv1 (t := 12) (xw_obd (by decide +kernel)) rfl) rfl hc hs h
theorem xb244_52_0 {B : Nat} (hB : B ≤ 512) {xs : Nat → Int32} {SL d : Nat} {m : xw_M} {ex : xm_H} {ns : Nat} {r : xw_R} {x4 x5 : Int}  (k : xw B (xm_gg xs SL) xq_P d 244 (6, (some .int), [], 13) 55 [(0, xa 536), (5, xi x5)] [xi x4, xa 536] m ex ns r) : xw B (xm_gg xs SL) xq_P d 244 (6, (some .int), [], 13) 52 [(0, xa 536), (4, xi x4), (5, xi x5)] [] m ex ns r := by
  refine xw_aload_n rfl rfl rfl ?_
  refine xw_iload rfl rfl ?_
  refine xw_lo (L2 := [(0, xa 536), (5, xi x5)]) (List.forall_mem_cons.mpr ⟨rfl, List.forall_mem_cons.mpr ⟨rfl, fun _ h => absurd h List.not_mem_nil⟩⟩) ?_
  exact k
theorem xc244_61 {B : Nat} {xs : Nat → Int32} {SL d : Nat} {L : xm_L} {m m' : xw_M} {ex : xm_H} {ns : Nat} {r : xw_R} {q0 : Int} (h : xwR B (xm_gg xs SL) xq_P d 245 (2, none, [], 13) [xa 536, xi q0] m none m') (k : xw B (xm_gg xs SL) xq_P (d + 1) 244 (6, (some .int), [], 13) 64 L [] m' ex ns r) : xw B (xm_gg xs SL) xq_P (d + 1) 244 (6, (some .int), [], 13) 61 L [xi q0, xa 536] m ex ns r := xw_call rfl rfl rfl rfl rfl rfl rfl rfl rfl rfl (fun _ => xw_rcv1 (t := 12) (xw_obd (by decide +kernel)) rfl) h k
theorem xe244_61 {B : Nat} {xs : Nat → Int32} {SL d : Nat} {L : xm_L} {m m' : xw_M} {ex : xm_H} {ns : Nat} {t : Nat} {q0 : Int} (hc : 606 + ex.length ≤ xm_cm) (hs : ns + 6 ≤ xm_sm) (h : xwX B (xm_gg xs SL) xq_P d 245 (2, none, [], 13) [xa 536, xi q0] m t m') : xw B (xm_gg xs SL) xq_P (d + 1) 244 (6, (some .int), [], 13) 61 L [xi q0, xa 536] m ex ns (.inr (605 + ex.length), xw_h B m' (ex ++ [(t, List.replicate 6 .null)]), ns + 6) := xw_callT rfl rfl rfl rfl rfl rfl rfl rfl rfl (fun _ => xw_rcv1 (t := 12) (xw_obd (by decide +kernel)) rfl) rfl hc hs h
theorem xb244_58_0 {B : Nat} (hB : B ≤ 512) {xs : Nat → Int32} {SL d : Nat} {m : xw_M} {ex : xm_H} {ns : Nat} {r : xw_R} {x5 : Int}  (k : xw B (xm_gg xs SL) xq_P d 244 (6, (some .int), [], 13) 61 [(0, xa 536)] [xi x5, xa 536] m ex ns r) : xw B (xm_gg xs SL) xq_P d 244 (6, (some .int), [], 13) 58 [(0, xa 536), (5, xi x5)] [] m ex ns r := by
  refine xw_aload_n rfl rfl rfl ?_
  refine xw_iload rfl rfl ?_
  refine xw_lo (L2 := [(0, xa 536)]) (List.forall_mem_cons.mpr ⟨rfl, fun _ h => absurd h List.not_mem_nil⟩) ?_
  exact k
theorem xb244_64_0 {B : Nat} (hB : B ≤ 512) {xs : Nat → Int32} {SL d : Nat} {m : xw_M} {ex : xm_H} {ns : Nat}  : xw B (xm_gg xs SL) xq_P d 244 (6, (some .int), [], 13) 64 [(0, xa 536)] [] m ex ns (.inl (some (xi (m 536 5))), xw_h B m ex, ns) := by
  refine xw_aload_n rfl rfl rfl ?_
  refine xw_gfI (v := (m 536 5)) rfl (xw_obd (by decide +kernel)) xk12_5 (qi := 5) rfl rfl ?_
  exact xw_ret rfl rfl xw_rtI
def xk_ap (m : xw_M) (x s : Int) : xw_M := xw_u (xw_u m 1 1 ((m 1 1) + 1)) 2 (m 1 1) (Int.bmod (Int.bmod (xw_ishrf x s) 256) 256)
theorem xk_ap1 (m : xw_M) (x s : Int) : xk_ap m x s 1 1 = m 1 1 + 1 := xw_un (by omega) xw_us
theorem xk_append {B : Nat} (hB : B ≤ 512) {xs : Nat → Int32} {SL d : Nat} {m : xw_M} {x : Int} (h0 : 0 ≤ m 1 1) (h1 : m 1 1 + 4 ≤ 65536) : xwR B (xm_gg xs SL) xq_P d 40 (3, none, [], 2) [xa 1, xi x] m none (xk_ap (xk_ap (xk_ap (xk_ap m x 24) x (24 + (-8))) x (24 + (-8) + (-8))) x (24 + (-8) + (-8) + (-8))) := by
  have a1 := xk_ap1 m x 24
  have a2 := xk_ap1 (xk_ap m x 24) x (24 + (-8))
  have a3 := xk_ap1 (xk_ap (xk_ap m x 24) x (24 + (-8))) x (24 + (-8) + (-8))
  refine xw_into (fun ex ns => ?_) (List.forall_mem_cons.mpr ⟨rfl, List.forall_mem_cons.mpr ⟨rfl, fun _ h => absurd h List.not_mem_nil⟩⟩)
  refine xb40_0_0 hB ?_
  refine xb40_3_1 (m := m) hB (by omega) (by omega) (by omega) ?_
  refine xb40_3_1 (m := xk_ap m x 24) hB (by omega) (by omega) (by omega) ?_
  refine xb40_3_1 (m := xk_ap (xk_ap m x 24) x (24 + (-8))) hB (by omega) (by omega) (by omega) ?_
  refine xb40_3_1 (m := xk_ap (xk_ap (xk_ap m x 24) x (24 + (-8))) x (24 + (-8) + (-8))) hB (by omega) (by omega) (by omega) ?_
  exact xb40_3_0 hB (by omega) (by omega)
