/-! one step: every instruction that goes on in its own frame -/
def xt_ln (i : Instr) (n : Nat) : Bool := match i with
  | .iadd => n == 1
  | .isub => n == 1
  | .imul => n == 1
  | .iand => n == 1
  | .ior => n == 1
  | .ixor => n == 1
  | .ishl => n == 1
  | .ishr => n == 1
  | .iushr => n == 1
  | .idiv => n == 1
  | .irem => n == 1
  | .ladd => n == 1
  | .lsub => n == 1
  | .lmul => n == 1
  | .land => n == 1
  | .lor => n == 1
  | .lxor => n == 1
  | .lrem => n == 1
  | .lneg => n == 1
  | .lshl => n == 1
  | .lshr => n == 1
  | .lushr => n == 1
  | .lcmp => n == 1
  | .i2l => n == 1
  | .l2i => n == 1
  | .i2b => n == 1
  | .i2c => n == 1
  | .dup => n == 1
  | .pop => n == 1
  | .dup_x1 => n == 1
  | .dup_x2 => n == 1
  | .dup2 => n == 1
  | .pop2 => n == 1
  | .arraylength => n == 1
  | .iaload => n == 1
  | .laload => n == 1
  | .baload => n == 1
  | .aaload => n == 1
  | .iastore => n == 1
  | .lastore => n == 1
  | .bastore => n == 1
  | .aastore => n == 1
  | .ireturn => n == 1
  | .lreturn => n == 1
  | .areturn => n == 1
  | .return_ => n == 1
  | .aconst_null => n == 1
  | .iconst _ => n == 1
  | .lconst _ => n == 1
  | .iload_n _ => n == 1
  | .lload_n _ => n == 1
  | .aload_n _ => n == 1
  | .istore_n _ => n == 1
  | .lstore_n _ => n == 1
  | .astore_n _ => n == 1
  | .bipush _ => n == 2
  | .ldc _ => n == 2
  | .iload _ => n == 2
  | .lload _ => n == 2
  | .aload _ => n == 2
  | .istore _ => n == 2
  | .lstore _ => n == 2
  | .astore _ => n == 2
  | .newarray _ => n == 2
  | .sipush _ => n == 3
  | .ldc2_w _ => n == 3
  | .ldc_w _ => n == 3
  | .goto _ => n == 3
  | .ifnonnull _ => n == 3
  | .getfield _ => n == 3
  | .putfield _ => n == 3
  | .new _ => n == 3
  | .anewarray _ => n == 3
  | .invokevirtual _ => n == 3
  | .invokespecial _ => n == 3
  | .invokestatic _ => n == 3
  | .ifCond _ _ => n == 3
  | .if_icmp _ _ => n == 3
  | .multianewarray _ _ => n == 4
  | .iinc _ _ => n == 3 || n == 6
  | .tableswitch _ _ _ _ => true
  | _ => false
/-- the String constants: 0, 1 of Text, 2 of the reference -/
def xt_sr (i : Nat) : String × Nat × String := [("CubeStore$Text", 103, "dimension measure member select where group by rollup cube grouping sum count min max and or not between in "), ("CubeStore$Text", 93, "(),;.*=<>"), ("CubeStoreModel", 7, " dimension measure member select where group by rollup cube grouping sum count min max and or not between in ")].getD i ("", 0, "")
/-- what the tables must say for an instruction of the method y (calls and 'throw new' apart) -/
def xt_lk (y : MethodName) (pc : Nat) (E : xm_E) : Prop := match E.1 with
  | .ifCond _ off => (pc : Int) + off = (E.2.2.1 : Int)
  | .if_icmp _ off => (pc : Int) + off = (E.2.2.1 : Int)
  | .goto off => (pc : Int) + off = (E.2.2.1 : Int)
  | .ifnonnull off => (pc : Int) + off = (E.2.2.1 : Int)
  | .ldc i => (E.2.2.1 = 0 ∧ Cond.constant y.cls i (Int32.ofNat E.2.2.2) ∈ lw_tbl) ∨ (E.2.2.1 = 1 ∧ y.cls = (xt_sr E.2.2.2).1 ∧ i = (xt_sr E.2.2.2).2.1)
  | .ldc2_w i => Cond.constantLong y.cls i (Int64.ofNat E.2.2.2) ∈ lw_tbl
  | .ldc_w i => Cond.constant y.cls i (Int32.ofNat E.2.2.2) ∈ lw_tbl
  | .getfield i => E.2.2.1 < 14 ∧ E.2.2.2 < xt_N E.2.2.1 ∧ xs_fl y.cls i E.2.2.1 E.2.2.2
  | .putfield i => E.2.2.1 < 14 ∧ E.2.2.2 < xt_N E.2.2.1 ∧ xs_fl y.cls i E.2.2.1 E.2.2.2 ∧ ((xt_F E.2.2.1 E.2.2.2).2.2.2 = false ∨ (y.name = "<init>" ∧ (xt_F E.2.2.1 E.2.2.2).1 = y.cls ∧ Cond.fieldLink y.cls i (xt_F E.2.2.1 E.2.2.2).1 (xt_F E.2.2.1 E.2.2.2).2.1 (xt_F E.2.2.1 E.2.2.2).2.2.1 ∈ lw_tbl))
  | .new i => E.2.2.1 < 16 ∧ Cond.classLink y.cls i (xt_cn E.2.2.1) ∈ lw_tbl
  | .anewarray i => Cond.classLink y.cls i "CubeStore$Dimension" ∈ lw_tbl
  | .multianewarray i _ => 20 ≤ E.2.2.1 ∧ E.2.2.1 < 23 ∧ Cond.classLink y.cls i ("[" ++ (xt_el E.2.2.1).toString) ∈ lw_tbl
  | _ => True
def xt_ok (y : MethodName) (cc : ByteArray) (pc : Nat) (E : xm_E) : Prop := decode cc pc = .ok (E.1, E.2.1) ∧ xt_ln E.1 E.2.1 = true ∧ xt_lk y pc E
/-- the arrays' classes are in the tables -/
theorem xt_ac : Cond.arrayClass .int ∈ lw_tbl ∧ Cond.arrayClass .long ∈ lw_tbl ∧ Cond.arrayClass .byte ∈ lw_tbl ∧ Cond.arrayClass .boolean ∈ lw_tbl ∧ Cond.arrayOver (.object "CubeStore$Dimension") ∈ lw_tbl := by
  refine ⟨xt_at_mem (i := 306) ?_, xt_at_mem (i := 500) ?_, xt_at_mem (i := 226) ?_, xt_at_mem (i := 2185) ?_, xt_at_mem (i := 234) ?_⟩ <;> decide +kernel
def xm_gg (xs : Nat → Int32) (L : Nat) : xm_G := (xm_dv, xm_okv, xs, L)
section XS10
variable {Z : xs_Z} {p : Program} {l : Launch} {e : Env} {R : Room} {s : State} {m : MethodId} {args : Array Value} {below : List Frame} {meth : Method} {c : Code} {Q : State → Prop} {nL c0 b0 : Nat} {cc : ByteArray} {S S' : xm_S}
set_option maxHeartbeats 4000000 in
theorem xs_step {L : Nat} {xs : Nat → Int32} {y : MethodName} {ret : Option FieldType} {E : xm_E} (hexec : p.tables.exec = Jvm.exec) (hb : c.code = cc) (hw : xs_ws args s) (hK : xs_K Z s) (hX : va_X (Z.2.1 9) L xs s Z.2.2.2.2) (hlt : Z.2.1 9 < Z.1) (hst : ∀ i, i < 3 → vk_R (xt_sr i).1 (xt_sr i).2.1 (xt_sr i).2.2 (Z.2.1 i) s)
    (hRc : R.cells = xm_cm - c0) (hRs : R.slots = xm_sm - b0) (hown : s.vm.findClass y.cls = some m.cls) (hnm : meth.name = y.name) (hthr : xm_kind E = 0) (hok : xt_ok y cc S.1 E)
    (h : xm_next (xm_gg xs L) nL ret E S = some (.inl S')) (kk : xs_W Z p l e R s m args below meth c Q nL c0 b0 S') : xs_W Z p l e R s m args below meth c Q nL c0 b0 S := by
  obtain ⟨i, len, x, z⟩ := E
  obtain ⟨hd, hl, hk⟩ := hok
  dsimp only at hd hl
  cases i with
  | iconst n =>
    obtain rfl : len = 1 := by simpa [xt_ln] using hl
    exact xs_psh (fun k => lv_iconst hexec hb hd rfl k) h kk
  | bipush n =>
    obtain rfl : len = 2 := by simpa [xt_ln] using hl
    exact xs_psh (fun k => lv_bipush hexec hb hd rfl k) h kk
  | sipush n =>
    obtain rfl : len = 3 := by simpa [xt_ln] using hl
    exact xs_psh (fun k => lv_sipush hexec hb hd rfl k) h kk
  | lconst n =>
    obtain rfl : len = 1 := by simpa [xt_ln] using hl
    exact xs_psh (fun k => lv_lconst hexec hb hd rfl k) h kk
  | aconst_null =>
    obtain rfl : len = 1 := by simpa [xt_ln] using hl
    exact xs_psh (v := .null) (fun k => lv_null hexec hb hd k) h kk
  | ldc i =>
    obtain rfl : len = 2 := by simpa [xt_ln] using hl
    replace h : (if x = 0 then xm_psh 2 (.int (Int32.ofNat z)) S else if x = 1 ∧ z < 3 then xm_psh 2 (.retAddr z) S else none) = some (.inl S') := h
    rcases hk with ⟨hx, hk⟩ | ⟨hx, hk1, hk2⟩
    · dsimp only at hx hk
      rw [if_pos hx] at h
      exact xs_psh (fun k => lv_ldc hexec hb hown (hw _ hk rfl) hd k) h kk
    · dsimp only at hx hk1 hk2
      rw [if_neg (by omega)] at h
      split at h
      · next hz =>
        subst hk2
        exact xs_psh (v := .retAddr z) (fun k => va_ldcS hexec hb (by rw [← hk1]; exact hown) (hst z hz.2) hd k) h kk
      · cases h
  | ldc2_w i =>
    obtain rfl : len = 3 := by simpa [xt_ln] using hl
    exact xs_psh (fun k => lv_ldc2 hexec hb hown (hw _ hk rfl) hd k) h kk
  | ldc_w i =>
    obtain rfl : len = 3 := by simpa [xt_ln] using hl
    exact xs_psh (fun k => lv_ldcw hexec hb hown (hw _ hk rfl) hd k) h kk
  | iload i =>
    obtain rfl : len = 2 := by simpa [xt_ln] using hl
    exact xs_ldI (fun hl k => lv_iload hexec hb hd hl k) h kk
  | iload_n i =>
    obtain rfl : len = 1 := by simpa [xt_ln] using hl
    exact xs_ldI (fun hl k => lv_iload_n hexec hb hd rfl hl k) h kk
  | lload i =>
    obtain rfl : len = 2 := by simpa [xt_ln] using hl
    exact xs_ldJ (fun hl k => lv_lload hexec hb hd hl k) h kk
  | lload_n i =>
    obtain rfl : len = 1 := by simpa [xt_ln] using hl
    exact xs_ldJ (fun hl k => lv_lload_n hexec hb hd rfl hl k) h kk
  | aload i =>
    obtain rfl : len = 2 := by simpa [xt_ln] using hl
    exact xs_ldA (fun hl k => lv_aload hexec hb hd hl k) (fun hl k => lv_aloadN hexec hb hd hl k) h kk
  | aload_n i =>
    obtain rfl : len = 1 := by simpa [xt_ln] using hl
    exact xs_ldA (fun hl k => lv_aload_n hexec hb hd rfl hl k) (fun hl k => lv_aload_nN hexec hb hd rfl hl k) h kk
  | istore i =>
    obtain rfl : len = 2 := by simpa [xt_ln] using hl
    exact xs_stI (fun hl hn he k => lv_istore hexec hb hd hl hn he k) h kk
  | istore_n i =>
    obtain rfl : len = 1 := by simpa [xt_ln] using hl
    exact xs_stI (fun hl hn he k => lv_istore_n hexec hb hd rfl hl hn he k) h kk
  | lstore i =>
    obtain rfl : len = 2 := by simpa [xt_ln] using hl
    exact xs_stJ (fun hl hn he k => lv_lstore hexec hb hd hl hn he k) h kk
  | lstore_n i =>
    obtain rfl : len = 1 := by simpa [xt_ln] using hl
    exact xs_stJ (fun hl hn he k => lv_lstore_n hexec hb hd rfl hl hn he k) h kk
  | astore i =>
    obtain rfl : len = 2 := by simpa [xt_ln] using hl
    exact xs_stA (fun hl hn he k => lv_astore hexec hb hd hl hn he k) (fun hl hn he k => lv_astoreN hexec hb hd hl hn he k) h kk
  | astore_n i =>
    obtain rfl : len = 1 := by simpa [xt_ln] using hl
    exact xs_stA (fun hl hn he k => lv_astore_n hexec hb hd rfl hl hn he k) (fun hl hn he k => lv_astore_nN hexec hb hd rfl hl hn he k) h kk
  | iinc i n =>
    have hl' : len = 3 ∨ len = 6 := by simpa [xt_ln] using hl
    rcases hl' with rfl | rfl
    · exact xs_inc (fun hl hk hv hn he k => lv_iinc hexec hb hd hl hk hv hn he k) h kk
    · exact xs_inc (fun hl hk hv hn he k => lv_iincW hexec hb hd hl hk hv hn he k) h kk
  | iadd =>
    obtain rfl : len = 1 := by simpa [xt_ln] using hl
    exact xs_ii (fun k => lv_iadd hexec hb hd k) h kk
  | isub =>
    obtain rfl : len = 1 := by simpa [xt_ln] using hl
    exact xs_ii (fun k => lv_isub hexec hb hd k) h kk
  | imul =>
    obtain rfl : len = 1 := by simpa [xt_ln] using hl
    exact xs_ii (fun k => lv_imul hexec hb hd k) h kk
  | iand =>
    obtain rfl : len = 1 := by simpa [xt_ln] using hl
    exact xs_ii (fun k => lv_iand hexec hb hd k) h kk
  | ior =>
    obtain rfl : len = 1 := by simpa [xt_ln] using hl
    exact xs_ii (fun k => lv_ior hexec hb hd k) h kk
  | ixor =>
    obtain rfl : len = 1 := by simpa [xt_ln] using hl
    exact xs_ii (fun k => lv_ixor hexec hb hd k) h kk
  | ishl =>
    obtain rfl : len = 1 := by simpa [xt_ln] using hl
    exact xs_ii (fun k => lv_ishl hexec hb hd k) h kk
  | ishr =>
    obtain rfl : len = 1 := by simpa [xt_ln] using hl
    exact xs_ii (fun k => lv_ishr hexec hb hd k) h kk
  | iushr =>
    obtain rfl : len = 1 := by simpa [xt_ln] using hl
    exact xs_ii (fun k => lv_iushr hexec hb hd rfl k) h kk
  | idiv =>
    obtain rfl : len = 1 := by simpa [xt_ln] using hl
    exact xs_iz (fun hy k => lv_idiv hexec hb hd hy k) h kk
  | irem =>
    obtain rfl : len = 1 := by simpa [xt_ln] using hl
    exact xs_iz (fun hy k => lv_irem hexec hb hd hy k) h kk
  | ladd =>
    obtain rfl : len = 1 := by simpa [xt_ln] using hl
    exact xs_jj (fun k => lv_ladd hexec hb hd k) h kk
  | lsub =>
    obtain rfl : len = 1 := by simpa [xt_ln] using hl
    exact xs_jj (fun k => lv_lsub hexec hb hd k) h kk
  | lmul =>
    obtain rfl : len = 1 := by simpa [xt_ln] using hl
    exact xs_jj (fun k => lv_lmul hexec hb hd k) h kk
  | land =>
    obtain rfl : len = 1 := by simpa [xt_ln] using hl
    exact xs_jj (fun k => lv_land hexec hb hd k) h kk
  | lor =>
    obtain rfl : len = 1 := by simpa [xt_ln] using hl
    exact xs_jj (fun k => lv_lor hexec hb hd k) h kk
  | lxor =>
    obtain rfl : len = 1 := by simpa [xt_ln] using hl
    exact xs_jj (fun k => lv_lxor hexec hb hd k) h kk
  | lrem =>
    obtain rfl : len = 1 := by simpa [xt_ln] using hl
    exact xs_jz (fun hy k => lv_lrem hexec hb hd hy k) h kk
  | lneg =>
    obtain rfl : len = 1 := by simpa [xt_ln] using hl
    exact xs_j1 (fun _ => rfl) (fun k => lv_lneg hexec hb hd k) h kk
  | lshl =>
    obtain rfl : len = 1 := by simpa [xt_ln] using hl
    exact xs_ji (fun k => lv_lshl hexec hb hd rfl k) h kk
  | lshr =>
    obtain rfl : len = 1 := by simpa [xt_ln] using hl
    exact xs_ji (fun k => lv_lshr hexec hb hd rfl k) h kk
  | lushr =>
    obtain rfl : len = 1 := by simpa [xt_ln] using hl
    exact xs_ji (fun k => lv_lushr hexec hb hd rfl k) h kk
  | lcmp =>
    obtain rfl : len = 1 := by simpa [xt_ln] using hl
    exact xs_cmp hexec hb hd h kk
  | i2l =>
    obtain rfl : len = 1 := by simpa [xt_ln] using hl
    exact xs_i1 (fun _ => rfl) (fun k => lv_i2l hexec hb hd rfl k) h kk
  | l2i =>
    obtain rfl : len = 1 := by simpa [xt_ln] using hl
    exact xs_j1 (fun _ => rfl) (fun k => lv_l2i hexec hb hd rfl k) h kk
  | i2b =>
    obtain rfl : len = 1 := by simpa [xt_ln] using hl
    exact xs_i1 (fun _ => rfl) (fun k => lv_i2b hexec hb hd rfl k) h kk
  | i2c =>
    obtain rfl : len = 1 := by simpa [xt_ln] using hl
    exact xs_i1 (fun _ => rfl) (fun k => lv_i2c hexec hb hd rfl k) h kk
  | dup =>
    obtain rfl : len = 1 := by simpa [xt_ln] using hl
    exact xs_dup hexec hb hd h kk
  | pop =>
    obtain rfl : len = 1 := by simpa [xt_ln] using hl
    exact xs_pop hexec hb hd h kk
  | dup_x1 =>
    obtain rfl : len = 1 := by simpa [xt_ln] using hl
    exact xs_dx1 hexec hb hd h kk
  | dup_x2 =>
    obtain rfl : len = 1 := by simpa [xt_ln] using hl
    exact xs_dx2 hexec hb hd h kk
  | dup2 =>
    obtain rfl : len = 1 := by simpa [xt_ln] using hl
    exact xs_du2 hexec hb hd h kk
  | pop2 =>
    obtain rfl : len = 1 := by simpa [xt_ln] using hl
    exact xs_po2 hexec hb hd h kk
  | ifCond cnd off =>
    obtain rfl : len = 3 := by simpa [xt_ln] using hl
    cases cnd with
    | eq => exact xs_if (fun kt kf => lv_if_eq hexec hb hd hk (fun q => kt (decide_eq_true q)) (fun q => kf (decide_eq_false q))) h kk
    | lt => exact xs_if (fun kt kf => lv_if_lt hexec hb hd hk (fun q => kt (decide_eq_true q)) (fun q => kf (decide_eq_false q))) h kk
    | ge => exact xs_if (fun kt kf => lv_if_ge hexec hb hd hk (fun q => kt (decide_eq_true q)) (fun q => kf (decide_eq_false q))) h kk
    | gt => exact xs_if (fun kt kf => lv_if_gt hexec hb hd hk (fun q => kt (decide_eq_true q)) (fun q => kf (decide_eq_false q))) h kk
    | le => exact xs_if (fun kt kf => lv_if_le hexec hb hd hk (fun q => kt (decide_eq_true q)) (fun q => kf (decide_eq_false q))) h kk
    | ne => exact xs_if (fun kt kf => lv_if_ne hexec hb hd hk (fun q => kt (by simp [q])) (fun q => kf (by simp [q]))) h kk
  | if_icmp cnd off =>
    obtain rfl : len = 3 := by simpa [xt_ln] using hl
    cases cnd with
    | eq => exact xs_ic (fun kt kf => lv_icmp_eq hexec hb hd hk (fun q => kt (decide_eq_true q)) (fun q => kf (decide_eq_false q))) h kk
    | lt => exact xs_ic (fun kt kf => lv_icmp_lt hexec hb hd hk (fun q => kt (decide_eq_true q)) (fun q => kf (decide_eq_false q))) h kk
    | ge => exact xs_ic (fun kt kf => lv_icmp_ge hexec hb hd hk (fun q => kt (decide_eq_true q)) (fun q => kf (decide_eq_false q))) h kk
    | gt => exact xs_ic (fun kt kf => lv_icmp_gt hexec hb hd hk (fun q => kt (decide_eq_true q)) (fun q => kf (decide_eq_false q))) h kk
    | le => exact xs_ic (fun kt kf => lv_icmp_le hexec hb hd hk (fun q => kt (decide_eq_true q)) (fun q => kf (decide_eq_false q))) h kk
    | ne => exact xs_ic (fun kt kf => lv_icmp_ne hexec hb hd hk (fun q => kt (by simp [q])) (fun q => kf (by simp [q]))) h kk
  | ifnonnull off =>
    obtain rfl : len = 3 := by simpa [xt_ln] using hl
    exact xs_nn hexec hb hd hk h kk
  | goto off =>
    obtain rfl : len = 3 := by simpa [xt_ln] using hl
    replace h : some (Sum.inl (x, S.2)) = some (Sum.inl S') := h
    cases h
    intro ls H locs cells slots I
    exact lv_goto hexec hb hd hk (kk ls H locs cells slots I)
  | tableswitch d lo hi offs =>
    exact xs_sw hexec hb hd h kk
  | getfield i =>
    obtain rfl : len = 3 := by simpa [xt_ln] using hl
    exact xs_gf hexec hb hw hK hown hk.1 hk.2.1 hk.2.2 hd h kk
  | putfield i =>
    obtain rfl : len = 3 := by simpa [xt_ln] using hl
    exact xs_pf hexec hb hw hK hown hk.1 hk.2.1 hk.2.2.1 (by rw [hnm]; exact hk.2.2.2) hd h kk
  | new i =>
    obtain rfl : len = 3 := by simpa [xt_ln] using hl
    have hx : ¬ 14 ≤ x := fun q => by rw [show xm_kind (Instr.new i, 3, x, z) = 3 from if_pos q] at hthr; cases hthr
    have hx2 : x < 14 := by omega
    exact xs_new hexec hb hw hK hRc hRs hown hx2 hk.2 hd h kk
  | newarray ty =>
    obtain rfl : len = 2 := by simpa [xt_ln] using hl
    cases ty with
    | int => exact xs_newarr (at' := .int) hexec hb hw hK hRc hRs (by omega) (by omega) rfl rfl (by decide) xt_ac.1 hd h kk
    | long => exact xs_newarr (at' := .long) hexec hb hw hK hRc hRs (by omega) (by omega) rfl rfl (by decide) xt_ac.2.1 hd h kk
    | byte => exact xs_newarr (at' := .byte) hexec hb hw hK hRc hRs (by omega) (by omega) rfl rfl (by decide) xt_ac.2.2.1 hd h kk
    | boolean => exact xs_newarr (at' := .boolean) hexec hb hw hK hRc hRs (by omega) (by omega) rfl rfl (by decide) xt_ac.2.2.2.1 hd h kk
    | _ => exact absurd (show (none : Option xm_A) = some (.inl S') from h) (by simp)
  | anewarray i =>
    obtain rfl : len = 3 := by simpa [xt_ln] using hl
    exact xs_newdim hexec hb hw hK hRc hRs hown hk xt_ac.2.2.2.2 hd h kk
  | multianewarray i n =>
    obtain rfl : len = 4 := by simpa [xt_ln] using hl
    obtain ⟨k1, k2, k3⟩ := hk
    dsimp only at k1 k2 k3
    rcases n with _ | _ | _ | n
    · exact absurd (show (none : Option xm_A) = some (.inl S') from h) (by simp)
    · exact absurd (show (none : Option xm_A) = some (.inl S') from h) (by simp)
    · replace h : (if x = 20 then xm_ma 20 16 (.int 0) S else if x = 21 then xm_ma 21 17 (.long 0) S else if x = 22 then xm_ma 22 18 (.int 0) S else none) = some (.inl S') := h
      split at h
      · next hx => subst hx; exact xs_multi hexec hb hw hK hRc hRs hown k1 k2 rfl rfl rfl (by decide) rfl rfl k3 hd h kk
      · split at h
        · next hx => subst hx; exact xs_multi hexec hb hw hK hRc hRs hown k1 k2 rfl rfl rfl (by decide) rfl rfl k3 hd h kk
        · split at h
          · next hx => subst hx; exact xs_multi hexec hb hw hK hRc hRs hown k1 k2 rfl rfl rfl (by decide) rfl rfl k3 hd h kk
          · cases h
    · exact absurd (show (none : Option xm_A) = some (.inl S') from h) (by simp)
  | arraylength =>
    obtain rfl : len = 1 := by simpa [xt_ln] using hl
    exact xs_al hexec hb hK hX hlt hd h kk
  | iaload =>
    obtain rfl : len = 1 := by simpa [xt_ln] using hl
    exact xs_sld hexec hb hK hX hlt hd h kk
  | laload =>
    obtain rfl : len = 1 := by simpa [xt_ln] using hl
    refine xs_ald (T := fun t => t == 17) (fun t ht => ?_) hK (fun {_ _ _ _ _ _ _ _ _ _ t} ht h1 h2 h3 h4 h5 k => ?_) h kk
    · have : t = 17 := by simpa using ht
      omega
    · have : t = 17 := by simpa using ht
      subst this
      exact W.lald hexec hb h1 h2 h3 h4 h5 rfl rfl hd k
  | baload =>
    obtain rfl : len = 1 := by simpa [xt_ln] using hl
    refine xs_ald (T := fun t => t == 18 || t == 19) (fun t ht => ?_) hK (fun {_ _ _ _ _ _ _ _ _ _ t} ht h1 h2 h3 h4 h5 k => ?_) h kk
    · have : t = 18 ∨ t = 19 := by simpa using ht
      omega
    · have : t = 18 ∨ t = 19 := by simpa using ht
      rcases this with rfl | rfl
      · exact W.bald hexec hb h1 h2 h3 h4 h5 rfl rfl hd k
      · exact W.zald hexec hb h1 h2 h3 h4 h5 rfl rfl hd k
  | aaload =>
    obtain rfl : len = 1 := by simpa [xt_ln] using hl
    refine xs_ald (T := fun t => decide (20 ≤ t ∧ t < 24)) (fun t ht => ?_) hK (fun {_ _ _ _ _ _ _ _ _ _ t} ht h1 h2 h3 h4 h5 k => ?_) h kk
    · have := of_decide_eq_true ht
      omega
    · have := of_decide_eq_true ht
      have hr : (xt_el t).isReference = true := by
        rcases (by omega : t = 20 ∨ t = 21 ∨ t = 22 ∨ t = 23) with rfl | rfl | rfl | rfl <;> rfl
      exact W.aald hexec hb h1 h2 hr h3 h4 h5 rfl rfl hd k
  | iastore =>
    obtain rfl : len = 1 := by simpa [xt_ln] using hl
    exact xs_iast hexec hb hK hd h kk
  | lastore =>
    obtain rfl : len = 1 := by simpa [xt_ln] using hl
    exact xs_last hexec hb hK hd h kk
  | bastore =>
    obtain rfl : len = 1 := by simpa [xt_ln] using hl
    exact xs_bast hexec hb hK hd h kk
  | aastore =>
    obtain rfl : len = 1 := by simpa [xt_ln] using hl
    exact xs_aast hexec hb hK hd h kk
  | invokevirtual i =>
    replace h : xm_call x z S = some (.inl S') := h
    unfold xm_call at h
    split at h <;> cases h
  | invokespecial i =>
    replace h : xm_call x z S = some (.inl S') := h
    unfold xm_call at h
    split at h <;> cases h
  | invokestatic i =>
    replace h : xm_call x z S = some (.inl S') := h
    unfold xm_call at h
    split at h <;> cases h
  | ireturn =>
    replace h : xm_ret ret S = some (.inl S') := h
    unfold xm_ret at h
    split at h
    · split at h
      · split at h <;> cases h
      · cases h
    · cases h
  | lreturn =>
    replace h : xm_ret ret S = some (.inl S') := h
    unfold xm_ret at h
    split at h
    · split at h
      · split at h <;> cases h
      · cases h
    · cases h
  | areturn =>
    replace h : xm_ret ret S = some (.inl S') := h
    unfold xm_ret at h
    split at h
    · split at h
      · split at h <;> cases h
      · cases h
    · cases h
  | return_ =>
    replace h : (if S.2.2.1 = [] ∧ ret = none then some (Sum.inr (Sum.inl none)) else none : Option xm_A) = some (.inl S') := h
    split at h <;> cases h
  | _ => exact absurd (show (none : Option xm_A) = some (.inl S') from h) (by simp)
end XS10
