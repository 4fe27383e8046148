/-! RUN before the store is open, both sides -/
section RNB
variable {B : Nat} {c r : xw_M}
theorem xT_ret {v : Int} {m : xw_M} {F : Int → xw_M → xP} {G : Nat → xw_M → xP} : xT (some (.inl v, m)) F G = F v m := rfl
theorem xT_thr {t : Nat} {m : xw_M} {F : Int → xw_M → xP} {G : Nat → xw_M → xP} : xT (some (.inr t, m)) F G = G t m := rfl
/-- the reference stops behind a fault -/
theorem rst_f {x : Int} {N : Nat} (d : 0 < xR r 536 6) : xl1 (yl247_51 B) (N + 1) x r = some (.inl x, xw_u r 536 5 0) := by
  show yl247_51 B _ x r = _
  unfold yl247_51
  rw [if_neg (by omega)]
theorem rst_e {x : Int} {N : Nat} (nf : xR r 536 6 = 0) (e : xR r 536 10 = 0) : xl1 (yl247_51 B) (N + 1) x r = some (.inl x, xw_u r 536 5 0) := by
  show yl247_51 B _ x r = _
  unfold yl247_51
  rw [if_pos nf, if_pos e]
theorem rst_s {x : Int} {N : Nat} (nf : xR r 536 6 = 0) (e : xR r 536 10 ≠ 0) : xl1 (yl247_51 B) (N + 1) x r = xB (yf256 B r) fun _ m1 => if (xR m1 536 6) = 0 then (xB (yf248 B m1) fun _ m2 => xl1 (yl247_51 B) N (w32 (x + 1)) m2) else (xB (yf248 B m1) fun _ m3 => xl1 (yl247_51 B) N (w32 (x + 0)) m3) := by
  show yl247_51 B (xl1 (yl247_51 B) N) x r = _
  generalize xl1 (yl247_51 B) N = R
  unfold yl247_51
  rw [if_pos nf, if_neg e]
theorem tk0 (h : TK c r) : xR r 536 10 = 0 ↔ xR c 1 3 = 0 := by
  obtain ⟨h1, h2, k⟩ := h
  rcases k with k | k | k | k
  · omega
  · obtain ⟨k1, k2, k3, k4, k5⟩ := k
    rw [k1]
    split
    · omega
    · split <;> omega
  · omega
  · rcases k.2.2 with s | s
    · have := of_decide_eq_true s; omega
    · omega
theorem TK.f67 (h : TK c r) : xR c 1 6 = xR r 536 6 ∧ xR c 1 7 = xR r 536 7 := by
  obtain ⟨⟨_, _, _, _, a, b, e, f⟩, _⟩ := h
  exact ⟨by rw [a, e], by rw [b, f]⟩
theorem runN_l : ∀ (z N N' : Nat) (i x D M : Int) (c5 r5 : xw_M), (xR c5 1 1 - xR c5 1 2).toNat ≤ z → z + 1 < N → z + 2 < N' → 0 ≤ i → i ≤ xR c5 1 2 → 0 ≤ x → x ≤ i → PS c5 r5 → CT c5 r5 D M → xR c5 0 14 = 0 → xR r5 536 2 = 0 → fCn c c5 → fRn r r5 → ∃ v c' r', xl2 (yl45_22 B) N x i c5 = some (.inl v, c') ∧ (xB (yf248 B r5) fun _ m => xl1 (yl247_51 B) N' x m) = some (.inl v, r') ∧ RE c r c' r' := by
  intro z
  induction z with
  | zero =>
    intro N N' i x D M c5 r5 hz zN zN' i0 i1 x0 xi h T h14 o2 fc fr
    cases N with
    | zero => omega
    | succ N =>
    cases N' with
    | zero => omega
    | succ N' =>
    have at1 := h.2.2.2.1
    obtain ⟨r6, y2, g6, e10⟩ := nx_end (B := B) h (by omega)
    have nf : xR r6 536 6 = 0 := by rw [xR_fld (g6.2 6 (by omega))]; exact h.2.2.2.2.2.2.1
    have ef := (show xR c5 1 6 = xR r5 536 6 ∧ xR c5 1 7 = xR r5 536 7 from ⟨by rw [h.2.2.2.2.1, h.2.2.2.2.2.2.1], by rw [h.2.2.2.2.2.1, h.2.2.2.2.2.2.2]⟩)
    rw [y2, xB_ret, rst_e nf e10]
    show ∃ v c' r', yl45_22 B (xl2 (yl45_22 B) N) x i c5 = _ ∧ _
    unfold yl45_22
    by_cases i6 : i < 65536
    · rw [if_pos i6, if_pos h14]
      unfold yf46
      rcases nx (B := B) h with ⟨_, c6, _, r6', q1, q2, s⟩ | ⟨c6, _, r6', q1, q2, F, z⟩
      · rw [q1, xB_ret]
        rw [y2] at q2
        have er : r6' = r6 := by injection q2 with q2; injection q2 with _ q2; exact q2.symm
        subst er
        have k0 := (tk0 s.1).mp e10
        rw [if_pos k0, xT_ret, if_pos rfl]
        unfold yk45_93 yk45_97
        exact ⟨x, _, _, rfl, rfl, RE_of (CT_x T s.2.1 s.2.2.1) (fCn_tr fc (fCn_y (fTy_of s.2.1))) (fRn_tr fr (fRn_y (fRy_of s.2.2.1))) s.1.f67.1 s.1.f67.2⟩
      · rw [y2] at q2
        have er : r6' = r6 := by injection q2 with q2; injection q2 with _ q2; exact q2.symm
        subst er
        have := F.1
        omega
    · rw [if_neg i6]
      unfold yk45_93 yk45_97
      exact ⟨x, _, _, rfl, rfl, RE_of (CT_y T fTy_rf (fRy_of g6)) fc (fRn_tr fr (fRn_y (fRy_of g6))) (by rw [xR_fld (g6.2 6 (by omega))]; exact ef.1) (by rw [xR_fld (g6.2 7 (by omega))]; exact ef.2)⟩
  | succ z ih =>
    intro N N' i x D M c5 r5 hz zN zN' i0 i1 x0 xi h T h14 o2 fc fr
    cases N with
    | zero => omega
    | succ N =>
    cases N' with
    | zero => omega
    | succ N' =>
    cases N' with
    | zero => omega
    | succ N' =>
    have at1 := h.2.2.2.1
    have tx := h.1.2.2.1
    by_cases e0 : (xR c5 1 1 - xR c5 1 2).toNat ≤ z
    · exact ih (N + 1) (N' + 1 + 1) i x D M c5 r5 e0 (by omega) (by omega) i0 i1 x0 xi h T h14 o2 fc fr
    show ∃ v c' r', yl45_22 B (xl2 (yl45_22 B) N) x i c5 = _ ∧ _
    have IH := ih N (N' + 1)
    generalize xl2 (yl45_22 B) N = R at IH ⊢
    have i6 : i < 65536 := by omega
    unfold yl45_22
    rw [if_pos i6, if_pos h14]
    unfold yf46
    rcases nx (B := B) h with ⟨_, c6, _, r6, q1, q2, s⟩ | ⟨c6, _, r6, q1, q2, F, z⟩
    · rw [q1, q2, xB_ret, xB_ret]
      have T6 := CT_x T s.2.1 s.2.2.1
      have fc6 : fCn c c6 := fCn_tr fc (fCn_y (fTy_of s.2.1))
      have fr6 : fRn r r6 := fRn_tr fr (fRn_y (fRy_of s.2.2.1))
      have x2 : xR r6 536 2 = 0 := by rw [xR_fld (s.2.2.1.2 2 (by omega))]; exact o2
      have x14 : xR c6 0 14 = 0 := by rw [xR_cg (s.2.1.1 0 (by omega))]; exact h14
      by_cases k0 : xR c6 1 3 = 0
      · rw [if_pos k0, xT_ret, if_pos rfl, rst_e s.1.nf ((tk0 s.1).mpr k0)]
        unfold yk45_93 yk45_97
        exact ⟨x, _, _, rfl, rfl, RE_of T6 fc6 fr6 s.1.f67.1 s.1.f67.2⟩
      · have lt := s.2.2.2.2 k0
        have n6 : xR c6 1 1 = xR c5 1 1 := xR_fld (s.2.1.2 1 (by omega))
        rw [if_neg k0, rst_s s.1.nf (fun q => k0 ((tk0 s.1).mp q))]
        by_cases kx : 200 ≤ xR c6 1 3 ∧ xR c6 1 3 ≤ 203
        · rw [if_neg (show ¬ xR c6 1 3 < 200 by omega), if_neg (show ¬ 203 < xR c6 1 3 by omega)]
          unfold yk46_52
          by_cases k3 : xR c6 1 3 = 203
          · rw [if_pos k3, if_pos rfl, stm_q0 s.1 x2 k3, xB_ret]
            have X := flt (c := c6) (r := r6) (f := 8) (p := xR c6 1 4) (p' := xR r6 536 9) (by decide) (by decide) (w32_xR _ _ _) s.1.2.1.1
            unfold yf54
            rw [xB_thr, xT_thr, if_pos rfl, if_neg (by have := X.1.1; omega), d248 X.1.1, xB_ret, rst_f X.1.1, w32_id (by omega) (by omega)]
            refine ⟨x, _, _, rfl, by rw [show x + 0 = x by omega], RE_of (CT_y T6 X.2.1 X.2.2) (fCn_tr fc6 (fCn_y X.2.1)) (fRn_tr fr6 (fRn_y X.2.2)) X.1.2.1 X.1.2.2⟩
          · rw [if_neg k3, if_neg (show ¬ (1 : Int) = 0 by decide), xT_ret, if_neg (show ¬ (1 : Int) = 0 by decide), if_neg k3, stm_n s.1 x2 (by omega), xB_as]
            generalize hr7 : xw_u r6 536 27 (xR r6 536 9) = r7
            have e7 : ∀ a, a ≠ 536 → r7 a = r6 a := fun a ha => by rw [← hr7]; exact xu_c ha
            have f7 : ∀ k, k ≠ 27 → r7 536 k = r6 536 k := fun k hk => by rw [← hr7]; exact xu_ne (by omega)
            have t7 : TK c6 r7 := TK_fr s.1 (fun _ _ _ => rfl) rfl (fun k _ _ => f7 k (by omega)) (e7 537 (by omega))
            have T7 : CT c6 r7 D M := CT_fr T6 (fun _ _ _ => rfl) (fun a ha => e7 a (by omega)) (f7 14 (by omega)) (f7 19 (by omega))
            have fr7 : fRn r r7 := fRn_tr fr6 ⟨fun a ha _ _ _ _ _ => e7 a ha, fun k _ _ _ k4 => f7 k k4⟩
            rcases cst_ok (B := B) t7 T7 (by omega) with ⟨_, c8, _, r8, y1, y2, u⟩ | ⟨c8, _, r8, y1, y2, F, u⟩
            · obtain ⟨u1, ⟨D', M', u2⟩, u3, u4, u5⟩ := u
              rw [y1, y2, xT_ret, xB_ret, xB_ret, if_pos u1.nf, w32_id (x := x + 1) (by omega) (by omega), w32_id (x := i + 1) (by omega) (by omega)]
              have n8 : xR c8 1 1 = xR c6 1 1 := xR_fld (u3.2 1 (by omega))
              exact IH (i + 1) (x + 1) D' M' c8 r8 (by have := u1.1.2.2.2.1; omega) (by omega) (by omega) (by omega) (by omega) (by omega) (by omega) u1.1 u2 (by rw [xR_cg (u3.1 0 (by omega) (by omega))]; exact x14) (by rw [xR_fld (u4.2 2 (by omega) (by omega) (by omega)), xR_fld (f7 2 (by omega))]; exact x2) (fCn_tr fc6 (fCn_t u3)) (fRn_tr fr7 (fRn_t u4))
            · obtain ⟨⟨D', M', u2⟩, u3, u4⟩ := u
              rw [y1, y2, xT_thr, if_pos rfl, xB_ret, xB_ret, if_neg (by have := F.1; omega), d248 F.1, xB_ret, rst_f F.1, w32_id (by omega) (by omega)]
              exact ⟨x, _, _, rfl, by rw [show x + 0 = x by omega], RE_of u2 (fCn_tr fc6 (fCn_t u3)) (fRn_tr fr7 (fRn_t u4)) F.2.1 F.2.2⟩
        · obtain ⟨c7, r7, z1, z2, X, f1, f2⟩ := stm_x (B := B) s.1 kx
          have e45 : yk46_45 B 1 c6 = some (.inr 14, c7) := by
            unfold yk46_45
            rw [z1, xB_thr]
          have ec : (if xR c6 1 3 < 200 then yk46_45 B 1 c6 else if 203 < xR c6 1 3 then yk46_45 B 1 c6 else yk46_52 B 1 c6) = some (.inr 14, c7) := by
            by_cases a : xR c6 1 3 < 200
            · rw [if_pos a]; exact e45
            · rw [if_neg a, if_pos (by omega)]; exact e45
          rw [ec, xT_thr, if_pos rfl, z2, xB_ret, if_neg (by have := X.1; omega), d248 X.1, xB_ret, rst_f X.1, w32_id (by omega) (by omega)]
          exact ⟨x, _, _, rfl, by rw [show x + 0 = x by omega], RE_of (CT_y T6 f1 f2) (fCn_tr fc6 (fCn_y f1)) (fRn_tr fr6 (fRn_y f2)) X.2.1 X.2.2⟩
    · rw [q1, q2, xB_thr, xT_thr, if_pos rfl, xB_ret, rst_f F.1]
      exact ⟨x, _, _, rfl, rfl, RE_of (CT_y T z.1 z.2) (fCn_tr fc (fCn_y z.1)) (fRn_tr fr (fRn_y z.2)) F.2.1 F.2.2⟩
end RNB
