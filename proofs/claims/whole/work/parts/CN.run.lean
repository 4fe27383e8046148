/-! RUN in the open store, both sides -/
theorem xT_B {o : xP} {F A : Int → xw_M → xP} {H : Nat → xw_M → xP} : xT o (fun v m => xT (F v m) A H) H = xT (xB o F) A H := by
  rcases o with _ | ⟨_ | _, _⟩ <;> rfl
section RNO
variable {B : Nat} {c r : xw_M} {D M tu q : Int} {Kx Rf : Int → Int} {Rv : Int → Int → Int}
theorem OSx_y {c' r' : xw_M} (O : OSx B D M tu Kx Rf Rv c r) (f : fTy c c') (g : fRy r r') : OSx B D M tu Kx Rf Rv c' r' := by
  have O' := O
  obtain ⟨_, _, _, _, rs0, p1, p2, p3, p4, _, _, _⟩ := O
  refine OSx_fr O' (fCo_y f) (fRo_y g) ?_ ?_ ?_ ?_ ?_ ?_
  · obtain ⟨pp, h⟩ := rs0; exact ⟨pp, rs_fr h (f.1 530 (by decide))⟩
  · rw [f.1 0 (by decide)]; exact p1
  · rw [g.2 22 (by decide), g.2 23 (by decide)]; exact p2
  · rw [g.2 73 (by decide), g.2 74 (by decide)]; exact p3
  · rw [g.2 59 (by decide), g.2 60 (by decide)]; exact p4
  · clear p3 p4
    exact ans_st O' (by rw [f.1 0 (by decide)]) (fun a a0 a1 => f.1 a (by omega)) (fun k hk => g.2 k (by omega)) (fun a ha => g.1 a (by omega))
/-- behind the reading of a question -/
theorem OSx_Q {c' r' : xw_M} (O : OSx B D M tu Kx Rf Rv c r) (hq : r 536 23 = q) (f : QC c c') (g : QR q r r') : OSx B D M tu Kx Rf Rv c' r' := by
  have O' := O
  obtain ⟨_, _, _, _, rs0, p1, p2, p3, p4, _, _, _⟩ := O
  have q0 : q = 544 ∨ q = 558 := by clear p3 p4; omega
  refine OSx_fr O' (fCo_q f) (fRo_q q0 g) ?_ ?_ ?_ ?_ ?_ ?_
  · obtain ⟨pp, h⟩ := rs0; exact ⟨pp, rs_fr h (f.1 530 (by decide) (by decide))⟩
  · rw [f.1 0 (by decide) (by decide)]; exact p1
  · rw [g.2 22 (by decide) (by decide) (by decide), g.2 23 (by decide) (by decide) (by decide)]; exact p2
  · rw [g.2 73 (by decide) (by decide) (by decide), g.2 74 (by decide) (by decide) (by decide)]; exact p3
  · rw [g.2 59 (by decide) (by decide) (by decide), g.2 60 (by decide) (by decide) (by decide)]; exact p4
  · clear p3 p4
    exact ans_st O' (by rw [f.1 0 (by decide) (by decide)]) (fun a a0 a1 => f.1 a (by omega) (by omega)) (fun k hk => g.2 k (by omega) (by omega) (by omega)) (fun a ha => g.1 a (by omega) (by omega))
/-- the reference's statement in the open store: a question; else a fault -/
theorem stm_q1 (h : TK c r) (o2 : xR r 536 2 = 1) (k : xR c 1 3 = 203) : yf256 B r = xB (yf270 B (xw_u r 536 27 (xR r 536 9))) fun _ m => some (.inl 0, m) := by
  have t : TK c (xw_u r 536 27 (xR r 536 9)) := TK_fr h (fun _ _ _ => rfl) rfl (fun k _ _ => xu_ne (by omega)) (xu_c (by omega))
  unfold yf256
  rw [isw h (by decide) (by decide), xB_ret, if_neg (show ¬ xR c 1 3 = 200 + 0 by omega), if_pos (show (0 : Int) = 0 from rfl), isw h (by decide) (by decide), xB_ret, if_neg (show ¬ xR c 1 3 = 200 + 1 by omega), if_pos (show (0 : Int) = 0 from rfl), isw h (by decide) (by decide), xB_ret, if_neg (show ¬ xR c 1 3 = 200 + 2 by omega), if_pos (show (0 : Int) = 0 from rfl), isw h (by decide) (by decide), xB_ret, if_pos (show xR c 1 3 = 200 + 3 by omega), if_neg (show ¬ (1 : Int) = 0 by decide), ok258 h.nf, xB_ret, if_neg (show ¬ (1 : Int) = 0 by decide), o2, if_neg (show ¬ (0 : Int) = 1 by decide), ok254 h.nf, xB_ret, if_neg (show ¬ (1 : Int) = 0 by decide), isw t (by decide) (by decide), xB_ret, if_neg (show ¬ xR c 1 3 = 200 + 0 by omega), if_pos (show (0 : Int) = 0 from rfl), isw t (by decide) (by decide), xB_ret, if_neg (show ¬ xR c 1 3 = 200 + 1 by omega), if_pos (show (0 : Int) = 0 from rfl)]
theorem stm_n1 (h : TK c r) (o2 : xR r 536 2 = 1) (k : xR c 1 3 = 200 ∨ xR c 1 3 = 201 ∨ xR c 1 3 = 202) : yf256 B r = some (.inl 0, xw_u (xw_u r 536 6 8) 536 7 (xR r 536 9)) := by
  have e24 : yk256_24 B r = some (.inl 0, xw_u (xw_u r 536 6 8) 536 7 (xR r 536 9)) := by
    unfold yk256_24
    rw [ok258 h.nf, xB_ret, if_neg (show ¬ (1 : Int) = 0 by decide), o2, if_pos (show (1 : Int) = 1 from rfl), no254 h.nf (by decide) (by decide), xB_ret, if_pos (show (0 : Int) = 0 from rfl)]
  unfold yf256
  rw [isw h (by decide) (by decide), xB_ret]
  rcases k with k | k | k
  · rw [if_pos (show xR c 1 3 = 200 + 0 by omega), if_neg (show ¬ (1 : Int) = 0 by decide)]
    exact e24
  · rw [if_neg (show ¬ xR c 1 3 = 200 + 0 by omega), if_pos (show (0 : Int) = 0 from rfl), isw h (by decide) (by decide), xB_ret, if_pos (show xR c 1 3 = 200 + 1 by omega), if_neg (show ¬ (1 : Int) = 0 by decide)]
    exact e24
  · rw [if_neg (show ¬ xR c 1 3 = 200 + 0 by omega), if_pos (show (0 : Int) = 0 from rfl), isw h (by decide) (by decide), xB_ret, if_neg (show ¬ xR c 1 3 = 200 + 1 by omega), if_pos (show (0 : Int) = 0 from rfl), isw h (by decide) (by decide), xB_ret, if_pos (show xR c 1 3 = 200 + 2 by omega), if_neg (show ¬ (1 : Int) = 0 by decide)]
    exact e24
/-- a question read and answered -/
theorem qall (hB : B ≤ 512) (O : OSx B D M tu Kx Rf Rv c r) (hq : r 536 23 = q) (h : TK c r) (a1 : 1 ≤ xR c 1 2) (pl : xR r 536 27 = xR c 1 4) : duo (xB (yf57 B c) fun _ m => yf93 B m) (yf270 B r) (fun _ c2 _ r2 => TK c2 r2 ∧ fCo c c2 ∧ fRo r r2 ∧ (xR c 1 2 ≤ xR c2 1 2 ∧ xR c2 1 1 = xR c 1 1) ∧ OSx B D M tu Kx Rf Rv c2 r2) (fun c2 _ r2 => fCo c c2 ∧ fRo r r2 ∧ OSx B D M tu Kx Rf Rv c2 r2) := by
  have q0 : q = 544 ∨ q = 558 := by
    obtain ⟨_, _, _, _, _, _, p2, _⟩ := O
    omega
  refine qst_ok (B := B) hq q0 O.2.1 h a1 (fun c' r' Q f g e1 e2 => ?_) (fun c' r' F f g => ?_)
  · have O2 := OSx_Q O hq f g
    have hq' : r' 536 23 = q := by rw [g.2 23 (by decide) (by decide) (by decide)]; exact hq
    have pl' : xR r' 536 27 = xR c' 223 1 := by rw [xR_fld (g.2 27 (by decide) (by decide) (by decide)), e1]; exact pl
    rcases qans hB O2 Q hq' pl' with ⟨v, c2, w, r2, z1, z2, y1, y2, y3, y4, y5⟩ | ⟨c2, w, r2, z1, z2, F, y1, y2, y3⟩
    · refine Or.inl ⟨v, c2, w, r2, z1, z2, y1, fCo_tr (fCo_q f) y2, fRo_tr (fRo_q q0 g) y3, ⟨by rw [xR_cg y4]; exact e2, ?_⟩, y5⟩
      rw [xR_cg y4, xR_fld (f.2 1 (by decide))]
    · exact Or.inr ⟨c2, w, r2, z1, z2, F, fCo_tr (fCo_q f) y1, fRo_tr (fRo_q q0 g) y2, y3⟩
  · exact ⟨fCo_q f, fRo_q q0 g, OSx_Q O hq f g⟩
def REo (B : Nat) (D M tu : Int) (Kx Rf : Int → Int) (Rv : Int → Int → Int) (c r c' r' : xw_M) : Prop := OSx B D M tu Kx Rf Rv c' r' ∧ fCo c c' ∧ fRo r r' ∧ xR c' 1 1 = 0 ∧ xR r' 536 5 = 0 ∧ xR c' 1 6 = xR r' 536 6 ∧ xR c' 1 7 = xR r' 536 7
theorem REo_of {c5 r5 : xw_M} (O : OSx B D M tu Kx Rf Rv c5 r5) (f : fCo c c5) (k : fRo r r5) (e6 : xR c5 1 6 = xR r5 536 6) (e7 : xR c5 1 7 = xR r5 536 7) : REo B D M tu Kx Rf Rv c r (xw_u c5 1 1 0) (xw_u r5 536 5 0) := by
  have O' := O
  obtain ⟨_, _, _, _, rs0, p1, p2, p3, p4, _, _, _⟩ := O
  have f1 : fCo c5 (xw_u c5 1 1 0) := ⟨fun a _ a2 _ _ _ _ _ _ _ _ => xu_c a2, fun k _ _ => by rw [xu_c (by decide)], fun k hk => xu_ne (by omega), fun k _ _ _ => by rw [xu_c (by decide)], fun k _ => by rw [xu_c (by decide)]⟩
  have g1 : fRo r5 (xw_u r5 536 5 0) := ⟨fun a a1 _ _ _ => xu_c a1, fun k k1 _ _ _ _ _ _ => xu_ne (by omega)⟩
  refine ⟨OSx_fr O' f1 g1 ?_ ?_ ?_ ?_ ?_ ?_, fCo_tr f f1, fRo_tr k g1, xR_at (by decide), xR_at (by decide), ?_, ?_⟩
  · obtain ⟨pp, h⟩ := rs0; exact ⟨pp, rs_fr h (xu_c (by decide))⟩
  · rw [xu_c (by decide)]; exact p1
  · rw [xu_ne (by decide), xu_ne (by decide)]; exact p2
  · rw [xu_ne (by decide), xu_ne (by decide)]; exact p3
  · rw [xu_ne (by decide), xu_ne (by decide)]; exact p4
  · clear p3 p4
    exact ans_st O' (by rw [xu_c (by decide)]) (fun a a0 a1 => xu_c (by omega)) (fun k hk => xu_ne (by omega)) (fun a ha => xu_c (by omega))
  · rw [xR_ne (by omega), xR_ne (by omega)]; exact e6
  · rw [xR_ne (by omega), xR_ne (by omega)]; exact e7
theorem runO_l (hB : B ≤ 512) : ∀ (z N N' : Nat) (i x : Int) (c5 r5 : xw_M), (xR c5 1 1 - xR c5 1 2).toNat ≤ z → z + 1 < N → z + 2 < N' → 0 ≤ i → i ≤ xR c5 1 2 → 0 ≤ x → x ≤ i → PS c5 r5 → OSx B D M tu Kx Rf Rv c5 r5 → fCo c c5 → fRo r r5 → ∃ v c' r', xl2 (yl45_22 B) N x i c5 = some (.inl v, c') ∧ (xB (yf248 B r5) fun _ m => xl1 (yl247_51 B) N' x m) = some (.inl v, r') ∧ REo B D M tu Kx Rf Rv c r c' r' := by
  intro z
  induction z with
  | zero =>
    intro N N' i x c5 r5 hz zN zN' i0 i1 x0 xi h T fc fr
    have h14 : ¬ xR c5 0 14 = 0 := by rw [T.2.2.2.2.2.2.2.2.2.1.2.2]; decide
    cases N with
    | zero => omega
    | succ N =>
    cases N' with
    | zero => omega
    | succ N' =>
    have at1 := h.2.2.2.1
    obtain ⟨r6, y2, g6, e10⟩ := nx_end (B := B) h (by omega)
    have nf : xR r6 536 6 = 0 := by rw [xR_fld (g6.2 6 (by omega))]; exact h.2.2.2.2.2.2.1
    have ef := (show xR c5 1 6 = xR r5 536 6 ∧ xR c5 1 7 = xR r5 536 7 from ⟨by rw [h.2.2.2.2.1, h.2.2.2.2.2.2.1], by rw [h.2.2.2.2.2.1, h.2.2.2.2.2.2.2]⟩)
    rw [y2, xB_ret, rst_e nf e10]
    show ∃ v c' r', yl45_22 B (xl2 (yl45_22 B) N) x i c5 = _ ∧ _
    unfold yl45_22
    by_cases i6 : i < 65536
    · rw [if_pos i6, if_neg h14]
      unfold yf46
      rcases nx (B := B) h with ⟨_, c6, _, r6', q1, q2, s⟩ | ⟨c6, _, r6', q1, q2, F, z⟩
      · rw [q1, xB_ret]
        rw [y2] at q2
        have er : r6' = r6 := by injection q2 with q2; injection q2 with _ q2; exact q2.symm
        subst er
        have k0 := (tk0 s.1).mp e10
        rw [if_pos k0, xT_ret, if_pos rfl]
        unfold yk45_93 yk45_97
        exact ⟨x, _, _, rfl, rfl, REo_of (OSx_y T (fTy_of s.2.1) (fRy_of s.2.2.1)) (fCo_tr fc (fCo_y (fTy_of s.2.1))) (fRo_tr fr (fRo_y (fRy_of s.2.2.1))) s.1.f67.1 s.1.f67.2⟩
      · rw [y2] at q2
        have er : r6' = r6 := by injection q2 with q2; injection q2 with _ q2; exact q2.symm
        subst er
        have := F.1
        omega
    · rw [if_neg i6]
      unfold yk45_93 yk45_97
      exact ⟨x, _, _, rfl, rfl, REo_of (OSx_y T fTy_rf (fRy_of g6)) fc (fRo_tr fr (fRo_y (fRy_of g6))) (by rw [xR_fld (g6.2 6 (by omega))]; exact ef.1) (by rw [xR_fld (g6.2 7 (by omega))]; exact ef.2)⟩
  | succ z ih =>
    intro N N' i x c5 r5 hz zN zN' i0 i1 x0 xi h T fc fr
    have h14 : ¬ xR c5 0 14 = 0 := by rw [T.2.2.2.2.2.2.2.2.2.1.2.2]; decide
    cases N with
    | zero => omega
    | succ N =>
    cases N' with
    | zero => omega
    | succ N' =>
    cases N' with
    | zero => omega
    | succ N' =>
    have at1 := h.2.2.2.1
    have tx := h.1.2.2.1
    by_cases e0 : (xR c5 1 1 - xR c5 1 2).toNat ≤ z
    · exact ih (N + 1) (N' + 1 + 1) i x c5 r5 e0 (by omega) (by omega) i0 i1 x0 xi h T fc fr
    show ∃ v c' r', yl45_22 B (xl2 (yl45_22 B) N) x i c5 = _ ∧ _
    have IH := ih N (N' + 1)
    generalize xl2 (yl45_22 B) N = R at IH ⊢
    have i6 : i < 65536 := by omega
    unfold yl45_22
    rw [if_pos i6, if_neg h14]
    unfold yf46
    rcases nx (B := B) h with ⟨_, c6, _, r6, q1, q2, s⟩ | ⟨c6, _, r6, q1, q2, F, z⟩
    · rw [q1, q2, xB_ret, xB_ret]
      have T6 := OSx_y T (fTy_of s.2.1) (fRy_of s.2.2.1)
      have fc6 : fCo c c6 := fCo_tr fc (fCo_y (fTy_of s.2.1))
      have fr6 : fRo r r6 := fRo_tr fr (fRo_y (fRy_of s.2.2.1))
      have x2 : xR r6 536 2 = 1 := T6.2.2.2.2.2.2.2.2.2.1.2.1
      by_cases k0 : xR c6 1 3 = 0
      · rw [if_pos k0, xT_ret, if_pos rfl, rst_e s.1.nf ((tk0 s.1).mpr k0)]
        unfold yk45_93 yk45_97
        exact ⟨x, _, _, rfl, rfl, REo_of T6 fc6 fr6 s.1.f67.1 s.1.f67.2⟩
      · have lt := s.2.2.2.2 k0
        have n6 : xR c6 1 1 = xR c5 1 1 := xR_fld (s.2.1.2 1 (by omega))
        rw [if_neg k0, rst_s s.1.nf (fun q => k0 ((tk0 s.1).mp q))]
        by_cases kx : 200 ≤ xR c6 1 3 ∧ xR c6 1 3 ≤ 203
        · rw [if_neg (show ¬ xR c6 1 3 < 200 by omega), if_neg (show ¬ 203 < xR c6 1 3 by omega)]
          unfold yk46_52
          by_cases k3 : xR c6 1 3 = 203
          · rw [if_pos k3, if_neg (show ¬ (0 : Int) = 1 by decide), xT_ret, if_neg (show ¬ (1 : Int) = 0 by decide), if_pos k3, xT_B, stm_q1 s.1 x2 k3, xB_as]
            generalize hr7 : xw_u r6 536 27 (xR r6 536 9) = r7
            have e7 : ∀ a, a ≠ 536 → r7 a = r6 a := fun a ha => by rw [← hr7]; exact xu_c ha
            have f7 : ∀ k, k ≠ 27 → r7 536 k = r6 536 k := fun k hk => by rw [← hr7]; exact xu_ne (by omega)
            have w27 : xR r7 536 27 = xR c6 1 4 := by rw [← hr7, xR_at (w32_xR _ _ _)]; exact s.1.2.1.1
            have t7 : TK c6 r7 := TK_fr s.1 (fun _ _ _ => rfl) rfl (fun k _ _ => f7 k (by omega)) (e7 537 (by omega))
            have g7 : fRo r6 r7 := ⟨fun a a1 _ _ _ => e7 a a1, fun k _ k2 _ _ _ _ _ => f7 k (by omega)⟩
            have T7 : OSx B D M tu Kx Rf Rv c6 r7 := by
              have T6' := T6
              obtain ⟨_, _, _, _, rs0, p1, p2, p3, p4, _, _, _⟩ := T6
              refine OSx_fr T6' fCo_r g7 rs0 p1 (by rw [f7 22 (by decide), f7 23 (by decide)]; exact p2) (by rw [f7 73 (by decide), f7 74 (by decide)]; exact p3) (by rw [f7 59 (by decide), f7 60 (by decide)]; exact p4) ?_
              clear p3 p4
              exact ans_st T6' rfl (fun _ _ _ => rfl) (fun k hk => f7 k (by omega)) (fun a ha => e7 a (by omega))
            have fr7 : fRo r r7 := fRo_tr fr6 g7
            rcases qall (B := B) hB T7 rfl t7 (by omega) w27 with ⟨_, c8, _, r8, y1, y2, u⟩ | ⟨c8, _, r8, y1, y2, F, u⟩
            · obtain ⟨u1, u2, u3, ⟨u4, u5⟩, u6⟩ := u
              rw [y1, y2, xT_ret, xB_ret, xB_ret, if_pos u1.nf, w32_id (x := x + 1) (by omega) (by omega), w32_id (x := i + 1) (by omega) (by omega)]
              exact IH (i + 1) (x + 1) c8 r8 (by have := u1.1.2.2.2.1; omega) (by omega) (by omega) (by omega) (by omega) (by omega) (by omega) u1.1 u6 (fCo_tr fc6 u2) (fRo_tr fr7 u3)
            · obtain ⟨u2, u3, u4⟩ := u
              rw [y1, y2, xT_thr, if_pos rfl, xB_ret, xB_ret, if_neg (by have := F.1; omega), d248 F.1, xB_ret, rst_f F.1, w32_id (by omega) (by omega)]
              exact ⟨x, _, _, rfl, by rw [show x + 0 = x by omega], REo_of u4 (fCo_tr fc6 u2) (fRo_tr fr7 u3) F.2.1 F.2.2⟩
          · rw [if_neg k3, if_pos (show (0 : Int) = 0 from rfl), stm_n1 s.1 x2 (by omega), xB_ret]
            have X := flt (c := c6) (r := r6) (f := 8) (p := xR c6 1 4) (p' := xR r6 536 9) (by decide) (by decide) (w32_xR _ _ _) s.1.2.1.1
            unfold yf54
            rw [xB_thr, xT_thr, if_pos rfl, if_neg (by have := X.1.1; omega), d248 X.1.1, xB_ret, rst_f X.1.1, w32_id (by omega) (by omega)]
            refine ⟨x, _, _, rfl, by rw [show x + 0 = x by omega], REo_of (OSx_y T6 X.2.1 X.2.2) (fCo_tr fc6 (fCo_y X.2.1)) (fRo_tr fr6 (fRo_y X.2.2)) X.1.2.1 X.1.2.2⟩
        · obtain ⟨c7, r7, z1, z2, X, f1, f2⟩ := stm_x (B := B) s.1 kx
          have e45 : yk46_45 B 0 c6 = some (.inr 14, c7) := by
            unfold yk46_45
            rw [z1, xB_thr]
          have ec : (if xR c6 1 3 < 200 then yk46_45 B 0 c6 else if 203 < xR c6 1 3 then yk46_45 B 0 c6 else yk46_52 B 0 c6) = some (.inr 14, c7) := by
            by_cases a : xR c6 1 3 < 200
            · rw [if_pos a]; exact e45
            · rw [if_neg a, if_pos (by omega)]; exact e45
          rw [ec, xT_thr, if_pos rfl, z2, xB_ret, if_neg (by have := X.1; omega), d248 X.1, xB_ret, rst_f X.1, w32_id (by omega) (by omega)]
          exact ⟨x, _, _, rfl, by rw [show x + 0 = x by omega], REo_of (OSx_y T6 f1 f2) (fCo_tr fc6 (fCo_y f1)) (fRo_tr fr6 (fRo_y f2)) X.2.1 X.2.2⟩
    · rw [q1, q2, xB_thr, xT_thr, if_pos rfl, xB_ret, rst_f F.1]
      exact ⟨x, _, _, rfl, rfl, REo_of (OSx_y T z.1 z.2) (fCo_tr fc (fCo_y z.1)) (fRo_tr fr (fRo_y z.2)) F.2.1 F.2.2⟩
end RNO
