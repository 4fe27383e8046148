/-! THE READERS: a whole comparison on both sides -/
section CME
variable {B : Nat} {c r : xw_M}
theorem rEW_e {w : Int} {G : xw_M → xP} : (xB (yf248 B r) fun _ m16 => xB (yf257 B w m16) fun v17 m17 => xB (yf258 B v17 m17) fun _ m18 => G m18) = xB (rEW B w r) fun _ m18 => G m18 := by
  unfold rEW
  rw [xB_as]
  refine congrArg (xB _) (funext fun v => funext fun m => ?_)
  rw [xB_as]
theorem SB_fr {c' : xw_M} {n p : Int} (h : SB c n p) (k1 : c' 223 = c 223) (k2 : c' 291 = c 291) : SB c' n p := by
  unfold SB SC at *
  rw [xR_cg k1, xR_cg k2]
  exact h
theorem LW_fr {c' : xw_M} {n g : Int} (h : LW c n g) (k1 : c' 292 = c 292) (k2 : c' 229 = c 229) (k3 : c' 227 = c 227) : LW c' n g := by
  unfold LW at *
  rw [xR_cg k1, xR_cg k2, xR_cg k3]
  exact h
/-- the class's comparison behind its column, the reference's -/
theorem cm_go {q D n d l p g : Int} {c4 r4 : xw_M} {F : Int → xw_M → xP} {Q : Int → xw_M → Int → xw_M → Prop} {Z : xw_M → Int → xw_M → Prop} (hq : r 536 23 = q) (q0 : q = 544 ∨ q = 558) (I : CQ c r q D n) (D8 : D ≤ 8) (L4 : ∀ d, 0 ≤ d → d < D → xR c (15 + 26 * d) 10 ≤ 4) (m1 : xR c (15 + 26 * d) 11 ≤ 1000) (n1 : n < 60) (s0 : 0 ≤ xR r q 11) (s1 : xR r q 11 < 2600) (d0 : 0 ≤ d) (d1 : d < D) (l0 : 0 ≤ l) (l1 : l < xR c (15 + 26 * d) 10) (M : Md c r q n d l p g c4 r4) (zr : ∀ x, 0 ≤ x → x < 1000 → xR c4 (231 + n) x = 0) (hF : ∀ c' r', CR c r q D n p g c' r' → duo (F 0 c') (xB (yf248 B r') fun _ m2 => some (.inl 0, m2)) Q Z) (hZ : ∀ c' r', FL c' r' → QC c c' → QR q r r' → Z c' 0 r') : duo (xB (if (xR c4 1 3) = 217 then (xB (yf68 B 3 c4) fun _ m6 => xB (yf68 B 214 m6) fun _ m7 => xB (yf68 B 3 m7) fun _ m8 => xB (yf78 B (xR m6 1 5) (xR m8 1 5) m8) fun _ m9 => yk73_205 B (xR c4 1 3) m9) else (if (xR c4 1 3) = 218 then (yk73_120 B (xR c4 1 3) c4) else (if (xR c4 1 3) = 216 then (yk73_120 B (xR c4 1 3) c4) else (if (xR c4 1 3) = 61 then (yk73_174 B (xR c4 1 3) c4) else (if (xR c4 1 3) = 60 then (yk73_174 B (xR c4 1 3) c4) else (if (xR c4 1 3) = 62 then (yk73_174 B (xR c4 1 3) c4) else (if (xR c4 1 3) < 100 then (yk73_198 B (xR c4 1 3) c4) else (if 102 < (xR c4 1 3) then (yk73_198 B (xR c4 1 3) c4) else (yk73_174 B (xR c4 1 3) c4))))))))) F) (rcE B n r4) Q Z := by
  have T := M.2.2.1
  have n0 : 0 ≤ n := I.2.2.1
  have q4 := Md_p hq M
  have qf := Md_q q0 n0 n1 M
  have nf := T.nf
  have u10 : ¬ (1 : Int) = 0 := by decide
  have t61 := iss (B := B) (K := 61) (g := 61) T rfl (Or.inl rfl)
  have t102 := iss (B := B) (K := 102) (g := 15422) T rfl (Or.inr (Or.inr (Or.inr rfl)))
  have t60 := iss (B := B) (K := 60) (g := 60) T rfl (Or.inl rfl)
  have t100 := iss (B := B) (K := 100) (g := 15421) T rfl (Or.inr (Or.inl rfl))
  have t62 := iss (B := B) (K := 62) (g := 62) T rfl (Or.inl rfl)
  have t101 := iss (B := B) (K := 101) (g := 15933) T rfl (Or.inr (Or.inr (Or.inl rfl)))
  have t17 := isw (B := B) (w := 17) T (by decide) (by decide)
  have t18 := isw (B := B) (w := 18) T (by decide) (by decide)
  have t16 := isw (B := B) (w := 16) T (by decide) (by decide)
  have fh := fhere (B := B) T
  generalize hK : xR c4 1 3 = K at *
  unfold rcE
  by_cases k61 : K = 61
  · rw [if_pos k61] at t61
    rw [if_neg (show ¬ K = 217 by omega), if_neg (show ¬ K = 218 by omega), if_neg (show ¬ K = 216 by omega), if_pos k61, t61, xB_ret, if_neg u10, ok258 nf, xB_ret, if_neg u10, wHow (X := fun m => yk277_242 B n 0 m) q4 q0 n0 n1]
    exact cm_sign (K := K) (h := 0) hq q0 I D8 L4 m1 n1 s0 s1 d0 d1 l0 l1 M zr (by omega) hF hZ
  rw [if_neg k61] at t61
  rw [t61, xB_ret, if_pos (show (0 : Int) = 0 from rfl)]
  by_cases k102 : K = 102
  · rw [if_pos k102] at t102
    rw [if_neg (show ¬ K = 217 by omega), if_neg (show ¬ K = 218 by omega), if_neg (show ¬ K = 216 by omega), if_neg k61, if_neg (show ¬ K = 60 by omega), if_neg (show ¬ K = 62 by omega), if_neg (show ¬ K < 100 by omega), if_neg (show ¬ 102 < K by omega), t102, xB_ret, if_neg u10, ok258 nf, xB_ret, if_neg u10, wHow (X := fun m => yk277_242 B n 1 m) q4 q0 n0 n1]
    exact cm_sign (K := K) (h := 1) hq q0 I D8 L4 m1 n1 s0 s1 d0 d1 l0 l1 M zr (by omega) hF hZ
  rw [if_neg k102] at t102
  rw [t102, xB_ret, if_pos (show (0 : Int) = 0 from rfl)]
  by_cases k60 : K = 60
  · rw [if_pos k60] at t60
    rw [if_neg (show ¬ K = 217 by omega), if_neg (show ¬ K = 218 by omega), if_neg (show ¬ K = 216 by omega), if_neg k61, if_pos k60, t60, xB_ret, if_neg u10, ok258 nf, xB_ret, if_neg u10, wHow (X := fun m => yk277_242 B n 2 m) q4 q0 n0 n1]
    exact cm_sign (K := K) (h := 2) hq q0 I D8 L4 m1 n1 s0 s1 d0 d1 l0 l1 M zr (by omega) hF hZ
  rw [if_neg k60] at t60
  rw [t60, xB_ret, if_pos (show (0 : Int) = 0 from rfl)]
  by_cases k100 : K = 100
  · rw [if_pos k100] at t100
    rw [if_neg (show ¬ K = 217 by omega), if_neg (show ¬ K = 218 by omega), if_neg (show ¬ K = 216 by omega), if_neg k61, if_neg k60, if_neg (show ¬ K = 62 by omega), if_neg (show ¬ K < 100 by omega), if_neg (show ¬ 102 < K by omega), t100, xB_ret, if_neg u10, ok258 nf, xB_ret, if_neg u10, wHow (X := fun m => yk277_242 B n 3 m) q4 q0 n0 n1]
    exact cm_sign (K := K) (h := 3) hq q0 I D8 L4 m1 n1 s0 s1 d0 d1 l0 l1 M zr (by omega) hF hZ
  rw [if_neg k100] at t100
  rw [t100, xB_ret, if_pos (show (0 : Int) = 0 from rfl)]
  by_cases k62 : K = 62
  · rw [if_pos k62] at t62
    rw [if_neg (show ¬ K = 217 by omega), if_neg (show ¬ K = 218 by omega), if_neg (show ¬ K = 216 by omega), if_neg k61, if_neg k60, if_pos k62, t62, xB_ret, if_neg u10, ok258 nf, xB_ret, if_neg u10, wHow (X := fun m => yk277_242 B n 4 m) q4 q0 n0 n1]
    exact cm_sign (K := K) (h := 4) hq q0 I D8 L4 m1 n1 s0 s1 d0 d1 l0 l1 M zr (by omega) hF hZ
  rw [if_neg k62] at t62
  rw [t62, xB_ret, if_pos (show (0 : Int) = 0 from rfl)]
  by_cases k101 : K = 101
  · rw [if_pos k101] at t101
    rw [if_neg (show ¬ K = 217 by omega), if_neg (show ¬ K = 218 by omega), if_neg (show ¬ K = 216 by omega), if_neg k61, if_neg k60, if_neg k62, if_neg (show ¬ K < 100 by omega), if_neg (show ¬ 102 < K by omega), t101, xB_ret, if_neg u10, ok258 nf, xB_ret, if_neg u10, wHow (X := fun m => yk277_242 B n 5 m) q4 q0 n0 n1]
    exact cm_sign (K := K) (h := 5) hq q0 I D8 L4 m1 n1 s0 s1 d0 d1 l0 l1 M zr (by omega) hF hZ
  rw [if_neg k101] at t101
  rw [t101, xB_ret, if_pos (show (0 : Int) = 0 from rfl)]
  by_cases k17 : K = 217
  · rw [if_pos (by omega)] at t17
    rw [if_pos k17, t17, xB_ret, if_neg u10, ok258 nf, xB_ret, if_neg u10, wHow (X := fun m => yk277_242 B n 6 m) q4 q0 n0 n1]
    subst k17
    exact cm_btw hq q0 I D8 L4 m1 n1 s0 s1 d0 d1 l0 l1 M zr hF hZ
  rw [if_neg (by omega)] at t17
  rw [if_neg k17, t17, xB_ret, if_pos (show (0 : Int) = 0 from rfl)]
  by_cases k18 : K = 218
  · rw [if_pos (by omega)] at t18
    rw [if_pos k18, t18, xB_ret, if_neg u10, ok258 nf, xB_ret, if_neg u10, wHow (X := fun m => yk277_242 B n 7 m) q4 q0 n0 n1]
    subst k18
    obtain ⟨M5, h5⟩ := Md_h (h := 7) q0 n0 n1 (by decide) (by decide) M
    unfold yk73_120
    rw [if_neg (by decide)]
    exact cm_in (K := 218) hq q0 I D8 L4 m1 n1 s0 s1 d0 d1 l0 l1 M5 zr h5 (Or.inl ⟨rfl, rfl⟩) hF hZ
  rw [if_neg (by omega)] at t18
  rw [if_neg k18, t18, xB_ret, if_pos (show (0 : Int) = 0 from rfl)]
  by_cases k16 : K = 216
  · rw [if_pos (by omega)] at t16
    rw [if_pos k16, t16, xB_ret, if_neg u10, ok258 nf, xB_ret, if_neg u10, wHow (X := fun m => xB (yf248 B m) fun _ m16 => xB (yf257 B 18 m16) fun v17 m17 => xB (yf258 B v17 m17) fun v18 m18 => yk277_242 B n 8 m18) q4 q0 n0 n1]
    subst k16
    obtain ⟨M5, h5⟩ := Md_h (h := 8) q0 n0 n1 (by decide) (by decide) M
    generalize xw_u r4 (q + 10) n 8 = r5 at M5 h5 ⊢
    have q5 := Md_p hq M5
    have qf5 := Md_q q0 n0 n1 M5
    unfold yk73_120
    rw [if_pos rfl, xB_as, rEW_e]
    refine duo_B (ewd (w := 18) M5.2.2.1.1 (by decide) (by decide) rfl) (fun v c6 w r6 s => ?_) (fun c6 w r6 f z => ?_)
    · obtain ⟨_, _, s⟩ := s
      have M6 := Md_x q0 n0 n1 M5 s
      exact cm_in (K := 216) hq q0 I D8 L4 m1 n1 s0 s1 d0 d1 l0 l1 M6 (fun x x0 x1 => by rw [xR_cg (s.2.1.1 (231 + n) (by omega))]; exact zr x x0 x1) (by rw [xR_cg (s.2.2.1.1 (q + 10) (by omega))]; exact h5) (Or.inr ⟨rfl, rfl⟩) hF hZ
    · have q6 : r6 536 23 = q := by rw [z.2.2.2 23 (by omega)]; exact q5
      rw [w242b (by decide)]
      unfold yf279
      generalize hN : (1000000 : Nat) = N
      obtain ⟨N1, rfl⟩ : ∃ N1, N = N1 + 1 := ⟨N - 1, by omega⟩
      rw [d265 f.1, xB_ret]
      obtain ⟨w', r7, z', f', g'⟩ := dlst (B := B) (c := c6) (r := r6) (q := q) (n := n) (x := 0) (N := N1) f q6 q0 n0 n1
      rw [z', xB_ret]
      obtain ⟨r8, z8, f8, g8⟩ := d270 (B := B) (n := n) (h := 8) f' (by rw [g'.2 23 (by omega) (by omega) (by omega)]; exact q6) q0 n0 n1
      exact ⟨0, r8, z8, f8, hZ c6 r8 f8 (QC_tr (QC_c qf5.1) (QC_y z.2.1)) (QR_tr (QR_tr (QR_c qf5.2) (QR_y z.2.2)) (QR_tr g' g8))⟩
  rw [if_neg (by omega)] at t16
  rw [if_neg k16, t16, xB_ret, if_pos (show (0 : Int) = 0 from rfl), if_neg k61, if_neg k60, if_neg k62]
  obtain ⟨c', r', z1, z2, f, f1, f2⟩ := fh
  have e198 : ∀ K, yk73_198 B K c4 = some (.inr 14, c') := fun K => by
    unfold yk73_198
    rw [z1, xB_thr]
  rw [z2, xB_ret, if_pos (show (0 : Int) = 0 from rfl)]
  have zz : Z c' 0 r' := hZ c' r' f (QC_tr (QC_c qf.1) (QC_y f1)) (QR_tr (QR_c qf.2) (QR_y f2))
  by_cases k0 : K < 100
  · rw [if_pos k0, e198, xB_thr]
    exact duo_f f zz
  · rw [if_neg k0, if_pos (show 102 < K by omega), e198, xB_thr]
    exact duo_f f zz
/-- a comparison: the class's, and what comes behind it; the reference's up to its last read -/
theorem cmp_ok {q D M n p g : Int} {F : Int → xw_M → xP} {Q : Int → xw_M → Int → xw_M → Prop} {Z : xw_M → Int → xw_M → Prop} (h : TK c r) (G : cgr c r D M) (hq : r 536 23 = q) (q0 : q = 544 ∨ q = 558) (I : CQ c r q D n) (s0 : 0 ≤ xR r q 11) (s1 : xR r q 11 < 2600) (p0 : 0 ≤ p) (S : SB c n p) (W : LW c n g) (hF : ∀ c' r', CR c r q D n p g c' r' → duo (F 0 c') (xB (yf248 B r') fun _ m2 => some (.inl 0, m2)) Q Z) (hZ : ∀ c' r', FL c' r' → QC c c' → QR q r r' → Z c' 0 r') : duo (xB (yf73 B c) F) (yf277 B r) Q Z := by
  have D8 := G.cn.1
  have L4 : ∀ d, 0 ≤ d → d < D → xR c (15 + 26 * d) 10 ≤ 4 := fun d d0 d1 => (G.cn.2.2.2.2.1 d d0 d1).2.1.2
  obtain ⟨i1, i2, n0, i4, i5⟩ := id I
  have nf := h.nf
  have o := (q_l B q0).1
  unfold yf73 yf277
  rw [xB_as]
  refine duo_B (dimh h G) (fun v c1 w r1 s => ?_) (fun c1 w r1 f z => ?_)
  · obtain ⟨rfl, rfl, rfl, d0, d1⟩ := s
    rw [hq, if_pos o, i2, i1, xB_as]
    unfold yf64
    by_cases n1 : n < 60
    · rw [if_pos n1, if_pos n1, xB_ret, xB_as, ok254 nf, xB_ret, if_neg (show ¬ (1 : Int) = 0 by decide), hq, if_pos o, i2]
      refine duo_B (levb h.1 G d0 d1) (fun v c2 w2 r2 s => ?_) (fun c2 w2 r2 f z => ?_)
      · obtain ⟨rfl, ⟨l, e1, l0, l1⟩, t2, fc, fr, lt⟩ := s
        have l4 := L4 w d0 d1
        have S2 := SB_fr S (fc.1 223 (by omega)) (fc.1 291 (by omega))
        have W2 := LW_fr W (fc.1 292 (by omega)) (fc.1 229 (by omega)) (fc.1 227 (by omega))
        obtain ⟨c3, z3, b1, b2, b3, b4, b5, b6, b7, b8, b9⟩ := begc (B := B) (c := c2) (n := n) (g := g) (p := p) (col := w2) (by rw [xR_cg (fc.1 223 (by omega))]; exact i1) n0 n1 (by omega) (by omega) p0 S2 W2
        have wr : (if (0 : Int) ≤ n ∧ n < (xw_le B (xw_rf q 14)) then if xw_obb 16 (xw_rf q 14) = true then xB (yf248 B (xw_u r2 (xw_rf q 14) n w2)) fun _ m4 => rcE B n m4 else none else none) = xB (yf248 B (xw_u r2 (q + 9) n w2)) fun _ m4 => rcE B n m4 := by
          obtain ⟨_, ⟨_, _, _, _, _, _, _, _, f, _⟩, ob, ⟨_, _, _, _, _, _, _, _, l, _⟩⟩ := q_l B q0
          rw [f, l, if_pos ⟨n0, n1⟩, if_pos (ob 9 (by decide) (by decide))]
        rw [xB_as, z3, xB_ret]
        show duo _ (if (0 : Int) ≤ n ∧ n < (xw_le B (xw_rf q 14)) then if xw_obb 16 (xw_rf q 14) = true then xB (yf248 B (xw_u r2 (xw_rf q 14) n w2)) fun _ m4 => rcE B n m4 else none else none) _ _
        rw [wr, xB_as]
        generalize hr3 : xw_u r2 (q + 9) n w2 = r3
        have e3 : ∀ a, a ≠ q + 9 → r3 a = r2 a := fun a ha => by rw [← hr3]; exact xu_c ha
        have c31 : c3 1 = c2 1 := b1 1 (by omega) (by omega) (by omega) (by omega) (by omega)
        have t3 : TK c3 r3 := TK_fr t2 (fun k _ _ => by rw [c31]) (b1 2 (by omega) (by omega) (by omega) (by omega) (by omega)) (fun k _ _ => by rw [e3 536 (by omega)]) (e3 537 (by omega))
        have M3 : Md c1 r1 q n w l p g c3 r3 := by
          refine ⟨⟨fun a x1 x2 x3 x4 x5 x6 => by rw [b1 a x2 x3 x4 x5 x6, fc.1 a x1], fun k k1 k2 => by rw [b2 k k1 k2, fc.1 223 (by omega)], b3, by rw [b4, e1], fun i hi => by rw [b5 i hi, fc.1 229 (by omega)], b7, fun v => by rw [b8 v]; congr 1; exact SC_fr (by rw [fc.1 223 (by omega)]) (fun i _ _ => by rw [xR_cg (fc.1 291 (by omega))]) v, b9, fun k hk => by rw [c31, fc.2 k hk]⟩, ⟨fun a x1 x2 => by rw [e3 a (by omega), fr.1 a x1], fun k hk => by rw [e3 536 (by omega), fr.2 k hk], ?_, fun a i x1 x2 hi => ?_, fun i _ => by rw [e3 (q + 13) (by omega), fr.1 (q + 13) (by omega)]⟩, t3, by rw [xR_cg c31]; exact lt⟩
          · rw [← hr3, e1]; exact xR_at (w32_id (by omega) (by omega))
          · rw [← hr3, xu_ne (by omega), fr.1 a (by omega)]
        have qf3 := Md_q q0 n0 n1 M3
        refine duo_B (nx t3.1) (fun v c4 w4 r4 s => ?_) (fun c4 w4 r4 f z => ?_)
        · exact cm_go hq q0 I D8.2 L4 (G.cn.2.2.2.2.1 w d0 d1).2.2.1.2 n1 s0 s1 d0 d1 l0 l1 (Md_x q0 n0 n1 M3 s) (fun x x0 x1 => by rw [xR_cg (s.2.1.1 (231 + n) (by omega))]; exact b6 x x0 x1) hF hZ
        · exact ⟨0, r4, dE f.1, f, hZ c4 r4 f (QC_tr (QC_c qf3.1) (QC_y z.1)) (QR_tr (QR_c qf3.2) (QR_y z.2))⟩
      · have f1 : FL c2 (xw_u r2 (q + 9) n w2) := fRk_fl (q := q) f (fun k _ => xu_ne (by omega))
        refine ⟨0, xw_u r2 (q + 9) n w2, ?_, f1, hZ c2 _ f1 (QC_y z.2.1) (QR_tr (QR_y z.2.2) ⟨fun a ha hb => xu_c (by omega), fun k _ _ _ => xu_ne (by omega)⟩)⟩
        show (if (0 : Int) ≤ n ∧ n < (xw_le B (xw_rf q 14)) then if xw_obb 16 (xw_rf q 14) = true then xB (yf248 B (xw_u r2 (xw_rf q 14) n w2)) fun _ m4 => rcE B n m4 else none else none) = _
        have d1 := d248 (B := B) f1.1
        have d2 := dE (B := B) (n := n) f1.1
        obtain ⟨_, ⟨_, _, _, _, _, _, _, _, f, _⟩, ob, ⟨_, _, _, _, _, _, _, _, l, _⟩⟩ := q_l B q0
        rw [f, l, if_pos ⟨n0, n1⟩, if_pos (ob 9 (by decide) (by decide)), d1, xB_ret, d2]
    · rw [if_neg n1, if_neg n1, no254 nf (by decide) (by decide), xB_ret, if_pos (show (0 : Int) = 0 from rfl)]
      unfold yf54
      rw [xB_thr, xB_thr]
      have X := flt (c := c1) (r := r1) (f := 7) (p := xR c1 1 4) (p' := xR r1 536 9) (by decide) (by decide) (w32_xR _ _ _) h.2.1.1
      exact duo_f X.1 (hZ _ _ X.1 (QC_y X.2.1) (QR_y X.2.2))
  · refine ⟨0, r1, ?_, f, hZ c1 r1 f (QC_y z.2.1) (QR_y z.2.2)⟩
    rw [z.2.2.2 23 (by omega), hq, if_pos o]
    refine ifd ?_ ?_
    · rw [d254 f.1, xB_ret, if_pos (show (0 : Int) = 0 from rfl)]
    · rw [d254 f.1, xB_ret, if_pos (show (0 : Int) = 0 from rfl)]
end CME
