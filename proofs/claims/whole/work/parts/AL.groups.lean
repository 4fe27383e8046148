/-! THE READERS: a question's groups, both sides -/
section GRS
variable {B : Nat} {c r : xw_M} {q D M : Int}
theorem d282 (hq : r 536 23 = q) (q0 : q = 544 ∨ q = 558) (d : 0 < xR r 536 6) : yf282 B r = some (.inl 1, r) := by
  have o := (q_l B q0).1
  have fin : ∀ x y : Int, xl3 (yl282_54 B) 1000000 x y 0 r = some (.inl 1, r) := fun x y => by
    generalize hN : (1000000 : Nat) = N
    obtain ⟨N1, rfl⟩ : ∃ N1, N = N1 + 1 := ⟨N - 1, by omega⟩
    show yl282_54 B _ x y 0 r = _
    unfold yl282_54
    rw [if_pos rfl, d118 d]
  unfold yf282
  rw [hq, if_pos o, p257, xB_ret]
  refine ifd ?_ (by rw [d265 d, xB_ret, fin])
  rw [p257, xB_ret]
  exact ifd (by rw [d283 hq q0 d, xB_ret, d118 d]) (by rw [d265 d, xB_ret, fin])
theorem grp_ok {n t k S : Int} (hq : r 536 23 = q) (q0 : q = 544 ∨ q = 558) (G : cgr c r D M) (h : TK c r) (C : GC c r q D k) (L : LW c n k) (P : GP c r q t k S) : duo (yf87 B c) (yf282 B r) (GQ c r q D n t k S (xR c 1 3)) (fun c' _ r' => QC c c' ∧ QR q r r') := by
  have D8 := G.cn.1
  have C3 := C.2.2.1
  have o := (q_l B q0).1
  have C1 := C.1
  have C2 := C.2.1
  have rc : ∀ K kd, (K = 207 ∨ K = 208) → kd = kdw K → duo (yk87_44 B K k c) (xB (yf265 B 40 r) fun v4 m4 => xl3 (yl282_54 B) 1000000 k kd v4 m4) (GQ c r q D n t k S K) (fun c' _ r' => QC c c' ∧ QR q r r') := fun K kd hK ek => by
    rw [ek]
    unfold yk87_44
    generalize hN : (1000000 : Nat) = N
    refine duo_B (esg (K := 40) (g := 40) h.1 rfl (Or.inl rfl)) (fun v c1 w r1 s => ?_) (fun c1 w r1 F z => ?_)
    · obtain ⟨w1, _, s⟩ := s
      rw [w1]
      have C1' : GC c1 r1 q D k := GC_fr D8.2 C (by rw [s.2.1.1 223 (by omega)]) (s.2.1.1 227 (by omega)) (by rw [s.2.2.1.1 q (by omega)]) (s.2.2.1.1 (q + 4) (by omega)) (fun a a0 a1 => s.2.1.1 a (by omega))
      have R := rol_l (B := B) (n := n) (t := t) (S := S) hq q0 G hK C3.1 8 N N k c1 r1 (by omega) (by omega) (by omega) (Int.le_refl _) s.1 C1' (LW_fr L (s.2.1.1 292 (by omega)) (s.2.1.1 229 (by omega)) (s.2.1.1 227 (by omega))) (GP_fr P (by rw [s.2.1.1 223 (by omega)]) (s.2.1.1 228 (by omega)) (by rw [s.2.2.1.1 q (by omega)]) (s.2.2.1.1 (q + 5) (by omega)) (s.2.2.1.1 (q + 6) (by omega))) (fCg_x s.2.1) (fRg_x q0 s.2.2.1) (s.2.2.1.2 26 (by omega)) s.2.2.2.1
      rw [show k - k = 0 by omega] at R
      exact R
    · rw [z.1]
      obtain ⟨N1, rfl⟩ : ∃ N1, N = N1 + 1 := ⟨N - 1, by omega⟩
      refine ⟨1, r1, ?_, F, QC_y z.2.1, QR_y z.2.2⟩
      show yl282_54 B _ k (kdw K) 0 r1 = _
      unfold yl282_54
      rw [if_pos rfl, d118 F.1]
  unfold yf87 yf282
  rw [hq, if_pos o, C2, C1, isw h (by decide) (by decide), xB_ret]
  by_cases k7 : xR c 1 3 = 207
  · rw [if_pos k7, if_pos (show xR c 1 3 = 200 + 7 by omega), if_neg (show ¬ (1 : Int) = 0 by decide)]
    exact rc _ 1 (Or.inl k7) (by unfold kdw; rw [if_pos k7])
  · rw [if_neg k7, if_neg (show ¬ xR c 1 3 = 200 + 7 by omega), if_pos (show (0 : Int) = 0 from rfl), isw h (by decide) (by decide), xB_ret]
    by_cases k8 : xR c 1 3 = 208
    · rw [if_pos k8, if_pos (show xR c 1 3 = 200 + 8 by omega), if_neg (show ¬ (1 : Int) = 0 by decide)]
      exact rc _ 2 (Or.inr k8) (by unfold kdw; rw [if_neg k7, if_pos k8])
    · rw [if_neg k8, if_neg (show ¬ xR c 1 3 = 200 + 8 by omega), if_pos (show (0 : Int) = 0 from rfl)]
      refine duo_B (gcol hq q0 G h C L) (fun v c7 w r7 u => ?_) (fun c7 w r7 F z => ⟨1, r7, d118 F.1, F, z.1, z.2⟩)
      obtain ⟨u1, u2, u3, ⟨u4, u4b, u4c⟩, ⟨u5, u5b, u5c, u5d, u5e⟩, u6⟩ := u
      have e := gend (B := B) (K := xR c 1 3) (k := k) (t := t) (S := S) hq q0 D8.2 u1 u2 u3 (GP_fr P u4c u4b u5b u5c u5d) (by omega) (fun _ => rfl) u4 u5 u5e (by omega)
      have kd0 : kdw (xR c 1 3) = 0 := by unfold kdw; rw [if_neg k7, if_neg k8]
      rw [kd0] at e
      have id1 : (xB (yf91 B (xR c 1 3) k c7) fun v1 m1 => some (.inl v1, m1)) = yf91 B (xR c 1 3) k c7 := by
        cases yf91 B (xR c 1 3) k c7 with
        | none => rfl
        | some o => obtain ⟨o, m⟩ := o; cases o <;> rfl
      rw [id1]
      exact e
/-- the groups, one behind another -/
theorem grs_l {n p : Int} (hq : r 536 23 = q) (q0 : q = 544 ∨ q = 558) (G : cgr c r D M) (h26 : r 536 26 = p) (wp : w32 p = p) : ∀ (z N N' : Nat) (i k t S : Int) (c5 r5 : xw_M), (9 - i).toNat ≤ z → z < N → z + 2 < N' → 0 ≤ i → i ≤ k → TK c5 r5 → GC c5 r5 q D k → LW c5 n k → GP c5 r5 q t k S → fCg c c5 → fRg q r r5 → r5 536 26 = p → xR c 1 2 ≤ xR c5 1 2 → duo (xl2 (yl86_20 B) N p i c5) (xl2 (yl281_25 B) N' S 1 r5) (fun _ c' _ r' => TK c' r' ∧ (∃ k t S, GC c' r' q D k ∧ LW c' n k ∧ GP c' r' q t k S) ∧ fCg c c' ∧ fRg q r r' ∧ xR c' 1 3 ≠ 44 ∧ xR c 1 2 ≤ xR c' 1 2) (fun c' _ r' => QC c c' ∧ QR q r r') := by
  have D8 := G.cn.1
  intro z
  induction z with
  | zero =>
    intro N N' i k t S c5 r5 hz _ _ i0 ik _ C _ _ _ _ _ _
    have := C.2.2.1
    omega
  | succ z ih =>
    intro N N' i k t S c5 r5 hz zN zN' i0 ik h C L P fc fr g26 lea
    have C3 := C.2.2.1
    have P6 := P.2.2.2.2.2.1
    cases N with
    | zero => omega
    | succ N =>
    cases N' with
    | zero => omega
    | succ N' =>
    cases N' with
    | zero => omega
    | succ N' =>
    cases N' with
    | zero => omega
    | succ N' =>
    have IH := ih N (N' + 1 + 1) (i + 1)
    have q5 : r5 536 23 = q := by rw [fr.2.1 23 (by omega) (by omega)]; exact hq
    have fin : ∀ (S' : Int) (r' : xw_M), xl2 (yl281_25 B) (N' + 1 + 1) S' 0 r' = some (.inl 0, r') := fun S' r' => by
      show yl281_25 B _ S' 0 r' = _
      unfold yl281_25
      rw [if_pos rfl]
    have fin1 : ∀ (S' : Int) (r' : xw_M), 0 < xR r' 536 6 → r' 536 23 = q → xl2 (yl281_25 B) (N' + 1 + 1) S' 1 r' = some (.inl 0, r') := fun S' r' d q' => by
      have e : ∀ (S' : Int) (r' : xw_M), xl2 (yl281_25 B) (N' + 1) S' 0 r' = some (.inl 0, r') := fun S' r' => by
        show yl281_25 B _ S' 0 r' = _
        unfold yl281_25
        rw [if_pos rfl]
      show yl281_25 B (xl2 (yl281_25 B) (N' + 1)) S' 1 r' = _
      generalize xl2 (yl281_25 B) (N' + 1) = R at e ⊢
      unfold yl281_25
      rw [if_neg (show ¬ (1 : Int) = 0 by decide), d248 d, xB_ret, d282 q' q0 d, xB_ret]
      refine ifd ?_ ?_
      · rw [d254 d, xB_ret, if_pos rfl]
        unfold yk281_70
        rw [if_pos rfl, e]
      · rw [d254 d, xB_ret, if_pos rfl]
        unfold yk281_70
        rw [if_pos rfl, e]
    show duo (yl86_20 B (xl2 (yl86_20 B) N) p i c5) (yl281_25 B (xl2 (yl281_25 B) (N' + 1 + 1)) S 1 r5) _ _
    generalize xl2 (yl281_25 B) (N' + 1 + 1) = R at IH fin fin1 ⊢
    generalize xl2 (yl86_20 B) N = R1 at IH ⊢
    have wi : w32 (i + 1) = i + 1 := w32_id (by omega) (by omega)
    unfold yl86_20 yl281_25
    rw [if_neg (by omega), if_neg (show ¬ (1 : Int) = 0 by decide)]
    have dead : ∀ (x w : Int) (r' : xw_M), 0 < xR r' 536 6 → (if 32 < w32 (S * w) then (xB (yf254 B 0 7 x r') fun v3 m3 => if v3 = 0 then (yk281_70 B R (w32 (S * w)) v3 m3) else (xB (yf248 B m3) fun _ m4 => yk281_70 B R (w32 (S * w)) v3 m4)) else (xB (yf254 B 1 7 x r') fun v5 m5 => if v5 = 0 then (yk281_70 B R (w32 (S * w)) v5 m5) else (xB (yf248 B m5) fun _ m6 => yk281_70 B R (w32 (S * w)) v5 m6))) = some (.inl 0, r') := fun x w r' d => by
      refine ifd ?_ ?_
      · rw [d254 d, xB_ret, if_pos rfl]
        unfold yk281_70
        rw [if_pos rfl, fin]
      · rw [d254 d, xB_ret, if_pos rfl]
        unfold yk281_70
        rw [if_pos rfl, fin]
    refine duo_B (nx h.1) (fun v c6 w r6 s => ?_) (fun c6 w r6 F z => ?_)
    · have q6 : r6 536 23 = q := by rw [s.2.2.1.2 23 (by omega)]; exact q5
      have G6 := cgr_x (cgr_g q0 G fc fr) s.2.1 s.2.2.1
      have C6 : GC c6 r6 q D k := GC_fr D8.2 C (by rw [s.2.1.1 223 (by omega)]) (s.2.1.1 227 (by omega)) (by rw [s.2.2.1.1 q (by omega)]) (s.2.2.1.1 (q + 4) (by omega)) (fun a a0 a1 => s.2.1.1 a (by omega))
      have P6' : GP c6 r6 q t k S := GP_fr P (by rw [s.2.1.1 223 (by omega)]) (s.2.1.1 228 (by omega)) (by rw [s.2.2.1.1 q (by omega)]) (s.2.2.1.1 (q + 5) (by omega)) (s.2.2.1.1 (q + 6) (by omega))
      refine duo_B (grp_ok q6 q0 G6 s.1 C6 (LW_fr L (s.2.1.1 292 (by omega)) (s.2.1.1 229 (by omega)) (s.2.1.1 227 (by omega))) P6') (fun v c7 w r7 u => ?_) (fun c7 w r7 F z => ?_)
      · obtain ⟨u1, k', u2, u3, u4, u5, ⟨u6, u6b⟩, u7, u8, u9⟩ := u
        have fc7 := fCg_tr (fCg_tr fc (fCg_x s.2.1)) u5
        have fr7 := fRg_tr (fRg_tr fr (fRg_x q0 s.2.2.1)) u6
        have g7 : r7 536 26 = p := by rw [u6b, s.2.2.1.2 26 (by omega), g26]
        have sw : 0 ≤ S * w ∧ S * w ≤ 8192 := by
          have a : S * w ≤ 32 * w := Int.mul_le_mul_of_nonneg_right P6.2 (by omega)
          have b : 0 ≤ S * w := Int.mul_nonneg (by omega) (by omega)
          omega
        have ws : w32 (S * w) = S * w := w32_id (by omega) (by omega)
        have x26 : xR r7 536 26 = p := by
          unfold xR
          rw [g7]
          exact wp
        rw [ws, x26]
        rcases u8 with ⟨b1, b2, b3⟩ | ⟨b1, b2⟩
        · rw [if_neg (show ¬ v = 0 by omega), if_neg (show ¬ 32 < S * w by omega), ok254 u1.nf, xB_ret, if_neg (show ¬ (1 : Int) = 0 by decide)]
          unfold yk86_50
          refine duo_B (nx u1.1) (fun v8 c8 w8 r8 s8 => ?_) (fun c8 w8 r8 F z => ?_)
          · have fc8 := fCg_tr fc7 (fCg_x s8.2.1)
            have fr8 := fRg_tr fr7 (fRg_x q0 s8.2.2.1)
            have C8 : GC c8 r8 q D k' := GC_fr D8.2 u3 (by rw [s8.2.1.1 223 (by omega)]) (s8.2.1.1 227 (by omega)) (by rw [s8.2.2.1.1 q (by omega)]) (s8.2.2.1.1 (q + 4) (by omega)) (fun a a0 a1 => s8.2.1.1 a (by omega))
            have L8 := LW_fr u4 (s8.2.1.1 292 (by omega)) (s8.2.1.1 229 (by omega)) (s8.2.1.1 227 (by omega))
            have P8 : GP c8 r8 q (t + 1) k' (S * w) := GP_fr b3 (by rw [s8.2.1.1 223 (by omega)]) (s8.2.1.1 228 (by omega)) (by rw [s8.2.2.1.1 q (by omega)]) (s8.2.2.1.1 (q + 5) (by omega)) (s8.2.2.1.1 (q + 6) (by omega))
            unfold yk281_70
            rw [if_neg (show ¬ (1 : Int) = 0 by decide), iss (K := 44) (g := 44) s8.1 rfl (Or.inl rfl), xB_ret]
            by_cases k44 : xR c8 1 3 = 44
            · rw [if_pos k44, if_pos k44, if_neg (show ¬ (1 : Int) = 0 by decide), wi]
              exact IH k' (t + 1) (S * w) c8 r8 (by omega) (by omega) (by omega) (by omega) (by omega) s8.1 C8 L8 P8 fc8 fr8 (by rw [s8.2.2.1.2 26 (by omega)]; exact g7) (by have := s.2.2.2.1; have := s8.2.2.2.1; omega)
            · rw [if_neg k44, if_neg k44, if_pos (show (0 : Int) = 0 from rfl), fin]
              exact duo_r ⟨s8.1, ⟨k', t + 1, S * w, C8, L8, P8⟩, fc8, fr8, k44, by have := s.2.2.2.1; have := s8.2.2.2.1; omega⟩
          · refine ⟨0, r8, ?_, F, QC_tr (QC_g fc7) (QC_y z.1), QR_tr (QR_g fr7) (QR_y z.2)⟩
            unfold yk281_70
            rw [if_neg (show ¬ (1 : Int) = 0 by decide), p266, xB_ret]
            exact ifd (fin _ _) (fin1 _ _ F.1 (by rw [z.2.2 23 (by omega), fr7.2.1 23 (by omega) (by omega)]; exact hq))
        · rw [if_pos b2, if_pos b1, no254 u1.nf (by decide) (by decide), xB_ret, if_pos (show (0 : Int) = 0 from rfl)]
          unfold yf54 yk281_70
          rw [xB_thr, if_pos (show (0 : Int) = 0 from rfl), fin]
          have X := flt (c := c7) (r := r7) (f := 7) (p := p) (p' := p) (by decide) (by decide) wp rfl
          exact duo_f X.1 ⟨QC_tr (QC_g fc7) (QC_y X.2.1), QR_tr (QR_g fr7) (QR_y X.2.2)⟩
      · exact ⟨0, r7, dead _ _ r7 F.1, F, QC_tr (QC_g fc) (QC_tr (QC_x s.2.1) z.1), QR_tr (QR_g fr) (QR_tr (QR_x s.2.2.1) z.2)⟩
    · refine ⟨0, r6, ?_, F, QC_tr (QC_g fc) (QC_y z.1), QR_tr (QR_g fr) (QR_y z.2)⟩
      rw [d282 (by rw [z.2.2 23 (by omega)]; exact q5) q0 F.1, xB_ret]
      exact dead _ _ r6 F.1
/-- group by -/
theorem grs_ok {n : Int} (hq : r 536 23 = q) (q0 : q = 544 ∨ q = 558) (G : cgr c r D M) (h : TK c r) (C : GC c r q D 0) (L : LW c n 0) (P : GP c r q 0 0 1) : duo (yf86 B c) (yf281 B r) (fun _ c' _ r' => TK c' r' ∧ (∃ k t S, GC c' r' q D k ∧ LW c' n k ∧ GP c' r' q t k S) ∧ fCg c c' ∧ fRg q r r' ∧ xR c' 1 3 ≠ 44 ∧ xR c 1 2 ≤ xR c' 1 2) (fun c' _ r' => QC c c' ∧ QR q r r') := by
  have D8 := G.cn.1
  generalize hr1 : xw_u r 536 26 (xR r 536 9) = r1
  have e1 : ∀ a, a ≠ 536 → r1 a = r a := fun a ha => by rw [← hr1]; exact xu_c ha
  have f1 : ∀ k, k ≠ 26 → r1 536 k = r 536 k := fun k hk => by rw [← hr1]; exact xu_ne (by omega)
  have g1 : r1 536 26 = xR c 1 4 := by rw [← hr1, xw_us]; exact h.2.1.1
  have fr1 : fRg q r r1 := ⟨fun a a1 _ _ => e1 a a1, fun k _ k1 => f1 k k1, fun k _ _ => by rw [e1 q (by omega)]⟩
  have t1 : TK c r1 := TK_fr h (fun _ _ _ => rfl) rfl (fun k _ _ => f1 k (by omega)) (e1 537 (by omega))
  have q1 : r1 536 23 = q := by rw [f1 23 (by omega)]; exact hq
  have hr : yf281 B r = xB (rEW B 6 r1) fun v3 m3 => xl2 (yl281_25 B) 1000000 1 v3 m3 := by
    unfold yf281 rEW
    rw [hr1, xB_as]
    refine congrArg (xB _) (funext fun v => funext fun m => ?_)
    rw [xB_as]
  rw [hr]
  unfold yf86
  generalize hN : (1000000 : Nat) = N
  refine duo_B (ewd (w := 6) t1.1 (by decide) (by decide) rfl) (fun v c2 w r2 s => ?_) (fun c2 w r2 F z => ?_)
  · obtain ⟨w1, _, s⟩ := s
    rw [w1]
    have C2 : GC c2 r2 q D 0 := GC_fr D8.2 C (by rw [s.2.1.1 223 (by omega)]) (s.2.1.1 227 (by omega)) (by rw [s.2.2.1.1 q (by omega), e1 q (by omega)]) (by rw [s.2.2.1.1 (q + 4) (by omega), e1 (q + 4) (by omega)]) (fun a a0 a1 => s.2.1.1 a (by omega))
    have P2 : GP c2 r2 q 0 0 1 := GP_fr P (by rw [s.2.1.1 223 (by omega)]) (s.2.1.1 228 (by omega)) (by rw [s.2.2.1.1 q (by omega), e1 q (by omega)]) (by rw [s.2.2.1.1 (q + 5) (by omega), e1 (q + 5) (by omega)]) (by rw [s.2.2.1.1 (q + 6) (by omega), e1 (q + 6) (by omega)])
    have G1 : cgr c r1 D M := cgr_fr G (fun _ _ _ => rfl) (fun a ha => e1 a (by omega)) (f1 14 (by omega)) (f1 19 (by omega))
    have R := grs_l (B := B) (n := n) (p := xR c 1 4) q1 q0 G1 g1 (w32_xR _ _ _) 9 N N 0 0 0 1 c2 r2 (by omega) (by omega) (by omega) (by omega) (by omega) s.1 C2 (LW_fr L (s.2.1.1 292 (by omega)) (s.2.1.1 229 (by omega)) (s.2.1.1 227 (by omega))) P2 (fCg_x s.2.1) (fRg_x q0 s.2.2.1) (by rw [s.2.2.1.2 26 (by omega)]; exact g1) s.2.2.2.1
    exact duo_m R (fun v c' w r' u => ⟨u.1, u.2.1, u.2.2.1, fRg_tr fr1 u.2.2.2.1, u.2.2.2.2⟩) (fun c' w r' _ u => ⟨u.1, QR_tr (QR_g fr1) u.2⟩)
  · rw [z.1]
    obtain ⟨N1, rfl⟩ : ∃ N1, N = N1 + 1 := ⟨N - 1, by omega⟩
    refine ⟨0, r2, ?_, F, QC_y z.2.1, QR_tr (QR_g fr1) (QR_y z.2.2)⟩
    show yl281_25 B _ 1 0 r2 = _
    unfold yl281_25
    rw [if_pos rfl]
end GRS
