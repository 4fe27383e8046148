/-! THE READERS: a group's column, both sides -/
section GRD
variable {B : Nat} {c r : xw_M} {q D M : Int}
theorem gl_d {s col : Int} (hq : r 536 23 = q) (q0 : q = 544 ∨ q = 558) (k0 : 0 ≤ xR r q 4) (k8 : xR r q 4 ≤ 8) (d : 0 < xR r 536 6) : ∀ (N : Nat) (x y : Int), 0 ≤ x → (y = 0 ∨ y = 1) → (xR r q 4 - x).toNat < N → xl4 (yl283_50 B) N s col y x r = some (.inl 0, r) := by
  have rd : ∀ x, 0 ≤ x → x < xR r q 4 → ∀ a b : xP, (if (0 : Int) ≤ x ∧ x < (xw_le B (xw_rf (r 536 23) 5)) then if xw_obb 16 (xw_rf (r 536 23) 5) = true then if (xR r (xw_rf (r 536 23) 5) x) = col then a else b else none else none) = if xR r (q + 4) x = col then a else b := by
    intro x x0 x1 a b
    have x8 : 0 ≤ x ∧ x < 8 := ⟨x0, by omega⟩
    obtain ⟨o, ⟨_, _, _, f, _⟩, ob, ⟨_, _, _, l, _⟩⟩ := q_l B q0
    rw [hq, f, l, if_pos x8, if_pos (ob 4 (by decide) (by decide))]
  have oq : xw_obb 13 (r 536 23) = true := by rw [hq]; exact (q_l B q0).1
  have h4' : xR r (r 536 23) 4 = xR r q 4 := by rw [hq]
  intro N
  induction N with
  | zero => intro x y _ _ h; omega
  | succ N ih =>
    intro x y x0 hy hx
    show yl283_50 B (xl4 (yl283_50 B) N) s col y x r = _
    have IH := ih (x + 1)
    generalize xl4 (yl283_50 B) N = R at IH ⊢
    unfold yl283_50
    rw [if_pos oq]
    by_cases e : x < xR r q 4
    · rw [if_pos (by rw [h4']; exact e), w32_id (by omega) (by omega)]
      refine ifd ?_ (IH 1 (by omega) (Or.inr rfl) (by omega))
      rw [rd x x0 e]
      exact ifd (IH 1 (by omega) (Or.inr rfl) (by omega)) (IH 0 (by omega) (Or.inl rfl) (by omega))
    · rw [if_neg (by rw [h4']; exact e)]
      exact ifd (by rw [d254 d, xB_ret, if_pos (show (0 : Int) = 0 from rfl)]) (by rw [d254 d, xB_ret, if_pos (show (0 : Int) = 0 from rfl)])
theorem d283 (hq : r 536 23 = q) (q0 : q = 544 ∨ q = 558) (d : 0 < xR r 536 6) : yf283 B r = some (.inl 0, r) := by
  unfold yf283
  rw [d272 d, xB_ret, hq, if_pos (q_l B q0).1]
  exact ifd (by rw [d254 d, xB_ret, if_pos (show (0 : Int) = 0 from rfl)]) (by rw [d254 d, xB_ret, if_pos (show (0 : Int) = 0 from rfl)])
theorem gcol {k n : Int} (hq : r 536 23 = q) (q0 : q = 544 ∨ q = 558) (G : cgr c r D M) (h : TK c r) (C : GC c r q D k) (L : LW c n k) : duo (yf88 B c) (yf283 B r) (fun _ c' _ r' => TK c' r' ∧ GC c' r' q D (k + 1) ∧ LW c' n (k + 1) ∧ (fCg c c' ∧ c' 228 = c 228 ∧ c' 223 8 = c 223 8) ∧ (fRg q r r' ∧ r' q 6 = r q 6 ∧ r' (q + 5) = r (q + 5) ∧ r' (q + 6) = r (q + 6) ∧ r' 536 26 = r 536 26) ∧ xR c 1 2 < xR c' 1 2) (fun c' _ r' => QC c c' ∧ QR q r r') := by
  obtain ⟨C1, C2, C3, C4, C5⟩ := C
  have nf := h.nf
  have o := (q_l B q0).1
  have D8 := G.cn.1
  unfold yf88 yf283
  refine duo_B (dimh h G) (fun v c1 w r1 s => ?_) (fun c1 w r1 f z => ?_)
  · obtain ⟨rfl, rfl, rfl, d0, d1⟩ := s
    rw [hq, if_pos o, C2, C1]
    unfold yf64
    by_cases k8 : k < 8
    · rw [if_pos k8, if_pos k8, ok254 nf, xB_ret, xB_ret, if_neg (show ¬ (1 : Int) = 0 by decide)]
      refine duo_B (levb h.1 G d0 d1) (fun v c2 w2 r2 s => ?_) (fun c2 w2 r2 f z => ?_)
      · obtain ⟨rfl, ⟨l, e1, l0, l1⟩, t2, fc, fr, lt⟩ := s
        have l4 := (G.cn.2.2.2.2.1 w d0 d1).2.1
        have q2 : r2 536 23 = q := by rw [fr.2 23 (by omega)]; exact hq
        have e6 : xR c2 223 6 = k := by rw [xR_cg (fc.1 223 (by omega))]; exact C1
        have e4 : xR r2 q 4 = k := by rw [xR_cg (fr.1 q (by omega))]; exact C2
        unfold yf89
        generalize hN : (1000000 : Nat) = N
        obtain ⟨v, z1, p1⟩ := gof_c (B := B) (c := c2) (col := w2) e6 (by omega) N 0 (by omega) (by omega)
        obtain ⟨tw, z2, p2⟩ := gl_r (B := B) (r := r2) (s := xR r1 536 9) (col := w2) q2 q0 e4 C3.1 k8 t2.nf N 0 0 (by omega) C3.1 (Or.inl rfl) (by omega)
        rw [z1, xB_ret, z2]
        have cc : ∀ i, 0 ≤ i → i < k → xR r2 (q + 4) i = xR c2 227 i := fun i i0 i1 => by rw [xR_cg (fr.1 (q + 4) (by omega)), xR_cg (fc.1 227 (by omega))]; exact (C4 i i0 i1).1
        by_cases v1 : v = -1
        · have nt : ¬ tw = true := fun e => by
            rcases p2.mp e with y | ⟨i, i0, i1, i2⟩
            · exact absurd y (by decide)
            · rcases p1 with ⟨_, a⟩ | ⟨a, _⟩
              · exact a i i0 i1 (by rw [← cc i i0 i1]; exact i2)
              · omega
          have non : ∀ i, 0 ≤ i → i < k → xR c2 227 i ≠ w2 := by
            rcases p1 with ⟨_, a⟩ | ⟨a, _⟩
            · exact a
            · omega
          clear p1 p2 z1 z2
          rw [if_pos v1, if_neg nt]
          unfold yk88_54 yf90
          have L2 := LW_fr L (fc.1 292 (by omega)) (fc.1 229 (by omega)) (fc.1 227 (by omega))
          obtain ⟨c3, z3, f3, g3⟩ := LW_need (B := B) (col := w2) L2 (by omega) (by omega)
          rw [z3, xB_ret, xR_cg (f3 223 (by omega)), e6, if_pos ⟨C3.1, k8⟩, xB_ret]
          generalize hc4 : xw_u (xw_u c3 223 6 (k + 1)) 227 k w2 = c4
          generalize hr3 : xw_u (xw_u r2 (q + 4) k w2) q 4 (k + 1) = r3
          have ec : ∀ a, a ≠ 223 → a ≠ 227 → a ≠ 292 → c4 a = c2 a := fun a a1 a2 a3 => by rw [← hc4, xu_c a2, xu_c a1, f3 a a3]
          have er : ∀ a, a ≠ q → a ≠ q + 4 → r3 a = r2 a := fun a a1 a2 => by rw [← hr3, xu_c a1, xu_c a2]
          have c4n : xR c4 227 k = w2 := by rw [← hc4]; exact xR_at (w32_id (by omega) (by omega))
          have c4o : ∀ i, i ≠ k → xR c4 227 i = xR c1 227 i := fun i hi => by rw [← hc4, xR_ne (by omega), xR_cg (xu_c (by omega)), xR_cg (f3 227 (by omega)), xR_cg (fc.1 227 (by omega))]
          have c2o : ∀ i, xR c2 227 i = xR c1 227 i := fun i => by rw [xR_cg (fc.1 227 (by omega))]
          refine duo_r ⟨TK_fr t2 (fun k _ _ => by rw [ec 1 (by omega) (by omega) (by omega)]) (ec 2 (by omega) (by omega) (by omega)) (fun k _ _ => by rw [er 536 (by omega) (by omega)]) (er 537 (by omega) (by omega)), ⟨by rw [← hc4, xR_ne (by omega)]; exact xR_at (w32_id (by omega) (by omega)), by rw [← hr3]; exact xR_at (w32_id (by omega) (by omega)), by omega, fun i i0 i1 => ?_, fun i j i0 i1 j0 j1 e => ?_⟩, fun d d0' d1' v => ?_, ⟨fCg_tr (fCg_x fc) ⟨fun a _ a2 a3 _ a5 => ec a a2 a3 a5, fun k _ => by rw [ec 1 (by omega) (by omega) (by omega)], fun k k1 _ => by rw [← hc4, xu_c (by omega), xu_ne (by omega), f3 223 (by omega)]⟩, by rw [ec 228 (by omega) (by omega) (by omega), fc.1 228 (by omega)], by rw [← hc4, xu_c (by omega), xu_ne (by omega), f3 223 (by omega), fc.1 223 (by omega)]⟩, ⟨fRg_tr (fRg_x q0 fr) ⟨fun a _ a2 a3 => er a a2 (by omega), fun k _ _ => by rw [er 536 (by omega) (by omega)], fun k k1 _ => by rw [← hr3, xu_ne (by omega), xu_c (by omega)]⟩, by rw [← hr3, xu_ne (by omega), xu_c (by omega), fr.1 q (by omega)], by rw [er (q + 5) (by omega) (by omega), fr.1 (q + 5) (by omega)], by rw [er (q + 6) (by omega) (by omega), fr.1 (q + 6) (by omega)], by rw [er 536 (by omega) (by omega), fr.2 26 (by omega)]⟩, by rw [xR_cg (ec 1 (by omega) (by omega) (by omega))]; exact lt⟩
          · by_cases e : i = k
            · subst e
              refine ⟨?_, w, l, by rw [c4n, e1], d0, d1, l0, ?_⟩
              · rw [c4n, ← hr3, xR_ne (by omega)]; exact xR_at (w32_id (by omega) (by omega))
              · rw [xR_cg (ec (15 + 26 * w) (by omega) (by omega) (by omega)), xR_cg (fc.1 (15 + 26 * w) (by omega))]; exact l1
            · obtain ⟨a1, d, l', a2, a3, a4, a5, a6⟩ := C4 i i0 (by omega)
              rw [c4o i e]
              refine ⟨?_, d, l', a2, a3, a4, a5, ?_⟩
              · rw [← hr3, xR_ne (by omega), xR_ne (by omega), xR_cg (fr.1 (q + 4) (by omega))]; exact a1
              · rw [xR_cg (ec (15 + 26 * d) (by omega) (by omega) (by omega)), xR_cg (fc.1 (15 + 26 * d) (by omega))]; exact a6
          · by_cases ei : i = k
            · by_cases ej : j = k
              · omega
              · rw [ei, c4n, c4o j ej] at e
                exact absurd (by rw [c2o]; exact e.symm) (non j j0 (by omega))
            · by_cases ej : j = k
              · rw [ej, c4n, c4o i ei] at e
                exact absurd (by rw [c2o]; exact e) (non i i0 (by omega))
              · rw [c4o i ei, c4o j ej] at e
                exact C5 i j i0 (by omega) j0 (by omega) e
          · have k292 : xR c4 292 = xR c3 292 := by rw [← hc4, xR_cg (xu_c (by omega)), xR_cg (xu_c (by omega))]
            have k229 : xR c4 229 = xR c2 229 := xR_cg (ec 229 (by omega) (by omega) (by omega))
            rw [k292, k229, g3 d d0' d1' v, L2 d d0' d1' v]
            refine ⟨fun ⟨⟨a1, a2, a3⟩, b⟩ => ⟨a1, a2, fun i i0 i1 e => ?_⟩, fun ⟨a1, a2, a3⟩ => ⟨⟨a1, a2, fun i i0 i1 e => ?_⟩, fun e => ?_⟩⟩
            · by_cases hi : i = k
              · rw [hi, c4n] at e ⊢; exact b e
              · rw [c4o i hi, ← c2o] at e ⊢; exact a3 i i0 (by omega) e
            · have := a3 i i0 (by omega) (by rw [c4o i (by omega), ← c2o]; exact e)
              rw [c4o i (by omega), ← c2o] at this
              exact this
            · have := a3 k C3.1 (by omega) (by rw [c4n]; exact e)
              rw [c4n] at this
              exact this
        · have yt : tw = true := by
            rw [p2]
            rcases p1 with ⟨a, _⟩ | ⟨a1, a2, a3, _⟩
            · exact absurd a v1
            · exact Or.inr ⟨v, a1, a2, by rw [cc v a1 a2]; exact a3⟩
          clear p1 p2 z1 z2
          rw [if_neg v1, if_pos yt]
          unfold yf54
          rw [xB_thr]
          have X := flt (c := c2) (r := r2) (f := 10) (p := xR c1 1 4) (p' := xR r1 536 9) (by decide) (by decide) (w32_xR _ _ _) h.2.1.1
          exact duo_f X.1 ⟨QC_tr (QC_x fc) (QC_y X.2.1), QR_tr (QR_x fr) (QR_y X.2.2)⟩
      · have q2 : r2 536 23 = q := by rw [z.2.2.2 23 (by omega)]; exact hq
        have e4 : xR r2 q 4 = k := by rw [xR_cg (z.2.2.1 q (by omega))]; exact C2
        generalize hN : (1000000 : Nat) = N
        exact ⟨0, r2, gl_d q2 q0 (by omega) (by omega) f.1 N 0 0 (by omega) (Or.inl rfl) (by omega), f, QC_y z.2.1, QR_y z.2.2⟩
    · rw [if_neg k8, if_neg k8, no254 nf (by decide) (by decide), xB_ret, if_pos (show (0 : Int) = 0 from rfl)]
      unfold yf54
      rw [xB_thr, xB_thr]
      have X := flt (c := c1) (r := r1) (f := 7) (p := xR c1 1 4) (p' := xR r1 536 9) (by decide) (by decide) (w32_xR _ _ _) h.2.1.1
      exact duo_f X.1 ⟨QC_y X.2.1, QR_y X.2.2⟩
  · refine ⟨0, r1, ?_, f, QC_y z.2.1, QR_y z.2.2⟩
    rw [z.2.2.2 23 (by omega), hq, if_pos o]
    refine ifd ?_ ?_
    · rw [d254 f.1, xB_ret, if_pos (show (0 : Int) = 0 from rfl)]
    · rw [d254 f.1, xB_ret, if_pos (show (0 : Int) = 0 from rfl)]
end GRD
