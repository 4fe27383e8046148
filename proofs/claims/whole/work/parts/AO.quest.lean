/-! THE READERS: a whole question, both sides: readQuestion, question up to its answer -/
/-- the question as both sides hold it when it was read -/
def QD (c r : xw_M) (q D M : Int) : Prop := TK c r ∧ ∃ n k t S nc p, (xR c 223 2 = n ∧ xR r q 0 = n ∧ 0 ≤ n ∧ n ≤ 24) ∧ (∀ j, 0 ≤ j → j < n → rsi c r q M k j) ∧ GC c r q D k ∧ GP c r q t k S ∧ CDN c r q D nc k p
section QSV
variable {B : Nat} {c r : xw_M} {q D M : Int}
/-- amid a question: items, groups, condition -/
def QM (c0 r0 : xw_M) (q D M : Int) (n k t S nc p : Int) (c r : xw_M) : Prop := TK c r ∧ itq c r q M n ∧ GC c r q D k ∧ GP c r q t k S ∧ CDN c r q D nc k p ∧ QC c0 c ∧ QR q r0 r ∧ xR c 223 1 = xR c0 1 4 ∧ xR c0 1 2 ≤ xR c 1 2
theorem QM_g {c0 r0 : xw_M} {n k t S nc p : Int} (q0 : q = 544 ∨ q = 558) (G : cgr c0 r0 D M) (h : QM c0 r0 q D M n k t S nc p c r) : cgr c r D M := cgr_fr G (fun a a0 a1 => h.2.2.2.2.2.1.1 a (by omega) (by omega)) (fun a ha => h.2.2.2.2.2.2.1.1 a (by omega) (by omega)) (h.2.2.2.2.2.2.1.2 14 (by omega) (by omega) (by omega)) (h.2.2.2.2.2.2.1.2 19 (by omega) (by omega) (by omega))
theorem cgr_L4 (G : cgr c r D M) : ∀ d, 0 ≤ d → d < D → xR c (15 + 26 * d) 10 ≤ 4 := fun d d0 d1 => (G.cn.2.2.2.2.1 d d0 d1).2.1.2
theorem itq_fr {c' r' : xw_M} {n : Int} (h : itq c r q M n) (h1 : c' 223 2 = c 223 2) (hc : ∀ a, 224 ≤ a → a ≤ 226 → c' a = c a) (h2 : r' q 0 = r q 0) (hr : ∀ a, q + 1 ≤ a → a ≤ q + 3 → r' a = r a) : itq c' r' q M n := by
  unfold itq itm at *
  rw [xR_fld h1, xR_fld h2, xR_cg (hc 224 (by omega) (by omega)), xR_cg (hc 225 (by omega) (by omega)), xR_cg (hc 226 (by omega) (by omega)), xR_cg (hr (q + 1) (by omega) (by omega)), xR_cg (hr (q + 2) (by omega) (by omega)), xR_cg (hr (q + 3) (by omega) (by omega))]
  exact h
/-- from the end of the groups on -/
theorem q95 {c0 r0 : xw_M} {n k t S nc p : Int} {F : xw_M → xP} {Q : Int → xw_M → Int → xw_M → Prop} {Z : xw_M → Int → xw_M → Prop} (hq : r0 536 23 = q) (q0 : q = 544 ∨ q = 558) (G : cgr c0 r0 D M) (h : QM c0 r0 q D M n k t S nc p c r) (hF : ∀ c' r', QD c' r' q D M → QC c0 c' → QR q r0 r' → xR c' 223 1 = xR c0 1 4 → xR c0 1 2 ≤ xR c' 1 2 → duo (F c') (yk270_272 B r') Q Z) (hZ : ∀ c' r', FL c' r' → QC c0 c' → QR q r0 r' → Z c' 0 r') : duo (xB (yk57_95 B c) fun _ m => F m) (yk270_130 B r) Q Z := by
  have Gc := QM_g q0 G h
  have D8 := Gc.cn.1
  obtain ⟨h1, h2, h3, h4, h5, h6, h7, h8⟩ := h
  have qr : r 536 23 = q := by rw [h7.2 23 (by omega) (by omega) (by omega)]; exact hq
  unfold yk57_95 yk270_130
  rw [iss (K := 59) (g := 59) h1 rfl (Or.inl rfl), xB_ret]
  by_cases k59 : xR c 1 3 = 59
  · rw [if_pos k59, if_pos k59, ok258 h1.nf, xB_ret]
    unfold yk57_114 yf92
    generalize hN : (1000000 : Nat) = N
    rcases res_l (B := B) (D := D) qr q0 h1.nf h2 h3 30 N N 0 c (by have := h2.2.2.2.1; omega) (by omega) (by omega) (by decide) h2.2.2.1 (fun _ _ => rfl) (fun _ _ => rfl) (fun j j0 j1 => by omega) with ⟨c', z1, z2, f, R⟩ | ⟨c', j, jb, z1, z2, f⟩
    · rw [z1, xB_ret, if_pos rfl, z2, xB_ret]
      have e1 := f 1 (by omega)
      have L4 := cgr_L4 Gc
      refine hF c' r ⟨TK_fr h1 (fun k _ _ => by rw [e1]) (f 2 (by omega)) (fun _ _ _ => rfl) rfl, n, k, t, S, nc, p, ⟨by rw [xR_cg (f 223 (by omega))]; exact h2.1, h2.2.1, h2.2.2.1, h2.2.2.2.1⟩, R, GC_fr D8.2 h3 (by rw [f 223 (by omega)]) (f 227 (by omega)) rfl rfl (fun a _ _ => f a (by omega)), GP_fr h4 (by rw [f 223 (by omega)]) (f 228 (by omega)) rfl rfl rfl, CDN_fr L4 D8.2 h5 (LW_fr h5.2.1 (f 292 (by omega)) (f 229 (by omega)) (f 227 (by omega))) (fun a ha => f a (by omega)) (by rw [f 223 (by omega)]) (by rw [f 223 (by omega)]) rfl rfl (fun _ _ _ => rfl)⟩ (QC_tr h6 ⟨fun a _ hb => f a (by omega), fun k _ => by rw [e1]⟩) h7 (by rw [xR_cg (f 223 (by omega))]; exact h8.1) (by rw [xR_cg e1]; exact h8.2)
    · have t4 := (h2.2.2.2.2 j jb.1 jb.2).2.2.2.1
      have n24 := h2.2.2.2.1
      rw [z1, xB_ret, if_neg (by omega), if_pos ⟨jb.1, by omega⟩, z2]
      unfold yf54
      rw [xB_thr, xB_thr]
      have X := flt (c := c') (r := r) (f := 11) (p := xR c' 226 j) (p' := xR r (q + 3) j) (by decide) (by decide) (w32_xR _ _ _) (by rw [t4, xR_cg (f 226 (by omega))])
      exact duo_f X.1 (hZ _ _ X.1 (QC_tr (QC_tr h6 ⟨fun a _ hb => f a (by omega), fun k _ => by rw [f 1 (by omega)]⟩) (QC_y X.2.1)) (QR_tr h7 (QR_y X.2.2)))
  · rw [if_neg k59, if_neg k59]
    obtain ⟨c', r', z1, z2, X, f1, f2⟩ := fhere (B := B) h1
    have q' : r' 536 23 = q := by rw [f2.2 23 (by omega)]; exact qr
    rw [z1, z2, xB_thr, xB_thr, xB_ret]
    have e : xl1 (yl270_143 B) 1000000 0 r' = some (.inl 0, r') := by
      generalize hN : (1000000 : Nat) = N
      obtain ⟨N1, rfl⟩ : ∃ N1, N = N1 + 1 := ⟨N - 1, by omega⟩
      show yl270_143 B _ 0 r' = _
      unfold yl270_143
      rw [q', if_pos (q_l B q0).1]
      refine ifd ?_ (d272q X.1)
      rw [if_neg (by have := X.1; omega)]
      exact d272q X.1
    rw [e]
    exact duo_f X (hZ _ _ X (QC_tr h6 (QC_y f1)) (QR_tr h7 (QR_y f2)))
/-- from the end of the condition on -/
theorem q78 {c0 r0 : xw_M} {n nc p : Int} {F : xw_M → xP} {Q : Int → xw_M → Int → xw_M → Prop} {Z : xw_M → Int → xw_M → Prop} (hq : r0 536 23 = q) (q0 : q = 544 ∨ q = 558) (G : cgr c0 r0 D M) (h : QM c0 r0 q D M n 0 0 1 nc p c r) (hF : ∀ c' r', QD c' r' q D M → QC c0 c' → QR q r0 r' → xR c' 223 1 = xR c0 1 4 → xR c0 1 2 ≤ xR c' 1 2 → duo (F c') (yk270_272 B r') Q Z) (hZ : ∀ c' r', FL c' r' → QC c0 c' → QR q r0 r' → Z c' 0 r') : duo (xB (yk57_78 B c) fun _ m => F m) (yk270_111 B r) Q Z := by
  have Gc := QM_g q0 G h
  have D8 := Gc.cn.1
  obtain ⟨h1, h2, h3, h4, h5, h6, h7, h8⟩ := id h
  have qr : r 536 23 = q := by rw [h7.2 23 (by omega) (by omega) (by omega)]; exact hq
  unfold yk57_78 yk270_111
  rw [if_pos h1.nf, isw h1 (by decide) (by decide), xB_ret]
  by_cases k5 : xR c 1 3 = 205
  · rw [if_pos k5, if_pos (show xR c 1 3 = 200 + 5 by omega), if_neg (show ¬ (1 : Int) = 0 by decide), xB_as]
    refine duo_B (grs_ok qr q0 Gc h1 h3 h5.2.1 h4) (fun v c2 w r2 u => ?_) (fun c2 w r2 X z => ?_)
    · obtain ⟨u1, ⟨k, t, S, u2, u3, u4⟩, fc, fr, _, u5⟩ := u
      refine q95 (c0 := c0) (r0 := r0) (n := n) (k := k) (t := t) (S := S) (nc := nc) (p := p) hq q0 G ⟨u1, itq_fr h2 (fc.2.2 2 (by omega) (by omega)) (fun a a0 a1 => fc.1 a (by omega) (by omega) (by omega) (by omega) (by omega)) (fr.2.2 0 (by omega) (by omega)) (fun a a0 a1 => fr.1 a (by omega) (by omega) (by omega)), u2, u4, CDN_fr (cgr_L4 Gc) D8.2 h5 u3 (fun a ha => fc.1 a (by omega) (by omega) (by omega) (by omega) (by omega)) (fc.2.2 10 (by omega) (by omega)) (fc.2.2 13 (by omega) (by omega)) (fr.2.2 13 (by omega) (by omega)) (fr.2.2 11 (by omega) (by omega)) (fun a a0 a1 => fr.1 a (by omega) (by omega) (by omega)), QC_tr h6 (QC_g fc), QR_tr h7 (QR_g fr), by rw [xR_fld (fc.2.2 1 (by omega) (by omega))]; exact h8.1, by have := h8.2; omega⟩ hF hZ
    · have q2 : r2 536 23 = q := by rw [z.2.2 23 (by omega) (by omega) (by omega)]; exact qr
      exact ⟨0, r2, d130 q2 q0 X.1, X, hZ c2 r2 X (QC_tr h6 z.1) (QR_tr h7 z.2)⟩
  · rw [if_neg k5, if_neg (show ¬ xR c 1 3 = 200 + 5 by omega), if_pos (show (0 : Int) = 0 from rfl)]
    exact q95 hq q0 G h hF hZ
/-- from the end of the items on -/
theorem q61 {c0 r0 : xw_M} {n : Int} {N2 : Nat} {F : xw_M → xP} {Q : Int → xw_M → Int → xw_M → Prop} {Z : xw_M → Int → xw_M → Prop} (hq : r0 536 23 = q) (q0 : q = 544 ∨ q = 558) (G : cgr c0 r0 D M) (h : QM c0 r0 q D M n 0 0 1 0 0 c r) (s11 : xR r q 11 = 0) (b25 : xR r 536 25 = 0) (a3 : xR c 1 3 ≠ 0 → 3 ≤ xR c 1 2) (hF : ∀ c' r', QD c' r' q D M → QC c0 c' → QR q r0 r' → xR c' 223 1 = xR c0 1 4 → xR c0 1 2 ≤ xR c' 1 2 → duo (F c') (yk270_272 B r') Q Z) (hZ : ∀ c' r', FL c' r' → QC c0 c' → QR q r0 r' → Z c' 0 r') : duo (xB (yk57_61 B c) fun _ m => F m) (xl1 (yl270_47 B) (N2 + 1) 0 r) Q Z := by
  have Gc := QM_g q0 G h
  have D8 := Gc.cn.1
  obtain ⟨h1, h2, h3, h4, h5, h6, h7, h8⟩ := id h
  have qr : r 536 23 = q := by rw [h7.2 23 (by omega) (by omega) (by omega)]; exact hq
  show duo (xB (yk57_61 B c) fun _ m => F m) (yl270_47 B _ 0 r) Q Z
  unfold yk57_61 yl270_47
  rw [if_pos rfl, if_pos h1.nf, isw h1 (by decide) (by decide), xB_ret]
  by_cases k4 : xR c 1 3 = 204
  · rw [if_pos k4, if_pos (show xR c 1 3 = 200 + 4 by omega), if_neg (show ¬ (1 : Int) = 0 by decide), xB_as]
    have e : (xB (yf248 B r) fun _ m2 => xB (xE B 64 m2) fun _ m3 => yk270_111 B m3) = xB (xB (yf248 B r) fun _ m2 => xE B 64 m2) fun _ m3 => yk270_111 B m3 := by
      rw [xB_as]
    rw [e]
    refine duo_B (cond_ok qr q0 Gc h1 h5 s11 b25 (a3 (by omega)) (by omega)) (fun v c2 w r2 u => ?_) (fun c2 w r2 X z => ?_)
    · obtain ⟨u1, ⟨nc, u2⟩, fc, fr, u5⟩ := u
      exact q78 (c0 := c0) (r0 := r0) (n := n) (nc := nc) (p := 1) hq q0 G ⟨u1, itq_fr h2 (fc.2.2 2 (by omega) (by omega)) (fun a a0 a1 => fc.1 a (by omega) (by omega) (by omega)) (fr.2.2 0 (by omega) (by omega)) (fun a a0 a1 => fr.1 a (by omega) (by omega) (by omega)), GC_fr D8.2 h3 (fc.2.2 6 (by omega) (by omega)) (fc.1 227 (by omega) (by omega) (by omega)) (fr.2.2 4 (by omega) (by omega)) (fr.1 (q + 4) (by omega) (by omega) (by omega)) (fun a a0 a1 => fc.1 a (by omega) (by omega) (by omega)), GP_fr h4 (fc.2.2 8 (by omega) (by omega)) (fc.1 228 (by omega) (by omega) (by omega)) (fr.2.2 6 (by omega) (by omega)) (fr.1 (q + 5) (by omega) (by omega) (by omega)) (fr.1 (q + 6) (by omega) (by omega) (by omega)), u2, QC_tr h6 (QC_c fc), QR_tr h7 (QR_c fr), by rw [xR_fld (fc.2.2 1 (by omega) (by omega))]; exact h8.1, by have := h8.2; omega⟩ hF hZ
    · have q2 : r2 536 23 = q := by rw [z.2.2 23 (by omega) (by omega) (by omega)]; exact qr
      exact ⟨0, r2, d111 q2 q0 X.1, X, hZ c2 r2 X (QC_tr h6 z.1) (QR_tr h7 z.2)⟩
  · rw [if_neg k4, if_neg (show ¬ xR c 1 3 = 200 + 4 by omega), if_pos (show (0 : Int) = 0 from rfl)]
    exact q78 hq q0 G h hF hZ
theorem qst_ok {F : xw_M → xP} {Q : Int → xw_M → Int → xw_M → Prop} {Z : xw_M → Int → xw_M → Prop} (hq : r 536 23 = q) (q0 : q = 544 ∨ q = 558) (G : cgr c r D M) (h : TK c r) (a1 : 1 ≤ xR c 1 2) (hF : ∀ c' r', QD c' r' q D M → QC c c' → QR q r r' → xR c' 223 1 = xR c 1 4 → xR c 1 2 ≤ xR c' 1 2 → duo (F c') (yk270_272 B r') Q Z) (hZ : ∀ c' r', FL c' r' → QC c c' → QR q r r' → Z c' 0 r') : duo (xB (yf57 B c) fun _ m => F m) (yf270 B r) Q Z := by
  have D8 := G.cn.1
  -- the class begins
  obtain ⟨c1, z1, k1, k2, k3⟩ : ∃ c1, yf58 B (xR c 1 4) c = some (.inl 0, c1) ∧ (∀ a, a ≠ 223 → a ≠ 228 → a ≠ 292 → c1 a = c a) ∧ (xR c1 223 1 = xR c 1 4 ∧ xR c1 223 2 = 0 ∧ xR c1 223 6 = 0 ∧ xR c1 223 8 = 1 ∧ xR c1 223 10 = 0 ∧ xR c1 223 13 = 0 ∧ xR c1 228 0 = 0) ∧ ∀ d, 0 ≤ d → d < 8 → xR c1 292 d = 4 := by
    unfold yf58
    have le : xw_le B 292 = 8 := rfl
    rw [fill31 (B := B) rfl (by rw [le]; decide) (by rw [le]; decide), xB_ret, le]
    refine ⟨_, rfl, fun a a1 a2 a3 => by rw [xfill_ne a3, xu_c a1, xu_c a1, xu_c a2, xu_c a1, xu_c a1, xu_c a1, xu_c a1], ⟨?_, ?_, ?_, ?_, ?_, ?_, ?_⟩, fun d d0 d1 => ?_⟩
    · rw [xR_cg (xfill_ne (by omega)), xR_ne (by omega), xR_ne (by omega), xR_ne (by omega), xR_ne (by omega), xR_ne (by omega), xR_ne (by omega)]; exact xR_at (w32_xR _ _ _)
    · rw [xR_cg (xfill_ne (by omega)), xR_ne (by omega), xR_ne (by omega), xR_ne (by omega), xR_ne (by omega), xR_ne (by omega)]; exact xR_at (by decide)
    · rw [xR_cg (xfill_ne (by omega)), xR_ne (by omega), xR_ne (by omega), xR_ne (by omega), xR_ne (by omega)]; exact xR_at (by decide)
    · rw [xR_cg (xfill_ne (by omega)), xR_ne (by omega), xR_ne (by omega), xR_ne (by omega)]; exact xR_at (by decide)
    · rw [xR_cg (xfill_ne (by omega)), xR_ne (by omega)]; exact xR_at (by decide)
    · rw [xR_cg (xfill_ne (by omega))]; exact xR_at (by decide)
    · rw [xR_cg (xfill_ne (by omega)), xR_ne (by omega), xR_ne (by omega)]; exact xR_at (by decide)
    · unfold xR
      rw [xfill_at d0 d1]
      rfl
  obtain ⟨l1, l2, l3, l4, l5, l6, l7⟩ := k2
  have oq := (q_l B q0).1
  have e2 : yf270 B r = xl1 (yl270_47 B) 1000000 1 (xw_u (xw_u (xw_u (xw_u (xw_u (xw_u r q 0 0) q 4 0) q 6 0) q 11 0) q 13 0) 536 25 0) := by
    unfold yf270
    rw [hq, if_pos oq]
  clear oq
  generalize hr1 : xw_u (xw_u (xw_u (xw_u (xw_u (xw_u r q 0 0) q 4 0) q 6 0) q 11 0) q 13 0) 536 25 0 = r1 at e2
  have j1 : ∀ a, a ≠ 536 → a ≠ q → r1 a = r a := fun a a1 a2 => by rw [← hr1, xu_c a1, xu_c a2, xu_c a2, xu_c a2, xu_c a2, xu_c a2]
  have j2 : ∀ k, k ≠ 25 → r1 536 k = r 536 k := fun k hk => by rw [← hr1, xu_ne (by omega), xu_ne (by omega), xu_ne (by omega), xu_ne (by omega), xu_ne (by omega), xu_ne (by omega)]
  have m0 : xR r1 q 0 = 0 := by rw [← hr1, xR_ne (by omega), xR_ne (by omega), xR_ne (by omega), xR_ne (by omega), xR_ne (by omega)]; exact xR_at (by decide)
  have m4 : xR r1 q 4 = 0 := by rw [← hr1, xR_ne (by omega), xR_ne (by omega), xR_ne (by omega), xR_ne (by omega)]; exact xR_at (by decide)
  have m6 : xR r1 q 6 = 0 := by rw [← hr1, xR_ne (by omega), xR_ne (by omega), xR_ne (by omega)]; exact xR_at (by decide)
  have m11 : xR r1 q 11 = 0 := by rw [← hr1, xR_ne (by omega), xR_ne (by omega)]; exact xR_at (by decide)
  have m13 : xR r1 q 13 = 0 := by rw [← hr1, xR_ne (by omega)]; exact xR_at (by decide)
  have m25 : xR r1 536 25 = 0 := by rw [← hr1]; exact xR_at (by decide)
  have e1 : c1 1 = c 1 := k1 1 (by omega) (by omega) (by omega)
  have t1 : TK c1 r1 := TK_fr h (fun k _ _ => by rw [e1]) (k1 2 (by omega) (by omega) (by omega)) (fun k _ _ => j2 k (by omega)) (j1 537 (by omega) (by omega))
  have qc1 : QC c c1 := ⟨fun a _ hb => k1 a (by omega) (by omega) (by omega), fun k _ => by rw [e1]⟩
  have qr1 : QR q r r1 := ⟨fun a ha hb => j1 a ha (by omega), fun k _ k2 _ => j2 k k2⟩
  have I1 : itq c1 r1 q M 0 := ⟨l2, m0, by decide, by decide, fun i i0 i1 => by omega⟩
  have C1 : GC c1 r1 q D 0 := ⟨l3, m4, by decide, fun i i0 i1 => by omega, fun i j i0 i1 => by omega⟩
  have P1 : GP c1 r1 q 0 0 1 := ⟨m6, by decide, fun p p0 p1 => by omega, rfl, l4, by decide, fun s s0 s1 => by rw [show s = 0 by omega, l7]; exact rfl, fun s s' _ _ _ _ _ => by omega, fun m hm => ⟨0, by decide, by decide, by rw [l7]; exact hm.symm⟩⟩
  have L1 : LW c1 0 0 := fun d d0 d1 v => by
    rw [k3 d d0 d1]
    exact ⟨fun hv => ⟨hv, fun i i0 i1 => by omega, fun i i0 i1 => by omega⟩, fun hv => hv.1⟩
  have D1 : CDN c1 r1 q D 0 0 0 := by
    have sc : ∀ v, SC c1 v = [] := fun v => by unfold SC; rw [l6]; rfl
    refine ⟨⟨l5, m13, by decide, by decide, fun i i0 i1 => by omega⟩, L1, ⟨⟨by omega, by omega⟩, fun hs => by omega, fun v => by rw [sc v]; rfl, ⟨fun k hk => by rw [l6] at hk; omega, fun k hk => ?_⟩⟩, fun v => ?_, by omega, ⟨fun k hk => by rw [m11] at hk; omega, fun k hk => ?_⟩, Or.inl rfl⟩
    · rw [l6] at hk
      have : k = 0 := by omega
      rw [this]
      exact Int.le_refl _
    · rw [sc v]
      unfold RS
      rw [m11]
      rfl
    · rw [m11] at hk
      have : k = 0 := by omega
      rw [this]
      exact Int.le_refl _
  have G1 : cgr c1 r1 D M := cgr_fr G (fun a a0 a1 => k1 a (by omega) (by omega) (by omega)) (fun a ha => j1 a (by omega) (by omega)) (j2 14 (by omega)) (j2 19 (by omega))
  have qq1 : r1 536 23 = q := by rw [j2 23 (by omega)]; exact hq
  unfold yf57
  rw [e2, xB_as, z1, xB_ret]
  generalize hN : (1000000 : Nat) = N
  rcases its_l (B := B) qq1 q0 G1 25 N N 0 c1 r1 (by decide) (by omega) (by omega) (by decide) t1.1 I1 ⟨fun _ _ _ => rfl, fun _ _ => rfl, fun _ _ => rfl⟩ ⟨fun _ _ _ => rfl, fun _ _ => rfl, fun _ _ => rfl⟩ (Int.le_refl _) with ⟨c', r', n, N2, y1, y2, u1, u2, fc, fr, lt, l3'⟩ | ⟨c', r', N2, y1, y2, X, z1', z2'⟩
  · rw [y1, y2]
    have L4 := cgr_L4 G1
    have hM : QM c r q D M n 0 0 1 0 0 c' r' := ⟨u1, u2, GC_fr D8.2 C1 (fc.2.2 6 (by omega)) (fc.1 227 (by omega) (by omega)) (fr.2.2 4 (by omega)) (fr.1 (q + 4) (by omega) (by omega)) (fun a a0 a1 => fc.1 a (by omega) (by omega)), GP_fr P1 (fc.2.2 8 (by omega)) (fc.1 228 (by omega) (by omega)) (fr.2.2 6 (by omega)) (fr.1 (q + 5) (by omega) (by omega)) (fr.1 (q + 6) (by omega) (by omega)), CDN_fr L4 D8.2 D1 (LW_fr L1 (fc.1 292 (by omega) (by omega)) (fc.1 229 (by omega) (by omega)) (fc.1 227 (by omega) (by omega))) (fun a ha => fc.1 a (by omega) (by omega)) (fc.2.2 10 (by omega)) (fc.2.2 13 (by omega)) (fr.2.2 13 (by omega)) (fr.2.2 11 (by omega)) (fun a a0 a1 => fr.1 a (by omega) (by omega)), QC_tr qc1 (QC_i fc), QR_tr qr1 (QR_i fr), by rw [xR_fld (fc.2.2 1 (by omega))]; exact l1, by rw [xR_cg e1] at lt; omega⟩
    exact q61 (c0 := c) (r0 := r) hq q0 G hM (by rw [xR_fld (fr.2.2 11 (by omega))]; exact m11) (by rw [xR_fld (fr.2.1 25 (by omega))]; exact m25) (fun k0 => by have := l3' k0; rw [xR_cg e1] at this; omega) hF hZ
  · have q' : r' 536 23 = q := by rw [z2'.2 23 (by omega) (by omega) (by omega)]; exact qq1
    rw [y1, y2, xB_thr, dqst q' q0 X.1]
    exact duo_f X (hZ c' r' X (QC_tr qc1 z1') (QR_tr qr1 z2'))
end QSV
