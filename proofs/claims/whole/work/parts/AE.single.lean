/-! THE READERS: a condition, both sides: brackets; a single one as a whole -/
section SGB
variable {B : Nat} {c0 r0 : xw_M} {q D M g : Int}
theorem mul_b {x b : Int} : x * (43 - b) = x * (43 - (b + 1)) + x := by
  rw [show 43 - b = 43 - (b + 1) + 1 by omega, Int.mul_add, Int.mul_one]
theorem mul_l {x b : Int} (x0 : 0 ≤ x) (b0 : 0 ≤ b) : x * (43 - b) ≤ x * 43 := Int.mul_le_mul_of_nonneg_left (by omega) x0
/-- behind the inner condition: its end bracket -/
theorem sgl_end {fe : xw_M → xP} {b i j f n n' p w : Int} {N n3 : Nat} {c r c2 r2 c3 r3 : xw_M} {ops : List Int} {val : (Int → Bool) → Bool} (hq : r0 536 23 = q) (q0 : q = 544 ∨ q = 558) (G : cgr c0 r0 D M) (b0 : 0 ≤ b) (b40 : b < 40) (h : CS c0 r0 q D g b n p c r) (hn : ntw c w f) (w0 : 0 ≤ w) (w1 : w ≤ 4 * b + 2) (e1 : ∀ v, SC c2 v = SC c v) (e2 : ∀ v, RS r2 q v = RS r q v) (e3 : ∀ k, k < w + f → xR c2 294 k = xR c 294 k) (e3' : xR c2 294 (w + f) = 40) (e4 : xR r2 q 11 = xR r q 11) (e5 : mu c2 < mu c) (P : PTc N i n3 (b + 1) j c3) (nn : n < n') (h3 : CS c0 r0 q D g (b + 1) n' (p + 1 + ops.length) c3 r3) (o2 : ops.length ≤ 2 ∧ ∀ o ∈ ops, o ≤ 215) (tk : xR c3 1 3 ≠ 214 ∧ xR c3 1 3 ≠ 215) (pd : pnd c3 (w + f + 1) ops (xR c3 293 4)) (wl : ∀ k, k < w + f + 1 → xR c3 294 k = xR c2 294 k) (V : ∀ v, app ops (SC c3 v) = val v :: SC c2 v) (U : ∀ v, RS r3 q v = val v :: RS r2 q v) (sg : xR r3 q 11 + 1 ≤ xR r2 q 11 + (n' - n) * (43 - (b + 1))) (m3 : mu c3 < mu c2) : Rs B c0 r0 q D g b n p w (fun ops => ops = []) (fun _ => True) c r (PT B N i n3 (b + 1) j c3) (yk276_101 B fe f r3) := by
  obtain ⟨ff, hw⟩ := ntw_f hn
  obtain ⟨P1, P2, P3, P4, P5, P6⟩ := P
  have n60 := h3.2.1.2.2.2.1
  have p0 := h.2.2.2.2.2.2.2.2.1
  have S0 := h.2.2.2.2.1
  have S3 := h3.2.2.2.2.1
  have mb := mul_b (x := n' - n) (b := b)
  have ml := mul_l (x := n' - n) (b := b) (by omega) b0
  have hlen := pnd_h ops _ pd
  cases n3 with
  | zero => omega
  | succ n3 =>
  unfold yk276_101
  rw [iss (K := 41) (g := 41) h3.1 rfl (Or.inl rfl), xB_ret]
  by_cases k41 : xR c3 1 3 = 41
  · rw [if_pos k41, ok258 h3.1.nf, xB_ret, h3.2.2.2.2.2.1, show b + 1 - 1 = b by omega]
    have h4 := CS_b q0 G h3 b0 (by omega)
    obtain ⟨c4, z4, a1, a2, a3, a4, a5⟩ := settle_ok (B := B) (op := 215) (w := w + f + 1) (by omega) n60 (by omega) (by omega) pd o2.2 (Or.inr (Or.inl (by rw [wl _ (by omega), show w + f + 1 - 1 = w + f by omega]; exact e3'))) h3.2.2.2.1 (by omega)
    have a2' : ∀ v, SC c4 v = val v :: SC c v := fun v => by rw [a2 v, V v, e1 v]
    have w4 : ∀ k, k < w + f → xR (xw_u c4 293 4 (w + f)) 294 k = xR c 294 k := fun k hk => by rw [xR_cg (xu_c (by omega)), xR_cg a5, wl k (by omega), e3 k hk]
    have hn5 : ntw (xw_u c4 293 4 (w + f)) w f := ntw_cg hn (by rw [xR_at (w32_id (by omega) (by omega)), hw]) w4
    have S4 : SB c4 n' (p + 1) := by
      have : p + 1 + (ops.length : Int) - ops.length = p + 1 := by omega
      rw [this] at a3
      exact a3
    obtain ⟨c6, z6, d1, d2, d3, d4, d5⟩ := snot_ok (B := B) (c := xw_u c4 293 4 (w + f)) w0 (by omega) n60 hn5 (SB_u S4) (by omega)
    have f46 : fW c3 c6 := fW_tr (fW_tr a4 ⟨fun a _ _ a3 _ => xu_c a3, fun k _ => by rw [xu_c (by omega)], fun k hk => xu_ne (by omega)⟩) d2
    have h6 := CS_w G h4 f46 d4 (by omega)
    have m61 : c6 1 = c3 1 := f46.1 1 (by omega) (by omega) (by omega) (by omega)
    have eq1 : PT B N i (n3 + 1) (b + 1) j c3 = xB (yf47 B c6) fun _ m3 => PT B N i n3 b (j + 1) m3 := by
      unfold PT
      show xB (yl83_4 B (xl2 (yl83_4 B) n3) (b + 1) j c3) _ = _
      generalize xl2 (yl83_4 B) n3 = R
      unfold yl83_4
      rw [if_pos (show j < 40 by omega), if_pos (show 0 < b + 1 by omega), if_pos k41, z4, xB_ret, a1, show w + f + 1 - 1 = w + f by omega, z6, xB_ret, w32_id (x := b + 1 + -1) (by omega) (by omega), w32_id (x := j + 1) (by omega) (by omega), show b + 1 + -1 = b by omega, xB_as]
    rw [eq1]
    rcases nx (B := B) h6.1.1 with ⟨v, c7, w7, r7, y1, y2, s⟩ | ⟨c7, w7, r7, y1, y2, F, z⟩
    · rw [y1, y2, xB_ret, xB_ret]
      have h7 := CS_x q0 G h6 s
      have q7 : xR r7 q 11 = xR r3 q 11 := by rw [xR_cg (s.2.2.1.1 q (by omega)), xR_cg (xu_c (by omega))]
      have e7 : ∀ v, RS r7 q v = val v :: RS r q v := fun v => by
        rw [RS_fr (by rw [s.2.2.1.1 q (by omega)]) (fun i _ _ => by rw [xR_cg (s.2.2.1.1 (q + 8) (by omega))]) v, RS_fr (r := r3) (by rw [xu_c (by omega)]) (fun i _ _ => by rw [xR_cg (xu_c (by omega))]) v, U v, e2 v]
      obtain ⟨r8, z8, h8, s8, E8⟩ := end_n (B := B) (fe := fe) (f := f) (v0 := fun _ => true) hq q0 G h7 ff (by rw [e7, List.length_cons]; omega) (by rw [q7]; omega)
      have le := s.2.2.2.1
      have mm := nx_mu s (by rw [xR_cg m61]; omega)
      rw [mu_cg m61] at mm
      rw [xR_cg m61] at le
      refine Or.inl ⟨c7, r8, N, i, n3, j + 1, n', [], fun v => if f = 1 then !(val v) else val v, 0, ⟨rfl, z8, by omega, by omega, by omega, by omega, by omega, by omega⟩, nn, by simpa using h8, ⟨rfl, trivial⟩, ⟨by rw [xR_cg (s.2.1.1 293 (by omega))]; exact d1, fun k hk => by rw [xR_cg (s.2.1.1 294 (by omega)), xR_cg d3]; exact w4 k (by omega)⟩, fun v => ?_, fun v => ?_, by rw [s8, q7]; omega, by omega⟩
      · show SC c7 v = (if f = 1 then !(val v) else val v) :: SC c v
        rw [SC_fr (c := c6) (by rw [s.2.1.1 223 (by omega)]) (fun i _ _ => by rw [xR_cg (s.2.1.1 291 (by omega))]) v, d5 v, SC_u, a2' v]
        by_cases f1 : f = 1
        · rw [if_pos f1, if_pos f1]; rfl
        · rw [if_neg f1, if_neg f1]
      · show RS r8 q v = (if f = 1 then !(val v) else val v) :: RS r q v
        rw [E8 v, e7 v]
        by_cases f1 : f = 1
        · rw [if_pos f1, if_pos f1]; rfl
        · rw [if_neg f1, if_neg f1]
    · rw [y1, y2, xB_thr, xB_ret, d133 F.1]
      have hz := CS_Z h6
      exact Or.inr ⟨c7, 0, r7, rfl, rfl, F, QC_tr hz.1 (QC_y z.1), QR_tr hz.2 (QR_y z.2)⟩
  · rw [if_neg k41]
    obtain ⟨c', r', z1, z2, F, f1, f2⟩ := fhere (B := B) h3.1
    have eq1 : PT B N i (n3 + 1) (b + 1) j c3 = some (.inr 14, c') := by
      unfold PT
      show xB (yl83_4 B (xl2 (yl83_4 B) n3) (b + 1) j c3) _ = _
      unfold yl83_4
      rw [if_pos (show j < 40 by omega), if_pos (show 0 < b + 1 by omega), if_neg k41, xB_ret, if_neg tk.1, if_neg tk.2]
      unfold yk71_159
      rw [if_pos (by omega), z1, xB_thr]
    have F1 : FL c' (xw_u r' 536 25 (xR r' 536 25 - 1)) := fRk_fl (q := q) F (fun k _ => xu_ne (by omega))
    rw [eq1, z2, xB_ret, d248 F1.1, xB_ret, d133 F1.1]
    have hz := CS_Z h3
    exact Or.inr ⟨c', 0, _, rfl, rfl, F1, QC_tr hz.1 (QC_y f1), QR_tr (QR_tr hz.2 (QR_y f2)) ⟨fun a ha _ => xu_c ha, fun k _ k1 _ => xu_ne (by omega)⟩⟩
/-- a single one: f = 1 where a not waits -/
theorem sgl {fe : xw_M → xP} {b : Int} (hq : r0 536 23 = q) (q0 : q = 544 ∨ q = 558) (G : cgr c0 r0 D M) (b0 : 0 ≤ b) (b40 : b ≤ 40) (hE : b < 40 → Eit B c0 r0 q D g fe (b + 1)) : ∀ (k : Nat) (N N2 : Nat) (i f n p w : Int) (c r : xw_M), mu c ≤ k → k + 2 ≤ N2 → LTc N i c → CS c0 r0 q D g b n p c r → ntw c w f → 0 ≤ w → w ≤ 4 * b + 2 → Rs B c0 r0 q D g b n p w (fun ops => ops = []) (fun _ => True) c r (xl2 (yl71_16 B) N b i c) (xl1 (yl276_2 B fe) N2 f r) := by
  intro k
  induction k with
  | zero =>
    intro N N2 i f n p w c r hk hN2 L h hn w0 w1
    obtain ⟨L1, L2, L3⟩ := L
    have m0 := mu_0 h.1
    have K0 : xR c 1 3 = 0 := by
      by_cases e : xR c 1 3 = 0
      · exact e
      · unfold mu at hk m0
        rw [if_neg e] at hk
        have := h.1.1.2.2.2.1
        omega
    rw [if_pos K0] at L3
    have tx := h.1.1.1.2.2.1
    have at1 := h.1.1.2.2.2.1
    cases N with
    | zero => omega
    | succ N =>
    cases N2 with
    | zero => omega
    | succ N2 =>
    show Rs B c0 r0 q D g b n p w (fun ops => ops = []) (fun _ => True) c r (yl71_16 B (xl2 (yl71_16 B) N) b i c) (yl276_2 B fe (xl1 (yl276_2 B fe) N2) f r)
    have res := sgl_cmp (B := B) (fe := fe) (N := N) (i := i) hq q0 G b0 b40 ⟨by omega, L2, L3⟩ h hn w0 w1
    have e2 : yl276_2 B fe (xl1 (yl276_2 B fe) N2) f r = yk276_129 B fe f r := by
      unfold yl276_2 yk276_35
      rw [if_pos h.1.nf, isw h.1 (by decide) (by decide), xB_ret, if_neg (show ¬ xR c 1 3 = 200 + 16 by omega), if_pos (show (0 : Int) = 0 from rfl), if_pos h.1.nf, iss (K := 40) (g := 40) h.1 rfl (Or.inl rfl), xB_ret, if_neg (show ¬ xR c 1 3 = 40 by omega), if_pos (show (0 : Int) = 0 from rfl)]
    have e1 : yl71_16 B (xl2 (yl71_16 B) N) b i c = xB (yf73 B c) fun _ m3 => xB (yf82 B m3) fun _ m4 => xB (yf47 B m4) fun _ m5 => PT B N i 1000000 b 0 m5 := by
      unfold PT
      generalize xl2 (yl71_16 B) N = R
      unfold yl71_16
      rw [if_pos (show i < 65536 by omega), if_neg (show ¬ xR c 1 3 = 216 by omega), if_neg (show ¬ xR c 1 3 = 40 by omega)]
      rfl
    rw [e1, e2]
    exact res
  | succ k ih =>
    intro N N2 i f n p w c r hk hN2 L h hn w0 w1
    obtain ⟨L1, L2, L3⟩ := L
    have tx := h.1.1.1.2.2.1
    have at1 := h.1.1.2.2.2.1
    obtain ⟨ff, hw⟩ := ntw_f hn
    have S0 := h.2.2.2.2.1
    have n60 := h.2.1.2.2.2.1
    have q1 := CS_p hq h
    have hz := CS_Z h
    have nf := h.1.nf
    have L3' : i + 3 ≤ xR c 1 2 + 1 := by split at L3 <;> omega
    cases N with
    | zero => have := mu_0 h.1; omega
    | succ N =>
    cases N2 with
    | zero => omega
    | succ N2 =>
    by_cases k16 : xR c 1 3 = 216
    · rw [if_neg (by omega)] at L3
      obtain ⟨c1, z1, n1, f1, w1', g1, g2⟩ := not_ok (B := B) w0 (by omega) hn
      have h1 := CS_w G h f1 (SB_fr h.2.2.2.1 g1 g2) h.2.2.2.2.2.2.2.2.1
      have m1 : c1 1 = c 1 := f1.1 1 (by omega) (by omega) (by omega) (by omega)
      have e1 : xl2 (yl71_16 B) (N + 1) b i c = xB (yf47 B c1) fun _ m1 => xl2 (yl71_16 B) N b (i + 1) m1 := by
        show yl71_16 B (xl2 (yl71_16 B) N) b i c = _
        generalize xl2 (yl71_16 B) N = R
        unfold yl71_16
        rw [if_pos (show i < 65536 by omega), if_pos k16, z1, xB_ret]
        unfold yk71_146
        rw [w32_id (by omega) (by omega)]
      have e2 : xl1 (yl276_2 B fe) (N2 + 1) f r = xB (yf248 B r) fun _ m2 => xl1 (yl276_2 B fe) N2 (1 - f) m2 := by
        show yl276_2 B fe (xl1 (yl276_2 B fe) N2) f r = _
        generalize xl1 (yl276_2 B fe) N2 = R
        unfold yl276_2
        rw [if_pos nf, isw h.1 (by decide) (by decide), xB_ret, if_pos (show xR c 1 3 = 200 + 16 by omega), if_neg (show ¬ (1 : Int) = 0 by decide)]
        rcases ff with rfl | rfl
        · rw [if_pos rfl]; rfl
        · rw [if_neg (by decide)]; rfl
      rw [e1, e2]
      rcases nx (B := B) h1.1.1 with ⟨v, c2, w2, r2, y1, y2, s⟩ | ⟨c2, w2, r2, y1, y2, F, z⟩
      · rw [y1, y2, xB_ret, xB_ret]
        have h2 := CS_x q0 G h1 s
        have mm := nx_mu s (by rw [xR_cg m1]; omega)
        rw [mu_cg m1] at mm
        have le := s.2.2.2.1
        have lt := s.2.2.2.2
        rw [xR_cg m1] at le lt
        refine Rs_m (ih N N2 (i + 1) (1 - f) n p w c2 r2 (by omega) (by omega) ⟨by omega, by omega, ?_⟩ h2 (ntw_cg n1 (by rw [xR_cg (s.2.1.1 293 (by omega))]) (fun k _ => by rw [xR_cg (s.2.1.1 294 (by omega))])) w0 w1) (fun v => ?_) (fun v => RS_fr (by rw [s.2.2.1.1 q (by omega)]) (fun i _ _ => by rw [xR_cg (s.2.2.1.1 (q + 8) (by omega))]) v) (fun k hk => by rw [xR_cg (s.2.1.1 294 (by omega)), xR_fld (w1' k (by omega))]) (by rw [xR_cg (s.2.2.1.1 q (by omega))]) (by omega)
        · by_cases k2 : xR c2 1 3 = 0
          · rw [if_pos k2]; omega
          · rw [if_neg k2]
            have := lt k2
            omega
        · rw [SC_fr (c := c1) (by rw [s.2.1.1 223 (by omega)]) (fun i _ _ => by rw [xR_cg (s.2.1.1 291 (by omega))]) v]
          exact SC_fr (by rw [g1]) (fun i _ _ => by rw [xR_cg g2]) v
      · rw [y1, y2, xB_thr, xB_ret]
        obtain ⟨N3, rfl⟩ : ∃ N3, N2 = N3 + 1 := ⟨N2 - 1, by omega⟩
        rw [d276 F.1 (by rw [z.2.2 23 (by omega)]; exact q1) q0]
        have hz1 := CS_Z h1
        exact Or.inr ⟨c2, 0, r2, rfl, rfl, F, QC_tr hz1.1 (QC_y z.1), QR_tr hz1.2 (QR_y z.2)⟩
    · have e2 : xl1 (yl276_2 B fe) (N2 + 1) f r = yk276_35 B fe f r := by
        show yl276_2 B fe (xl1 (yl276_2 B fe) N2) f r = _
        unfold yl276_2
        rw [if_pos nf, isw h.1 (by decide) (by decide), xB_ret, if_neg (show ¬ xR c 1 3 = 200 + 16 by omega), if_pos (show (0 : Int) = 0 from rfl)]
      rw [e2]
      by_cases k40 : xR c 1 3 = 40
      · rw [if_neg (by omega)] at L3
        unfold yk276_35
        rw [if_pos nf, iss (K := 40) (g := 40) h.1 rfl (Or.inl rfl), xB_ret, if_pos k40, if_neg (show ¬ (1 : Int) = 0 by decide), h.2.2.2.2.2.1, w32_id (x := b + 1) (by omega) (by omega)]
        by_cases b4 : b < 40
        · rw [if_neg (by omega)]
          have h1 := CS_b q0 G h (b' := b + 1) (by omega) (by omega)
          generalize hr1 : xw_u r 536 25 (b + 1) = r1 at h1 ⊢
          rw [ok254 h1.1.nf, xB_ret]
          generalize hc1 : xw_u (xw_u c 293 4 (w + f + 1)) 294 (w + f) 40 = c1
          have fc1 : fW c c1 := by
            rw [← hc1]
            exact ⟨fun a _ _ a3 a4 => by rw [xu_c a4, xu_c a3], fun k _ => by rw [xu_c (by omega), xu_c (by omega)], fun k hk => by rw [xu_c (by omega), xu_ne (by omega)]⟩
          have g1 : c1 223 = c 223 := by rw [← hc1, xu_c (by omega), xu_c (by omega)]
          have g2 : c1 291 = c 291 := by rw [← hc1, xu_c (by omega), xu_c (by omega)]
          have h2 := CS_w G h1 fc1 (SB_fr h.2.2.2.1 g1 g2) h.2.2.2.2.2.2.2.2.1
          have m1 : c1 1 = c 1 := fc1.1 1 (by omega) (by omega) (by omega) (by omega)
          have e1 : xl2 (yl71_16 B) (N + 1) b i c = xB (yf47 B c1) fun _ m1 => xl2 (yl71_16 B) N (b + 1) (i + 1) m1 := by
            show yl71_16 B (xl2 (yl71_16 B) N) b i c = _
            generalize xl2 (yl71_16 B) N = R
            unfold yl71_16 yf64
            rw [if_pos (show i < 65536 by omega), if_neg k16, if_pos k40, if_pos b4, xB_ret, hw, if_pos ⟨by omega, by omega⟩, hc1]
            unfold yk71_146
            rw [w32_id (x := b + 1) (by omega) (by omega), w32_id (x := i + 1) (by omega) (by omega)]
          rw [e1]
          rcases nx (B := B) h2.1.1 with ⟨v, c2, w2, r2, y1, y2, s⟩ | ⟨c2, w2, r2, y1, y2, F, z⟩
          · rw [y1, y2, xB_ret, xB_ret]
            have h3 := CS_x q0 G h2 s
            have mm := nx_mu s (by rw [xR_cg m1]; omega)
            rw [mu_cg m1] at mm
            have le := s.2.2.2.1
            have lt := s.2.2.2.2
            rw [xR_cg m1] at le lt
            have x3 : xR c2 293 4 = w + f + 1 := by
              rw [xR_cg (s.2.1.1 293 (by omega)), ← hc1, xR_ne (by omega)]
              exact xR_at (w32_id (by omega) (by omega))
            have x4 : xR c2 294 (w + f) = 40 := by
              rw [xR_cg (s.2.1.1 294 (by omega)), ← hc1]
              exact xR_at (by decide)
            have x5 : ∀ k, k < w + f → xR c2 294 k = xR c 294 k := fun k hk => by rw [xR_cg (s.2.1.1 294 (by omega)), ← hc1, xR_ne (by omega), xR_ne (by omega)]
            rw [if_pos h3.1.nf]
            have lc : LTc N (i + 1) c2 := by
              refine ⟨by omega, by omega, ?_⟩
              by_cases k2 : xR c2 1 3 = 0
              · rw [if_pos k2]; omega
              · rw [if_neg k2]
                have := lt k2
                omega
            have R := hE b4 N (i + 1) n p (w + f + 1) c2 r2 lc h3 x3 (by omega) (by omega) (Or.inr (by rw [show w + f + 1 - 1 = w + f by omega]; exact x4))
            rcases R with ⟨c3, r3, N3, i3, n3, j3, n', ops, val, wv, ⟨a1, a1b, a1c⟩, a2, a3, a4, a5, a6, a7, a8, a9⟩ | ⟨c3, w3, r3, a1, a1b, F, z1, z2⟩
            · rw [a1, a1b, xB_ret]
              refine sgl_end hq q0 G b0 b4 h hn w0 w1 (fun v => ?_) (fun v => ?_) x5 x4 ?_ mm a1c a2 a3 a4.1 a4.2 a5.1 a5.2 a6 a7 a8 a9
              · rw [SC_fr (c := c1) (by rw [s.2.1.1 223 (by omega)]) (fun i _ _ => by rw [xR_cg (s.2.1.1 291 (by omega))]) v]
                exact SC_fr (by rw [g1]) (fun i _ _ => by rw [xR_cg g2]) v
              · rw [RS_fr (by rw [s.2.2.1.1 q (by omega)]) (fun i _ _ => by rw [xR_cg (s.2.2.1.1 (q + 8) (by omega))]) v]
                exact RS_fr (by rw [← hr1, xu_c (by omega)]) (fun i _ _ => by rw [← hr1, xR_cg (xu_c (by omega))]) v
              · rw [xR_cg (s.2.2.1.1 q (by omega)), ← hr1, xR_cg (xu_c (by omega))]
            · rw [a1, a1b, xB_ret]
              obtain ⟨r4, z4, F4, g4⟩ := d101 (B := B) (q := q) (fe := fe) (f := f) F
              rw [z4]
              exact Or.inr ⟨c3, 0, r4, rfl, rfl, F4, z1, QR_tr z2 g4⟩
          · rw [y1, y2, xB_thr, xB_ret, if_neg (by have := F.1; omega)]
            obtain ⟨r4, z4, F4, g4⟩ := d101 (B := B) (q := q) (fe := fe) (f := f) F
            rw [z4]
            have hz2 := CS_Z h2
            exact Or.inr ⟨c2, 0, r4, rfl, rfl, F4, QC_tr hz2.1 (QC_y z.1), QR_tr (QR_tr hz2.2 (QR_y z.2)) g4⟩
        · rw [if_pos (by omega)]
          have n1 : xR (xw_u r 536 25 (b + 1)) 536 6 = 0 := by rw [xR_ne (by omega)]; exact nf
          rw [no254 n1 (by decide) (by decide), xB_ret]
          have X := flt (c := c) (r := xw_u r 536 25 (b + 1)) (f := 7) (p := xR c 1 4) (p' := xR r 536 9) (by decide) (by decide) (w32_xR _ _ _) h.1.2.1.1
          have e1 : xl2 (yl71_16 B) (N + 1) b i c = some (.inr 14, xw_u (xw_u c 1 6 7) 1 7 (xR c 1 4)) := by
            show yl71_16 B (xl2 (yl71_16 B) N) b i c = _
            unfold yl71_16 yf64 yf54
            rw [if_pos (show i < 65536 by omega), if_neg k16, if_pos k40, if_neg b4, xB_thr, xB_thr]
          rw [e1, d248 X.1.1, xB_ret, if_neg (by have := X.1.1; omega)]
          obtain ⟨r4, z4, F4, g4⟩ := d101 (B := B) (q := q) (fe := fe) (f := f) X.1
          rw [z4]
          exact Or.inr ⟨_, 0, r4, rfl, rfl, F4, QC_tr hz.1 (QC_y X.2.1), QR_tr (QR_tr (QR_tr hz.2 ⟨fun a ha _ => xu_c ha, fun k _ k1 _ => xu_ne (by omega)⟩) (QR_y X.2.2)) g4⟩
      · have res := sgl_cmp (B := B) (fe := fe) (N := N) (i := i) hq q0 G b0 b40 ⟨by omega, L2, L3'⟩ h hn w0 w1
        have e3 : yk276_35 B fe f r = yk276_129 B fe f r := by
          unfold yk276_35
          rw [if_pos nf, iss (K := 40) (g := 40) h.1 rfl (Or.inl rfl), xB_ret, if_neg k40, if_pos (show (0 : Int) = 0 from rfl)]
        have e1 : xl2 (yl71_16 B) (N + 1) b i c = xB (yf73 B c) fun _ m3 => xB (yf82 B m3) fun _ m4 => xB (yf47 B m4) fun _ m5 => PT B N i 1000000 b 0 m5 := by
          show yl71_16 B (xl2 (yl71_16 B) N) b i c = _
          unfold PT
          generalize xl2 (yl71_16 B) N = R
          unfold yl71_16
          rw [if_pos (show i < 65536 by omega), if_neg k16, if_neg k40]
          rfl
        rw [e1, e3]
        exact res
end SGB
