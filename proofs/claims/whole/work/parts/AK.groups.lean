/-! THE READERS: groups, both sides -/
def GP (c r : xw_M) (q t k S : Int) : Prop := xR r q 6 = t ∧ 0 ≤ t ∧ (∀ p, 0 ≤ p → p < t → 1 ≤ xR r (q + 6) p ∧ (0 ≤ xR r (q + 5) p ∧ xR r (q + 5) p ≤ 2)) ∧ pof (xR r (q + 6)) t.toNat = k ∧ xR c 223 8 = S ∧ (1 ≤ S ∧ S ≤ 32) ∧ MKs (xR c 228) S (okm (xR r (q + 5)) (xR r (q + 6)) t.toNat)
theorem GP_fr {c c' r r' : xw_M} {q t k S : Int} (h : GP c r q t k S) (h1 : c' 223 8 = c 223 8) (h2 : c' 228 = c 228) (h3 : r' q 6 = r q 6) (h4 : r' (q + 5) = r (q + 5)) (h5 : r' (q + 6) = r (q + 6)) : GP c' r' q t k S := by
  unfold GP at *
  rw [xR_fld h1, xR_cg h2, xR_fld h3, xR_cg h4, xR_cg h5]
  exact h
theorem GC_fr {c c' r r' : xw_M} {q D k : Int} (D8 : D ≤ 8) (h : GC c r q D k) (h1 : c' 223 6 = c 223 6) (h2 : c' 227 = c 227) (h3 : r' q 4 = r q 4) (h4 : r' (q + 4) = r (q + 4)) (hc : ∀ a, 15 ≤ a → a < 223 → c' a = c a) : GC c' r' q D k := by
  obtain ⟨a1, a2, a3, a4, a5⟩ := h
  unfold GC
  rw [xR_fld h1, xR_cg h2, xR_fld h3, xR_cg h4]
  refine ⟨a1, a2, a3, fun i i0 i1 => ?_, a5⟩
  obtain ⟨b1, d, l, b2, b3, b4, b5, b6⟩ := a4 i i0 i1
  exact ⟨b1, d, l, b2, b3, b4, b5, by rw [xR_cg (hc (15 + 26 * d) (by omega) (by omega))]; exact b6⟩
theorem fRg_fl {q : Int} {c r r' : xw_M} (f : FL c r) (h : ∀ k, k = 6 ∨ k = 7 → r' 536 k = r 536 k) : FL c r' := by
  unfold FL at *
  rw [xR_fld (h 6 (by omega)), xR_fld (h 7 (by omega))]
  exact f
section GRP
variable {B : Nat} {c r : xw_M} {q D M : Int}
theorem d118 {x y : Int} (d : 0 < xR r 536 6) : yk282_118 B x y r = some (.inl 1, r) := by
  unfold yk282_118
  rw [if_pos d]
theorem w118 {x kd t k : Int} (nf : xR r 536 6 = 0) (hq : r 536 23 = q) (q0 : q = 544 ∨ q = 558) (h6 : xR r q 6 = t) (h4 : xR r q 4 = k) (t0 : 0 ≤ t) (t8 : t < 8) (x0 : 0 ≤ x) (x1 : x ≤ k) (k8 : k ≤ 8) : yk282_118 B x kd r = some (.inl (if kd = 0 then 1 else if kd = 1 then k - x + 1 else tw2 (k - x)), xw_u (xw_u (xw_u r (q + 5) t kd) (q + 6) t (k - x)) q 6 (t + 1)) := by
  have e1 : w32 (k - x) = k - x := w32_id (by omega) (by omega)
  have e2 : w32 (k - x + 1) = k - x + 1 := w32_id (by omega) (by omega)
  have e3 := shl1 (show 0 ≤ k - x by omega) (by omega)
  have tb : 0 ≤ t ∧ t < 8 := ⟨t0, t8⟩
  have nd : ¬ 0 < xR r 536 6 := by omega
  clear x0 x1 k8 t0 t8
  obtain ⟨o, ⟨_, _, _, _, f7, f8, _⟩, ob, ⟨_, _, _, _, l5, l6, _⟩⟩ := q_l B q0
  unfold yk282_118
  rw [if_neg nd, hq, if_pos o, f7, f8, l5, l6, h6, if_pos tb, if_pos (ob 5 (by decide) (by decide)), if_pos tb, if_pos (ob 6 (by decide) (by decide)), h4, e1, e2, e3]
  by_cases k0 : kd = 0
  · rw [if_pos k0, if_pos k0]
  · rw [if_neg k0, if_neg k0]
    by_cases k1 : kd = 1
    · rw [if_pos k1, if_pos k1]
    · rw [if_neg k1, if_neg k1]
/-- what a group answers on both sides -/
def GQ (c r : xw_M) (q D n t k S K : Int) (v : Int) (c' : xw_M) (w : Int) (r' : xw_M) : Prop := TK c' r' ∧ ∃ k', k < k' ∧ GC c' r' q D k' ∧ LW c' n k' ∧ fCg c c' ∧ (fRg q r r' ∧ r' 536 26 = r 536 26) ∧ (1 ≤ w ∧ w ≤ 256) ∧ ((S * w ≤ 32 ∧ v = 1 ∧ GP c' r' q (t + 1) k' (S * w)) ∨ (32 < S * w ∧ v = 0)) ∧ xR c 1 2 ≤ xR c' 1 2
/-- the end of a group: its sets -/
theorem gend {n t k k' S K : Int} {c3 r3 : xw_M} (hq : r 536 23 = q) (q0 : q = 544 ∨ q = 558) (D8 : D ≤ 8) (h3 : TK c3 r3) (C : GC c3 r3 q D k') (L : LW c3 n k') (P : GP c3 r3 q t k S) (kk : k < k') (hK : ¬ (K = 207 ∨ K = 208) → k' = k + 1) (fc : fCg c c3) (fr : fRg q r r3) (g26 : r3 536 26 = r 536 26) (lea : xR c 1 2 ≤ xR c3 1 2) : duo (yf91 B K k c3) (yk282_118 B k (kdw K) r3) (GQ c r q D n t k S K) (fun c' _ r' => QC c c' ∧ QR q r r') := by
  obtain ⟨P1, P2, P3, P4, P5, P6, P7⟩ := id P
  obtain ⟨C1, C2, C3, C4, C5⟩ := id C
  have q3 : r3 536 23 = q := by rw [fr.2.1 23 (by omega) (by omega)]; exact hq
  have tk := pof_0 (sz := xR r3 (q + 6)) t.toNat (fun p p0 p1 => (P3 p p0 (by omega)).1)
  rw [P4] at tk
  have tt : ((t.toNat : Nat) : Int) = t := by omega
  have mb : ∀ i, 0 ≤ i → i < S → 0 ≤ xR c3 228 i ∧ xR c3 228 i < tw2 k := fun i i0 i1 => by
    have := okm_b t.toNat (xR c3 228 i) (fun p p0 p1 => (P3 p p0 (by omega)).1) (by rw [P4]; omega) (P7.1 i i0 i1)
    rw [P4] at this
    exact this
  have A := fun _ : Unit => adds_ok (B := B) (K := K) (f := k) (n := k' - k) (S := S) (c := c3) (by omega) (by omega) (by omega) P6.1 P6.2 (fun hk => by have := hK hk; omega) (by rw [C1]; omega) P5 mb
  have W := w118 (B := B) (r := r3) (x := k) (kd := kdw K) (t := t) (k := k') h3.nf q3 q0 P1 C2 P2 (by omega) (by omega) (by omega) C3.2
  have ev : (if kdw K = 0 then 1 else if kdw K = 1 then k' - k + 1 else tw2 (k' - k)) = vrn K (k' - k) := by
    unfold kdw vrn
    by_cases k7 : K = 207
    · rw [if_pos k7, if_pos k7, if_neg (by decide), if_pos rfl]
    · rw [if_neg k7, if_neg k7]
      by_cases k8 : K = 208
      · rw [if_pos k8, if_pos k8, if_neg (by decide), if_neg (by decide)]
      · rw [if_neg k8, if_neg k8, if_pos rfl]
  have vb : 1 ≤ vrn K (k' - k) ∧ vrn K (k' - k) ≤ 256 := by
    have := tw2_b (show 0 ≤ k' - k by omega) (by omega)
    unfold vrn
    split
    · omega
    · split <;> omega
  rw [ev] at W
  rw [W]
  generalize hr4 : xw_u (xw_u (xw_u r3 (q + 5) t (kdw K)) (q + 6) t (k' - k)) q 6 (t + 1) = r4
  have er : ∀ a, a ≠ q → a ≠ q + 5 → a ≠ q + 6 → r4 a = r3 a := fun a a1 a2 a3 => by rw [← hr4, xu_c a1, xu_c a3, xu_c a2]
  have erq : ∀ k, k ≠ 6 → r4 q k = r3 q k := fun k hk => by rw [← hr4, xu_ne (by omega), xu_c (by omega), xu_c (by omega)]
  have fr4 : fRg q r r4 := fRg_tr fr ⟨fun a _ a2 a3 => er a a2 (by omega) (by omega), fun k _ _ => by rw [er 536 (by omega) (by omega) (by omega)], fun k _ k2 => erq k k2⟩
  have g4 : r4 536 26 = r 536 26 := by rw [er 536 (by omega) (by omega) (by omega)]; exact g26
  by_cases le : S * vrn K (k' - k) ≤ 32
  · obtain ⟨c4, z4, f4, s4, m4⟩ := (A ()).2 le
    rw [z4]
    have e14 : c4 1 = c3 1 := f4.1 1 (by omega) (by omega)
    have t4 : TK c4 r4 := TK_fr h3 (fun k _ _ => by rw [e14]) (f4.1 2 (by omega) (by omega)) (fun k _ _ => by rw [er 536 (by omega) (by omega) (by omega)]) (er 537 (by omega) (by omega) (by omega))
    have C4' : GC c4 r4 q D k' := GC_fr D8 C (f4.2 6 (by omega)) (f4.1 227 (by omega) (by omega)) (erq 4 (by omega)) (er (q + 4) (by omega) (by omega) (by omega)) (fun a a0 a1 => f4.1 a (by omega) (by omega))
    have kb : 0 ≤ kdw K ∧ kdw K ≤ 2 := by unfold kdw; split; decide; split <;> decide
    have x5 : xR r4 (q + 5) t = kdw K := by rw [← hr4, xR_ne (by omega), xR_ne (by omega)]; exact xR_at (w32_id (by omega) (by omega))
    have x6 : xR r4 (q + 6) t = k' - k := by rw [← hr4, xR_ne (by omega)]; exact xR_at (w32_id (by omega) (by omega))
    have y5 : ∀ p, p ≠ t → xR r4 (q + 5) p = xR r3 (q + 5) p := fun p hp => by rw [← hr4, xR_ne (by omega), xR_ne (by omega), xR_ne (by omega)]
    have y6 : ∀ p, p ≠ t → xR r4 (q + 6) p = xR r3 (q + 6) p := fun p hp => by rw [← hr4, xR_ne (by omega), xR_ne (by omega), xR_ne (by omega)]
    have pc : pof (xR r4 (q + 6)) t.toNat = k := by rw [pof_cg (sz := xR r3 (q + 6)) t.toNat (fun p p0 p1 => y6 p (by omega))]; exact P4
    have t1 : (t + 1).toNat = t.toNat + 1 := by omega
    refine duo_r ⟨t4, k', kk, C4', LW_fr L (f4.1 292 (by omega) (by omega)) (f4.1 229 (by omega) (by omega)) (f4.1 227 (by omega) (by omega)), fCg_tr fc ⟨fun a _ a2 _ a4 _ => f4.1 a a2 a4, fun k _ => by rw [e14], fun k _ k2 => f4.2 k k2⟩, ⟨fr4, g4⟩, vb, Or.inl ⟨le, rfl, by rw [← hr4]; exact xR_at (w32_id (by omega) (by omega)), by omega, fun p p0 p1 => ?_, ?_, s4, ⟨?_, le⟩, ?_⟩, by rw [xR_cg e14]; exact lea⟩
    · by_cases e : p = t
      · subst e; rw [x5, x6]; omega
      · rw [y5 p e, y6 p e]; exact P3 p p0 (by omega)
    · rw [t1]
      show pof (xR r4 (q + 6)) t.toNat + xR r4 (q + 6) (t.toNat : Nat) = k'
      rw [pc, tt, x6]
      omega
    · have := Int.mul_le_mul_of_nonneg_left vb.1 (show 0 ≤ S by omega)
      omega
    · rw [t1]
      refine MK_add P6.1 (by omega) (by rw [P4]; omega) (fun hk => by have := hK hk; omega) (fun p p0 p1 => (P3 p p0 (by omega)).1) P7 (fun u i u0 u1 i0 i1 => by rw [P4]; exact m4 u i u0 u1 i0 i1) (fun p p0 p1 => ⟨y6 p (by omega), y5 p (by omega)⟩) (by rw [tt]; exact x5) (by rw [tt]; exact x6)
  · rw [(A ()).1 (by omega)]
    exact duo_r ⟨TK_fr h3 (fun _ _ _ => rfl) rfl (fun k _ _ => by rw [er 536 (by omega) (by omega) (by omega)]) (er 537 (by omega) (by omega) (by omega)), k', kk, GC_fr D8 C rfl rfl (erq 4 (by omega)) (er (q + 4) (by omega) (by omega) (by omega)) (fun _ _ _ => rfl), L, fc, ⟨fr4, g4⟩, vb, Or.inr ⟨by omega, rfl⟩, lea⟩
theorem cgr_g {c' r' : xw_M} (q0 : q = 544 ∨ q = 558) (G : cgr c r D M) (f : fCg c c') (k : fRg q r r') : cgr c' r' D M := cgr_fr G (fun a a0 a1 => f.1 a (by omega) (by omega) (by omega) (by omega) (by omega)) (fun a ha => k.1 a (by omega) (by omega) (by omega)) (k.2.1 14 (by omega) (by omega)) (k.2.1 19 (by omega) (by omega))
/-- rollup, cube: their columns -/
theorem rol_l {n t k S K : Int} (hq : r 536 23 = q) (q0 : q = 544 ∨ q = 558) (G : cgr c r D M) (hK : K = 207 ∨ K = 208) (k0 : 0 ≤ k) : ∀ (z N N' : Nat) (k' : Int) (c5 r5 : xw_M), (8 - k').toNat ≤ z → z < N → z + 1 < N' → k ≤ k' → TK c5 r5 → GC c5 r5 q D k' → LW c5 n k' → GP c5 r5 q t k S → fCg c c5 → fRg q r r5 → r5 536 26 = r 536 26 → xR c 1 2 ≤ xR c5 1 2 → duo (xl3 (yl87_55 B) N K k (k' - k) c5) (xl3 (yl282_54 B) N' k (kdw K) 1 r5) (GQ c r q D n t k S K) (fun c' _ r' => QC c c' ∧ QR q r r') := by
  have D8 := G.cn.1
  intro z
  induction z with
  | zero =>
    intro N N' k' c5 r5 hz zN zN' kk h C L P fc fr g26 lea
    have k8 : k' = 8 := by have := C.2.2.1; omega
    cases N with
    | zero => omega
    | succ N =>
    cases N' with
    | zero => omega
    | succ N' =>
    cases N' with
    | zero => omega
    | succ N' =>
    have q5 : r5 536 23 = q := by rw [fr.2.1 23 (by omega) (by omega)]; exact hq
    have dead : ∀ (y : Int) (r' : xw_M), 0 < xR r' 536 6 → xl3 (yl282_54 B) (N' + 1) k (kdw K) 0 r' = some (.inl 1, r') := fun y r' d => by
      show yl282_54 B _ k (kdw K) 0 r' = _
      unfold yl282_54
      rw [if_pos rfl, d118 d]
    show duo (yl87_55 B (xl3 (yl87_55 B) N) K k (k' - k) c5) (yl282_54 B (xl3 (yl282_54 B) (N' + 1)) k (kdw K) 1 r5) _ _
    generalize xl3 (yl282_54 B) (N' + 1) = R at dead ⊢
    generalize xl3 (yl87_55 B) N = R1
    unfold yl87_55
    have e2 : yl282_54 B R k (kdw K) 1 r5 = xB (yf248 B r5) fun _ m1 => xB (yf283 B m1) fun _ m2 => xB (yf248 B m2) fun _ m3 => mor B 41 (fun y m => R k (kdw K) y m) m3 := by
      unfold yl282_54 mor
      rw [if_neg (show ¬ (1 : Int) = 0 by decide)]
    rw [e2, if_neg (by omega)]
    refine duo_B (nx h.1) (fun v c6 w r6 s => ?_) (fun c6 w r6 F z => ?_)
    · have q6 : r6 536 23 = q := by rw [s.2.2.1.2 23 (by omega)]; exact q5
      have G6 := cgr_x (cgr_g q0 G fc fr) s.2.1 s.2.2.1
      have C6 : GC c6 r6 q D k' := GC_fr D8.2 C (by rw [s.2.1.1 223 (by omega)]) (s.2.1.1 227 (by omega)) (by rw [s.2.2.1.1 q (by omega)]) (s.2.2.1.1 (q + 4) (by omega)) (fun a a0 a1 => s.2.1.1 a (by omega))
      refine duo_B (gcol q6 q0 G6 s.1 C6 (LW_fr L (s.2.1.1 292 (by omega)) (s.2.1.1 229 (by omega)) (s.2.1.1 227 (by omega)))) (fun v c7 w r7 u => ?_) (fun c7 w r7 F z => ?_)
      · have := u.2.1.2.2.1
        omega
      · refine ⟨1, r7, ?_, F, QC_tr (QC_g fc) (QC_tr (QC_x s.2.1) z.1), QR_tr (QR_g fr) (QR_tr (QR_x s.2.2.1) z.2)⟩
        rw [d248 F.1, xB_ret, mor_d F.1]
        exact dead 0 r7 F.1
    · refine ⟨1, r6, ?_, F, QC_tr (QC_g fc) (QC_y z.1), QR_tr (QR_g fr) (QR_y z.2)⟩
      rw [d283 (by rw [z.2.2 23 (by omega)]; exact q5) q0 F.1, xB_ret, d248 F.1, xB_ret, mor_d F.1]
      exact dead 0 r6 F.1
  | succ z ih =>
    intro N N' k' c5 r5 hz zN zN' kk h C L P fc fr g26 lea
    cases N with
    | zero => omega
    | succ N =>
    cases N' with
    | zero => omega
    | succ N' =>
    cases N' with
    | zero => omega
    | succ N' =>
    have q5 : r5 536 23 = q := by rw [fr.2.1 23 (by omega) (by omega)]; exact hq
    have k8 := C.2.2.1
    have IH := ih N (N' + 1) (k' + 1)
    have fin : ∀ r' : xw_M, xl3 (yl282_54 B) (N' + 1) k (kdw K) 0 r' = yk282_118 B k (kdw K) r' := fun r' => by
      show yl282_54 B _ k (kdw K) 0 r' = _
      unfold yl282_54
      rw [if_pos rfl]
    show duo (yl87_55 B (xl3 (yl87_55 B) N) K k (k' - k) c5) (yl282_54 B (xl3 (yl282_54 B) (N' + 1)) k (kdw K) 1 r5) _ _
    generalize xl3 (yl282_54 B) (N' + 1) = R at IH fin ⊢
    generalize xl3 (yl87_55 B) N = R1 at IH ⊢
    unfold yl87_55
    have e2 : yl282_54 B R k (kdw K) 1 r5 = xB (yf248 B r5) fun _ m1 => xB (yf283 B m1) fun _ m2 => xB (yf248 B m2) fun _ m3 => mor B 41 (fun y m => R k (kdw K) y m) m3 := by
      unfold yl282_54 mor
      rw [if_neg (show ¬ (1 : Int) = 0 by decide)]
    have dead : ∀ (r' : xw_M), 0 < xR r' 536 6 → R k (kdw K) 0 r' = some (.inl 1, r') := fun r' d => by rw [fin, d118 d]
    rw [e2, if_neg (by omega)]
    refine duo_B (nx h.1) (fun v c6 w r6 s => ?_) (fun c6 w r6 F z => ?_)
    · have q6 : r6 536 23 = q := by rw [s.2.2.1.2 23 (by omega)]; exact q5
      have G6 := cgr_x (cgr_g q0 G fc fr) s.2.1 s.2.2.1
      have C6 : GC c6 r6 q D k' := GC_fr D8.2 C (by rw [s.2.1.1 223 (by omega)]) (s.2.1.1 227 (by omega)) (by rw [s.2.2.1.1 q (by omega)]) (s.2.2.1.1 (q + 4) (by omega)) (fun a a0 a1 => s.2.1.1 a (by omega))
      refine duo_B (gcol q6 q0 G6 s.1 C6 (LW_fr L (s.2.1.1 292 (by omega)) (s.2.1.1 229 (by omega)) (s.2.1.1 227 (by omega)))) (fun v c7 w r7 u => ?_) (fun c7 w r7 F z => ?_)
      · obtain ⟨u1, u2, u3, ⟨u4, u4b, u4c⟩, ⟨u5, u5b, u5c, u5d, u5e⟩, u6⟩ := u
        have fc7 := fCg_tr (fCg_tr fc (fCg_x s.2.1)) u4
        have fr7 := fRg_tr (fRg_tr fr (fRg_x q0 s.2.2.1)) u5
        refine duo_B (nx u1.1) (fun v c8 w r8 s8 => ?_) (fun c8 w r8 F z => ?_)
        · have fc8 := fCg_tr fc7 (fCg_x s8.2.1)
          have fr8 := fRg_tr fr7 (fRg_x q0 s8.2.2.1)
          have g28 : r8 536 26 = r 536 26 := by rw [s8.2.2.1.2 26 (by omega), u5e, s.2.2.1.2 26 (by omega), g26]
          have C8 : GC c8 r8 q D (k' + 1) := GC_fr D8.2 u2 (by rw [s8.2.1.1 223 (by omega)]) (s8.2.1.1 227 (by omega)) (by rw [s8.2.2.1.1 q (by omega)]) (s8.2.2.1.1 (q + 4) (by omega)) (fun a a0 a1 => s8.2.1.1 a (by omega))
          have L8 := LW_fr u3 (s8.2.1.1 292 (by omega)) (s8.2.1.1 229 (by omega)) (s8.2.1.1 227 (by omega))
          have P8 : GP c8 r8 q t k S := GP_fr P (by rw [s8.2.1.1 223 (by omega), u4c, s.2.1.1 223 (by omega)]) (by rw [s8.2.1.1 228 (by omega), u4b, s.2.1.1 228 (by omega)]) (by rw [s8.2.2.1.1 q (by omega), u5b, s.2.2.1.1 q (by omega)]) (by rw [s8.2.2.1.1 (q + 5) (by omega), u5c, s.2.2.1.1 (q + 5) (by omega)]) (by rw [s8.2.2.1.1 (q + 6) (by omega), u5d, s.2.2.1.1 (q + 6) (by omega)])
          have k8' := C8.2.2.1
          have wi : w32 (k' - k + 1) = k' + 1 - k := by rw [w32_id (by omega) (by omega)]; omega
          unfold yk87_100
          refine mor_ok (G := fun m => yk87_119 B K k m) s8.1 rfl (by decide) (fun k44 => ?_) (fun k41 => ?_) (fun c9 r9 F y1 y2 => ?_)
          · rw [wi]
            exact IH c8 r8 (by omega) (by omega) (by omega) (by omega) s8.1 C8 L8 P8 fc8 fr8 g28 (by have := s.2.2.2.1; have := s8.2.2.2.1; omega)
          · show duo _ (R k (kdw K) 0 r8) _ _
            rw [fin]
            unfold yk87_119
            have e := gend (B := B) (K := K) hq q0 D8.2 s8.1 C8 L8 P8 (by omega) (fun hk => absurd hK hk) fc8 fr8 g28 (by have := s.2.2.2.1; have := s8.2.2.2.1; omega)
            have id1 : (xB (yf91 B K k c8) fun v1 m1 => some (.inl v1, m1)) = yf91 B K k c8 := by
              cases yf91 B K k c8 with
              | none => rfl
              | some o => obtain ⟨o, m⟩ := o; cases o <;> rfl
            rw [id1]
            exact e
          · exact ⟨1, r9, dead r9 F.1, F, QC_tr (QC_g fc8) (QC_y y1), QR_tr (QR_g fr8) (QR_y y2)⟩
        · refine ⟨1, r8, ?_, F, QC_tr (QC_g fc7) (QC_y z.1), QR_tr (QR_g fr7) (QR_y z.2)⟩
          rw [mor_d F.1]
          exact dead r8 F.1
      · refine ⟨1, r7, ?_, F, QC_tr (QC_g fc) (QC_tr (QC_x s.2.1) z.1), QR_tr (QR_g fr) (QR_tr (QR_x s.2.2.1) z.2)⟩
        rw [d248 F.1, xB_ret, mor_d F.1]
        exact dead r7 F.1
    · refine ⟨1, r6, ?_, F, QC_tr (QC_g fc) (QC_y z.1), QR_tr (QR_g fr) (QR_y z.2)⟩
      rw [d283 (by rw [z.2.2 23 (by omega)]; exact q5) q0 F.1, xB_ret, d248 F.1, xB_ret, mor_d F.1]
      exact dead r6 F.1
end GRP
