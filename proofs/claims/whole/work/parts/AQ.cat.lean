/-! THE CATALOG'S STATEMENTS, both sides: what stays, what is added; measure -/
section CAU
variable {B : Nat} {c r : xw_M} {D M : Int}
/-- name j of the reference is the same -/
def nmk (r r' : xw_M) (j : Int) : Prop := r' 543 j = r 543 j ∧ ∀ i, 0 ≤ i → i < 40 → r' 542 (40 * j + i) = r 542 (40 * j + i)
/-- what belongs to dimensions and measures that are there is the same -/
def kpc (c c' : xw_M) (D M : Int) : Prop := (∀ d, 0 ≤ d → d < D → (∀ k, k = 9 ∨ k = 10 ∨ k = 11 → c' (15 + 26 * d) k = c (15 + 26 * d) k) ∧ c' (15 + 26 * d + 1) = c (15 + 26 * d + 1) ∧ (∀ l, 0 ≤ l → l < 4 → c' (15 + 26 * d + 3 + l) = c (15 + 26 * d + 3 + l)) ∧ c' (15 + 26 * d + 7) = c (15 + 26 * d + 7) ∧ ∀ l p, 0 ≤ l → l < 4 → 0 ≤ p → p < xR c (15 + 26 * d) 11 → c' (15 + 26 * d + 9 + l) p = c (15 + 26 * d + 9 + l) p) ∧ ∀ k, 0 ≤ k → k < M → c' (6 + k) = c (6 + k) ∧ c' 14 k = c 14 k
def kpr (r r' : xw_M) (D M : Int) : Prop := (∀ d, 0 ≤ d → d < D → (r' 538 d = r 538 d ∧ r' 539 d = r 539 d) ∧ (∀ y, 0 ≤ y → y < 4 * xR r 539 d → r' 540 (4000 * d + y) = r 540 (4000 * d + y)) ∧ nmk r r' d ∧ ∀ l, 0 ≤ l → l < 4 → nmk r r' (8 + 4 * d + l)) ∧ ∀ k, 0 ≤ k → k < M → nmk r r' (40 + k)
theorem nmk_q {r' : xw_M} {j k : Int} {f : Int → Int} (h : nmk r r' j) (k40 : k ≤ 40) (e : ∀ i, 0 ≤ i → i < k → f i = xR r 542 (40 * j + i)) : ∀ i, 0 ≤ i → i < k → f i = xR r' 542 (40 * j + i) := fun i i0 i1 => by rw [xR_fld (h.2 i i0 (by omega))]; exact e i i0 i1
theorem prm_lt {ρ : Int → Int} {n p : Int} (h : prm ρ n) (p0 : 0 ≤ p) (p1 : p < n) : 0 ≤ ρ p ∧ ρ p < n := h.1 p p0 p1
theorem CT_k {c' r' : xw_M} (h : CT c r D M) (kc : kpc c c' D M) (kr : kpr r r' D M) (a1 : xR c' 3 1 = D) (a2 : xR c' 3 2 = M) (b1 : xR r' 536 14 = D) (b2 : xR r' 536 19 = M) : CT c' r' D M := by
  obtain ⟨g, m, u, hh⟩ := h
  obtain ⟨g1, g2, g3, g4, g5, g6⟩ := g
  obtain ⟨n1, n2, n3, n4, n5, n6⟩ := g1
  have e9 : ∀ d, 0 ≤ d → d < D → xR c' (15 + 26 * d) 9 = xR c (15 + 26 * d) 9 := fun d d0 d1 => xR_fld ((kc.1 d d0 d1).1 9 (by omega))
  have e10 : ∀ d, 0 ≤ d → d < D → xR c' (15 + 26 * d) 10 = xR c (15 + 26 * d) 10 := fun d d0 d1 => xR_fld ((kc.1 d d0 d1).1 10 (by omega))
  have e11 : ∀ d, 0 ≤ d → d < D → xR c' (15 + 26 * d) 11 = xR c (15 + 26 * d) 11 := fun d d0 d1 => xR_fld ((kc.1 d d0 d1).1 11 (by omega))
  have x7 : ∀ d, 0 ≤ d → d < D → xR c' (15 + 26 * d + 7) = xR c (15 + 26 * d + 7) := fun d d0 d1 => xR_cg (kc.1 d d0 d1).2.2.2.1
  have x1 : ∀ d, 0 ≤ d → d < D → xR c' (15 + 26 * d + 1) = xR c (15 + 26 * d + 1) := fun d d0 d1 => xR_cg (kc.1 d d0 d1).2.1
  have x3 : ∀ d l, 0 ≤ d → d < D → 0 ≤ l → l < 4 → xR c' (15 + 26 * d + 3 + l) = xR c (15 + 26 * d + 3 + l) := fun d l d0 d1 l0 l1 => xR_cg ((kc.1 d d0 d1).2.2.1 l l0 l1)
  have x14 : ∀ k, 0 ≤ k → k < M → xR c' 14 k = xR c 14 k := fun k k0 k1 => xR_fld (kc.2 k k0 k1).2
  have x6 : ∀ k, 0 ≤ k → k < M → xR c' (6 + k) = xR c (6 + k) := fun k k0 k1 => xR_cg (kc.2 k k0 k1).1
  refine ⟨⟨⟨n1, n2, a1, a2, fun d d0 d1 => ?_, fun k k0 k1 => ?_⟩, ⟨fun d d0 d1 => ?_, fun k i k0 k1 i0 i1 => ?_⟩, b1, b2, fun d d0 d1 => ?_, fun k k0 k1 => ?_⟩, fun d d0 d1 => ?_, fun d d0 d1 x y x0 x1 y0 y1 e => ?_, fun d d0 d1 => ?_⟩
  · rw [e9 d d0 d1, e10 d d0 d1, e11 d d0 d1, x7 d d0 d1]; exact n5 d d0 d1
  · rw [x14 k k0 k1]; exact n6 k k0 k1
  · have := (n5 d d0 d1).2.1
    rw [e9 d d0 d1, e10 d d0 d1, x7 d d0 d1, x1 d d0 d1]
    exact ⟨(g2.1 d d0 d1).1, fun l i l0 l1 i0 i1 => by rw [x3 d l d0 d1 l0 (by omega)]; exact (g2.1 d d0 d1).2 l i l0 l1 i0 i1⟩
  · rw [x14 k k0 k1] at i1; rw [x6 k k0 k1]; exact g2.2 k i k0 k1 i0 i1
  · have L4 := (n5 d d0 d1).2.1
    have nb := (n5 d d0 d1).1
    have lb := (n5 d d0 d1).2.2.2
    obtain ⟨s1, s2, s3, s4, s5, s6⟩ := g5 d d0 d1
    obtain ⟨⟨r1, r2⟩, r3, r4, r5⟩ := kr.1 d d0 d1
    rw [e9 d d0 d1, e10 d d0 d1, e11 d d0 d1, x7 d d0 d1, x1 d d0 d1, xR_fld r1, xR_fld r2, xR_fld r4.1]
    refine ⟨s1, s2, s3, s4, nmk_q r4 nb.2 s5, fun l l0 l1 => ?_⟩
    rw [x3 d l d0 d1 l0 (by omega), xR_fld (r5 l l0 (by omega)).1]
    exact ⟨(s6 l l0 l1).1, nmk_q (r5 l l0 (by omega)) (lb l l0 l1).2 (s6 l l0 l1).2⟩
  · rw [x14 k k0 k1, x6 k k0 k1, xR_fld (kr.2 k k0 k1).1]
    exact ⟨(g6 k k0 k1).1, nmk_q (kr.2 k k0 k1) (n6 k k0 k1).2 (g6 k k0 k1).2⟩
  · obtain ⟨ρ, p1, p2⟩ := m d d0 d1
    have L4 := (n5 d d0 d1).2.1
    have s3 := (g5 d d0 d1).2.2.1
    refine ⟨ρ, by rw [e11 d d0 d1]; exact p1, fun l p l0 l1 q0 q1 => ?_⟩
    rw [e10 d d0 d1] at l1
    rw [e11 d d0 d1] at q1
    have pb := prm_lt p1 q0 q1
    rw [xR_fld ((kc.1 d d0 d1).2.2.2.2 l p l0 (by omega) q0 q1), show 4000 * d + 4 * ρ p + l = 4000 * d + (4 * ρ p + l) by omega, xR_fld ((kr.1 d d0 d1).2.1 (4 * ρ p + l) (by omega) (by omega)), show 4000 * d + (4 * ρ p + l) = 4000 * d + 4 * ρ p + l by omega]
    exact p2 l p l0 l1 q0 q1
  · rw [xR_fld (kr.1 d d0 d1).1.2] at x1 y1
    have f := (kr.1 d d0 d1).2.1
    rw [show 4000 * d + 4 * x + 0 = 4000 * d + 4 * x by omega, show 4000 * d + 4 * y + 0 = 4000 * d + 4 * y by omega, xR_fld (f (4 * x) (by omega) (by omega)), xR_fld (f (4 * y) (by omega) (by omega))] at e
    exact u d d0 d1 x y x0 x1 y0 y1 (by rw [show 4000 * d + 4 * x + 0 = 4000 * d + 4 * x by omega, show 4000 * d + 4 * y + 0 = 4000 * d + 4 * y by omega]; exact e)
  · have L4 := (n5 d d0 d1).2.1
    have s2 := (g5 d d0 d1).2.1
    have f := (kr.1 d d0 d1).2.1
    rw [xR_fld (kr.1 d d0 d1).1.2, xR_fld (kr.1 d d0 d1).1.1]
    intro x y l x0 x1 y0 y1 l0 l1 e
    rw [Int.add_assoc, Int.add_assoc, xR_fld (f (4 * x + l) (by omega) (by omega)), xR_fld (f (4 * y + l) (by omega) (by omega)), ← Int.add_assoc, ← Int.add_assoc] at e
    rw [Int.add_assoc, Int.add_assoc (4000 * d) (4 * y), xR_fld (f (4 * x + (l + 1)) (by omega) (by omega)), xR_fld (f (4 * y + (l + 1)) (by omega) (by omega)), ← Int.add_assoc, ← Int.add_assoc (4000 * d) (4 * y)]
    exact hh d d0 d1 x y l x0 x1 y0 y1 l0 l1 e
/-- one measure more -/
theorem CT_M {c' r' : xw_M} (h : CT c r D M) (M8 : M < 8) (nm : nmq c r (6 + M) (xR c 14 M) (40 + M)) (n8 : ∀ i, 0 ≤ i → i < xR c 14 M → w8 (xR c (6 + M) i) = xR c (6 + M) i) (hc : ∀ a, a ≠ 3 → c' a = c a) (h31 : xR c' 3 1 = xR c 3 1) (h32 : xR c' 3 2 = M + 1) (hr : ∀ a, a ≠ 536 → r' a = r a) (r14 : r' 536 14 = r 536 14) (r19 : xR r' 536 19 = M + 1) : CT c' r' D (M + 1) := by
  obtain ⟨g, m, u, hh⟩ := h
  obtain ⟨g1, g2, g3, g4, g5, g6⟩ := g
  obtain ⟨n1, n2, n3, n4, n5, n6⟩ := g1
  have e : ∀ a, a ≠ 3 → xR c' a = xR c a := fun a ha => xR_cg (hc a ha)
  have er : ∀ a, a ≠ 536 → xR r' a = xR r a := fun a ha => xR_cg (hr a ha)
  refine ⟨⟨⟨n1, by omega, by rw [h31]; exact n3, h32, fun d d0 d1 => ?_, fun k k0 k1 => ?_⟩, ⟨fun d d0 d1 => ?_, fun k i k0 k1 i0 i1 => ?_⟩, by rw [xR_fld r14]; exact g3, r19, fun d d0 d1 => ?_, fun k k0 k1 => ?_⟩, fun d d0 d1 => ?_, fun d d0 d1 => ?_, fun d d0 d1 => by unfold hie; rw [er 538 (by omega), er 539 (by omega), er 540 (by omega)]; exact hh d d0 d1⟩
  · rw [e (15 + 26 * d) (by omega), e (15 + 26 * d + 7) (by omega)]; exact n5 d d0 d1
  · rw [e 14 (by omega)]
    by_cases q : k = M
    · rw [q]; exact ⟨nm.1, nm.2.1⟩
    · exact n6 k k0 (by omega)
  · rw [e (15 + 26 * d) (by omega), e (15 + 26 * d + 7) (by omega), e (15 + 26 * d + 1) (by omega)]
    exact ⟨(g2.1 d d0 d1).1, fun l i l0 l1 i0 i1 => by rw [e (15 + 26 * d + 3 + l) (by omega)]; exact (g2.1 d d0 d1).2 l i l0 l1 i0 i1⟩
  · rw [e 14 (by omega)] at i1; rw [e (6 + k) (by omega)]
    by_cases q : k = M
    · subst q; exact n8 i i0 i1
    · exact g2.2 k i k0 (by omega) i0 i1
  · rw [e (15 + 26 * d) (by omega), e (15 + 26 * d + 7) (by omega), e (15 + 26 * d + 1) (by omega), er 538 (by omega), er 539 (by omega), er 542 (by omega), er 543 (by omega)]
    obtain ⟨s1, s2, s3, s4, s5, s6⟩ := g5 d d0 d1
    exact ⟨s1, s2, s3, s4, s5, fun l l0 l1 => by rw [e (15 + 26 * d + 3 + l) (by omega)]; exact s6 l l0 l1⟩
  · rw [e 14 (by omega), e (6 + k) (by omega), er 542 (by omega), er 543 (by omega)]
    by_cases q : k = M
    · rw [q]; exact ⟨nm.2.2.1, nm.2.2.2⟩
    · exact g6 k k0 (by omega)
  · obtain ⟨ρ, p1, p2⟩ := m d d0 d1
    refine ⟨ρ, by rw [e (15 + 26 * d) (by omega)]; exact p1, fun l p l0 l1 q0 q1 => ?_⟩
    rw [e (15 + 26 * d) (by omega)] at l1 q1
    rw [e (15 + 26 * d + 9 + l) (by omega), er 540 (by omega)]
    exact p2 l p l0 l1 q0 q1
  · rw [er 539 (by omega), er 540 (by omega)]
    exact u d d0 d1
theorem nmq_fr {c' r' : xw_M} {a k j : Int} (h : nmq c r a k j) (ha : c' a = c a) (h1 : r' 542 = r 542) (h2 : r' 543 = r 543) : nmq c' r' a k j := by
  unfold nmq at *
  rw [xR_cg ha, xR_cg h1, xR_cg h2]
  exact h
theorem meas_ok (h : TK c r) (T : CT c r D M) : duo (yf139 B c) (yf267 B r) (fun _ c' _ r' => TK c' r' ∧ CT c' r' D (M + 1) ∧ fCat c c' ∧ fRat r r' ∧ xR c 1 2 ≤ xR c' 1 2) (fun c' _ r' => CT c' r' D M ∧ fCat c c' ∧ fRat r r') := by
  have d45 : ∀ r' : xw_M, 0 < xR r' 536 6 → yk267_45 B r' = some (.inl 0, r') := fun r' d => by
    unfold yk267_45
    rw [d265 d, xB_ret, if_pos rfl]
  unfold yf139 yf267
  have e : (xB (yf47 B c) fun _ m1 => xB (yf135 B m1) fun _ m2 => xB (yf64 B (xR m2 3 2) 8 m2) fun _ m3 => xB (yf140 B m3) fun _ m4 => xB (yf68 B 59 m4) fun _ m5 => some (.inl 0, (xw_u m5 3 2 ((xR m5 3 2) + 1)))) = xB (xB (yf47 B c) fun _ m1 => yf135 B m1) fun _ m2 => xB (yf64 B (xR m2 3 2) 8 m2) fun _ m3 => xB (yf140 B m3) fun _ m4 => xB (yf68 B 59 m4) fun _ m5 => some (.inl 0, (xw_u m5 3 2 ((xR m5 3 2) + 1))) := by
    rw [xB_as]
  rw [e]
  refine duo_B (newn h.1 T.1) (fun v c1 w r1 p => ?_) (fun c1 w r1 F z => ?_)
  · obtain ⟨w1, s, L⟩ := p
    have T1 := CT_x T s.2.1 s.2.2.1
    have M8 := T1.1.cn.2.1
    rw [T1.1.cn.2.2.2.1, if_neg (show ¬ w = 0 by omega), T1.1.r19]
    unfold yf64
    by_cases m8 : M < 8
    · rw [if_pos m8, if_pos m8, xB_ret, ok254 s.1.nf, xB_ret, if_neg (show ¬ (1 : Int) = 0 by decide), T1.1.r19, w32_id (by omega) (by omega)]
      have ob : xw_obb 18 (6 + M) = true ∧ xw_le B (6 + M) = 40 := by
        have : M = 0 ∨ M = 1 ∨ M = 2 ∨ M = 3 ∨ M = 4 ∨ M = 5 ∨ M = 6 ∨ M = 7 := by omega
        rcases this with rfl | rfl | rfl | rfl | rfl | rfl | rfl | rfl <;> exact ⟨rfl, rfl⟩
      obtain ⟨c2, r2, z1, z2, f1, g1, g2, g3, nm, n8⟩ := keepn (B := B) (a := 6 + M) (j := 40 + M) s.1 ob.1 ob.2 L (by omega) (by omega) (by omega)
      clear ob
      unfold yf140
      rw [T1.1.cn.2.2.2.1, if_pos ⟨M8.1, m8⟩, z1, xB_ret, z2, xB_ret, xB_ret]
      generalize hL : xR c1 1 2 - xR c1 1 4 = L' at *
      generalize hc3 : xw_u c2 14 M L' = c3
      have ec : ∀ a, a ≠ 14 → a ≠ 6 + M → c3 a = c1 a := fun a a1 a2 => by rw [← hc3, xu_c a1, f1 a a2]
      have ec14 : ∀ k, k ≠ M → c3 14 k = c1 14 k := fun k hk => by rw [← hc3, xu_ne (by omega), f1 14 (by omega)]
      have l14 : xR c3 14 M = L' := by rw [← hc3]; exact xR_at (w32_id (by have := nm.1; omega) (by omega))
      have e6 : c3 (6 + M) = c2 (6 + M) := by rw [← hc3, xu_c (by omega)]
      have D8 := T1.1.cn.1
      have nmo : ∀ j, 0 ≤ j → j < 40 + M → nmk r1 r2 j := fun j j0 j1 => ⟨g2 j (by omega), fun i i0 i1 => g3 _ (by omega)⟩
      have T3 : CT c3 r2 D M := CT_k T1 ⟨fun d d0 d1 => ⟨fun k _ => by rw [ec (15 + 26 * d) (by omega) (by omega)], ec _ (by omega) (by omega), fun l l0 l1 => ec _ (by omega) (by omega), ec _ (by omega) (by omega), fun l p l0 l1 _ _ => by rw [ec _ (by omega) (by omega)]⟩, fun k k0 k1 => ⟨ec _ (by omega) (by omega), ec14 k (by omega)⟩⟩ ⟨fun d d0 d1 => ⟨⟨by rw [g1 538 (by omega) (by omega)], by rw [g1 539 (by omega) (by omega)]⟩, fun y _ _ => by rw [g1 540 (by omega) (by omega)], nmo d d0 (by omega), fun l l0 l1 => nmo _ (by omega) (by omega)⟩, fun k k0 k1 => nmo _ (by omega) (by omega)⟩ (by rw [xR_cg (ec 3 (by omega) (by omega))]; exact T1.1.cn.2.2.1) (by rw [xR_cg (ec 3 (by omega) (by omega))]; exact T1.1.cn.2.2.2.1) (by rw [xR_cg (g1 536 (by omega) (by omega))]; exact T1.1.r14) (by rw [xR_cg (g1 536 (by omega) (by omega))]; exact T1.1.r19)
      have t3 : TK c3 r2 := TK_fr s.1 (fun k _ _ => by rw [ec 1 (by omega) (by omega)]) (ec 2 (by omega) (by omega)) (fun k _ _ => by rw [g1 536 (by omega) (by omega)]) (g1 537 (by omega) (by omega))
      have fc3 : fCat c c3 := fCat_tr (fCat_x s.2.1) ⟨fun a _ hb => ec a (by omega) (by omega), fun k _ => by rw [ec 1 (by omega) (by omega)]⟩
      have fr3 : fRat r r2 := fRat_tr (fRat_x s.2.2.1) ⟨fun a _ _ _ _ a5 a6 => g1 a a5 a6, fun k _ _ _ => by rw [g1 536 (by omega) (by omega)]⟩
      unfold yk267_45
      refine duo_B (esg (K := 59) (g := 59) t3.1 rfl (Or.inl rfl)) (fun v c4 w4 r4 s4 => ?_) (fun c4 w4 r4 F z => ⟨0, r4, by rw [if_pos z.1], F, CT_y T3 z.2.1 z.2.2, fCat_tr fc3 (fCat_y z.2.1), fRat_tr fr3 (fRat_y z.2.2)⟩)
      obtain ⟨w4', k4, s4⟩ := s4
      have T4 := CT_x T3 s4.2.1 s4.2.2.1
      rw [if_neg (show ¬ w4 = 0 by omega), if_pos s4.1.nf, T4.1.r19, T4.1.cn.2.2.2.1]
      have x14 : xR c4 14 M = L' := by rw [xR_cg (s4.2.1.1 14 (by omega))]; exact l14
      refine duo_r ⟨TK_fr s4.1 (fun k _ _ => by rw [xu_c (by omega)]) (xu_c (by omega)) (fun k _ _ => xu_ne (by omega)) (xu_c (by omega)), CT_M T4 m8 (by rw [x14]; exact nmq_fr nm (by rw [s4.2.1.1 (6 + M) (by omega), e6]) (s4.2.2.1.1 542 (by omega)) (s4.2.2.1.1 543 (by omega))) (fun i i0 i1 => by rw [x14] at i1; rw [xR_cg (s4.2.1.1 (6 + M) (by omega)), xR_cg e6]; exact n8 i i0 i1) (fun a ha => xu_c ha) (xR_ne (by omega)) (xR_at (w32_id (by omega) (by omega))) (fun a ha => xu_c ha) (xu_ne (by omega)) (xR_at (w32_id (by omega) (by omega))), fCat_tr (fCat_tr fc3 (fCat_x s4.2.1)) ⟨fun a _ hb => xu_c (by omega), fun k _ => by rw [xu_c (by omega)]⟩, fRat_tr (fRat_tr fr3 (fRat_x s4.2.2.1)) ⟨fun a ha _ _ _ _ _ => xu_c ha, fun k _ _ k3 => xu_ne (by omega)⟩, by have a := s.2.2.2.1; have b := s4.2.2.2.1; rw [xR_cg (ec 1 (by omega) (by omega))] at b; rw [xR_cg (xu_c (by omega))]; omega⟩
    · rw [if_neg m8, if_neg m8, no254 s.1.nf (by decide) (by decide), xB_ret, if_pos rfl]
      unfold yf54
      rw [xB_thr, xB_thr]
      have X := flt (c := c1) (r := r1) (f := 7) (p := xR c1 1 4) (p' := xR r1 536 9) (by decide) (by decide) (w32_xR _ _ _) s.1.2.1.1
      rw [d45 _ X.1.1]
      exact duo_f X.1 ⟨CT_y T1 X.2.1 X.2.2, fCat_tr (fCat_x s.2.1) (fCat_y X.2.1), fRat_tr (fRat_x s.2.2.1) (fRat_y X.2.2)⟩
  · exact ⟨0, r1, by rw [if_pos z.1, d45 r1 F.1], F, CT_y T z.2.1 z.2.2, fCat_y z.2.1, fRat_y z.2.2⟩
end CAU
