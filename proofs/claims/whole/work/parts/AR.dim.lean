/-! THE CATALOG'S STATEMENTS, both sides: dimension -/
/-- dimension D in the making, with n levels -/
def DN (c r : xw_M) (D n : Int) : Prop := xR c (15 + 26 * D) 10 = n ∧ xR c (15 + 26 * D) 11 = 0 ∧ (0 ≤ n ∧ n ≤ 4) ∧ (nmq c r (15 + 26 * D + 1) (xR c (15 + 26 * D) 9) D ∧ ∀ i, 0 ≤ i → i < xR c (15 + 26 * D) 9 → w8 (xR c (15 + 26 * D + 1) i) = xR c (15 + 26 * D + 1) i) ∧ ∀ l, 0 ≤ l → l < n → nmq c r (15 + 26 * D + 3 + l) (xR c (15 + 26 * D + 7) l) (8 + 4 * D + l) ∧ ∀ i, 0 ≤ i → i < xR c (15 + 26 * D + 7) l → w8 (xR c (15 + 26 * D + 3 + l) i) = xR c (15 + 26 * D + 3 + l) i
section DIM
variable {B : Nat} {c r : xw_M} {D M : Int}
theorem DN_fr {c' r' : xw_M} {n : Int} (h : DN c r D n) (hc : ∀ a, 15 + 26 * D ≤ a → a ≤ 15 + 26 * D + 7 → c' a = c a) (h1 : r' 542 = r 542) (h2 : r' 543 = r 543) : DN c' r' D n := by
  obtain ⟨a1, a2, a3, ⟨a4, a5⟩, a6⟩ := h
  have e := hc (15 + 26 * D) (by omega) (by omega)
  have e1 := hc (15 + 26 * D + 1) (by omega) (by omega)
  have e7 := hc (15 + 26 * D + 7) (by omega) (by omega)
  refine ⟨by rw [xR_cg e]; exact a1, by rw [xR_cg e]; exact a2, a3, ⟨by rw [xR_cg e]; exact nmq_fr a4 e1 h1 h2, by rw [xR_cg e, xR_cg e1]; exact a5⟩, fun l l0 l1 => ?_⟩
  have e3 := hc (15 + 26 * D + 3 + l) (by omega) (by omega)
  rw [xR_cg e7, xR_cg e3]
  exact ⟨nmq_fr (a6 l l0 l1).1 e3 h1 h2, (a6 l l0 l1).2⟩
/-- one dimension more -/
theorem CT_D {c' r' : xw_M} {n : Int} (h : CT c r D M) (N : DN c r D n) (n1 : 1 ≤ n) (D8 : D < 8) (hc : ∀ a, a ≠ 3 → c' a = c a) (h31 : xR c' 3 1 = D + 1) (h32 : xR c' 3 2 = xR c 3 2) (hr : ∀ a, a ≠ 536 → a ≠ 538 → a ≠ 539 → r' a = r a) (r538 : xR r' 538 D = n ∧ ∀ d, d ≠ D → r' 538 d = r 538 d) (r539 : xR r' 539 D = 0 ∧ ∀ d, d ≠ D → r' 539 d = r 539 d) (r14 : xR r' 536 14 = D + 1) (r19 : r' 536 19 = r 536 19) : CT c' r' (D + 1) M := by
  obtain ⟨g, m, u, hh⟩ := h
  obtain ⟨g1, g2, g3, g4, g5, g6⟩ := g
  obtain ⟨n1', n2, n3, n4, n5, n6⟩ := g1
  obtain ⟨a1, a2, a3, ⟨a4, a5⟩, a6⟩ := N
  have e : ∀ a, a ≠ 3 → xR c' a = xR c a := fun a ha => xR_cg (hc a ha)
  have er : ∀ a, a ≠ 536 → a ≠ 538 → a ≠ 539 → xR r' a = xR r a := fun a a1 a2 a3 => xR_cg (hr a a1 a2 a3)
  refine ⟨⟨⟨by omega, n2, h31, by rw [h32]; exact n4, fun d d0 d1 => ?_, fun k k0 k1 => ?_⟩, ⟨fun d d0 d1 => ?_, fun k i k0 k1 i0 i1 => ?_⟩, r14, by rw [xR_fld r19]; exact g4, fun d d0 d1 => ?_, fun k k0 k1 => ?_⟩, fun d d0 d1 => ?_, fun d d0 d1 x y x0 x1 y0 y1 ee => ?_, fun d d0 d1 x y l x0 x1 y0 y1 l0 l1 ee => ?_⟩
  · rw [e (15 + 26 * d) (by omega), e (15 + 26 * d + 7) (by omega)]
    by_cases q : d = D
    · subst q
      rw [a1, a2]
      exact ⟨⟨a4.1, a4.2.1⟩, a3, by decide, fun l l0 l1 => ⟨(a6 l l0 l1).1.1, (a6 l l0 l1).1.2.1⟩⟩
    · exact n5 d d0 (by omega)
  · rw [e 14 (by omega)]; exact n6 k k0 k1
  · rw [e (15 + 26 * d) (by omega), e (15 + 26 * d + 7) (by omega), e (15 + 26 * d + 1) (by omega)]
    by_cases q : d = D
    · subst q
      rw [a1]
      exact ⟨a5, fun l i l0 l1 i0 i1 => by rw [e (15 + 26 * d + 3 + l) (by omega)]; exact (a6 l l0 l1).2 i i0 i1⟩
    · exact ⟨(g2.1 d d0 (by omega)).1, fun l i l0 l1 i0 i1 => by rw [e (15 + 26 * d + 3 + l) (by omega)]; exact (g2.1 d d0 (by omega)).2 l i l0 l1 i0 i1⟩
  · rw [e 14 (by omega)] at i1; rw [e (6 + k) (by omega)]; exact g2.2 k i k0 k1 i0 i1
  · rw [e (15 + 26 * d) (by omega), e (15 + 26 * d + 7) (by omega), e (15 + 26 * d + 1) (by omega), er 542 (by omega) (by omega) (by omega), er 543 (by omega) (by omega) (by omega)]
    by_cases q : d = D
    · subst q
      rw [r538.1, r539.1, a1, a2]
      exact ⟨n1, rfl, rfl, a4.2.2.1, a4.2.2.2, fun l l0 l1 => by rw [e (15 + 26 * d + 3 + l) (by omega)]; exact ⟨(a6 l l0 l1).1.2.2.1, (a6 l l0 l1).1.2.2.2⟩⟩
    · rw [xR_fld (r538.2 d q), xR_fld (r539.2 d q)]
      obtain ⟨s1, s2, s3, s4, s5, s6⟩ := g5 d d0 (by omega)
      exact ⟨s1, s2, s3, s4, s5, fun l l0 l1 => by rw [e (15 + 26 * d + 3 + l) (by omega)]; exact s6 l l0 l1⟩
  · rw [e 14 (by omega), e (6 + k) (by omega), er 542 (by omega) (by omega) (by omega), er 543 (by omega) (by omega) (by omega)]
    exact g6 k k0 k1
  · by_cases q : d = D
    · subst q
      rw [e (15 + 26 * d) (by omega), a2]
      exact ⟨fun p => p, ⟨fun i i0 i1 => by omega, fun i j i0 i1 => by omega⟩, fun l p l0 l1 q0 q1 => by omega⟩
    · obtain ⟨ρ, p1, p2⟩ := m d d0 (by omega)
      refine ⟨ρ, by rw [e (15 + 26 * d) (by omega)]; exact p1, fun l p l0 l1 q0 q1 => ?_⟩
      rw [e (15 + 26 * d) (by omega)] at l1 q1
      rw [e (15 + 26 * d + 9 + l) (by omega), er 540 (by omega) (by omega) (by omega)]
      exact p2 l p l0 l1 q0 q1
  · by_cases q : d = D
    · subst q
      rw [r539.1] at x1
      omega
    · rw [xR_fld (r539.2 d q)] at x1 y1
      rw [er 540 (by omega) (by omega) (by omega)] at ee
      exact u d d0 (by omega) x y x0 x1 y0 y1 ee
  · by_cases q : d = D
    · subst q
      rw [r539.1] at x1
      omega
    · rw [xR_fld (r539.2 d q)] at x1 y1
      rw [xR_fld (r538.2 d q)] at l1
      rw [er 540 (by omega) (by omega) (by omega)] at ee ⊢
      exact hh d d0 (by omega) x y l x0 x1 y0 y1 l0 l1 ee
/-- a level more -/
theorem addl {n : Int} (h : TK c r) (T : CT c r D M) (N : DN c r D n) (n4 : n < 4) (D8 : D < 8) (L : xR c 1 2 - xR c 1 4 ≤ 40) : ∃ c' r', yf138 B (15 + 26 * D) c = some (.inl 0, c') ∧ yf264 B (8 + 4 * D + n) r = some (.inl 0, r') ∧ TK c' r' ∧ CT c' r' D M ∧ DN c' r' D (n + 1) ∧ fCat c c' ∧ fRat r r' ∧ c' 1 = c 1 := by
  have D0 := T.1.cn.1
  have M8 := T.1.cn.2.1
  obtain ⟨a1, a2, a3, ⟨a4, a5⟩, a6⟩ := id N
  have e138 : ∀ v c2, yf137 B (15 + 26 * D + 3 + n) c = some (.inl v, c2) → xR c2 (15 + 26 * D) 10 = n → yf138 B (15 + 26 * D) c = some (.inl 0, xw_u (xw_u c2 (15 + 26 * D + 7) n v) (15 + 26 * D) 10 (n + 1)) := fun v c2 z x10 => by
    have nb : 0 ≤ n ∧ n < 4 := ⟨a3.1, n4⟩
    obtain ⟨o0, ⟨r0, r1, r2, _⟩, ⟨ob1, ob2, ob7, _⟩, ⟨le1, le2, le7, _⟩⟩ := dm_f B D0.1 D8
    obtain ⟨_, _, _, ⟨kd, rf, ob, le⟩⟩ := dm_l B D0.1 D8 a3.1 n4
    unfold yf138
    rw [if_pos o0, a1, r1, le2, if_pos nb, if_pos kd, if_pos ob2, rf, z, xB_ret, r2, le7, if_pos nb, if_pos ob7, x10]
  have obn : xw_obb 18 (15 + 26 * D + 3 + n) = true ∧ xw_le B (15 + 26 * D + 3 + n) = 40 := by
    obtain ⟨_, _, _, ⟨kd, rf, ob, le⟩⟩ := dm_l B D0.1 D8 a3.1 n4
    exact ⟨ob, le⟩
  obtain ⟨c2, r2, z1, z2, f1, g1, g2, g3, nm, n8⟩ := keepn (B := B) (a := 15 + 26 * D + 3 + n) (j := 8 + 4 * D + n) h obn.1 obn.2 L (by omega) (by omega) (by omega)
  clear obn
  have z3 := e138 _ c2 z1 (by rw [xR_cg (f1 (15 + 26 * D) (by omega))]; exact a1)
  clear e138
  have nm0 := nm.1
  generalize xR c 1 2 - xR c 1 4 = L' at *
  generalize hc3 : xw_u (xw_u c2 (15 + 26 * D + 7) n L') (15 + 26 * D) 10 (n + 1) = c3 at z3
  have ec : ∀ a, a ≠ 15 + 26 * D → a ≠ 15 + 26 * D + 7 → a ≠ 15 + 26 * D + 3 + n → c3 a = c a := fun a b1 b2 b3 => by rw [← hc3, xu_c b1, xu_c b2, f1 a b3]
  have ecf : ∀ k, k ≠ 10 → c3 (15 + 26 * D) k = c (15 + 26 * D) k := fun k hk => by rw [← hc3, xu_ne (by omega), xu_c (by omega), f1 _ (by omega)]
  have ec7 : ∀ l, l ≠ n → c3 (15 + 26 * D + 7) l = c (15 + 26 * D + 7) l := fun l hl => by rw [← hc3, xu_c (by omega), xu_ne (by omega), f1 _ (by omega)]
  have x7 : xR c3 (15 + 26 * D + 7) n = L' := by rw [← hc3, xR_cg (xu_c (by omega))]; exact xR_at (w32_id (by omega) (by omega))
  have x10 : xR c3 (15 + 26 * D) 10 = n + 1 := by rw [← hc3]; exact xR_at (w32_id (by omega) (by omega))
  have x3n : c3 (15 + 26 * D + 3 + n) = c2 (15 + 26 * D + 3 + n) := by rw [← hc3, xu_c (by omega), xu_c (by omega)]
  have nmo : ∀ j, 0 ≤ j → j ≠ 8 + 4 * D + n → nmk r r2 j := fun j j0 jn => ⟨g2 j jn, fun i i0 i1 => g3 _ (by omega)⟩
  have nmqo : ∀ a k j, 0 ≤ j → j ≠ 8 + 4 * D + n → c3 a = c a → nmq c r a k j → nmq c3 r2 a k j := fun a k j j0 jn ea q => by
    obtain ⟨q1, q2, q3, q4⟩ := q
    exact ⟨q1, q2, by rw [xR_fld (nmo j j0 jn).1]; exact q3, fun i i0 i1 => by rw [xR_cg ea, xR_fld ((nmo j j0 jn).2 i i0 (by omega))]; exact q4 i i0 i1⟩
  refine ⟨c3, r2, z3, z2, TK_fr h (fun k _ _ => by rw [ec 1 (by omega) (by omega) (by omega)]) (ec 2 (by omega) (by omega) (by omega)) (fun k _ _ => by rw [g1 536 (by omega) (by omega)]) (g1 537 (by omega) (by omega)), CT_k T ⟨fun d d0 d1 => ⟨fun k _ => by rw [ec (15 + 26 * d) (by omega) (by omega) (by omega)], ec _ (by omega) (by omega) (by omega), fun l l0 l1 => ec _ (by omega) (by omega) (by omega), ec _ (by omega) (by omega) (by omega), fun l p l0 l1 _ _ => by rw [ec _ (by omega) (by omega) (by omega)]⟩, fun k k0 k1 => ⟨ec _ (by omega) (by omega) (by omega), by rw [ec 14 (by omega) (by omega) (by omega)]⟩⟩ ⟨fun d d0 d1 => ⟨⟨by rw [g1 538 (by omega) (by omega)], by rw [g1 539 (by omega) (by omega)]⟩, fun y _ _ => by rw [g1 540 (by omega) (by omega)], nmo d d0 (by omega), fun l l0 l1 => nmo _ (by omega) (by omega)⟩, fun k k0 k1 => nmo _ (by omega) (by omega)⟩ (by rw [xR_cg (ec 3 (by omega) (by omega) (by omega))]; exact T.1.cn.2.2.1) (by rw [xR_cg (ec 3 (by omega) (by omega) (by omega))]; exact T.1.cn.2.2.2.1) (by rw [xR_cg (g1 536 (by omega) (by omega))]; exact T.1.r14) (by rw [xR_cg (g1 536 (by omega) (by omega))]; exact T.1.r19), ⟨x10, by rw [xR_fld (ecf 11 (by omega))]; exact a2, by omega, ⟨?_, ?_⟩, fun l l0 l1 => ?_⟩, ⟨fun a _ hb => ec a (by omega) (by omega) (by omega), fun k _ => by rw [ec 1 (by omega) (by omega) (by omega)]⟩, ⟨fun a _ _ _ _ b5 b6 => g1 a b5 b6, fun k _ _ _ => by rw [g1 536 (by omega) (by omega)]⟩, ec 1 (by omega) (by omega) (by omega)⟩
  · rw [xR_fld (ecf 9 (by omega))]
    exact nmqo _ _ _ D0.1 (by omega) (ec _ (by omega) (by omega) (by omega)) a4
  · rw [xR_fld (ecf 9 (by omega)), xR_cg (ec (15 + 26 * D + 1) (by omega) (by omega) (by omega))]
    exact a5
  · by_cases q : l = n
    · subst q
      rw [x7]
      refine ⟨?_, fun i i0 i1 => by rw [xR_cg x3n]; exact n8 i i0 i1⟩
      exact nmq_fr nm x3n rfl rfl
    · rw [xR_fld (ec7 l q), xR_cg (ec (15 + 26 * D + 3 + l) (by omega) (by omega) (by omega))]
      exact ⟨nmqo _ _ _ (by omega) (by omega) (ec _ (by omega) (by omega) (by omega)) (a6 l l0 (by omega)).1, (a6 l l0 (by omega)).2⟩
theorem w144 {n : Int} {R : Int → Int → xw_M → xP} : yk259_144 B R n r = xB (yf248 B r) fun _ m1 => mor B 41 (fun y m => R n y m) m1 := rfl
theorem d144 {n : Int} {R : Int → Int → xw_M → xP} (d : 0 < xR r 536 6) : yk259_144 B R n r = R n 0 r := by
  rw [w144, d248 d, xB_ret, mor_d d]
theorem d53 {n : Int} {N : Nat} (d : 0 < xR r 536 6) : xl2 (yl259_53 B) (N + 1) n 0 r = some (.inl 0, r) := by
  show yl259_53 B _ n 0 r = _
  unfold yl259_53
  rw [if_pos rfl, d265 d, xB_ret, if_pos rfl]
/-- the levels -/
theorem dim_l (D8 : D < 8) : ∀ (z N N' : Nat) (n : Int) (c5 r5 : xw_M), (5 - n).toNat ≤ z → z < N → z + 1 < N' → PS c5 r5 → CT c5 r5 D M → DN c5 r5 D n → fCat c c5 → fRat r r5 → xR c 1 2 ≤ xR c5 1 2 → duo (xl2 (yl134_59 B) N (15 + 26 * D) n c5) (xl2 (yl259_53 B) N' n 1 r5) (fun _ c' _ r' => TK c' r' ∧ CT c' r' (D + 1) M ∧ fCat c c' ∧ fRat r r' ∧ xR c 1 2 ≤ xR c' 1 2) (fun c' _ r' => CT c' r' D M ∧ fCat c c' ∧ fRat r r') := by
  intro z
  induction z with
  | zero =>
    intro N N' n c5 r5 hz _ _ _ _ K _ _ _
    have := K.2.2.1
    omega
  | succ z ih =>
    intro N N' n c5 r5 hz zN zN' h T K fc fr lea
    have n4 := K.2.2.1
    have D0 := T.1.cn.1
    cases N with
    | zero => omega
    | succ N =>
    cases N' with
    | zero => omega
    | succ N' =>
    cases N' with
    | zero => omega
    | succ N' =>
    have IH := ih N (N' + 1) (n + 1)
    have dd := @d53 B
    have fin : ∀ (n : Int) (r' : xw_M), xl2 (yl259_53 B) (N' + 1) n 0 r' = xB (yf265 B 59 r') fun v1 m1 => if v1 = 0 then (some (.inl 0, m1)) else (if (xR m1 536 6) = 0 then (if (0 : Int) ≤ (xR m1 536 14) ∧ (xR m1 536 14) < 8 then some (.inl 0, (xw_u (xw_u (xw_u m1 538 (xR m1 536 14) n) 539 (xR m1 536 14) 0) 536 14 ((xR m1 536 14) + 1))) else none) else (some (.inl 0, m1))) := fun n r' => by
      show yl259_53 B _ n 0 r' = _
      unfold yl259_53
      rw [if_pos rfl]
    have dead : ∀ (n : Int) (r' : xw_M), 0 < xR r' 536 6 → xl2 (yl259_53 B) (N' + 1) n 0 r' = some (.inl 0, r') := fun n r' d => dd d
    clear dd
    show duo (yl134_59 B (xl2 (yl134_59 B) N) (15 + 26 * D) n c5) (yl259_53 B (xl2 (yl259_53 B) (N' + 1)) n 1 r5) _ _
    generalize xl2 (yl259_53 B) (N' + 1) = R at IH fin dead ⊢
    generalize xl2 (yl134_59 B) N = R1 at IH ⊢
    have o0 := (dm_f B D0.1 D8).1
    have wi : w32 (n + 1) = n + 1 := w32_id (by omega) (by omega)
    unfold yl134_59 yl259_53
    rw [if_neg (by omega), if_neg (show ¬ (1 : Int) = 0 by decide)]
    refine duo_B (nx h) (fun v c6 w r6 s => ?_) (fun c6 w r6 F z => ⟨0, r6, by rw [d261 F.1, xB_ret, if_pos rfl, d144 F.1, dead n r6 F.1], F, CT_y T z.1 z.2, fCat_tr fc (fCat_y z.1), fRat_tr fr (fRat_y z.2)⟩)
    have T6 := CT_x T s.2.1 s.2.2.1
    have K6 := DN_fr K (fun a a0 a1 => s.2.1.1 a (by omega)) (s.2.2.1.1 542 (by omega)) (s.2.2.1.1 543 (by omega))
    have fc6 := fCat_tr fc (fCat_x s.2.1)
    have fr6 := fRat_tr fr (fRat_x s.2.2.1)
    refine duo_B (nam s.1) (fun v c7 w r7 p => ?_) (fun c7 w r7 F z => ⟨0, r7, by rw [if_pos z.1, d144 F.1, dead n r7 F.1], F, CT_y T6 z.2.1 z.2.2, fCat_tr fc6 (fCat_y z.2.1), fRat_tr fr6 (fRat_y z.2.2)⟩)
    obtain ⟨rfl, rfl, w1, k1, L⟩ := p
    have nf := s.1.nf
    rw [if_neg (show ¬ w = 0 by omega), if_pos o0, T6.1.r14, w32_id (x := 8 + 4 * D) (by omega) (by omega)]
    unfold yf66 yf262
    generalize hN : (1000000 : Nat) = NN
    obtain ⟨v, v1, z1, z1'⟩ := levc (B := B) s.1 D0.1 D8 n4.2 K6.1 (fun l l0 l1 => (K6.2.2.2.2 l l0 l1).1) 4 NN NN 0 (by omega) (by omega) (by omega) (by omega)
    rw [z1, xB_ret, z1', xB_ret]
    by_cases e : v = -1
    · rw [if_pos e, if_pos (show v < 0 by omega), ok254 nf, xB_ret, if_neg (show ¬ (1 : Int) = 0 by decide)]
      unfold yk134_106 yf64
      rw [if_pos o0, K6.1]
      by_cases n5 : n < 4
      · rw [if_pos n5, if_pos n5, xB_ret, ok254 nf, xB_ret, if_neg (show ¬ (1 : Int) = 0 by decide), T6.1.r14, w32_id (x := 8 + 4 * D + n) (by omega) (by omega)]
        obtain ⟨c8, r8, y1, y2, t8, T8, K8, fc8', fr8', m81⟩ := addl (B := B) s.1 T6 K6 n5 D8 L
        rw [y1, xB_ret, y2, xB_ret, w144, wi]
        have fc8 := fCat_tr fc6 fc8'
        have fr8 := fRat_tr fr6 fr8'
        refine duo_B (nx t8.1) (fun v c9 w r9 s9 => ?_) (fun c9 w r9 F z => ⟨0, r9, by rw [mor_d F.1]; exact dead _ r9 F.1, F, CT_y T8 z.1 z.2, fCat_tr fc8 (fCat_y z.1), fRat_tr fr8 (fRat_y z.2)⟩)
        have T9 := CT_x T8 s9.2.1 s9.2.2.1
        have K9 := DN_fr K8 (fun a a0 a1 => s9.2.1.1 a (by omega)) (s9.2.2.1.1 542 (by omega)) (s9.2.2.1.1 543 (by omega))
        have fc9 := fCat_tr fc8 (fCat_x s9.2.1)
        have fr9 := fRat_tr fr8 (fRat_x s9.2.2.1)
        unfold yk134_151
        refine mor_ok (G := fun m => yk134_170 B m) s9.1 rfl (by decide) (fun k44 => ?_) (fun k41 => ?_) (fun ca ra F y1 y2 => ⟨0, ra, dead _ ra F.1, F, CT_y T9 y1 y2, fCat_tr fc9 (fCat_y y1), fRat_tr fr9 (fRat_y y2)⟩)
        · exact IH c9 r9 (by omega) (by omega) (by omega) s9.1.1 T9 K9 fc9 fr9 (by have a := s.2.2.2.1; have b := s9.2.2.2.1; rw [xR_cg m81] at b; omega)
        · show duo _ (R (n + 1) 0 r9) _ _
          rw [fin]
          unfold yk134_170
          refine duo_B (esg (K := 59) (g := 59) s9.1.1 rfl (Or.inl rfl)) (fun v ca w ra sa => ?_) (fun ca w ra F z => ⟨0, ra, by rw [if_pos z.1], F, CT_y T9 z.2.1 z.2.2, fCat_tr fc9 (fCat_y z.2.1), fRat_tr fr9 (fRat_y z.2.2)⟩)
          obtain ⟨wa, _, sa⟩ := sa
          have Ta := CT_x T9 sa.2.1 sa.2.2.1
          have Ka := DN_fr K9 (fun a a0 a1 => sa.2.1.1 a (by omega)) (sa.2.2.1.1 542 (by omega)) (sa.2.2.1.1 543 (by omega))
          rw [if_neg (show ¬ w = 0 by omega), if_pos sa.1.nf, Ta.1.r14, if_pos ⟨D0.1, D8⟩, Ta.1.cn.2.2.1]
          refine duo_r ⟨TK_fr sa.1 (fun k _ _ => by rw [xu_c (by omega)]) (xu_c (by omega)) (fun k _ _ => by rw [xu_ne (by omega), xu_c (by omega), xu_c (by omega)]) (by rw [xu_c (by omega), xu_c (by omega), xu_c (by omega)]), CT_D (n := n + 1) Ta Ka (by omega) D8 (fun a ha => xu_c ha) (xR_at (w32_id (by omega) (by omega))) (xR_ne (by omega)) (fun a b1 b2 b3 => by rw [xu_c b1, xu_c b3, xu_c b2]) ⟨?_, fun d hd => by rw [xu_c (by omega), xu_c (by omega), xu_ne (by omega)]⟩ ⟨?_, fun d hd => by rw [xu_c (by omega), xu_ne (by omega), xu_c (by omega)]⟩ (xR_at (w32_id (by omega) (by omega))) (by rw [xu_ne (by omega), xu_c (by omega), xu_c (by omega)]), fCat_tr (fCat_tr fc9 (fCat_x sa.2.1)) ⟨fun a _ hb => xu_c (by omega), fun k _ => by rw [xu_c (by omega)]⟩, fRat_tr (fRat_tr fr9 (fRat_x sa.2.2.1)) ⟨fun a b1 b2 b3 _ _ _ => by rw [xu_c b1, xu_c b3, xu_c b2], fun k _ k2 _ => by rw [xu_ne (by omega), xu_c (by omega), xu_c (by omega)]⟩, by have a := s.2.2.2.1; have b := s9.2.2.2.1; have d := sa.2.2.2.1; rw [xR_cg m81] at b; rw [xR_cg (xu_c (by omega))]; omega⟩
          · rw [xR_cg (xu_c (by omega)), xR_cg (xu_c (by omega))]; exact xR_at (w32_id (by omega) (by omega))
          · rw [xR_cg (xu_c (by omega))]; exact xR_at (by decide)
      · rw [if_neg n5, if_neg n5, no254 nf (by decide) (by decide), xB_ret, if_pos rfl]
        unfold yf54
        rw [xB_thr, xB_thr]
        have X := flt (c := c7) (r := r7) (f := 7) (p := xR c7 1 4) (p' := xR r7 536 9) (by decide) (by decide) (w32_xR _ _ _) s.1.2.1.1
        rw [d144 X.1.1, dead n _ X.1.1]
        exact duo_f X.1 ⟨CT_y T6 X.2.1 X.2.2, fCat_tr fc6 (fCat_y X.2.1), fRat_tr fr6 (fRat_y X.2.2)⟩
    · rw [if_neg e, if_neg (show ¬ v < 0 by omega), no254 nf (by decide) (by decide), xB_ret, if_pos rfl]
      unfold yf54
      rw [xB_thr]
      have X := flt (c := c7) (r := r7) (f := 6) (p := xR c7 1 4) (p' := xR r7 536 9) (by decide) (by decide) (w32_xR _ _ _) s.1.2.1.1
      rw [d144 X.1.1, dead n _ X.1.1]
      exact duo_f X.1 ⟨CT_y T6 X.2.1 X.2.2, fCat_tr fc6 (fCat_y X.2.1), fRat_tr fr6 (fRat_y X.2.2)⟩
end DIM
