/-! THE CATALOG'S STATEMENTS, both sides: member -/
section MEM
variable {B : Nat} {c r : xw_M} {D M : Int}
theorem CT_xr {r' : xw_M} (h : CT c r D M) (e : ∀ a, xR r' a = xR r a) : CT c r' D M := by
  unfold CT cgr hie at *
  simp only [e]
  exact h
theorem xR_self {m : xw_M} {a k : Int} : ∀ b, xR (xw_u m a k (xR m a k)) b = xR m b := fun b => by
  funext j
  by_cases q : b = a ∧ j = k
  · rw [q.1, q.2]
    exact xR_at (w32_xR _ _ _)
  · exact xR_ne q
/-- more members -/
theorem CT_mem {d L n : Int} {ρ : Int → Int} {c' r' : xw_M} (T : CT c r D M) (d0 : 0 ≤ d) (d1 : d < D) (hL : xR c (15 + 26 * d) 10 = L) (m : ME c r d L n ρ) (n0 : 0 ≤ n) (n1 : n ≤ 1000) (hc : ∀ a, a ≠ 15 + 26 * d → c' a = c a) (hd : ∀ k, k ≠ 11 → c' (15 + 26 * d) k = c (15 + 26 * d) k) (h11 : xR c' (15 + 26 * d) 11 = n) (hr : ∀ a, a ≠ 539 → r' a = r a) (h539 : xR r' 539 d = n) (hd' : ∀ e, e ≠ d → r' 539 e = r 539 e) : CT c' r' D M := by
  obtain ⟨g, mm, u, hh⟩ := T
  obtain ⟨g1, g2, g3, g4, g5, g6⟩ := g
  obtain ⟨n1', n2, n3, n4, n5, n6⟩ := g1
  have er : ∀ a, a ≠ 539 → xR r' a = xR r a := fun a ha => xR_cg (hr a ha)
  have e : ∀ a, a ≠ 15 + 26 * d → xR c' a = xR c a := fun a ha => xR_cg (hc a ha)
  have f9 : ∀ b, 0 ≤ b → b < D → xR c' (15 + 26 * b) 9 = xR c (15 + 26 * b) 9 := fun b b0 b1 => by
    by_cases q : b = d
    · subst q; exact xR_fld (hd 9 (by omega))
    · rw [e _ (by omega)]
  have f10 : ∀ b, 0 ≤ b → b < D → xR c' (15 + 26 * b) 10 = xR c (15 + 26 * b) 10 := fun b b0 b1 => by
    by_cases q : b = d
    · subst q; exact xR_fld (hd 10 (by omega))
    · rw [e _ (by omega)]
  refine ⟨⟨⟨n1', n2, by rw [e 3 (by omega)]; exact n3, by rw [e 3 (by omega)]; exact n4, fun b b0 b1 => ?_, fun k k0 k1 => ?_⟩, ⟨fun b b0 b1 => ?_, fun k i k0 k1 i0 i1 => ?_⟩, by rw [er 536 (by omega)]; exact g3, by rw [er 536 (by omega)]; exact g4, fun b b0 b1 => ?_, fun k k0 k1 => ?_⟩, fun b b0 b1 => ?_, fun b b0 b1 x y x0 x1 y0 y1 ee => ?_, fun b b0 b1 x y l x0 x1 y0 y1 l0 l1 ee => ?_⟩
  · rw [f9 b b0 b1, f10 b b0 b1, e (15 + 26 * b + 7) (by omega)]
    obtain ⟨x1, x2, x3, x4⟩ := n5 b b0 b1
    refine ⟨x1, x2, ?_, x4⟩
    by_cases q : b = d
    · subst q; rw [h11]; exact ⟨n0, n1⟩
    · rw [e _ (by omega)]; exact x3
  · rw [e 14 (by omega)]; exact n6 k k0 k1
  · rw [f9 b b0 b1, f10 b b0 b1, e (15 + 26 * b + 7) (by omega), e (15 + 26 * b + 1) (by omega)]
    exact ⟨(g2.1 b b0 b1).1, fun l i l0 l1 i0 i1 => by have := (n5 b b0 b1).2.1; rw [e (15 + 26 * b + 3 + l) (by omega)]; exact (g2.1 b b0 b1).2 l i l0 l1 i0 i1⟩
  · rw [e 14 (by omega)] at i1; rw [e (6 + k) (by omega)]; exact g2.2 k i k0 k1 i0 i1
  · rw [f9 b b0 b1, f10 b b0 b1, e (15 + 26 * b + 7) (by omega), e (15 + 26 * b + 1) (by omega), er 538 (by omega), er 542 (by omega), er 543 (by omega)]
    obtain ⟨s1, s2, s3, s4, s5, s6⟩ := g5 b b0 b1
    refine ⟨s1, s2, ?_, s4, s5, fun l l0 l1 => by have := (n5 b b0 b1).2.1; rw [e (15 + 26 * b + 3 + l) (by omega)]; exact s6 l l0 l1⟩
    by_cases q : b = d
    · subst q; rw [h11, h539]
    · rw [e _ (by omega), xR_fld (hd' b q)]; exact s3
  · rw [e 14 (by omega), e (6 + k) (by omega), er 542 (by omega), er 543 (by omega)]; exact g6 k k0 k1
  · by_cases q : b = d
    · subst q
      refine ⟨ρ, by rw [h11]; exact m.1, fun l p l0 l1 q0 q1 => ?_⟩
      rw [f10 b b0 b1, hL] at l1
      rw [h11] at q1
      rw [e (15 + 26 * b + 9 + l) (by omega), er 540 (by omega)]
      exact m.2.1 l p l0 l1 q0 q1
    · obtain ⟨σ, p1, p2⟩ := mm b b0 b1
      refine ⟨σ, by rw [e _ (by omega)]; exact p1, fun l p l0 l1 q0 q1 => ?_⟩
      have L4 := (n5 b b0 b1).2.1
      rw [e (15 + 26 * b) (by omega)] at l1 q1
      rw [e (15 + 26 * b + 9 + l) (by omega), er 540 (by omega)]
      exact p2 l p l0 l1 q0 q1
  · rw [er 540 (by omega)] at ee
    by_cases q : b = d
    · subst q
      rw [h539] at x1 y1
      exact m.2.2.1 x y x0 x1 y0 y1 ee
    · rw [xR_fld (hd' b q)] at x1 y1
      exact u b b0 b1 x y x0 x1 y0 y1 ee
  · rw [er 540 (by omega)] at ee ⊢
    rw [er 538 (by omega)] at l1
    by_cases q : b = d
    · subst q
      rw [h539] at x1 y1
      rw [(g5 b b0 b1).2.1, hL] at l1
      exact m.2.2.2 x y l x0 x1 y0 y1 l0 l1 ee
    · rw [xR_fld (hd' b q)] at x1 y1
      exact hh b b0 b1 x y l x0 x1 y0 y1 l0 l1 ee
theorem w293 {d n : Int} {R : Int → Int → Int → xw_M → xP} : yk268_293 B R d n r = xB (yf248 B r) fun _ m1 => mor B 59 (fun y m => R d (w32 (n + 1)) y m) m1 := rfl
theorem d293 {d n : Int} {R : Int → Int → Int → xw_M → xP} (D' : 0 < xR r 536 6) : yk268_293 B R d n r = R d (w32 (n + 1)) 0 r := by
  rw [w293, d248 D', xB_ret, mor_d D']
theorem d114 {d n bg v : Int} {N : Nat} {R : Int → Int → Int → xw_M → xP} (D' : 0 < xR r 536 6) : xl5 (yl268_114 B R) (N + 1) d n bg v 0 r = R d (w32 (n + 1)) 0 r := by
  show yl268_114 B R _ d n bg v 0 r = _
  unfold yl268_114
  rw [if_pos rfl, if_neg (by omega), d293 D']
theorem d56 {d n : Int} {N : Nat} (d0 : 0 ≤ d) (d8 : d < 8) (D' : 0 < xR r 536 6) : xl3 (yl268_56 B) (N + 1) d n 0 r = some (.inl 0, xw_u r 539 d (xR r 539 d)) := by
  show yl268_56 B _ d n 0 r = _
  unfold yl268_56
  rw [if_pos rfl, if_neg (by omega), if_pos ⟨d0, d8⟩]
/-- the clash is the same on both sides -/
theorem clash {d L n : Int} {ρ : Int → Int} (d0 : 0 ≤ d) (d8 : d < 8) (h10 : xR c (15 + 26 * d) 10 = L) (h538 : xR r 538 d = L) (L1 : 1 ≤ L) (L4 : L ≤ 4) (h12 : xR c (15 + 26 * d) 12 = n) (n0 : 0 ≤ n) (n1 : n < 1000) (m : ME c r d L n ρ) (mv : MV c r d L n L) : ∃ v, (v = 0 ∨ v = 1) ∧ yf143 B (15 + 26 * d) c = some (.inl v, c) ∧ yf269 B d n r = some (.inl (1 - v), r) ∧ (v = 0 → ∀ x, 0 ≤ x → x < n → xR r 540 (4000 * d + 4 * x + 0) ≠ xR r 540 (4000 * d + 4 * n + 0) ∧ ∀ l, 0 ≤ l → l + 1 < L → xR r 540 (4000 * d + 4 * x + l) = xR r 540 (4000 * d + 4 * n + l) → xR r 540 (4000 * d + 4 * x + (l + 1)) = xR r 540 (4000 * d + 4 * n + (l + 1))) := by
  obtain ⟨v, v1, z, p⟩ := cls_c (B := B) (c := c) d0 d8 h10 L1 L4 h12 n0 n1 1000000 0 (by decide) (by omega)
  obtain ⟨w, w1, z', p'⟩ := cls_r (B := B) (r := r) d0 d8 h538 L1 L4 n0 n1 1000000 0 (by decide) (by omega)
  have same : ∀ x, 0 ≤ x → x < n → ∀ l, 0 ≤ l → l < L → (xR c (15 + 26 * d + 9 + l) x = xR c (15 + 26 * d + 9 + l) n ↔ xR r 540 (4000 * d + 4 * ρ x + l) = xR r 540 (4000 * d + 4 * n + l)) := fun x x0 x1 l l0 l1 => by
    rw [m.2.1 l x l0 l1 x0 x1, mv l l0 l1 l1]
  have sr : ∀ x, 0 ≤ x → x < n → ((xR c (15 + 26 * d + 9 + 0) x = xR c (15 + 26 * d + 9 + 0) n ∨ srch (fun l => xR c (15 + 26 * d + 9 + l) x = xR c (15 + 26 * d + 9 + l) n) L 0 1) ↔ (xR r 540 (4000 * d + 4 * ρ x + 0) = xR r 540 (4000 * d + 4 * n + 0) ∨ srch (fun l => xR r 540 (4000 * d + 4 * ρ x + l) = xR r 540 (4000 * d + 4 * n + l)) L 0 1)) := fun x x0 x1 => by
    have s := same x x0 x1
    have a := s 0 (by decide) (by omega)
    have b : srch (fun l => xR c (15 + 26 * d + 9 + l) x = xR c (15 + 26 * d + 9 + l) n) L 0 1 ↔ srch (fun l => xR r 540 (4000 * d + 4 * ρ x + l) = xR r 540 (4000 * d + 4 * n + l)) L 0 1 := by
      constructor
      · rintro (⟨h, _⟩ | ⟨k, k0, k1, k2, k3⟩)
        · exact absurd h (by decide)
        · exact Or.inr ⟨k, k0, k1, (s k (by omega) (by omega)).mp k2, fun h => k3 ((s (k + 1) (by omega) (by omega)).mpr h)⟩
      · rintro (⟨h, _⟩ | ⟨k, k0, k1, k2, k3⟩)
        · exact absurd h (by decide)
        · exact Or.inr ⟨k, k0, k1, (s k (by omega) (by omega)).mpr k2, fun h => k3 ((s (k + 1) (by omega) (by omega)).mp h)⟩
    rw [a, b]
  have vw : v = 1 ↔ w = 0 := by
    rw [p, p']
    constructor
    · rintro ⟨x, x0, x1, h⟩
      exact ⟨ρ x, (prm_lt m.1 x0 x1).1, (prm_lt m.1 x0 x1).2, (sr x x0 x1).mp h⟩
    · rintro ⟨y, y0, y1, h⟩
      obtain ⟨x, ⟨x0, x1⟩, e⟩ := prm_onto m.1 y y0 y1
      exact ⟨x, x0, x1, (sr x x0 x1).mpr (by rw [e]; exact h)⟩
  have nov : v = 0 → ∀ x, 0 ≤ x → x < n → xR r 540 (4000 * d + 4 * x + 0) ≠ xR r 540 (4000 * d + 4 * n + 0) ∧ ∀ l, 0 ≤ l → l + 1 < L → xR r 540 (4000 * d + 4 * x + l) = xR r 540 (4000 * d + 4 * n + l) → xR r 540 (4000 * d + 4 * x + (l + 1)) = xR r 540 (4000 * d + 4 * n + (l + 1)) := fun v0 x x0 x1 => by
    refine ⟨fun e => ?_, fun l l0 l1 e => Classical.byContradiction fun ne => ?_⟩
    · have h : w = 0 := p'.mpr ⟨x, x0, x1, Or.inl e⟩
      have := vw.mpr h
      clear p p' sr same
      omega
    · have h : w = 0 := p'.mpr ⟨x, x0, x1, by
        by_cases q : l = 0
        · rw [q] at e; exact Or.inl e
        · exact Or.inr (Or.inr ⟨l, by omega, l1, e, ne⟩)⟩
      have := vw.mpr h
      clear p p' sr same
      omega
  clear p p' sr same
  refine ⟨v, v1, z, ?_, nov⟩
  unfold yf269
  rw [w32_id (by omega) (by omega), z']
  congr 3
  omega
/-- members, one behind another -/
theorem mem_l {d L mem : Int} (d0 : 0 ≤ d) (d1 : d < D) (L1 : 1 ≤ L) (m0 : 0 ≤ mem) : ∀ (z N N' : Nat) (n : Int) (ρ : Int → Int) (c5 r5 : xw_M), (1001 - n).toNat ≤ z → z < N → z + 1 < N' → mem ≤ n → n ≤ 1000 → PS c5 r5 → CT c5 r5 D M → ME c5 r5 d L n ρ → xR c5 (15 + 26 * d) 10 = L → xR c5 (15 + 26 * d) 11 = mem → xR c5 (15 + 26 * d) 12 = n → fCat c c5 → fRat r r5 → xR c 1 2 ≤ xR c5 1 2 → duo (xl2 (yl141_30 B) N (15 + 26 * d) (n - mem) c5) (xl3 (yl268_56 B) N' d n 1 r5) (fun _ c' _ r' => TK c' r' ∧ CT c' r' D M ∧ fCat c c' ∧ fRat r r' ∧ xR c 1 2 ≤ xR c' 1 2) (fun c' _ r' => CT c' r' D M ∧ fCat c c' ∧ fRat r r') := by
  intro z
  induction z with
  | zero => intro N N' n ρ c5 r5 hz _ _ _ n1; omega
  | succ z ih =>
    intro N N' n ρ c5 r5 hz zN zN' mn n1 h T E h10 h11 h12 fc fr lea
    have D8 := T.1.cn.1
    have d8 : d < 8 := by omega
    have L4 : L ≤ 4 := by have := (T.1.cn.2.2.2.2.1 d d0 d1).2.1; omega
    have h538 : xR r5 538 d = L := by rw [(T.1.sz d d0 d1).2.1]; exact h10
    cases N with
    | zero => omega
    | succ N =>
    cases N' with
    | zero => omega
    | succ N' =>
    cases N' with
    | zero => omega
    | succ N' =>
    have o0 := (dm_f B d0 d8).1
    have IH := ih N (N' + 1) (n + 1)
    have dz : ∀ (n : Int) (r' : xw_M), 0 < xR r' 536 6 → xl3 (yl268_56 B) (N' + 1) d n 0 r' = some (.inl 0, xw_u r' 539 d (xR r' 539 d)) := fun n r' D' => d56 d0 d8 D'
    have fz : ∀ (n : Int) (r' : xw_M), xR r' 536 6 = 0 → xl3 (yl268_56 B) (N' + 1) d n 0 r' = some (.inl 0, xw_u r' 539 d n) := fun n r' nf => by
      show yl268_56 B _ d n 0 r' = _
      unfold yl268_56
      rw [if_pos rfl, if_pos nf, if_pos ⟨d0, d8⟩]
    show duo (yl141_30 B (xl2 (yl141_30 B) N) (15 + 26 * d) (n - mem) c5) (yl268_56 B (xl3 (yl268_56 B) (N' + 1)) d n 1 r5) _ _
    generalize xl3 (yl268_56 B) (N' + 1) = R at IH dz fz ⊢
    generalize xl2 (yl141_30 B) N = R1 at IH ⊢
    have wn : w32 (n + 1) = n + 1 := w32_id (by omega) (by omega)
    -- behind a fault
    have fin : ∀ (c' r' : xw_M) (k : Int), FL c' r' → CT c' r' D M → fCat c c' → fRat r r' → ∃ w r'', R d k 0 r' = some (.inl w, r'') ∧ FL c' r'' ∧ CT c' r'' D M ∧ fCat c c' ∧ fRat r r'' := fun c' r' k F T' f1 f2 => by
      rw [dz k r' F.1]
      exact ⟨0, _, rfl, fRk_fl (q := 544) F (fun k _ => by rw [xu_c (by omega)]), CT_xr T' xR_self, f1, fRat_tr f2 ⟨fun a _ _ a3 _ _ _ => xu_c a3, fun k _ _ _ => by rw [xu_c (by omega)]⟩⟩
    have d98 : ∀ r' : xw_M, 0 < xR r' 536 6 → yk268_98 B R d n r' = R d (n + 1) 0 r' := fun r' D' => by
      unfold yk268_98
      generalize hN : (1000000 : Nat) = NN
      obtain ⟨N1, rfl⟩ : ∃ N1, NN = N1 + 1 := ⟨NN - 1, by omega⟩
      rw [d114 D', wn]
    unfold yl141_30 yl268_56
    rw [if_neg (by omega), if_neg (show ¬ (1 : Int) = 0 by decide)]
    refine duo_B (esg (K := 40) (g := 40) h rfl (Or.inl rfl)) (fun v c6 w r6 s => ?_) (fun c6 w r6 F z => ?_)
    · obtain ⟨w1, k40, s⟩ := s
      have T6 := CT_x T s.2.1 s.2.2.1
      have fc6 := fCat_tr fc (fCat_x s.2.1)
      have fr6 := fRat_tr fr (fRat_x s.2.2.1)
      have e6 : ∀ a, a ≠ 1 → c6 a = c5 a := s.2.1.1
      have x10 : xR c6 (15 + 26 * d) 10 = L := by rw [xR_cg (e6 _ (by omega))]; exact h10
      have x11 : xR c6 (15 + 26 * d) 11 = mem := by rw [xR_cg (e6 _ (by omega))]; exact h11
      have x12 : xR c6 (15 + 26 * d) 12 = n := by rw [xR_cg (e6 _ (by omega))]; exact h12
      have x538 : xR r6 538 d = L := by rw [xR_cg (s.2.2.1.1 538 (by omega))]; exact h538
      have E6 : ME c6 r6 d L n ρ := ME_v L4 E (fVc_y d0 (fTy_of s.2.1)) (fVr_y (fRy_of s.2.2.1))
      rw [if_neg (show ¬ w = 0 by omega), if_pos o0, x12]
      unfold yf64
      by_cases n1000 : n < 1000
      · rw [if_pos n1000, if_pos n1000, xB_ret, ok254 s.1.nf, xB_ret, if_neg (show ¬ (1 : Int) = 0 by decide)]
        unfold yf142
        generalize hN : (1000000 : Nat) = NN
        have tx := s.1.1.1.2.2.1
        have at6 := s.2.2.2.2 (by omega)
        have at5 := h.2.2.1
        have bgw : xR r6 536 9 = xR c6 1 4 := s.1.2.1.1
        rcases val_l (B := B) (c := c6) (r := r6) (d := d) (L := L) (n := n) (bg := xR r6 536 9) (R := R) d0 d8 L4 x10 x12 x538 (by omega) n1000 65537 NN NN 0 c6 r6 (by have := s.1.1.2.2.1; omega) (by omega) (by omega) (by decide) (by omega) s.1.1 (fun l l0 l1 => by omega) ⟨fun _ _ _ => rfl, fun _ _ _ _ _ => rfl, fun _ _ => rfl⟩ ⟨fun _ _ _ => rfl, fun _ _ => rfl, fun _ _ => rfl⟩ (Int.le_refl _) with ⟨c7, r7, v', N2, z1, z2, t7, mv, fv, gv, lev⟩ | ⟨c7, r7, v', N2, z1, z2, F, fv, gv⟩
        · have T7 := CT_v d0 d1 T6 (by omega) n1000 fv gv
          have E7 := ME_v L4 E6 fv gv
          have fc7 := fCat_tr fc6 (fVc_cat d0 d8 fv)
          have fr7 := fRat_tr fr6 (fVr_cat gv)
          have y10 : xR c7 (15 + 26 * d) 10 = L := by rw [xR_cg (fv.1 _ (by omega) (by omega))]; exact x10
          have y11 : xR c7 (15 + 26 * d) 11 = mem := by rw [xR_cg (fv.1 _ (by omega) (by omega))]; exact x11
          have y12 : xR c7 (15 + 26 * d) 12 = n := by rw [xR_cg (fv.1 _ (by omega) (by omega))]; exact x12
          have y538 : xR r7 538 d = L := by rw [xR_cg (gv.1 538 (by omega) (by omega))]; exact x538
          have e3 : xl5 (yl268_114 B R) (N2 + 1) d n (xR r6 536 9) v' 0 r7 = (if v' = L then (xB (yf254 B 1 7 (xR r6 536 9) r7) fun v1 m1 => if v1 = 0 then (yk268_290 B R d n m1) else (xB (yf269 B d n m1) fun v2 m2 => xB (yf254 B v2 9 (xR r6 536 9) m2) fun v3 m3 => if v3 = 0 then (yk268_290 B R d n m3) else (yk268_293 B R d n m3))) else (xB (yf254 B 0 7 (xR r6 536 9) r7) fun v4 m4 => if v4 = 0 then (yk268_290 B R d n m4) else (xB (yf269 B d n m4) fun v5 m5 => xB (yf254 B v5 9 (xR r6 536 9) m5) fun v6 m6 => if v6 = 0 then (yk268_290 B R d n m6) else (yk268_293 B R d n m6)))) := by
            show yl268_114 B R _ d n (xR r6 536 9) v' 0 r7 = _
            unfold yl268_114
            rw [if_pos rfl, if_pos t7.nf, if_pos (show 0 ≤ d ∧ d < 8 from ⟨d0, d8⟩), y538]
          rw [z1, z2, xB_ret, y10, e3]
          by_cases vL : v' = L
          · rw [if_pos vL, if_pos vL, ok254 t7.nf, xB_ret, if_neg (show ¬ (1 : Int) = 0 by decide)]
            unfold yk141_87
            rw [if_pos o0]
            rw [vL] at mv
            obtain ⟨b, bb, q1, q2, nov⟩ := clash (B := B) d0 d8 y10 y538 L1 L4 y12 (by omega) n1000 E7 mv
            rw [q1, q2, xB_ret, xB_ret]
            by_cases b0 : b = 0
            · rw [if_pos b0, show 1 - b = 1 by omega, ok254 t7.nf, xB_ret, if_neg (show ¬ (1 : Int) = 0 by decide)]
              unfold yk141_104
              rw [if_pos o0, y12, w293]
              have ed := nov b0
              clear nov
              generalize hc8 : xw_u c7 (15 + 26 * d) 12 (n + 1) = c8
              have e8 : ∀ a, a ≠ 15 + 26 * d → c8 a = c7 a := fun a ha => by rw [← hc8]; exact xu_c ha
              have e8f : ∀ k, k ≠ 12 → c8 (15 + 26 * d) k = c7 (15 + 26 * d) k := fun k hk => by rw [← hc8]; exact xu_ne (by omega)
              have z12 : xR c8 (15 + 26 * d) 12 = n + 1 := by rw [← hc8]; exact xR_at (w32_id (by omega) (by omega))
              have t8 : TK c8 r7 := TK_fr t7 (fun k _ _ => by rw [e8 1 (by omega)]) (e8 2 (by omega)) (fun _ _ _ => rfl) rfl
              have T8 : CT c8 r7 D M := by
                refine CT_k T7 ⟨fun b b0 b1 => ⟨fun k hk => ?_, e8 _ (by omega), fun l _ _ => e8 _ (by omega), e8 _ (by omega), fun l p _ _ _ _ => by rw [e8 _ (by omega)]⟩, fun k k0 k1 => ?_⟩ ⟨fun b b0 b1 => ⟨⟨rfl, rfl⟩, fun _ _ _ => rfl, ⟨rfl, fun _ _ _ => rfl⟩, fun _ _ _ => ⟨rfl, fun _ _ _ => rfl⟩⟩, fun _ _ _ => ⟨rfl, fun _ _ _ => rfl⟩⟩ (by rw [xR_cg (e8 3 (by omega))]; exact T7.1.cn.2.2.1) (by rw [xR_cg (e8 3 (by omega))]; exact T7.1.cn.2.2.2.1) T7.1.r14 T7.1.r19
                · by_cases q : b = d
                  · subst q; exact e8f k (by omega)
                  · rw [e8 _ (by omega)]
                · have := T7.1.cn.2.1
                  exact ⟨e8 _ (by omega), by rw [e8 14 (by omega)]⟩
              have E8 : ME c8 r7 d L (n + 1) (fun p => if p < n then ρ p else p) := by
                have ex : ∀ l, 0 ≤ l → xR c8 (15 + 26 * d + 9 + l) = xR c7 (15 + 26 * d + 9 + l) := fun l l0 => xR_cg (e8 _ (by omega))
                refine ⟨⟨fun i i0 i1 => ?_, fun i j i0 i1 j0 j1 e => ?_⟩, fun l p l0 l1 p0 p1 => ?_, fun x y x0 x1 y0 y1 e => ?_, fun x y l x0 x1 y0 y1 l0 l1 e => ?_⟩
                · show 0 ≤ (if i < n then ρ i else i) ∧ (if i < n then ρ i else i) < n + 1
                  by_cases q : i < n
                  · rw [if_pos q]; have := prm_lt E7.1 i0 q; omega
                  · rw [if_neg q]; omega
                · have e : (if i < n then ρ i else i) = (if j < n then ρ j else j) := e
                  by_cases q : i < n
                  · rw [if_pos q] at e
                    have a := prm_lt E7.1 i0 q
                    by_cases q' : j < n
                    · rw [if_pos q'] at e; exact E7.1.2 i j i0 q j0 q' e
                    · rw [if_neg q'] at e; omega
                  · rw [if_neg q] at e
                    by_cases q' : j < n
                    · rw [if_pos q'] at e; have a := prm_lt E7.1 j0 q'; omega
                    · rw [if_neg q'] at e; exact e
                · rw [ex l l0]
                  show _ = xR r7 540 (4000 * d + 4 * (if p < n then ρ p else p) + l)
                  by_cases q : p < n
                  · rw [if_pos q]; exact E7.2.1 l p l0 l1 p0 q
                  · rw [if_neg q, show p = n by omega]; exact mv l l0 l1 l1
                · by_cases qx : x < n
                  · by_cases qy : y < n
                    · exact E7.2.2.1 x y x0 qx y0 qy e
                    · rw [show y = n by omega] at e; exact absurd e (ed x x0 qx).1
                  · by_cases qy : y < n
                    · rw [show x = n by omega] at e; exact absurd e.symm (ed y y0 qy).1
                    · omega
                · by_cases qx : x < n
                  · by_cases qy : y < n
                    · exact E7.2.2.2 x y l x0 qx y0 qy l0 l1 e
                    · rw [show y = n by omega] at e ⊢; exact (ed x x0 qx).2 l l0 l1 e
                  · by_cases qy : y < n
                    · rw [show x = n by omega] at e ⊢; exact ((ed y y0 qy).2 l l0 l1 e.symm).symm
                    · rw [show x = y by omega]
              have fc8 : fCat c c8 := fCat_tr fc7 ⟨fun a _ hb => e8 a (by omega), fun k _ => by rw [e8 1 (by omega)]⟩
              refine duo_B (nx t8.1) (fun _ c9 _ r9 s9 => ?_) (fun c9 _ r9 F z => ?_)
              · have T9 := CT_x T8 s9.2.1 s9.2.2.1
                have E9 := ME_v (n := n + 1) L4 E8 (fVc_y d0 (fTy_of s9.2.1)) (fVr_y (fRy_of s9.2.2.1))
                have fc9 := fCat_tr fc8 (fCat_x s9.2.1)
                have fr9 := fRat_tr fr7 (fRat_x s9.2.2.1)
                have a10 : xR c9 (15 + 26 * d) 10 = L := by rw [xR_cg (s9.2.1.1 _ (by omega)), xR_fld (e8f 10 (by omega))]; exact y10
                have a11 : xR c9 (15 + 26 * d) 11 = mem := by rw [xR_cg (s9.2.1.1 _ (by omega)), xR_fld (e8f 11 (by omega))]; exact y11
                have a12 : xR c9 (15 + 26 * d) 12 = n + 1 := by rw [xR_cg (s9.2.1.1 _ (by omega))]; exact z12
                unfold yk141_142
                refine mor_ok (G := fun m => if xw_obb 3 (15 + 26 * d) = true then some (.inl 0, (xw_u m (15 + 26 * d) 11 (xR m (15 + 26 * d) 12))) else none) s9.1 rfl (by decide) (fun k44 => ?_) (fun k59 => ?_) (fun ca ra F y1 y2 => ?_)
                · show duo _ (R d (w32 (n + 1)) 1 r9) _ _
                  rw [wn, show n - mem + 1 = n + 1 - mem by omega, w32_id (x := n + 1 - mem) (by omega) (by omega)]
                  exact IH _ c9 r9 (by omega) (by omega) (by omega) (by omega) (by omega) s9.1.1 T9 E9 a10 a11 a12 fc9 fr9 (by have b := s9.2.2.2.1; rw [xR_cg (e8 1 (by omega))] at b; omega)
                · show duo _ (R d (w32 (n + 1)) 0 r9) _ _
                  rw [wn, fz (n + 1) r9 s9.1.nf, if_pos o0, a12]
                  refine duo_r ⟨TK_fr s9.1 (fun k _ _ => by rw [xu_c (by omega)]) (xu_c (by omega)) (fun k _ _ => by rw [xu_c (by omega)]) (xu_c (by omega)), CT_mem T9 d0 d1 a10 E9 (by omega) (by omega) (fun a ha => xu_c ha) (fun k hk => xu_ne (by omega)) (xR_at (w32_id (by omega) (by omega))) (fun a ha => xu_c ha) (xR_at (w32_id (by omega) (by omega))) (fun e he => xu_ne (by omega)), fCat_tr fc9 ⟨fun a _ hb => xu_c (by omega), fun k _ => by rw [xu_c (by omega)]⟩, fRat_tr fr9 ⟨fun a _ _ a3 _ _ _ => xu_c a3, fun k _ _ _ => by rw [xu_c (by omega)]⟩, by have b := s9.2.2.2.1; rw [xR_cg (e8 1 (by omega))] at b; rw [xR_cg (xu_c (by omega))]; omega⟩
                · exact fin ca ra _ F (CT_y T9 y1 y2) (fCat_tr fc9 (fCat_y y1)) (fRat_tr fr9 (fRat_y y2))
              · rw [mor_d F.1]
                exact fin c9 r9 _ F (CT_y T8 z.1 z.2) (fCat_tr fc8 (fCat_y z.1)) (fRat_tr fr7 (fRat_y z.2))
            · have b1 : b = 1 := by clear nov; omega
              clear nov
              rw [if_neg b0, show 1 - b = 0 by omega, no254 t7.nf (by decide) (by decide), xB_ret, if_pos (show (0 : Int) = 0 from rfl)]
              unfold yf54
              rw [xB_thr]
              have X := flt (c := c7) (r := r7) (f := 9) (p := xR c6 1 4) (p' := xR r6 536 9) (by decide) (by decide) (w32_xR _ _ _) bgw
              unfold yk268_290
              rw [d293 X.1.1]
              obtain ⟨w, r'', g1, g2, g3⟩ := fin _ _ (w32 (n + 1)) X.1 (CT_y T7 X.2.1 X.2.2) (fCat_tr fc7 (fCat_y X.2.1)) (fRat_tr fr7 (fRat_y X.2.2))
              rw [g1]
              exact duo_f g2 g3
          · rw [if_neg vL, if_neg vL, no254 t7.nf (by decide) (by decide), xB_ret, if_pos (show (0 : Int) = 0 from rfl)]
            unfold yf54
            rw [xB_thr]
            have X := flt (c := c7) (r := r7) (f := 7) (p := xR c6 1 4) (p' := xR r6 536 9) (by decide) (by decide) (w32_xR _ _ _) bgw
            unfold yk268_290
            rw [d293 X.1.1]
            obtain ⟨w, r'', g1, g2, g3⟩ := fin _ _ (w32 (n + 1)) X.1 (CT_y T7 X.2.1 X.2.2) (fCat_tr fc7 (fCat_y X.2.1)) (fRat_tr fr7 (fRat_y X.2.2))
            rw [g1]
            exact duo_f g2 g3
        · rw [z1, z2, xB_thr, d114 F.1]
          obtain ⟨w, r'', g1, g2, g3⟩ := fin c7 r7 (w32 (n + 1)) F (CT_v d0 d1 T6 (by omega) n1000 fv gv) (fCat_tr fc6 (fVc_cat d0 d8 fv)) (fRat_tr fr6 (fVr_cat gv))
          rw [g1]
          exact duo_f g2 g3
      · rw [if_neg n1000, if_neg n1000, no254 s.1.nf (by decide) (by decide), xB_ret, if_pos (show (0 : Int) = 0 from rfl)]
        unfold yf54
        rw [xB_thr, xB_thr]
        have X := flt (c := c6) (r := r6) (f := 7) (p := xR c6 1 4) (p' := xR r6 536 9) (by decide) (by decide) (w32_xR _ _ _) s.1.2.1.1
        rw [d98 _ X.1.1]
        obtain ⟨w, r'', g1, g2, g3⟩ := fin _ _ (n + 1) X.1 (CT_y T6 X.2.1 X.2.2) (fCat_tr fc6 (fCat_y X.2.1)) (fRat_tr fr6 (fRat_y X.2.2))
        rw [g1]
        exact duo_f g2 g3
    · rw [if_pos z.1, d98 r6 F.1]
      exact fin c6 r6 _ F (CT_y T z.2.1 z.2.2) (fCat_tr fc (fCat_y z.2.1)) (fRat_tr fr (fRat_y z.2.2))
end MEM
