/-! THE CATALOG'S STATEMENTS, both sides: names; measure -/
/-- the catalogs agree, but for the members' order -/
def CT (c r : xw_M) (D M : Int) : Prop := cgr c r D M ∧ (∀ d, 0 ≤ d → d < D → ∃ ρ, prm ρ (xR c (15 + 26 * d) 11) ∧ ∀ l p, 0 ≤ l → l < xR c (15 + 26 * d) 10 → 0 ≤ p → p < xR c (15 + 26 * d) 11 → xR c (15 + 26 * d + 9 + l) p = xR r 540 (4000 * d + 4 * ρ p + l)) ∧ (∀ d, 0 ≤ d → d < D → ∀ x y, 0 ≤ x → x < xR r 539 d → 0 ≤ y → y < xR r 539 d → xR r 540 (4000 * d + 4 * x + 0) = xR r 540 (4000 * d + 4 * y + 0) → x = y) ∧ ∀ d, 0 ≤ d → d < D → hie r d (xR r 538 d) (xR r 539 d)
/-- all that the catalog's statements may change -/
def fCat (c c' : xw_M) : Prop := (∀ a, a ≠ 1 → ¬ (3 ≤ a ∧ a ≤ 222) → c' a = c a) ∧ ∀ k, (k < 2 ∨ 7 < k) → c' 1 k = c 1 k
def fRat (r r' : xw_M) : Prop := (∀ a, a ≠ 536 → a ≠ 538 → a ≠ 539 → a ≠ 540 → a ≠ 542 → a ≠ 543 → r' a = r a) ∧ ∀ k, (k < 6 ∨ 13 < k) → k ≠ 14 → k ≠ 19 → r' 536 k = r 536 k
theorem fCat_tr {a b c : xw_M} (h : fCat a b) (k : fCat b c) : fCat a c := ⟨fun x hx hy => by rw [k.1 x hx hy, h.1 x hx hy], fun x hx => by rw [k.2 x hx, h.2 x hx]⟩
theorem fRat_tr {a b c : xw_M} (h : fRat a b) (k : fRat b c) : fRat a c := ⟨fun x x1 x2 x3 x4 x5 x6 => by rw [k.1 x x1 x2 x3 x4 x5 x6, h.1 x x1 x2 x3 x4 x5 x6], fun x x1 x2 x3 => by rw [k.2 x x1 x2 x3, h.2 x x1 x2 x3]⟩
theorem fCat_y {c c' : xw_M} (h : fTy c c') : fCat c c' := ⟨fun a ha _ => h.1 a ha, h.2⟩
theorem fRat_y {r r' : xw_M} (h : fRy r r') : fRat r r' := ⟨fun a ha _ _ _ _ _ => h.1 a ha, fun k hk _ _ => h.2 k hk⟩
theorem fCat_x {c c' : xw_M} (h : fTx c c') : fCat c c' := fCat_y (fTy_of h)
theorem fRat_x {r r' : xw_M} (h : fRx r r') : fRat r r' := fRat_y (fRy_of h)
section CAT
variable {B : Nat} {c r : xw_M} {D M : Int}
theorem CT_fr {c' r' : xw_M} (h : CT c r D M) (hc : ∀ a, 3 ≤ a → a < 223 → c' a = c a) (hr : ∀ a, a = 538 ∨ a = 539 ∨ a = 540 ∨ a = 542 ∨ a = 543 → r' a = r a) (h1 : r' 536 14 = r 536 14) (h2 : r' 536 19 = r 536 19) : CT c' r' D M := by
  obtain ⟨g, m, u, hh⟩ := h
  have D8 := g.cn.1
  refine ⟨cgr_fr g hc (fun a ha => hr a (by omega)) h1 h2, fun d d0 d1 => ?_, fun d d0 d1 => ?_, fun d d0 d1 => by unfold hie; rw [xR_cg (hr 538 (by omega)), xR_cg (hr 539 (by omega)), xR_cg (hr 540 (by omega))]; exact hh d d0 d1⟩
  · obtain ⟨ρ, p1, p2⟩ := m d d0 d1
    have L4 := (g.cn.2.2.2.2.1 d d0 d1).2.1
    refine ⟨ρ, by rw [xR_cg (hc (15 + 26 * d) (by omega) (by omega))]; exact p1, fun l p l0 l1 q0 q1 => ?_⟩
    rw [xR_cg (hc (15 + 26 * d) (by omega) (by omega))] at l1 q1
    rw [xR_cg (hc (15 + 26 * d + 9 + l) (by omega) (by omega)), xR_cg (hr 540 (by omega))]
    exact p2 l p l0 l1 q0 q1
  · rw [xR_cg (hr 539 (by omega)), xR_cg (hr 540 (by omega))]
    exact u d d0 d1
theorem CT_y {c' r' : xw_M} (h : CT c r D M) (f : fTy c c') (k : fRy r r') : CT c' r' D M := CT_fr h (fun a a0 _ => f.1 a (by omega)) (fun a ha => k.1 a (by omega)) (k.2 14 (by omega)) (k.2 19 (by omega))
theorem CT_x {c' r' : xw_M} (h : CT c r D M) (f : fTx c c') (k : fRx r r') : CT c' r' D M := CT_y h (fTy_of f) (fRy_of k)
/-- copyName -/
theorem copy_c {a : Int} (h : TK c r) (oa : xw_obb 18 a = true) (la : xw_le B a = 40) (L : xR c 1 2 - xR c 1 4 ≤ 40) (a2 : a ≠ 2) : ∃ c', yf137 B a c = some (.inl (xR c 1 2 - xR c 1 4), c') ∧ (∀ x, x ≠ a → c' x = c x) ∧ (∀ i, 0 ≤ i → i < xR c 1 2 - xR c 1 4 → c' a i = c 2 (xR c 1 4 + i)) ∧ ∀ i, (i < 0 ∨ xR c 1 2 - xR c 1 4 ≤ i) → c' a i = c a i := by
  obtain ⟨⟨⟨t1, t2, t3, t4⟩, p8, p2, p3, _⟩, ⟨h9, h4, h2⟩, _⟩ := h
  have e : min (w32 (xR c 1 2 - xR c 1 4)) 40 = xR c 1 2 - xR c 1 4 := by
    rw [w32_id (by omega) (by omega)]
    omega
  have ok : xw_cpok (xR c 1 4) 65536 0 40 (xR c 1 2 - xR c 1 4) := ⟨by omega, h4, by omega, by decide, by omega⟩
  unfold yf137
  have by1 : xw_byo c 2 (xR c 1 4) (xR c 1 2 - xR c 1 4) = true := List.all_eq_true.mpr (fun k hk => by
    have hk := List.mem_range.mp hk
    exact decide_eq_true (t4 (xR c 1 4 + (k : Int)) (by omega) (by omega)).2)
  rw [e, la, if_pos ok, if_pos oa, if_pos by1]
  refine ⟨_, rfl, fun x hx => ?_, fun i i0 i1 => ?_, fun i hi => ?_⟩
  · funext k
    unfold xw_cp
    rw [if_neg (fun k => hx k.1)]
  · unfold xw_cp
    rw [if_pos ⟨rfl, by omega, by omega⟩, show i - 0 + xR c 1 4 = xR c 1 4 + i by omega]
  · unfold xw_cp
    rw [if_neg (by omega)]
/-- keep -/
theorem keep_l {j n s : Int} (j0 : 0 ≤ j) (j1 : j < 48) (n40 : n ≤ 40) (s0 : 0 ≤ s) (sn : s + n ≤ 65536) : ∀ (N : Nat) (x : Int) (r : xw_M), 0 ≤ x → (n - x).toNat < N → xR r 543 j = n → xR r 536 9 = s → (∀ i, 0 ≤ i → i < n → w8 (xR r 537 (s + i)) = xR r 537 (s + i)) → ∃ r', xl2 (yl264_17 B) N j x r = some (.inl 0, r') ∧ (∀ a, a ≠ 542 → r' a = r a) ∧ (∀ i, x ≤ i → i < n → xR r' 542 (40 * j + i) = xR r 537 (s + i)) ∧ ∀ y, (y < 40 * j + x ∨ 40 * j + n ≤ y) → r' 542 y = r 542 y := by
  intro N
  induction N with
  | zero => intro x r _ h; omega
  | succ N ih =>
    intro x r x0 hx h1 h2 h3
    show ∃ r', yl264_17 B (xl2 (yl264_17 B) N) j x r = _ ∧ _
    have IH := ih (x + 1)
    generalize xl2 (yl264_17 B) N = R at IH ⊢
    unfold yl264_17
    rw [if_pos ⟨j0, j1⟩, h1, h2]
    by_cases e : x < n
    · rw [if_pos e, if_pos ⟨by omega, by omega⟩, if_pos ⟨by omega, by omega⟩, w32_id (by omega) (by omega), h3 x x0 e]
      obtain ⟨r', z, g1, g2, g3⟩ := IH (xw_u r 542 (40 * j + x) (xR r 537 (s + x))) (by omega) (by omega) (by rw [xR_cg (xu_c (by omega))]; exact h1) (by rw [xR_cg (xu_c (by omega))]; exact h2) (by rw [xR_cg (xu_c (by omega))]; exact h3)
      refine ⟨r', z, fun a ha => by rw [g1 a ha, xu_c ha], fun i i0 i1 => ?_, fun y hy => by rw [g3 y (by omega), xu_ne (by omega)]⟩
      by_cases q : i = x
      · subst q
        rw [xR_fld (g3 (40 * j + i) (by omega))]
        exact xR_at (w32_xR _ _ _)
      · rw [g2 i (by omega) i1, xR_cg (xu_c (by omega))]
    · rw [if_neg e]
      exact ⟨r, rfl, fun _ _ => rfl, fun i i0 i1 => by omega, fun _ _ => rfl⟩
theorem keep_ok {j : Int} (h : TK c r) (j0 : 0 ≤ j) (j1 : j < 48) (L : xR c 1 2 - xR c 1 4 ≤ 40) : ∃ r', yf264 B j r = some (.inl 0, r') ∧ (∀ a, a ≠ 542 → a ≠ 543 → r' a = r a) ∧ xR r' 543 j = xR c 1 2 - xR c 1 4 ∧ (∀ i, i ≠ j → r' 543 i = r 543 i) ∧ (∀ i, 0 ≤ i → i < xR c 1 2 - xR c 1 4 → xR r' 542 (40 * j + i) = xR r 537 (xR c 1 4 + i)) ∧ ∀ y, (y < 40 * j ∨ 40 * j + 40 ≤ y) → r' 542 y = r 542 y := by
  obtain ⟨⟨⟨t1, t2, t3, t4⟩, p8, p2, p3, _⟩, ⟨h9, h4, h2⟩, _⟩ := h
  unfold yf264
  rw [if_pos ⟨j0, j1⟩, p8, h9]
  generalize hN : (1000000 : Nat) = N
  obtain ⟨r', z, g1, g2, g3⟩ := keep_l (B := B) (j := j) (n := xR c 1 2 - xR c 1 4) (s := xR c 1 4) j0 j1 L h4 (by omega) N 0 (xw_u r 543 j (xR c 1 2 - xR c 1 4)) (by decide) (by omega) (xR_at (w32_id (by omega) (by omega))) (by rw [xR_cg (xu_c (by omega))]; exact h9) (fun i i0 i1 => by rw [xR_cg (xu_c (by omega)), ← (t4 (xR c 1 4 + i) (by omega) (by omega)).1]; exact (t4 (xR c 1 4 + i) (by omega) (by omega)).2)
  refine ⟨r', z, fun a a1 a2 => by rw [g1 a a1, xu_c a2], by rw [xR_cg (g1 543 (by omega))]; exact xR_at (w32_id (by omega) (by omega)), fun i hi => by rw [g1 543 (by omega), xu_ne (by omega)], fun i i0 i1 => by rw [g2 i i0 i1, xR_cg (xu_c (by omega))], fun y hy => by rw [g3 y (by omega), xu_c (by omega)]⟩
/-- both keep the name that stands here -/
theorem keepn {a j : Int} (h : TK c r) (oa : xw_obb 18 a = true) (la : xw_le B a = 40) (L : xR c 1 2 - xR c 1 4 ≤ 40) (a3 : 3 ≤ a) (j0 : 0 ≤ j) (j1 : j < 48) : ∃ c' r', yf137 B a c = some (.inl (xR c 1 2 - xR c 1 4), c') ∧ yf264 B j r = some (.inl 0, r') ∧ (∀ x, x ≠ a → c' x = c x) ∧ (∀ a, a ≠ 542 → a ≠ 543 → r' a = r a) ∧ (∀ i, i ≠ j → r' 543 i = r 543 i) ∧ (∀ y, (y < 40 * j ∨ 40 * j + 40 ≤ y) → r' 542 y = r 542 y) ∧ nmq c' r' a (xR c 1 2 - xR c 1 4) j ∧ ∀ i, 0 ≤ i → i < xR c 1 2 - xR c 1 4 → w8 (xR c' a i) = xR c' a i := by
  obtain ⟨c', z1, f1, f2, f3⟩ := copy_c (B := B) h oa la L (by omega)
  obtain ⟨r', z2, g1, g2, g3, g4, g5⟩ := keep_ok (B := B) h j0 j1 L
  obtain ⟨⟨⟨t1, t2, t3, t4⟩, p8, p2, p3, _⟩, ⟨h9, h4, h2⟩, _⟩ := h
  have e : ∀ i, 0 ≤ i → i < xR c 1 2 - xR c 1 4 → xR c' a i = xR c 2 (xR c 1 4 + i) := fun i i0 i1 => by unfold xR at f2 i1 ⊢; rw [f2 i i0 i1]
  refine ⟨c', r', z1, z2, f1, g1, g3, g5, ⟨by omega, L, g2, fun i i0 i1 => ?_⟩, fun i i0 i1 => ?_⟩
  · rw [e i i0 i1, g4 i i0 i1, (t4 (xR c 1 4 + i) (by omega) (by omega)).1]
  · rw [e i i0 i1]
    exact (t4 (xR c 1 4 + i) (by omega) (by omega)).2
/-- a new name must come: needNewName, newName -/
theorem newn (h : PS c r) (g : cgr c r D M) : duo (xB (yf47 B c) fun _ m1 => yf135 B m1) (yf260 B r) (fun _ c' w r' => w = 1 ∧ nxQ c r c' r' ∧ xR c' 1 2 - xR c' 1 4 ≤ 40) (fun c' w r' => w = 0 ∧ fTy c c' ∧ fRy r r') := by
  unfold yf260
  refine duo_B (nx h) (fun v c1 w r1 s => ?_) (fun c1 w r1 F z => ⟨0, r1, by rw [d261 F.1, xB_ret, if_pos rfl], F, rfl, z⟩)
  have g1 := cgr_x g s.2.1 s.2.2.1
  have fy := fTy_of s.2.1
  have fr := fRy_of s.2.2.1
  unfold yf135
  refine duo_B (nam s.1) (fun v c2 w r2 p => ?_) (fun c2 w r2 F z => ⟨0, r2, by rw [if_pos z.1], F, rfl, fTy_tr fy z.2.1, fRy_tr fr z.2.2⟩)
  obtain ⟨rfl, rfl, w1, k1, L⟩ := p
  have n := s.1.nf
  have X := flt (c := c2) (r := r2) (f := 6) (p := xR c2 1 4) (p' := xR r2 536 9) (by decide) (by decide) (w32_xR _ _ _) s.1.2.1.1
  unfold yf62 yf70 yf262 yk135_37 yf54
  generalize hN : (1000000 : Nat) = N
  obtain ⟨v, v1, z, z'⟩ := dimc (B := B) s.1 g1.cn.1.2 g1.cn.2.2.1 (fun d d0 d1 => cgr_d g1 d0 d1) 8 N N 0 (by omega) (by have := g1.cn.1; omega) (by omega) (by omega)
  rw [if_neg (show ¬ w = 0 by omega), z, xB_ret, g1.r14, z', xB_ret]
  by_cases e : v = -1
  · rw [if_pos e, if_pos (show v < 0 by omega)]
    obtain ⟨u, u1, y, y'⟩ := meac (B := B) s.1 g1.cn.2.1.2 g1.cn.2.2.2.1 (fun d d0 d1 => cgr_k g1 d0 d1) 8 N N 0 (by omega) (by have := g1.cn.2.1; omega) (by omega) (by omega)
    rw [y, xB_ret, g1.r19, y', xB_ret]
    by_cases e2 : u = -1
    · rw [if_pos e2, if_pos (show u < 0 by omega), ok254 n, xB_ret, if_neg (show ¬ (1 : Int) = 0 by decide)]
      exact duo_r ⟨rfl, s, L⟩
    · rw [if_neg e2, if_neg (show ¬ u < 0 by omega), no254 n (by decide) (by decide), xB_ret, if_pos rfl, xB_thr]
      exact duo_f X.1 ⟨rfl, fTy_tr fy X.2.1, fRy_tr fr X.2.2⟩
  · rw [if_neg e, if_neg (show ¬ v < 0 by omega), no254 n (by decide) (by decide), xB_ret, if_pos rfl, xB_thr]
    exact duo_f X.1 ⟨rfl, fTy_tr fy X.2.1, fRy_tr fr X.2.2⟩
end CAT
