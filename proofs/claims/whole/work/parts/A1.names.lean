/-! THE READERS: is what was read this name; dimensions, levels, measures by name -/
section RDB
variable {B : Nat} {c r : xw_M}
/-- a name of the class in cell a, k long, is the reference's name j -/
def nmq (c r : xw_M) (a k j : Int) : Prop := 0 ≤ k ∧ k ≤ 40 ∧ xR r 543 j = k ∧ ∀ i, 0 ≤ i → i < k → xR c a i = xR r 542 (40 * j + i)
theorem says_c {a k : Int} (oa : xw_obb 18 a = true) (la : xw_le B a = 40) (k1 : k ≤ 40) (s0 : 0 ≤ xR c 1 4) (s1 : xR c 1 4 + k ≤ 65536) : ∀ (N : Nat) (x : Int), 0 ≤ x → (k - x).toNat < N → ∃ v, (v = 0 ∨ v = 1) ∧ xl3 (yl63_17 B) N a k x c = some (.inl v, c) ∧ (v = 1 ↔ ∀ i, x ≤ i → i < k → xR c 2 (xR c 1 4 + i) = xR c a i) := by
  intro N
  induction N with
  | zero => intro x _ h; omega
  | succ N ih =>
    intro x x0 hx
    show ∃ v, (v = 0 ∨ v = 1) ∧ yl63_17 B (xl3 (yl63_17 B) N) a k x c = some (.inl v, c) ∧ _
    unfold yl63_17
    by_cases e : x < k
    · rw [if_pos e, if_pos ⟨by omega, by omega⟩, if_pos ⟨x0, by omega⟩, if_pos oa]
      by_cases q : xR c 2 (xR c 1 4 + x) = xR c a x
      · rw [if_pos q, w32_id (by omega) (by omega)]
        obtain ⟨v, v1, z, y⟩ := ih (x + 1) (by omega) (by omega)
        refine ⟨v, v1, z, y.trans ⟨fun h i i0 i1 => ?_, fun h i i0 i1 => h i (by omega) i1⟩⟩
        by_cases t : i = x
        · rw [t]; exact q
        · exact h i (by omega) i1
      · rw [if_neg q]
        exact ⟨0, Or.inl rfl, rfl, ⟨fun h => absurd h (by decide), fun h => absurd (h x (by omega) e) q⟩⟩
    · rw [if_neg e]
      exact ⟨1, Or.inr rfl, rfl, ⟨fun _ i i0 i1 => by omega, fun _ => rfl⟩⟩
theorem name_r {j k : Int} (j0 : 0 ≤ j) (j1 : j < 48) (hk : xR r 543 j = k) (k1 : k ≤ 40) (s0 : 0 ≤ xR r 536 9) : ∀ (N : Nat) (x y : Int), 0 ≤ x → (y = 0 ∨ (y = 1 ∧ xR r 536 9 + k ≤ 65536)) → (k - x).toNat < N → ∃ v, (v = 0 ∨ v = 1) ∧ xl3 (yl263_26 B) N j y x r = some (.inl v, r) ∧ (v = 1 ↔ y = 1 ∧ ∀ i, x ≤ i → i < k → xR r 542 (40 * j + i) = xR r 537 (xR r 536 9 + i)) := by
  intro N
  induction N with
  | zero => intro x y _ _ h; omega
  | succ N ih =>
    intro x y x0 hy hx
    show ∃ v, (v = 0 ∨ v = 1) ∧ yl263_26 B (xl3 (yl263_26 B) N) j y x r = some (.inl v, r) ∧ _
    unfold yl263_26
    rw [if_pos ⟨j0, j1⟩, hk]
    have yb : y = 0 ∨ y = 1 := by omega
    by_cases e : x < k
    · rw [if_pos e]
      by_cases y0 : y = 0
      · rw [if_pos y0, if_pos yb]
        exact ⟨y, yb, rfl, by omega, fun h => h.1⟩
      · rw [if_neg y0, if_pos ⟨by omega, by omega⟩, if_pos ⟨by omega, by omega⟩, w32_id (by omega) (by omega)]
        by_cases q : xR r 542 (40 * j + x) = xR r 537 (xR r 536 9 + x)
        · rw [if_pos q]
          obtain ⟨v, v1, z, w⟩ := ih (x + 1) 1 (by omega) (Or.inr ⟨rfl, by omega⟩) (by omega)
          refine ⟨v, v1, z, w.trans ⟨fun h => ⟨by omega, fun i i0 i1 => ?_⟩, fun h => ⟨rfl, fun i i0 i1 => h.2 i (by omega) i1⟩⟩⟩
          by_cases t : i = x
          · rw [t]; exact q
          · exact h.2 i (by omega) i1
        · rw [if_neg q]
          obtain ⟨v, v1, z, w⟩ := ih (x + 1) 0 (by omega) (Or.inl rfl) (by omega)
          exact ⟨v, v1, z, w.trans ⟨fun h => absurd h.1 (by decide), fun h => absurd (h.2 x (by omega) e) q⟩⟩
    · rw [if_neg e, if_pos yb]
      exact ⟨y, yb, rfl, fun h => ⟨h, fun i i0 i1 => by omega⟩, fun h => h.1⟩
/-- both sides find the name here, or neither -/
theorem said {a k j : Int} (h : TK c r) (oa : xw_obb 18 a = true) (la : xw_le B a = 40) (j0 : 0 ≤ j) (j1 : j < 48) (q : nmq c r a k j) : ∃ v, (v = 0 ∨ v = 1) ∧ yf63 B a k c = some (.inl v, c) ∧ yf263 B j r = some (.inl v, r) := by
  obtain ⟨⟨⟨t1, t2, t3, t4⟩, p8, p2, p3, _⟩, ⟨h9, h4, h2⟩, _⟩ := h
  obtain ⟨k0, k1, k2, k3⟩ := q
  have d1 : w32 (xR c 1 2 - xR c 1 4) = xR c 1 2 - xR c 1 4 := w32_id (by omega) (by omega)
  have d2 : w32 (xR r 536 8 - xR r 536 9) = xR c 1 2 - xR c 1 4 := by rw [p8, h9]; exact d1
  unfold yf63 yf263
  rw [d1, if_pos (show 0 ≤ j ∧ j < 48 from ⟨j0, j1⟩), k2, d2]
  generalize hN : (1000000 : Nat) = N
  by_cases e : xR c 1 2 - xR c 1 4 = k
  · rw [if_pos e, if_pos e.symm]
    obtain ⟨v, v1, z, y⟩ := says_c (B := B) (c := c) oa la k1 h4 (by omega) N 0 (by omega) (by omega)
    obtain ⟨w, w1, z', y'⟩ := name_r (B := B) (r := r) j0 j1 k2 k1 (by omega) N 0 1 (by omega) (Or.inr ⟨rfl, by omega⟩) (by omega)
    have vw : v = 1 ↔ w = 1 := by
      rw [y, y']
      refine ⟨fun g => ⟨rfl, fun i i0 i1 => ?_⟩, fun g i i0 i1 => ?_⟩
      · rw [h9, ← (t4 (xR c 1 4 + i) (by omega) (by omega)).1, g i i0 i1, k3 i i0 i1]
      · rw [(t4 (xR c 1 4 + i) (by omega) (by omega)).1, k3 i i0 i1, g.2 i i0 i1, h9]
    have : w = v := by omega
    rw [this] at z'
    exact ⟨v, v1, z, z'⟩
  · rw [if_neg e, if_neg (fun z => e z.symm)]
    obtain ⟨w, w1, z', y'⟩ := name_r (B := B) (r := r) j0 j1 k2 k1 (by omega) N 0 0 (by omega) (Or.inl rfl) (by omega)
    have : w = 0 := by
      rcases w1 with g | g
      · exact g
      · exact absurd (y'.mp g).1 (by decide)
    rw [this] at z'
    exact ⟨0, Or.inl rfl, rfl, z'⟩
/-- dimensions by name -/
theorem dimc {D : Int} (h : TK c r) (D1 : D ≤ 8) (h3 : xR c 3 1 = D) (q : ∀ d, 0 ≤ d → d < D → nmq c r (15 + 26 * d + 1) (xR c (15 + 26 * d) 9) d) : ∀ (k : Nat) (N N' : Nat) (x : Int), 0 ≤ x → (D - x).toNat ≤ k → k < N → k < N' → ∃ v, ((v = -1) ∨ (0 ≤ v ∧ v < D)) ∧ xl1 (yl62_2 B) N x c = some (.inl v, c) ∧ xl3 (yl262_2 B) N' 0 D x r = some (.inl v, r) := by
  intro k
  induction k with
  | zero =>
    intro N N' x x0 hx n1 n2
    cases N with
    | zero => omega
    | succ N =>
      cases N' with
      | zero => omega
      | succ N' =>
        show ∃ v, _ ∧ yl62_2 B _ x c = _ ∧ yl262_2 B _ 0 D x r = _
        unfold yl62_2 yl262_2
        rw [h3, if_neg (by omega), if_neg (by omega)]
        exact ⟨-1, Or.inl rfl, rfl, rfl⟩
  | succ k ih =>
    intro N N' x x0 hx n1 n2
    cases N with
    | zero => omega
    | succ N =>
      cases N' with
      | zero => omega
      | succ N' =>
        show ∃ v, _ ∧ yl62_2 B (xl1 (yl62_2 B) N) x c = _ ∧ yl262_2 B (xl3 (yl262_2 B) N') 0 D x r = _
        have IH := ih N N'
        have e1 : x < D → w32 (x + 1) = x + 1 := fun _ => w32_id (by omega) (by omega)
        generalize xl1 (yl62_2 B) N = R at IH ⊢
        generalize xl3 (yl262_2 B) N' = R' at IH ⊢
        unfold yl62_2 yl262_2
        rw [h3]
        by_cases e : x < D
        · obtain ⟨o0, ⟨r0, _⟩, ⟨ob1, _⟩, ⟨le1, _⟩⟩ := dm_f B x0 (show x < 8 by omega)
          obtain ⟨v, v1, z, z'⟩ := said (B := B) h ob1 le1 x0 (by omega) (q x x0 e)
          rw [if_pos e, if_pos e, if_pos ⟨x0, by omega⟩, if_pos o0, r0, z, xB_ret, e1 e, show (0 : Int) + x = x by omega, w32_id (x := x) (by omega) (by omega), z', xB_ret]
          by_cases v0 : v = 0
          · rw [if_pos v0, if_pos v0]
            exact IH (x + 1) (by omega) (by omega) (by omega) (by omega)
          · rw [if_neg v0, if_neg v0]
            exact ⟨x, Or.inr ⟨x0, e⟩, rfl, rfl⟩
        · rw [if_neg e, if_neg e]
          exact ⟨-1, Or.inl rfl, rfl, rfl⟩
theorem meac {M : Int} (h : TK c r) (M1 : M ≤ 8) (h3 : xR c 3 2 = M) (q : ∀ d, 0 ≤ d → d < M → nmq c r (6 + d) (xR c 14 d) (40 + d)) : ∀ (k : Nat) (N N' : Nat) (x : Int), 0 ≤ x → (M - x).toNat ≤ k → k < N → k < N' → ∃ v, ((v = -1) ∨ (0 ≤ v ∧ v < M)) ∧ xl1 (yl70_2 B) N x c = some (.inl v, c) ∧ xl3 (yl262_2 B) N' 40 M x r = some (.inl v, r) := by
  intro k
  induction k with
  | zero =>
    intro N N' x x0 hx n1 n2
    cases N with
    | zero => omega
    | succ N =>
      cases N' with
      | zero => omega
      | succ N' =>
        show ∃ v, _ ∧ yl70_2 B _ x c = _ ∧ yl262_2 B _ 40 M x r = _
        unfold yl70_2 yl262_2
        rw [h3, if_neg (by omega), if_neg (by omega)]
        exact ⟨-1, Or.inl rfl, rfl, rfl⟩
  | succ k ih =>
    intro N N' x x0 hx n1 n2
    cases N with
    | zero => omega
    | succ N =>
      cases N' with
      | zero => omega
      | succ N' =>
        show ∃ v, _ ∧ yl70_2 B (xl1 (yl70_2 B) N) x c = _ ∧ yl262_2 B (xl3 (yl262_2 B) N') 40 M x r = _
        have IH := ih N N'
        have e1 : x < M → w32 (x + 1) = x + 1 := fun _ => w32_id (by omega) (by omega)
        generalize xl1 (yl70_2 B) N = R at IH ⊢
        generalize xl3 (yl262_2 B) N' = R' at IH ⊢
        unfold yl70_2 yl262_2
        rw [h3]
        by_cases e : x < M
        · have ob : xw_obb 18 (6 + x) = true ∧ xw_le B (6 + x) = 40 := by
            have : x = 0 ∨ x = 1 ∨ x = 2 ∨ x = 3 ∨ x = 4 ∨ x = 5 ∨ x = 6 ∨ x = 7 := by omega
            rcases this with rfl | rfl | rfl | rfl | rfl | rfl | rfl | rfl <;> exact ⟨rfl, rfl⟩
          obtain ⟨v, v1, z, z'⟩ := said (B := B) h ob.1 ob.2 (show 0 ≤ 40 + x by omega) (by omega) (q x x0 e)
          rw [if_pos e, if_pos e, if_pos ⟨x0, by omega⟩, z, xB_ret, e1 e, w32_id (x := 40 + x) (by omega) (by omega), z', xB_ret]
          by_cases v0 : v = 0
          · rw [if_pos v0, if_pos v0]
            exact IH (x + 1) (by omega) (by omega) (by omega) (by omega)
          · rw [if_neg v0, if_neg v0]
            exact ⟨x, Or.inr ⟨x0, e⟩, rfl, rfl⟩
        · rw [if_neg e, if_neg e]
          exact ⟨-1, Or.inl rfl, rfl, rfl⟩
theorem levc {d L : Int} (h : TK c r) (d0 : 0 ≤ d) (d1 : d < 8) (L1 : L ≤ 4) (h3 : xR c (15 + 26 * d) 10 = L) (q : ∀ l, 0 ≤ l → l < L → nmq c r (15 + 26 * d + 3 + l) (xR c (15 + 26 * d + 7) l) (8 + 4 * d + l)) : ∀ (k : Nat) (N N' : Nat) (x : Int), 0 ≤ x → (L - x).toNat ≤ k → k < N → k < N' → ∃ v, ((v = -1) ∨ (0 ≤ v ∧ v < L)) ∧ xl2 (yl66_2 B) N (15 + 26 * d) x c = some (.inl v, c) ∧ xl3 (yl262_2 B) N' (8 + 4 * d) L x r = some (.inl v, r) := by
  obtain ⟨o0, ⟨r0, r1, r2, _⟩, ⟨ob1, ob2, ob7, _⟩, ⟨le1, le2, le7, _⟩⟩ := dm_f B d0 d1
  intro k
  induction k with
  | zero =>
    intro N N' x x0 hx n1 n2
    cases N with
    | zero => omega
    | succ N =>
      cases N' with
      | zero => omega
      | succ N' =>
        show ∃ v, _ ∧ yl66_2 B _ (15 + 26 * d) x c = _ ∧ yl262_2 B _ (8 + 4 * d) L x r = _
        unfold yl66_2 yl262_2
        rw [if_pos o0, h3, if_neg (by omega), if_neg (by omega)]
        exact ⟨-1, Or.inl rfl, rfl, rfl⟩
  | succ k ih =>
    intro N N' x x0 hx n1 n2
    cases N with
    | zero => omega
    | succ N =>
      cases N' with
      | zero => omega
      | succ N' =>
        show ∃ v, _ ∧ yl66_2 B (xl2 (yl66_2 B) N) (15 + 26 * d) x c = _ ∧ yl262_2 B (xl3 (yl262_2 B) N') (8 + 4 * d) L x r = _
        have IH := ih N N'
        have e1 : x < L → w32 (x + 1) = x + 1 := fun _ => w32_id (by omega) (by omega)
        generalize xl2 (yl66_2 B) N = R at IH ⊢
        generalize xl3 (yl262_2 B) N' = R' at IH ⊢
        unfold yl66_2 yl262_2
        rw [if_pos o0, h3]
        by_cases e : x < L
        · obtain ⟨_, _, _, ⟨kd, rf, ob, le⟩⟩ := dm_l B d0 d1 x0 (show x < 4 by omega)
          obtain ⟨v, v1, z, z'⟩ := said (B := B) h ob le (show 0 ≤ 8 + 4 * d + x by omega) (by omega) (q x x0 e)
          rw [if_pos e, if_pos e, r1, le2, if_pos ⟨x0, by omega⟩, if_pos kd, if_pos ob2, r2, le7, if_pos ⟨x0, by omega⟩, if_pos ob7, rf, z, xB_ret, e1 e, w32_id (x := 8 + 4 * d + x) (by omega) (by omega), z', xB_ret]
          by_cases v0 : v = 0
          · rw [if_pos v0, if_pos v0]
            exact IH (x + 1) (by omega) (by omega) (by omega) (by omega)
          · rw [if_neg v0, if_neg v0]
            exact ⟨x, Or.inr ⟨x0, e⟩, rfl, rfl⟩
        · rw [if_neg e, if_neg e]
          exact ⟨-1, Or.inl rfl, rfl, rfl⟩
/-- the names by the catalog's relation -/
theorem cgr_d {D M d : Int} (g : cgr c r D M) (d0 : 0 ≤ d) (d1 : d < D) : nmq c r (15 + 26 * d + 1) (xR c (15 + 26 * d) 9) d := by
  have a := g.sz d d0 d1
  have b := (g.cn.2.2.2.2.1 d d0 d1).1
  exact ⟨b.1, b.2, a.2.2.2.1, a.2.2.2.2.1⟩
theorem cgr_l {D M d l : Int} (g : cgr c r D M) (d0 : 0 ≤ d) (d1 : d < D) (l0 : 0 ≤ l) (l1 : l < xR c (15 + 26 * d) 10) : nmq c r (15 + 26 * d + 3 + l) (xR c (15 + 26 * d + 7) l) (8 + 4 * d + l) := by
  have a := (g.sz d d0 d1).2.2.2.2.2 l l0 l1
  have b := (g.cn.2.2.2.2.1 d d0 d1).2.2.2 l l0 l1
  exact ⟨b.1, b.2, a.1, a.2⟩
theorem cgr_k {D M d : Int} (g : cgr c r D M) (d0 : 0 ≤ d) (d1 : d < M) : nmq c r (6 + d) (xR c 14 d) (40 + d) := by
  have a := g.ms d d0 d1
  have b := g.cn.2.2.2.2.2 d d0 d1
  exact ⟨b.1, b.2, a.1, a.2⟩
/-- dimensionHere: columnsDimension -/
theorem dimh {D M : Int} (h : TK c r) (g : cgr c r D M) : duo (yf60 B c) (yf272 B r) (fun v c' w r' => c' = c ∧ r' = r ∧ w = v ∧ 0 ≤ v ∧ v < D) (fun c' w r' => w = 0 ∧ fTy c c' ∧ fRy r r') := by
  have n := h.nf
  unfold yf60 yf272
  refine duo_B (nam h) (fun v c1 w r1 q => ?_) (fun c1 w r1 f z => ⟨0, r1, by rw [if_pos z.1, d254 f.1, xB_ret, if_pos rfl], f, rfl, z.2⟩)
  obtain ⟨rfl, rfl, w1, _⟩ := q
  unfold yf62 yf262
  generalize hN : (1000000 : Nat) = N
  obtain ⟨v, v1, z, z'⟩ := dimc (B := B) h g.cn.1.2 g.cn.2.2.1 (fun d d0 d1 => cgr_d g d0 d1) 8 N N 0 (by omega) (by have := g.cn.1; omega) (by omega) (by omega)
  rw [if_neg (by omega), z, xB_ret, g.r14, z', xB_ret]
  by_cases e : v = -1
  · rw [if_pos e, if_pos (by omega), no254 n (by decide) (by decide), xB_ret, if_pos rfl]
    have F := flt (c := c1) (r := r1) (f := 5) (p := xR c1 1 4) (p' := xR r1 536 9) (by decide) (by decide) (w32_xR _ _ _) h.2.1.1
    unfold yf54
    rw [xB_thr]
    exact duo_f F.1 ⟨rfl, F.2⟩
  · rw [if_neg e, if_neg (by omega), ok254 n, xB_ret, if_neg (by decide)]
    exact duo_r ⟨rfl, rfl, rfl, by omega⟩
theorem ex68 {p : Int} {m : xw_M} {G : xw_M → xP} : (xB (yf47 B m) fun _ m1 => if (xR m1 1 3) = p then G m1 else (xB (yf56 B m1) fun _ m2 => G m2)) = xB (yf68 B p m) fun _ m1 => G m1 := by
  unfold yf68
  cases yf47 B m with
  | none => rfl
  | some z =>
    obtain ⟨z, m1⟩ := z
    cases z with
    | inr t => rfl
    | inl v =>
      show (if (xR m1 1 3) = p then G m1 else (xB (yf56 B m1) fun _ m2 => G m2)) = xB (if (xR m1 1 3) = p then some (.inl 0, m1) else (xB (yf56 B m1) fun _ m2 => some (.inl 0, m2))) (fun _ m1 => G m1)
      by_cases e : xR m1 1 3 = p
      · rw [if_pos e, if_pos e, xB_ret]
      · rw [if_neg e, if_neg e]
        cases yf56 B m1 with
        | none => rfl
        | some z =>
          obtain ⟨z, m2⟩ := z
          cases z <;> rfl
theorem cgr_fr {c' r' : xw_M} {D M : Int} (g : cgr c r D M) (hc : ∀ a, 3 ≤ a → a < 223 → c' a = c a) (hr : ∀ a, a = 538 ∨ a = 539 ∨ a = 542 ∨ a = 543 → r' a = r a) (h1 : r' 536 14 = r 536 14) (h2 : r' 536 19 = r 536 19) : cgr c' r' D M := by
  obtain ⟨g1, g2, g3, g4, g5, g6⟩ := g
  have e : ∀ a, 3 ≤ a → a < 223 → xR c' a = xR c a := fun a a0 a1 => xR_cg (hc a a0 a1)
  have er : ∀ a, a = 538 ∨ a = 539 ∨ a = 542 ∨ a = 543 → xR r' a = xR r a := fun a ha => xR_cg (hr a ha)
  obtain ⟨n1, n2, n3, n4, n5, n6⟩ := g1
  refine ⟨⟨n1, n2, by rw [e 3 (by omega) (by omega)]; exact n3, by rw [e 3 (by omega) (by omega)]; exact n4, fun d d0 d1 => ?_, fun k k0 k1 => ?_⟩, ⟨fun d d0 d1 => ?_, fun k i k0 k1 i0 i1 => ?_⟩, by rw [xR_fld h1]; exact g3, by rw [xR_fld h2]; exact g4, fun d d0 d1 => ?_, fun k k0 k1 => ?_⟩
  · rw [e (15 + 26 * d) (by omega) (by omega), e (15 + 26 * d + 7) (by omega) (by omega)]
    exact n5 d d0 d1
  · rw [e 14 (by omega) (by omega)]
    exact n6 k k0 k1
  · have a := g2.1 d d0 d1
    rw [e (15 + 26 * d) (by omega) (by omega), e (15 + 26 * d + 7) (by omega) (by omega), e (15 + 26 * d + 1) (by omega) (by omega)]
    refine ⟨a.1, fun l i l0 l1 i0 i1 => ?_⟩
    have := (n5 d d0 d1).2.1
    rw [e (15 + 26 * d + 3 + l) (by omega) (by omega)]
    exact a.2 l i l0 l1 i0 i1
  · rw [e 14 (by omega) (by omega)] at i1
    rw [e (6 + k) (by omega) (by omega)]
    exact g2.2 k i k0 k1 i0 i1
  · have a := g5 d d0 d1
    rw [e (15 + 26 * d) (by omega) (by omega), e (15 + 26 * d + 7) (by omega) (by omega), e (15 + 26 * d + 1) (by omega) (by omega), er 538 (by omega), er 539 (by omega), er 542 (by omega), er 543 (by omega)]
    refine ⟨a.1, a.2.1, a.2.2.1, a.2.2.2.1, a.2.2.2.2.1, fun l l0 l1 => ?_⟩
    have := (n5 d d0 d1).2.1
    rw [e (15 + 26 * d + 3 + l) (by omega) (by omega)]
    exact a.2.2.2.2.2 l l0 l1
  · rw [e 14 (by omega) (by omega), e (6 + k) (by omega) (by omega), er 542 (by omega), er 543 (by omega)]
    exact g6 k k0 k1
theorem cgr_x {c' r' : xw_M} {D M : Int} (g : cgr c r D M) (f : fTx c c') (k : fRx r r') : cgr c' r' D M := cgr_fr g (fun a a0 a1 => f.1 a (by omega)) (fun a ha => k.1 a (by omega)) (k.2 14 (by omega)) (k.2 19 (by omega))
theorem fTx_rf {c : xw_M} : fTx c c := ⟨fun _ _ => rfl, fun _ _ => rfl⟩
theorem fRx_rf {r : xw_M} : fRx r r := ⟨fun _ _ => rfl, fun _ _ => rfl⟩
theorem fTx_tr {a b c : xw_M} (h : fTx a b) (k : fTx b c) : fTx a c := ⟨fun x hx => by rw [k.1 x hx, h.1 x hx], fun x hx => by rw [k.2 x hx, h.2 x hx]⟩
theorem fRx_tr {a b c : xw_M} (h : fRx a b) (k : fRx b c) : fRx a c := ⟨fun x hx => by rw [k.1 x hx, h.1 x hx], fun x hx => by rw [k.2 x hx, h.2 x hx]⟩
/-- levelBehind: columnsLevel -/
theorem levb {D M d : Int} (h : PS c r) (g : cgr c r D M) (d0 : 0 ≤ d) (d1 : d < D) : duo (yf65 B d c) (yf273 B d r) (fun v c' w r' => w = v ∧ (∃ l, v = 4 * d + l ∧ 0 ≤ l ∧ l < xR c (15 + 26 * d) 10) ∧ TK c' r' ∧ fTx c c' ∧ fRx r r' ∧ xR c 1 2 < xR c' 1 2) (fun c' w r' => w = 0 ∧ fTy c c' ∧ fRy r r') := by
  have D8 := g.cn.1
  have sz := g.sz d d0 d1
  have L4 := (g.cn.2.2.2.2.1 d d0 d1).2.1
  unfold yf65 yf273
  rw [ex68]
  refine duo_B (esg (K := 46) (g := 46) h rfl (Or.inl rfl)) (fun v c1 w r1 q => ?_) (fun c1 w r1 f z => ⟨0, r1, by rw [if_pos z.1], f, rfl, z.2⟩)
  obtain ⟨w1, k1, q⟩ := q
  rw [if_neg (by omega)]
  unfold yk65_26
  refine duo_B (nx q.1.1) (fun v c2 w r2 p => ?_) (fun c2 w r2 f z => ⟨0, r2, by rw [d261 f.1, xB_ret, if_pos rfl, d254 f.1, xB_ret, if_pos rfl], f, rfl, fTy_tr (fTy_of q.2.1) z.1, fRy_tr (fRy_of q.2.2.1) z.2⟩)
  have f1 := fTx_tr q.2.1 p.2.1
  have f2 := fRx_tr q.2.2.1 p.2.2.1
  have lt : xR c 1 2 < xR c2 1 2 := by have := q.2.2.2.2 (by omega); have := p.2.2.2.1; omega
  refine duo_B (nam p.1) (fun v c3 w r3 s => ?_) (fun c3 w r3 f z => ⟨0, r3, by rw [if_pos z.1, d254 f.1, xB_ret, if_pos rfl], f, rfl, fTy_tr (fTy_of f1) z.2.1, fRy_tr (fRy_of f2) z.2.2⟩)
  obtain ⟨rfl, rfl, w3, _⟩ := s
  have g2 := cgr_x g f1 f2
  have n := p.1.nf
  have e10 : xR c3 (15 + 26 * d) 10 = xR c (15 + 26 * d) 10 := by rw [xR_cg (f1.1 _ (by omega))]
  obtain ⟨o0, _⟩ := dm_f B d0 (show d < 8 by omega)
  unfold yf66 yf262
  generalize hN : (1000000 : Nat) = N
  obtain ⟨v, v1, z, z'⟩ := levc (B := B) p.1 d0 (by omega) (show xR c (15 + 26 * d) 10 ≤ 4 by omega) e10 (fun l l0 l1 => cgr_l g2 d0 d1 l0 (by rw [e10]; exact l1)) 4 N N 0 (by omega) (by omega) (by omega) (by omega)
  rw [if_neg (show ¬ w = 0 by omega), if_pos (show 0 ≤ d ∧ d < 8 by omega), if_pos (show 0 ≤ d ∧ d < 8 by omega), if_pos o0, z, xB_ret, xR_cg (f2.1 538 (by omega)), sz.2.1, w32_id (by omega) (by omega), z', xB_ret]
  by_cases e : v = -1
  · rw [if_pos e, if_pos (by omega), no254 n (by decide) (by decide), xB_ret, if_pos rfl]
    have F := flt (c := c3) (r := r3) (f := 5) (p := xR c3 1 4) (p' := xR r3 536 9) (by decide) (by decide) (w32_xR _ _ _) p.1.2.1.1
    unfold yf54
    rw [xB_thr]
    exact duo_f F.1 ⟨rfl, fTy_tr (fTy_of f1) F.2.1, fRy_tr (fRy_of f2) F.2.2⟩
  · rw [if_neg e, if_neg (by omega), ok254 n, xB_ret, if_neg (by decide)]
    unfold yk65_77
    exact duo_r ⟨by rw [w32_id (by omega) (by omega), w32_id (by omega) (by omega)]; omega, ⟨v, by rw [w32_id (by omega) (by omega)]; omega, by omega, by omega⟩, p.1, f1, f2, lt⟩
/-- measureHere: among the measures -/
theorem meah {D M : Int} (h : TK c r) (g : cgr c r D M) : duo (yf69 B c) (xB (yf261 B r) fun v1 m1 => if v1 = 0 then (xB (yf254 B 1 5 (xR m1 536 9) m1) fun v2 m2 => some (.inl 0, m2)) else (xB (yf262 B 40 (xR m1 536 19) m1) fun v3 m3 => if v3 < 0 then (xB (yf254 B 0 5 (xR m3 536 9) m3) fun v4 m4 => some (.inl v3, m4)) else (xB (yf254 B 1 5 (xR m3 536 9) m3) fun v5 m5 => some (.inl v3, m5)))) (fun v c' w r' => c' = c ∧ r' = r ∧ w = v ∧ 0 ≤ v ∧ v < M) (fun c' _ r' => fTy c c' ∧ fRy r r') := by
  have n := h.nf
  unfold yf69
  refine duo_B (nam h) (fun v c1 w r1 q => ?_) (fun c1 w r1 f z => ⟨0, r1, by rw [if_pos z.1, d254 f.1, xB_ret], f, z.2⟩)
  obtain ⟨rfl, rfl, w1, _⟩ := q
  unfold yf70 yf262
  generalize hN : (1000000 : Nat) = N
  obtain ⟨v, v1, z, z'⟩ := meac (B := B) h g.cn.2.1.2 g.cn.2.2.2.1 (fun d d0 d1 => cgr_k g d0 d1) 8 N N 0 (by omega) (by have := g.cn.2.1; omega) (by omega) (by omega)
  rw [if_neg (by omega), z, xB_ret, g.r19, z', xB_ret]
  by_cases e : v = -1
  · rw [if_pos e, if_pos (by omega), no254 n (by decide) (by decide), xB_ret]
    have F := flt (c := c1) (r := r1) (f := 5) (p := xR c1 1 4) (p' := xR r1 536 9) (by decide) (by decide) (w32_xR _ _ _) h.2.1.1
    unfold yf54
    rw [xB_thr]
    exact duo_f F.1 F.2
  · rw [if_neg e, if_neg (by omega), ok254 n, xB_ret]
    exact duo_r ⟨rfl, rfl, rfl, by omega⟩
end RDB
