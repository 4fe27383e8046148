/-! A VIEW'S ROW IN THE MAKING: isSameRow, beginSums, addSums -/
/-- the table is shaped as a view: D dimensions, M measures, P of the dimensions in it (hd: which one a column is of) -/
def vsh (m : xw_M) (D M P : Int) (hd : Int → Int) : Prop := (0 ≤ D ∧ D ≤ 8) ∧ (0 ≤ M ∧ M ≤ 8) ∧ (0 ≤ P ∧ P ≤ D) ∧ xR m 3 1 = D ∧ xR m 3 2 = M ∧ xR m 302 5 = P ∧ xR m 302 6 = P + 1 + 3 * M ∧ (∀ d, 0 ≤ d → d < D → xR m 372 d = -1 ∨ ((0 ≤ xR m 372 d ∧ xR m 372 d < P) ∧ hd (xR m 372 d) = d)) ∧ ∀ c, 0 ≤ c → c < P → (0 ≤ hd c ∧ hd c < D) ∧ xR m 372 (hd c) = c
theorem vsh_cg {m m' : xw_M} {D M P : Int} {hd : Int → Int} (h : vsh m D M P hd) (h3 : m' 3 = m 3) (h5 : m' 302 5 = m 302 5) (h6 : m' 302 6 = m 302 6) (h372 : m' 372 = m 372) : vsh m' D M P hd := by
  obtain ⟨a, b, c, d, e, f, g, i, j⟩ := h
  unfold vsh
  rw [xR_cg h3, xR_cg h372]
  unfold xR at f g ⊢
  rw [h5, h6]
  exact ⟨a, b, c, d, e, f, g, i, j⟩
theorem tkey_cg {m m' : xw_M} {r D : Int} (h : ∀ a, a < 302 → m' a = m a) (h1 : m' 371 = m 371) (h2 : m' 372 = m 372) (hr : ∀ a, 373 ≤ a → a < 503 → m' a = m a) {W cap : Int} (hrw : rwo r W cap) {d i : Int} (hd : 0 ≤ d ∧ d < D) (hD : D ≤ 8) (hl : xR m 372 d ≠ -1 → 0 ≤ xR m 371 d ∧ xR m 371 d < 4) : tkey m' r d i = tkey m r d i := by
  have hb := rw_b hrw
  unfold tkey
  rw [xR_cg h2, xR_cg h1]
  by_cases e : xR m 372 d = -1
  · rw [if_pos e, if_pos e]
  · have := hl e
    rw [if_neg e, if_neg e, xR_cg (hr (r + 3 + d) (by omega) (by omega)), xR_cg (h (15 + 26 * d + 14 + xR m 371 d) (by omega))]
section SUMS
variable {B : Nat} {m : xw_M} {r W cap D M P n : Int} {hd : Int → Int}
theorem same_ok (hr : rwo r W cap) (hv : vsh m D M P hd) (ht : tsok m r D n) (hn : n ≤ cap) {x y : Int} (hx : 0 ≤ x ∧ x < n) (hy : 0 ≤ y ∧ y < n) : ∃ v, yf195 B r x y m = some (.inl v, m) ∧ (v = 0 ∨ v = 1) ∧ (v = 1 ↔ ∀ d, 0 ≤ d → d < D → tkey m r d x = tkey m r d y) := by
  have hb := rw_b hr
  obtain ⟨⟨hD0, hD8⟩, _, _, h31, _⟩ := hv
  obtain ⟨f1, ⟨f2, f3, f4, f5, f6⟩, ⟨f7, f8, f9, f10, f11⟩, ⟨f12, f13, f14, f15, f16⟩⟩ := rw_f B hr
  unfold yf195
  have goal := xH_ex (Q := fun v m' => m' = m ∧ (v = 0 ∨ v = 1) ∧ (v = 1 ↔ ∀ d, 0 ≤ d → d < D → tkey m r d x = tkey m r d y)) (xl4_rule (F := yl195_3 B) (fun x0 x1 x2 x3 m' => x0 = r ∧ x1 = x ∧ x2 = y ∧ 0 ≤ x3 ∧ x3 ≤ D ∧ m' = m ∧ ∀ d, 0 ≤ d → d < x3 → tkey m r d x = tkey m r d y) (fun _ _ _ x3 _ => (D - x3).toNat) ?_ 1000000 r x y 0 m ⟨rfl, rfl, rfl, by omega, by omega, rfl, fun d h1 h2 => by omega⟩ (by omega))
  · obtain ⟨v, m', e, rfl, h⟩ := goal
    exact ⟨v, e, h⟩
  · intro q x0 x1 x2 x3 m' ⟨a0, a1, a2, a3, a4, a5, E⟩ ih
    subst a0 a1 a2 a5
    unfold yl195_3
    rw [h31]
    by_cases hd : x3 < D
    · rw [if_pos hd, if_pos ⟨a3, by omega⟩, w32_id (by omega) (by omega)]
      by_cases hp : xR m' 372 x3 = -1
      · rw [if_pos hp]
        refine ih _ _ _ _ _ ⟨rfl, rfl, rfl, by omega, by omega, rfl, fun d h1 h2 => ?_⟩ (by omega)
        by_cases e : d = x3
        · rw [e]
          unfold tkey
          rw [if_pos hp, if_pos hp]
        · exact E d h1 (by omega)
      · obtain ⟨s1, s2, s3⟩ := ht x3 a3 hd hp
        obtain ⟨g1, ⟨_, _, _, _, g2, _⟩, ⟨_, _, _, _, g4, _⟩, ⟨_, _, _, _, g6, _⟩⟩ := dm_f B (d := x3) (by omega) (by omega)
        obtain ⟨_, ⟨g8, g9, g10, g11⟩, _, _⟩ := dm_l B (d := x3) (by omega) (by omega) s1.1 s1.2
        obtain ⟨p1, p2, p3, p4⟩ := rw_p B hr (d := x3) a3 (by omega)
        have k1 := (s3 x1 hx.1 hx.2).1
        have k2 := (s3 x2 hy.1 hy.2).1
        rw [if_neg hp, if_pos g1, g2, g6, if_pos ⟨s1.1, by omega⟩, if_pos g8, if_pos g4, if_pos f1, f2, f15, if_pos ⟨a3, by omega⟩, if_pos p1, if_pos f10, p2, p4, if_pos ⟨hx.1, by omega⟩, if_pos p3, g9, g11, if_pos k1, if_pos g10, if_pos ⟨hy.1, by omega⟩, if_pos k2]
        have e1 : ∀ i, xR m' (15 + 26 * x3 + 14 + xR m' 371 x3) (xR m' (x0 + 3 + x3) i) = tkey m' x0 x3 i := fun i => by unfold tkey; rw [if_neg hp]
        rw [e1, e1]
        by_cases e : tkey m' x0 x3 x1 = tkey m' x0 x3 x2
        · rw [if_pos e]
          refine ih _ _ _ _ _ ⟨rfl, rfl, rfl, by omega, by omega, rfl, fun d h1 h2 => ?_⟩ (by omega)
          by_cases ed : d = x3
          · rw [ed]; exact e
          · exact E d h1 (by omega)
        · rw [if_neg e, xH_ret]
          exact ⟨rfl, Or.inl rfl, ⟨fun h => by omega, fun h => absurd (h x3 a3 hd) e⟩⟩
    · rw [if_neg hd, xH_ret]
      exact ⟨rfl, Or.inr rfl, ⟨fun _ d h1 h2 => E d h1 (by omega), fun _ => rfl⟩⟩
/-- only the row l of the cells is another -/
def rowF (m m' : xw_M) (l : Int) : Prop := (∀ a, a < 304 ∨ 336 < a → m' a = m a) ∧ ∀ c i, 0 ≤ c → c < 33 → i ≠ l → m' (304 + c) i = m (304 + c) i
theorem rowF_refl (m : xw_M) (l : Int) : rowF m m l := ⟨fun _ _ => rfl, fun _ _ _ _ _ => rfl⟩
theorem rowF_u {m m1 : xw_M} {l c v : Int} (h : rowF m m1 l) (h0 : 0 ≤ c) (h1 : c < 33) : rowF m (xw_u m1 (304 + c) l v) l := ⟨fun a ha => by rw [xu_c (by omega)]; exact h.1 a ha, fun c' i q1 q2 q3 => by
  unfold xw_u
  rw [if_neg (fun e => q3 e.2)]
  exact h.2 c' i q1 q2 q3⟩
theorem begin_ok (hr : rwo r W cap) (hv : vsh m D M P hd) (ht : tsok m r D n) (hn : n ≤ cap) {x l : Int} (hx : 0 ≤ x ∧ x < n) (hl : 0 ≤ l ∧ l < 1024) (h8 : xR m 302 8 = l + 1) : ∃ m', yf197 B r x m = some (.inl 0, m') ∧ rowF m m' l ∧ (∀ c, 0 ≤ c → c < P → xJ m' (304 + c) l = tkey m r (hd c) x) ∧ xJ m' (304 + P) l = 1 ∧ ∀ c, P < c → c < P + 1 + 3 * M → xJ m' (304 + c) l = xJ m (r + 12 + (c - P - 1) / 3) x := by
  have hb := rw_b hr
  obtain ⟨⟨hD0, hD8⟩, ⟨hM0, hM8⟩, ⟨hP0, hPD⟩, h31, h32, h5, h6, hpc, hhd⟩ := hv
  obtain ⟨f1, ⟨f2, f3, f4, f5, f6⟩, ⟨f7, f8, f9, f10, f11⟩, ⟨f12, f13, f14, f15, f16⟩⟩ := rw_f B hr
  unfold yf197
  rw [h8, w32_id (by omega) (by omega), show l + 1 - 1 = l from by omega]
  have goal := xH_ex (Q := fun v m' => v = 0 ∧ rowF m m' l ∧ (∀ c, 0 ≤ c → c < P → xJ m' (304 + c) l = tkey m r (hd c) x) ∧ xJ m' (304 + P) l = 1 ∧ ∀ c, P < c → c < P + 1 + 3 * M → xJ m' (304 + c) l = xJ m (r + 12 + (c - P - 1) / 3) x) (xl4_rule (F := yl197_10 B) (fun x0 x1 x2 x3 m' => x0 = r ∧ x1 = x ∧ x2 = l ∧ 0 ≤ x3 ∧ x3 ≤ D ∧ rowF m m' l ∧ ∀ d, 0 ≤ d → d < x3 → xR m 372 d ≠ -1 → xJ m' (304 + xR m 372 d) l = tkey m r d x) (fun _ _ _ x3 _ => (D - x3).toNat) ?_ 1000000 r x l 0 m ⟨rfl, rfl, rfl, by omega, by omega, rowF_refl m l, fun d h1 h2 => by omega⟩ (by omega))
  · obtain ⟨v, m', e, rfl, h⟩ := goal
    exact ⟨m', e, h⟩
  · intro q x0 x1 x2 x3 m2 ⟨a0, a1, a2, a3, a4, F, E⟩ ih
    subst a0 a1 a2
    have r31 : xR m2 3 1 = D := by rw [xR_cg (F.1 3 (by omega))]; exact h31
    have r372 : xR m2 372 = xR m 372 := xR_cg (F.1 372 (by omega))
    have r371 : xR m2 371 = xR m 371 := xR_cg (F.1 371 (by omega))
    have r5 : xR m2 302 5 = P := by rw [xR_cg (F.1 302 (by omega))]; exact h5
    unfold yl197_10
    rw [r31, r372, r371, r5]
    by_cases hdx : x3 < D
    · rw [if_pos hdx, if_pos ⟨a3, by omega⟩, w32_id (by omega) (by omega)]
      by_cases hp : xR m 372 x3 = -1
      · rw [if_pos hp]
        refine ih _ _ _ _ _ ⟨rfl, rfl, rfl, by omega, by omega, F, fun d h1 h2 h3 => ?_⟩ (by omega)
        by_cases e : d = x3
        · exact absurd (e ▸ hp) h3
        · exact E d h1 (by omega) h3
      · obtain ⟨s1, s2, s3⟩ := ht x3 a3 hdx hp
        obtain ⟨c1, c2⟩ := (hpc x3 a3 hdx).resolve_left hp
        obtain ⟨g1, ⟨_, _, _, _, g2, _⟩, ⟨_, _, _, _, g4, _⟩, ⟨_, _, _, _, g6, _⟩⟩ := dm_f B (d := x3) (by omega) (by omega)
        obtain ⟨_, ⟨g8, g9, g10, g11⟩, _, _⟩ := dm_l B (d := x3) (by omega) (by omega) s1.1 s1.2
        obtain ⟨p1, p2, p3, p4⟩ := rw_p B hr (d := x3) a3 (by omega)
        obtain ⟨ob1, ob2⟩ := ce_ob (B := B) (c := xR m 372 x3) c1.1 (by omega)
        have k1 := (s3 x1 hx.1 hx.2).1
        have rP : xR m2 (x0 + 3 + x3) = xR m (x0 + 3 + x3) := xR_cg (F.1 _ (by omega))
        have rK : xR m2 (15 + 26 * x3 + 14 + xR m 371 x3) = xR m (15 + 26 * x3 + 14 + xR m 371 x3) := xR_cg (F.1 _ (by omega))
        rw [if_neg hp, if_pos ⟨c1.1, by omega⟩, if_pos g1, g2, g6, if_pos ⟨s1.1, by omega⟩, if_pos g8, if_pos g4, if_pos f1, f2, f15, if_pos ⟨a3, by omega⟩, if_pos p1, if_pos f10, p2, p4, if_pos ⟨hx.1, by omega⟩, if_pos p3, g9, g11, rP, rK, if_pos k1, if_pos g10, ob2, if_pos ⟨hl.1, by omega⟩, if_pos ob1]
        refine ih _ _ _ _ _ ⟨rfl, rfl, rfl, by omega, by omega, rowF_u F c1.1 (by omega), fun d h1 h2 h3 => ?_⟩ (by omega)
        rw [xJ_u]
        by_cases e : d = x3
        · rw [if_pos ⟨by rw [e], rfl⟩, e, w64_xR]
          unfold tkey
          rw [if_neg hp]
        · rw [if_neg (fun h => ?_)]
          · exact E d h1 (by omega) h3
          · obtain ⟨c3, c4⟩ := (hpc d h1 (by omega)).resolve_left h3
            have : xR m 372 d = xR m 372 x3 := by omega
            rw [this, c2] at c4
            exact e c4.symm
    · have ed : x3 = D := by omega
      subst ed
      obtain ⟨ob1, ob2⟩ := ce_ob (B := B) (c := P) hP0 (by omega)
      rw [if_neg hdx, if_pos ⟨hP0, by omega⟩, ob2, if_pos ⟨hl.1, by omega⟩, if_pos ob1, w32_id (x := P + 1) (by omega) (by omega)]
      refine xl4_rule (F := yl197_105 B) (fun y0 y1 y2 y3 m' => y0 = x0 ∧ y1 = x1 ∧ y2 = x2 ∧ P + 1 ≤ y3 ∧ y3 ≤ P + 1 + 3 * M ∧ rowF m m' x2 ∧ (∀ c, 0 ≤ c → c < P → xJ m' (304 + c) x2 = tkey m x0 (hd c) x1) ∧ xJ m' (304 + P) x2 = 1 ∧ ∀ c, P < c → c < y3 → xJ m' (304 + c) x2 = xJ m (x0 + 12 + (c - P - 1) / 3) x1) (fun _ _ _ y3 _ => (P + 1 + 3 * M - y3).toNat) ?_ 1000000 x0 x1 x2 (P + 1) (xw_u m2 (304 + P) x2 1) ⟨rfl, rfl, rfl, by omega, by omega, rowF_u F hP0 (by omega), fun c h1 h2 => ?_, ?_, fun c h1 h2 => by omega⟩ (by omega)
      · intro q' y0 y1 y2 y3 m4 ⟨b0, b1, b2, b3, b4, F4, K4, C4, A4⟩ ih'
        subst b0 b1 b2
        have s6 : xR m4 302 6 = P + 1 + 3 * M := by rw [xR_cg (F4.1 302 (by omega))]; exact h6
        have s5 : xR m4 302 5 = P := by rw [xR_cg (F4.1 302 (by omega))]; exact h5
        unfold yl197_105
        rw [s6, s5]
        by_cases hy : y3 < P + 1 + 3 * M
        · obtain ⟨q1, q2⟩ := ce_ob (B := B) (c := y3) (by omega) (by omega)
          obtain ⟨g1, g2, g3, g4⟩ := rw_a B hr (d := (y3 - P - 1) / 3) (by omega) (by omega)
          have ra : xJ m4 (y0 + 12 + (y3 - P - 1) / 3) = xJ m (y0 + 12 + (y3 - P - 1) / 3) := xJ_cg (F4.1 _ (by omega))
          rw [if_pos hy, if_pos ⟨by omega, by omega⟩, if_pos f1, w32_id (x := y3 - P - 1) (by omega) (by omega), if_pos (by omega), f3, f16, if_pos ⟨by omega, by omega⟩, if_pos g1, if_pos f11, g2, g4, if_pos ⟨hx.1, by omega⟩, if_pos g3, q2, if_pos ⟨hl.1, by omega⟩, if_pos q1, w32_id (by omega) (by omega), ra]
          refine ih' _ _ _ _ _ ⟨rfl, rfl, rfl, by omega, by omega, rowF_u F4 (by omega) (by omega), fun c h1 h2 => ?_, ?_, fun c h1 h2 => ?_⟩ (by omega)
          · rw [xJ_u, if_neg (by omega)]
            exact K4 c h1 h2
          · rw [xJ_u, if_neg (by omega)]
            exact C4
          · rw [xJ_u]
            by_cases e : c = y3
            · rw [if_pos ⟨by omega, rfl⟩, w64_xJ, e]
            · rw [if_neg (by omega)]
              exact A4 c h1 (by omega)
        · rw [if_neg hy, xH_ret]
          exact ⟨rfl, F4, K4, C4, fun c h1 h2 => A4 c h1 (by omega)⟩
      · obtain ⟨d1, d2⟩ := hhd c h1 h2
        rw [xJ_u, if_neg (by omega)]
        have := E (hd c) d1.1 d1.2 (by omega)
        rw [d2] at this
        exact this
      · rw [xJ_u, if_pos ⟨rfl, rfl⟩]
        rfl
theorem add_ok (hr : rwo r W cap) (hv : vsh m D M P hd) (hn : n ≤ cap) {x l : Int} (hx : 0 ≤ x ∧ x < n) (hl : 0 ≤ l ∧ l < 1024) (h8 : xR m 302 8 = l + 1) : ∃ m', yf196 B r x m = some (.inl 0, m') ∧ rowF m m' l ∧ (∀ c, 0 ≤ c → c < P → xJ m' (304 + c) l = xJ m (304 + c) l) ∧ xJ m' (304 + P) l = w64 (xJ m (304 + P) l + 1) ∧ ∀ k, 0 ≤ k → k < M → xJ m' (304 + (P + 1 + 3 * k)) l = w64 (xJ m (304 + (P + 1 + 3 * k)) l + xJ m (r + 12 + k) x) ∧ xJ m' (304 + (P + 1 + 3 * k + 1)) l = min (xJ m (304 + (P + 1 + 3 * k + 1)) l) (xJ m (r + 12 + k) x) ∧ xJ m' (304 + (P + 1 + 3 * k + 2)) l = max (xJ m (304 + (P + 1 + 3 * k + 2)) l) (xJ m (r + 12 + k) x) := by
  have hb := rw_b hr
  obtain ⟨⟨hD0, hD8⟩, ⟨hM0, hM8⟩, ⟨hP0, hPD⟩, h31, h32, h5, h6, hpc, hhd⟩ := hv
  obtain ⟨f1, ⟨f2, f3, f4, f5, f6⟩, ⟨f7, f8, f9, f10, f11⟩, ⟨f12, f13, f14, f15, f16⟩⟩ := rw_f B hr
  obtain ⟨ob1, ob2⟩ := ce_ob (B := B) (c := P) hP0 (by omega)
  unfold yf196
  rw [h8, h5, w32_id (by omega) (by omega), show l + 1 - 1 = l from by omega, if_pos ⟨hP0, by omega⟩, ob2, if_pos ⟨hl.1, by omega⟩, if_pos ob1]
  have goal := xH_ex (Q := fun v m' => v = 0 ∧ rowF m m' l ∧ (∀ c, 0 ≤ c → c < P → xJ m' (304 + c) l = xJ m (304 + c) l) ∧ xJ m' (304 + P) l = w64 (xJ m (304 + P) l + 1) ∧ ∀ k, 0 ≤ k → k < M → xJ m' (304 + (P + 1 + 3 * k)) l = w64 (xJ m (304 + (P + 1 + 3 * k)) l + xJ m (r + 12 + k) x) ∧ xJ m' (304 + (P + 1 + 3 * k + 1)) l = min (xJ m (304 + (P + 1 + 3 * k + 1)) l) (xJ m (r + 12 + k) x) ∧ xJ m' (304 + (P + 1 + 3 * k + 2)) l = max (xJ m (304 + (P + 1 + 3 * k + 2)) l) (xJ m (r + 12 + k) x)) (xl4_rule (F := yl196_25 B) (fun x0 x1 x2 x3 m' => x0 = r ∧ x1 = x ∧ x2 = l ∧ 0 ≤ x3 ∧ x3 ≤ M ∧ rowF m m' l ∧ (∀ c, 0 ≤ c → c < P → xJ m' (304 + c) l = xJ m (304 + c) l) ∧ xJ m' (304 + P) l = w64 (xJ m (304 + P) l + 1) ∧ (∀ c, P + 1 + 3 * x3 ≤ c → c < 33 → xJ m' (304 + c) l = xJ m (304 + c) l) ∧ ∀ k, 0 ≤ k → k < x3 → xJ m' (304 + (P + 1 + 3 * k)) l = w64 (xJ m (304 + (P + 1 + 3 * k)) l + xJ m (r + 12 + k) x) ∧ xJ m' (304 + (P + 1 + 3 * k + 1)) l = min (xJ m (304 + (P + 1 + 3 * k + 1)) l) (xJ m (r + 12 + k) x) ∧ xJ m' (304 + (P + 1 + 3 * k + 2)) l = max (xJ m (304 + (P + 1 + 3 * k + 2)) l) (xJ m (r + 12 + k) x)) (fun _ _ _ x3 _ => (M - x3).toNat) ?_ 1000000 r x l 0 (xw_u m (304 + P) l (xJ m (304 + P) l + 1)) ⟨rfl, rfl, rfl, by omega, by omega, rowF_u (rowF_refl m l) hP0 (by omega), fun c h1 h2 => by rw [xJ_u, if_neg (by omega)], by rw [xJ_u, if_pos ⟨rfl, rfl⟩], fun c h1 h2 => by rw [xJ_u, if_neg (by omega)], fun k h1 h2 => by omega⟩ (by omega))
  · obtain ⟨v, m', e, rfl, h⟩ := goal
    exact ⟨m', e, h⟩
  · intro q x0 x1 x2 x3 m2 ⟨a0, a1, a2, a3, a4, F, K, C, U, A⟩ ih
    subst a0 a1 a2
    have r32 : xR m2 3 2 = M := by rw [xR_cg (F.1 3 (by omega))]; exact h32
    have r5 : xR m2 302 5 = P := by rw [xR_cg (F.1 302 (by omega))]; exact h5
    unfold yl196_25
    rw [r32, r5]
    by_cases hm : x3 < M
    · obtain ⟨g1, g2, g3, g4⟩ := rw_a B hr (d := x3) a3 (by omega)
      have ra : xJ m2 (x0 + 12 + x3) = xJ m (x0 + 12 + x3) := xJ_cg (F.1 _ (by omega))
      obtain ⟨b1, b2⟩ := ce_ob (B := B) (c := P + 1 + 3 * x3) (by omega) (by omega)
      obtain ⟨b3, b4⟩ := ce_ob (B := B) (c := P + 1 + 3 * x3 + 1) (by omega) (by omega)
      obtain ⟨b5, b6⟩ := ce_ob (B := B) (c := P + 1 + 3 * x3 + 2) (by omega) (by omega)
      rw [if_pos hm, if_pos f1, f3, f16, if_pos ⟨a3, by omega⟩, if_pos g1, if_pos f11, g2, g4, if_pos ⟨hx.1, by omega⟩, if_pos g3, w32_id (x := P + 1 + 3 * x3) (by omega) (by omega), if_pos ⟨by omega, by omega⟩, b2, if_pos ⟨hl.1, by omega⟩, if_pos b1, if_pos ⟨by omega, by omega⟩, b4, if_pos ⟨hl.1, by omega⟩, if_pos b3, if_pos ⟨by omega, by omega⟩, b6, if_pos ⟨hl.1, by omega⟩, if_pos b5, w32_id (by omega) (by omega), ra]
      have v0 := U (P + 1 + 3 * x3) (by omega) (by omega)
      have v1 := U (P + 1 + 3 * x3 + 1) (by omega) (by omega)
      have v2 := U (P + 1 + 3 * x3 + 2) (by omega) (by omega)
      refine ih _ _ _ _ _ ⟨rfl, rfl, rfl, by omega, by omega, rowF_u (rowF_u (rowF_u F (by omega) (by omega)) (by omega) (by omega)) (by omega) (by omega), fun c h1 h2 => ?_, ?_, fun c h1 h2 => ?_, fun k h1 h2 => ?_⟩ (by omega)
      · rw [xJ_u, if_neg (by omega), xJ_u, if_neg (by omega), xJ_u, if_neg (by omega)]
        exact K c h1 h2
      · rw [xJ_u, if_neg (by omega), xJ_u, if_neg (by omega), xJ_u, if_neg (by omega)]
        exact C
      · rw [xJ_u, if_neg (by omega), xJ_u, if_neg (by omega), xJ_u, if_neg (by omega)]
        exact U c (by omega) h2
      · by_cases e : k = x3
        · subst e
          refine ⟨?_, ?_, ?_⟩
          · rw [xJ_u, if_neg (by omega), xJ_u, if_neg (by omega), xJ_u, if_pos ⟨rfl, rfl⟩, v0]
          · rw [xJ_u, if_neg (by omega), xJ_u, if_pos ⟨rfl, rfl⟩, xJ_u, if_neg (by omega), v1]
            exact w64_mn (w64_xJ _ _ _) (w64_xJ _ _ _)
          · rw [xJ_u, if_pos ⟨rfl, rfl⟩, xJ_u, if_neg (by omega), xJ_u, if_neg (by omega), v2]
            exact w64_mx (w64_xJ _ _ _) (w64_xJ _ _ _)
        · obtain ⟨k1, k2, k3⟩ := A k h1 (by omega)
          refine ⟨?_, ?_, ?_⟩
          · rw [xJ_u, if_neg (by omega), xJ_u, if_neg (by omega), xJ_u, if_neg (by omega)]
            exact k1
          · rw [xJ_u, if_neg (by omega), xJ_u, if_neg (by omega), xJ_u, if_neg (by omega)]
            exact k2
          · rw [xJ_u, if_neg (by omega), xJ_u, if_neg (by omega), xJ_u, if_neg (by omega)]
            exact k3
    · rw [if_neg hm, xH_ret]
      have em : x3 = M := by omega
      subst em
      exact ⟨rfl, F, K, C, A⟩
end SUMS
