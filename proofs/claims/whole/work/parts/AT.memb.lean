/-! THE CATALOG'S STATEMENTS, both sides: a member's values -/
def ME (c r : xw_M) (d L n : Int) (ρ : Int → Int) : Prop := prm ρ n ∧ (∀ l p, 0 ≤ l → l < L → 0 ≤ p → p < n → xR c (15 + 26 * d + 9 + l) p = xR r 540 (4000 * d + 4 * ρ p + l)) ∧ (∀ x y, 0 ≤ x → x < n → 0 ≤ y → y < n → xR r 540 (4000 * d + 4 * x + 0) = xR r 540 (4000 * d + 4 * y + 0) → x = y) ∧ hie r d L n
def MV (c r : xw_M) (d L n v : Int) : Prop := ∀ l, 0 ≤ l → l < v → l < L → xR c (15 + 26 * d + 9 + l) n = xR r 540 (4000 * d + 4 * n + l)
/-- what a member's values change -/
def fVc (d n : Int) (c c' : xw_M) : Prop := (∀ a, a ≠ 1 → ¬ (15 + 26 * d + 9 ≤ a ∧ a ≤ 15 + 26 * d + 12) → c' a = c a) ∧ (∀ l p, 0 ≤ l → l < 4 → p ≠ n → c' (15 + 26 * d + 9 + l) p = c (15 + 26 * d + 9 + l) p) ∧ ∀ k, (k < 2 ∨ 7 < k) → c' 1 k = c 1 k
def fVr (d n : Int) (r r' : xw_M) : Prop := (∀ a, a ≠ 536 → a ≠ 540 → r' a = r a) ∧ (∀ y, (y < 4000 * d + 4 * n ∨ 4000 * d + 4 * n + 4 ≤ y) → r' 540 y = r 540 y) ∧ ∀ k, (k < 6 ∨ 13 < k) → r' 536 k = r 536 k
theorem fVc_tr {d n : Int} {a b c : xw_M} (d0 : 0 ≤ d) (h : fVc d n a b) (k : fVc d n b c) : fVc d n a c := ⟨fun x x1 x2 => by rw [k.1 x x1 x2, h.1 x x1 x2], fun l p l0 l1 p1 => by rw [k.2.1 l p l0 l1 p1, h.2.1 l p l0 l1 p1], fun x hx => by rw [k.2.2 x hx, h.2.2 x hx]⟩
theorem fVr_tr {d n : Int} {a b c : xw_M} (h : fVr d n a b) (k : fVr d n b c) : fVr d n a c := ⟨fun x x1 x2 => by rw [k.1 x x1 x2, h.1 x x1 x2], fun y hy => by rw [k.2.1 y hy, h.2.1 y hy], fun x hx => by rw [k.2.2 x hx, h.2.2 x hx]⟩
theorem fVc_y {d n : Int} {c c' : xw_M} (d0 : 0 ≤ d) (h : fTy c c') : fVc d n c c' := ⟨fun a ha _ => h.1 a ha, fun l p l0 _ _ => by rw [h.1 _ (by omega)], h.2⟩
theorem fVr_y {d n : Int} {r r' : xw_M} (h : fRy r r') : fVr d n r r' := ⟨fun a ha _ => h.1 a ha, fun y _ => by rw [h.1 540 (by omega)], h.2⟩
section MVL
variable {B : Nat} {c r : xw_M} {D M : Int}
theorem fVc_cat {d n : Int} {c' : xw_M} (d0 : 0 ≤ d) (d8 : d < 8) (h : fVc d n c c') : fCat c c' := ⟨fun a a1 a2 => h.1 a a1 (by omega), h.2.2⟩
theorem fVr_cat {d n : Int} {r' : xw_M} (h : fVr d n r r') : fRat r r' := ⟨fun a a1 _ _ a4 _ _ => h.1 a a1 a4, fun k k1 _ _ => h.2.2 k k1⟩
theorem CT_v {d n : Int} {c' r' : xw_M} (d0 : 0 ≤ d) (d1 : d < D) (T : CT c r D M) (nm : xR c (15 + 26 * d) 11 ≤ n) (n1 : n < 1000) (f : fVc d n c c') (k : fVr d n r r') : CT c' r' D M := by
  have D8 := T.1.cn.1
  have M8 := T.1.cn.2.1
  have ob : ∀ e, 0 ≤ e → e < D → ∀ a, 15 + 26 * e ≤ a → a ≤ 15 + 26 * e + 8 → c' a = c a := fun e e0 e1 a a0 a1 => f.1 a (by omega) (by omega)
  refine CT_k T ⟨fun e e0 e1 => ⟨fun k _ => by rw [ob e e0 e1 _ (by omega) (by omega)], ob e e0 e1 _ (by omega) (by omega), fun l l0 l1 => ob e e0 e1 _ (by omega) (by omega), ob e e0 e1 _ (by omega) (by omega), fun l p l0 l1 p0 p1 => ?_⟩, fun j j0 j1 => ⟨f.1 _ (by omega) (by omega), by rw [f.1 14 (by omega) (by omega)]⟩⟩ ⟨fun e e0 e1 => ⟨⟨by rw [k.1 538 (by omega) (by omega)], by rw [k.1 539 (by omega) (by omega)]⟩, fun y y0 y1 => ?_, ⟨by rw [k.1 543 (by omega) (by omega)], fun i _ _ => by rw [k.1 542 (by omega) (by omega)]⟩, fun l _ _ => ⟨by rw [k.1 543 (by omega) (by omega)], fun i _ _ => by rw [k.1 542 (by omega) (by omega)]⟩⟩, fun j _ _ => ⟨by rw [k.1 543 (by omega) (by omega)], fun i _ _ => by rw [k.1 542 (by omega) (by omega)]⟩⟩ (by rw [xR_cg (f.1 3 (by omega) (by omega))]; exact T.1.cn.2.2.1) (by rw [xR_cg (f.1 3 (by omega) (by omega))]; exact T.1.cn.2.2.2.1) (by rw [xR_fld (k.2.2 14 (by omega))]; exact T.1.r14) (by rw [xR_fld (k.2.2 19 (by omega))]; exact T.1.r19)
  · by_cases q : e = d
    · subst q
      exact f.2.1 l p l0 l1 (by omega)
    · rw [f.1 _ (by omega) (by omega)]
  · have s3 := (T.1.sz e e0 e1).2.2.1
    have mb := (T.1.cn.2.2.2.2.1 e e0 e1).2.2.1
    have md := (T.1.cn.2.2.2.2.1 d d0 d1).2.2.1
    by_cases q : e = d
    · subst q
      exact k.2.1 _ (by omega)
    · exact k.2.1 _ (by omega)
theorem ME_v {d L n : Int} {ρ : Int → Int} {c' r' : xw_M} (L4 : L ≤ 4) (h : ME c r d L n ρ) (f : fVc d n c c') (k : fVr d n r r') : ME c' r' d L n ρ := by
  obtain ⟨h1, h2, h3, h4⟩ := h
  refine ⟨h1, fun l p l0 l1 p0 p1 => ?_, fun x y x0 x1 y0 y1 e => ?_, fun x y l x0 x1 y0 y1 l0 l1 e => ?_⟩
  · have := prm_lt h1 p0 p1
    rw [xR_fld (f.2.1 l p l0 (by omega) (by omega)), xR_fld (k.2.1 _ (by omega))]
    exact h2 l p l0 l1 p0 p1
  · rw [xR_fld (k.2.1 _ (by omega)), xR_fld (k.2.1 _ (by omega))] at e
    exact h3 x y x0 x1 y0 y1 e
  · rw [xR_fld (k.2.1 _ (by omega)), xR_fld (k.2.1 _ (by omega))] at e ⊢
    exact h4 x y l x0 x1 y0 y1 l0 l1 e
theorem w179 {d n bg v : Int} {R : Int → Int → Int → xw_M → xP} {R' : Int → Int → Int → Int → Int → xw_M → xP} : yk268_179 B R R' d n bg v r = xB (yf248 B r) fun _ m1 => mor B 41 (fun y m => R' d n bg (w32 (v + 1)) y m) m1 := rfl
/-- the values, one behind another -/
theorem val_l {d L n bg : Int} {R : Int → Int → Int → xw_M → xP} (d0 : 0 ≤ d) (d8 : d < 8) (L4 : L ≤ 4) (h10 : xR c (15 + 26 * d) 10 = L) (h12 : xR c (15 + 26 * d) 12 = n) (h538 : xR r 538 d = L) (n0 : 0 ≤ n) (n1 : n < 1000) : ∀ (z N N' : Nat) (v : Int) (c5 r5 : xw_M), (xR c5 1 1 - xR c5 1 2).toNat < z → z < N → z + 1 < N' → 0 ≤ v → v + 1 ≤ xR c5 1 2 → PS c5 r5 → MV c5 r5 d L n v → fVc d n c c5 → fVr d n r r5 → xR c 1 2 ≤ xR c5 1 2 → (∃ (c' r' : xw_M) (v' : Int) (N2 : Nat), xl3 (yl142_4 B) N (15 + 26 * d) v v c5 = some (.inl v', c') ∧ xl5 (yl268_114 B R) N' d n bg v 1 r5 = xl5 (yl268_114 B R) (N2 + 1) d n bg v' 0 r' ∧ TK c' r' ∧ MV c' r' d L n v' ∧ fVc d n c c' ∧ fVr d n r r' ∧ xR c 1 2 ≤ xR c' 1 2) ∨ (∃ (c' r' : xw_M) (v' : Int) (N2 : Nat), xl3 (yl142_4 B) N (15 + 26 * d) v v c5 = some (.inr 14, c') ∧ xl5 (yl268_114 B R) N' d n bg v 1 r5 = xl5 (yl268_114 B R) (N2 + 1) d n bg v' 0 r' ∧ FL c' r' ∧ fVc d n c c' ∧ fVr d n r r') := by
  have o0 := (dm_f B d0 d8).1
  have wr : ∀ (v x : Int) (m : xw_M) (X : xw_M → xP), 0 ≤ v → v < L → xR m (15 + 26 * d) 12 = n → (if (0 : Int) ≤ v ∧ v < (xw_le B (xw_rf (15 + 26 * d) 3)) then if 5 ≤ xw_kd (xw_rf (15 + 26 * d) 3) v then if xw_obb 20 (xw_rf (15 + 26 * d) 3) = true then if (0 : Int) ≤ (xR m (15 + 26 * d) 12) ∧ (xR m (15 + 26 * d) 12) < (xw_le B (xw_rf (xw_rf (15 + 26 * d) 3) v)) then if xw_obb 16 (xw_rf (xw_rf (15 + 26 * d) 3) v) = true then X (xw_u m (xw_rf (xw_rf (15 + 26 * d) 3) v) (xR m (15 + 26 * d) 12) x) else none else none else none else none else none) = X (xw_u m (15 + 26 * d + 9 + v) n x) := by
    intro v x m X v0 v1 hm
    have vb : 0 ≤ v ∧ v < 4 := ⟨v0, by omega⟩
    have nb : 0 ≤ n ∧ n < 1000 := ⟨n0, n1⟩
    obtain ⟨_, ⟨_, _, _, r3, _⟩, ⟨_, _, _, ob8, _⟩, ⟨_, _, _, le8, _⟩⟩ := dm_f B d0 d8
    obtain ⟨⟨kd, rf, ob, le⟩, _⟩ := dm_l B d0 d8 vb.1 vb.2
    rw [r3, le8, if_pos vb, if_pos kd, if_pos ob8, rf, le, hm, if_pos nb, if_pos ob]
  intro z
  induction z with
  | zero => intro N N' v c5 r5 hz; omega
  | succ z ih =>
    intro N N' v c5 r5 hz zN zN' v0 v1 h MVv fc fr lea
    cases N with
    | zero => omega
    | succ N =>
    cases N' with
    | zero => omega
    | succ N' =>
    cases N' with
    | zero => omega
    | succ N' =>
    have tx := h.1.2.2.1
    have at1 := h.2.2.2.1
    have e1 : xl3 (yl142_4 B) (N + 1) (15 + 26 * d) v v c5 = (xB (yf68 B 3 c5) fun _ m1 => if xw_obb 3 (15 + 26 * d) = true then if v < (xR m1 (15 + 26 * d) 10) then (if (0 : Int) ≤ v ∧ v < (xw_le B (xw_rf (15 + 26 * d) 3)) then if 5 ≤ xw_kd (xw_rf (15 + 26 * d) 3) v then if xw_obb 20 (xw_rf (15 + 26 * d) 3) = true then if (0 : Int) ≤ (xR m1 (15 + 26 * d) 12) ∧ (xR m1 (15 + 26 * d) 12) < (xw_le B (xw_rf (xw_rf (15 + 26 * d) 3) v)) then if xw_obb 16 (xw_rf (xw_rf (15 + 26 * d) 3) v) = true then (yk142_44 B (xl3 (yl142_4 B) N) (15 + 26 * d) v v (xw_u m1 (xw_rf (xw_rf (15 + 26 * d) 3) v) (xR m1 (15 + 26 * d) 12) (xR m1 1 5))) else none else none else none else none else none) else (yk142_44 B (xl3 (yl142_4 B) N) (15 + 26 * d) v v m1) else none) := by
      show yl142_4 B (xl3 (yl142_4 B) N) (15 + 26 * d) v v c5 = _
      generalize xl3 (yl142_4 B) N = Q
      unfold yl142_4
      rw [if_pos (show v < 65536 by omega)]
    have e2 : xl5 (yl268_114 B R) (N' + 1 + 1) d n bg v 1 r5 = (xB (yf248 B r5) fun _ m7 => if (xR m7 536 10) = 2 then (xB (yf258 B 1 m7) fun v8 m8 => if v8 = 0 then (yk268_179 B R (xl5 (yl268_114 B R) (N' + 1)) d n bg v m8) else (if (0 : Int) ≤ d ∧ d < 8 then if v < (xR m8 538 d) then (if (0 : Int) ≤ (((4000 * d) + (4 * n)) + v) ∧ (((4000 * d) + (4 * n)) + v) < 32000 then (yk268_179 B R (xl5 (yl268_114 B R) (N' + 1)) d n bg v (xw_u m8 540 (((4000 * d) + (4 * n)) + v) (xR m8 536 12))) else none) else (yk268_179 B R (xl5 (yl268_114 B R) (N' + 1)) d n bg v m8) else none)) else (xB (yf258 B 0 m7) fun v9 m9 => if v9 = 0 then (yk268_179 B R (xl5 (yl268_114 B R) (N' + 1)) d n bg v m9) else (if (0 : Int) ≤ d ∧ d < 8 then if v < (xR m9 538 d) then (if (0 : Int) ≤ (((4000 * d) + (4 * n)) + v) ∧ (((4000 * d) + (4 * n)) + v) < 32000 then (yk268_179 B R (xl5 (yl268_114 B R) (N' + 1)) d n bg v (xw_u m9 540 (((4000 * d) + (4 * n)) + v) (xR m9 536 12))) else none) else (yk268_179 B R (xl5 (yl268_114 B R) (N' + 1)) d n bg v m9) else none))) := by
      show yl268_114 B R (xl5 (yl268_114 B R) (N' + 1)) d n bg v 1 r5 = _
      generalize xl5 (yl268_114 B R) (N' + 1) = Q
      unfold yl268_114
      rw [if_neg (show ¬ (1 : Int) = 0 by decide)]
    rw [e1, e2]
    unfold yf68
    rw [xB_as]
    rcases nx (B := B) h with ⟨_, c6, _, r6, y1, y2, s⟩ | ⟨c6, _, r6, y1, y2, F, z⟩
    · rw [y1, y2, xB_ret, xB_ret]
      have ni := isn s.1
      have fc6 : fVc d n c c6 := fVc_tr d0 fc (fVc_y d0 (fTy_of s.2.1))
      have fr6 : fVr d n r r6 := fVr_tr fr (fVr_y (fRy_of s.2.2.1))
      by_cases k3 : xR c6 1 3 = 3
      · rw [if_pos k3, xB_ret, if_pos (ni.1.mpr k3), ok258 s.1.nf, xB_ret, if_neg (show ¬ (1 : Int) = 0 by decide), if_pos o0, if_pos (show 0 ≤ d ∧ d < 8 from ⟨d0, d8⟩)]
        have x10 : xR c6 (15 + 26 * d) 10 = L := by rw [xR_cg (fc6.1 _ (by omega) (by omega))]; exact h10
        have x12 : xR c6 (15 + 26 * d) 12 = n := by rw [xR_cg (fc6.1 _ (by omega) (by omega))]; exact h12
        have x538 : xR r6 538 d = L := by rw [xR_cg (fr6.1 538 (by omega) (by omega))]; exact h538
        rw [x10, x538]
        have num := ni.2 k3
        -- the value is laid down on both sides
        obtain ⟨c7, r7, ec, er, t7, M7, fc7, fr7, m7⟩ : ∃ c7 r7 : xw_M, (if v < L then (if (0 : Int) ≤ v ∧ v < (xw_le B (xw_rf (15 + 26 * d) 3)) then if 5 ≤ xw_kd (xw_rf (15 + 26 * d) 3) v then if xw_obb 20 (xw_rf (15 + 26 * d) 3) = true then if (0 : Int) ≤ (xR c6 (15 + 26 * d) 12) ∧ (xR c6 (15 + 26 * d) 12) < (xw_le B (xw_rf (xw_rf (15 + 26 * d) 3) v)) then if xw_obb 16 (xw_rf (xw_rf (15 + 26 * d) 3) v) = true then (yk142_44 B (xl3 (yl142_4 B) N) (15 + 26 * d) v v (xw_u c6 (xw_rf (xw_rf (15 + 26 * d) 3) v) (xR c6 (15 + 26 * d) 12) (xR c6 1 5))) else none else none else none else none else none) else (yk142_44 B (xl3 (yl142_4 B) N) (15 + 26 * d) v v c6)) = yk142_44 B (xl3 (yl142_4 B) N) (15 + 26 * d) v v c7 ∧ (if v < L then (if (0 : Int) ≤ (((4000 * d) + (4 * n)) + v) ∧ (((4000 * d) + (4 * n)) + v) < 32000 then (yk268_179 B R (xl5 (yl268_114 B R) (N' + 1)) d n bg v (xw_u r6 540 (((4000 * d) + (4 * n)) + v) (xR r6 536 12))) else none) else (yk268_179 B R (xl5 (yl268_114 B R) (N' + 1)) d n bg v r6)) = yk268_179 B R (xl5 (yl268_114 B R) (N' + 1)) d n bg v r7 ∧ TK c7 r7 ∧ MV c7 r7 d L n (v + 1) ∧ fVc d n c c7 ∧ fVr d n r r7 ∧ c7 1 = c6 1 := by
          have M6 : MV c6 r6 d L n v := fun l l0 l1 l2 => by rw [xR_cg (s.2.1.1 _ (by omega)), xR_cg (s.2.2.1.1 540 (by omega))]; exact MVv l l0 l1 l2
          by_cases vL : v < L
          · rw [if_pos vL, if_pos vL, wr v _ c6 (fun m => yk142_44 B (xl3 (yl142_4 B) N) (15 + 26 * d) v v m) v0 vL x12, if_pos (show 0 ≤ 4000 * d + 4 * n + v ∧ 4000 * d + 4 * n + v < 32000 by omega)]
            refine ⟨_, _, rfl, rfl, TK_fr s.1 (fun k _ _ => by rw [xu_c (by omega)]) (xu_c (by omega)) (fun k _ _ => by rw [xu_c (by omega)]) (xu_c (by omega)), fun l l0 l1 l2 => ?_, fVc_tr d0 fc6 ⟨fun a _ hb => xu_c (by omega), fun l p _ _ pn => xu_ne (by omega), fun k _ => by rw [xu_c (by omega)]⟩, fVr_tr fr6 ⟨fun a _ ha => xu_c ha, fun y hy => xu_ne (by omega), fun k _ => by rw [xu_c (by omega)]⟩, xu_c (by omega)⟩
            by_cases q : l = v
            · subst q
              rw [xR_at (w32_xR _ _ _), xR_at (w32_xR _ _ _)]
              exact num
            · rw [xR_ne (by omega), xR_ne (by omega)]
              exact M6 l l0 (by omega) l2
          · rw [if_neg vL, if_neg vL]
            exact ⟨c6, r6, rfl, rfl, s.1, fun l l0 l1 l2 => M6 l l0 (by omega) l2, fc6, fr6, rfl⟩
        rw [ec, er, w179]
        clear ec er wr
        unfold yk142_44
        have at6 := s.2.2.2.2 (by omega)
        have wv : w32 (v + 1) = v + 1 := w32_id (by omega) (by omega)
        have len6 : xR c6 1 1 = xR c5 1 1 := xR_fld (s.2.1.2 1 (by omega))
        rcases nx (B := B) t7.1 with ⟨_, c8, _, r8, y1, y2, s8⟩ | ⟨c8, _, r8, y1, y2, F, z⟩
        · rw [y1, y2, xB_ret, xB_ret, wv]
          have fc8 : fVc d n c c8 := fVc_tr d0 fc7 (fVc_y d0 (fTy_of s8.2.1))
          have fr8 : fVr d n r r8 := fVr_tr fr7 (fVr_y (fRy_of s8.2.2.1))
          have M8 : MV c8 r8 d L n (v + 1) := fun l l0 l1 l2 => by rw [xR_cg (s8.2.1.1 _ (by omega)), xR_cg (s8.2.2.1.1 540 (by omega))]; exact M7 l l0 l1 l2
          have le8 := s8.2.2.2.1
          rw [xR_cg m7] at le8
          have len8 : xR c8 1 1 = xR c5 1 1 := by rw [xR_fld (s8.2.1.2 1 (by omega)), xR_cg m7, len6]
          have at8 := s8.1.1.2.2.2.1
          unfold mor
          rw [iss (K := 44) (g := 44) s8.1 rfl (Or.inl rfl), xB_ret]
          by_cases k44 : xR c8 1 3 = 44
          · rw [if_pos k44, if_pos k44, if_neg (show ¬ (1 : Int) = 0 by decide), ok258 s8.1.nf, xB_ret, if_neg (show ¬ (1 : Int) = 0 by decide), iss (K := 44) (g := 44) s8.1 rfl (Or.inl rfl), xB_ret, if_pos k44, if_neg (show ¬ (1 : Int) = 0 by decide)]
            exact ih N (N' + 1) (v + 1) c8 r8 (by omega) (by omega) (by omega) (by omega) (by omega) s8.1.1 M8 fc8 fr8 (by omega)
          · rw [if_neg k44, if_neg k44, if_pos (show (0 : Int) = 0 from rfl), iss (K := 41) (g := 41) s8.1 rfl (Or.inl rfl), xB_ret]
            unfold yk142_75
            by_cases k41 : xR c8 1 3 = 41
            · rw [if_pos k41, if_pos k41, if_neg (show ¬ (1 : Int) = 0 by decide), ok258 s8.1.nf, xB_ret, if_neg (show ¬ (1 : Int) = 0 by decide), iss (K := 44) (g := 44) s8.1 rfl (Or.inl rfl), xB_ret, if_neg k44, if_pos (show (0 : Int) = 0 from rfl)]
              exact Or.inl ⟨c8, r8, v + 1, N', rfl, rfl, s8.1, M8, fc8, fr8, by omega⟩
            · obtain ⟨c9, r9, z1, z2, X, f1, f2⟩ := fhere (B := B) s8.1
              rw [if_neg k41, if_neg k41, if_pos (show (0 : Int) = 0 from rfl), z1, z2, xB_thr, xB_ret, if_pos (show (0 : Int) = 0 from rfl)]
              exact Or.inr ⟨c9, r9, v + 1, N', rfl, rfl, X, fVc_tr d0 fc8 (fVc_y d0 f1), fVr_tr fr8 (fVr_y f2)⟩
        · rw [y1, y2, xB_thr, xB_ret, mor_d F.1]
          exact Or.inr ⟨c8, r8, w32 (v + 1), N', rfl, rfl, F, fVc_tr d0 fc7 (fVc_y d0 z.1), fVr_tr fr7 (fVr_y z.2)⟩
      · obtain ⟨c7, r7, z1, z2, X, f1, f2⟩ := fhere (B := B) s.1
        rw [if_neg k3, if_neg (fun q => k3 (ni.1.mp q)), z1, z2, xB_thr, xB_thr, xB_ret, if_pos rfl, w179, d248 X.1, xB_ret, mor_d X.1]
        exact Or.inr ⟨c7, r7, w32 (v + 1), N', rfl, rfl, X, fVc_tr d0 fc6 (fVc_y d0 f1), fVr_tr fr6 (fVr_y f2)⟩
    · rw [y1, y2, xB_thr, xB_ret, d258 F.1, d258 F.1, xB_ret, if_pos rfl, ite_self, w179, d248 F.1, xB_ret, mor_d F.1]
      exact Or.inr ⟨c6, r6, w32 (v + 1), N', rfl, rfl, F, fVc_tr d0 fc (fVc_y d0 z.1), fVr_tr fr (fVr_y z.2)⟩
end MVL
