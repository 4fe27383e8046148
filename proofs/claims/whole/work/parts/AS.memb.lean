/-! THE CATALOG'S STATEMENTS, both sides: dimension as a whole; do members clash -/
section DMN
variable {B : Nat} {c r : xw_M} {D M : Int}
theorem dimn_ok (h : TK c r) (T : CT c r D M) : duo (yf134 B c) (yf259 B r) (fun _ c' _ r' => TK c' r' ∧ CT c' r' (D + 1) M ∧ fCat c c' ∧ fRat r r' ∧ xR c 1 2 ≤ xR c' 1 2) (fun c' _ r' => CT c' r' D M ∧ fCat c c' ∧ fRat r r') := by
  have d42 : ∀ r' : xw_M, 0 < xR r' 536 6 → yk259_42 B r' = some (.inl 0, r') := fun r' d => by
    unfold yk259_42
    rw [d265 d, xB_ret]
    generalize hN : (1000000 : Nat) = N
    obtain ⟨N1, rfl⟩ : ∃ N1, N = N1 + 1 := ⟨N - 1, by omega⟩
    exact d53 d
  have e : yf134 B c = xB (xB (yf47 B c) fun _ m1 => yf135 B m1) fun _ m2 => xB (yf64 B (xR m2 3 1) 8 m2) fun _ m3 => if (0 : Int) ≤ (xR m3 3 1) ∧ (xR m3 3 1) < 8 then if xw_obb 3 (15 + (26 * (xR m3 3 1))) = true then xB (yf136 B (15 + (26 * (xR m3 3 1))) m3) fun _ m4 => xB (yf68 B 40 m4) fun _ m5 => xl2 (yl134_59 B) 1000000 (15 + (26 * (xR m3 3 1))) 0 m5 else none else none := by
    unfold yf134
    rw [xB_as]
  rw [e]
  clear e
  unfold yf259
  refine duo_B (newn h.1 T.1) (fun v c1 w r1 p => ?_) (fun c1 w r1 F z => ?_)
  · obtain ⟨w1, s, L⟩ := p
    have T1 := CT_x T s.2.1 s.2.2.1
    have D8 := T1.1.cn.1
    have M8 := T1.1.cn.2.1
    rw [T1.1.cn.2.2.1, if_neg (show ¬ w = 0 by omega), T1.1.r14]
    unfold yf64
    by_cases m8 : D < 8
    · have e136 : ∀ v c2, yf137 B (15 + 26 * D + 1) c1 = some (.inl v, c2) → yf136 B (15 + 26 * D) c1 = some (.inl 0, xw_u (xw_u (xw_u c2 (15 + 26 * D) 9 v) (15 + 26 * D) 10 0) (15 + 26 * D) 11 0) := fun v c2 z => by
        obtain ⟨o0, ⟨r0, _⟩, _⟩ := dm_f B D8.1 m8
        unfold yf136
        rw [if_pos o0, r0, z, xB_ret]
      have ob : xw_obb 18 (15 + 26 * D + 1) = true ∧ xw_le B (15 + 26 * D + 1) = 40 := ⟨(dm_f B D8.1 m8).2.2.1.1, (dm_f B D8.1 m8).2.2.2.1⟩
      have o0 := (dm_f B D8.1 m8).1
      rw [if_pos m8, if_pos m8, xB_ret, ok254 s.1.nf, xB_ret, if_neg (show ¬ (1 : Int) = 0 by decide), T1.1.r14, T1.1.cn.2.2.1, if_pos ⟨D8.1, m8⟩, if_pos o0]
      clear o0
      obtain ⟨c2, r2, z1, z2, f1, g1, g2, g3, nm, n8⟩ := keepn (B := B) (a := 15 + 26 * D + 1) (j := D) s.1 ob.1 ob.2 L (by omega) D8.1 (by omega)
      clear ob
      rw [e136 _ c2 z1, xB_ret, z2, xB_ret]
      clear e136
      have nm0 := nm.1
      generalize xR c1 1 2 - xR c1 1 4 = L' at *
      generalize hc3 : xw_u (xw_u (xw_u c2 (15 + 26 * D) 9 L') (15 + 26 * D) 10 0) (15 + 26 * D) 11 0 = c3
      have ec : ∀ a, a ≠ 15 + 26 * D → a ≠ 15 + 26 * D + 1 → c3 a = c1 a := fun a a1 a2 => by rw [← hc3, xu_c a1, xu_c a1, xu_c a1, f1 a a2]
      have x9 : xR c3 (15 + 26 * D) 9 = L' := by rw [← hc3, xR_ne (by omega), xR_ne (by omega)]; exact xR_at (w32_id (by omega) (by omega))
      have x10 : xR c3 (15 + 26 * D) 10 = 0 := by rw [← hc3, xR_ne (by omega)]; exact xR_at (by decide)
      have x11 : xR c3 (15 + 26 * D) 11 = 0 := by rw [← hc3]; exact xR_at (by decide)
      have x1 : c3 (15 + 26 * D + 1) = c2 (15 + 26 * D + 1) := by rw [← hc3, xu_c (by omega), xu_c (by omega), xu_c (by omega)]
      have nmo : ∀ j, 0 ≤ j → j ≠ D → nmk r1 r2 j := fun j j0 j1 => ⟨g2 j j1, fun i i0 i1 => g3 _ (by omega)⟩
      have T3 : CT c3 r2 D M := CT_k T1 ⟨fun d d0 d1 => ⟨fun k _ => by rw [ec (15 + 26 * d) (by omega) (by omega)], ec _ (by omega) (by omega), fun l l0 l1 => ec _ (by omega) (by omega), ec _ (by omega) (by omega), fun l p l0 l1 _ _ => by rw [ec _ (by omega) (by omega)]⟩, fun k k0 k1 => ⟨ec _ (by omega) (by omega), by rw [ec 14 (by omega) (by omega)]⟩⟩ ⟨fun d d0 d1 => ⟨⟨by rw [g1 538 (by omega) (by omega)], by rw [g1 539 (by omega) (by omega)]⟩, fun y _ _ => by rw [g1 540 (by omega) (by omega)], nmo d d0 (by omega), fun l l0 l1 => nmo _ (by omega) (by omega)⟩, fun k k0 k1 => nmo _ (by omega) (by omega)⟩ (by rw [xR_cg (ec 3 (by omega) (by omega))]; exact T1.1.cn.2.2.1) (by rw [xR_cg (ec 3 (by omega) (by omega))]; exact T1.1.cn.2.2.2.1) (by rw [xR_cg (g1 536 (by omega) (by omega))]; exact T1.1.r14) (by rw [xR_cg (g1 536 (by omega) (by omega))]; exact T1.1.r19)
      have N3 : DN c3 r2 D 0 := ⟨x10, x11, by decide, ⟨by rw [x9]; exact nmq_fr nm x1 rfl rfl, fun i i0 i1 => by rw [x9] at i1; rw [xR_cg x1]; exact n8 i i0 i1⟩, fun l l0 l1 => by omega⟩
      have t3 : TK c3 r2 := TK_fr s.1 (fun k _ _ => by rw [ec 1 (by omega) (by omega)]) (ec 2 (by omega) (by omega)) (fun k _ _ => by rw [g1 536 (by omega) (by omega)]) (g1 537 (by omega) (by omega))
      have fc3 : fCat c c3 := fCat_tr (fCat_x s.2.1) ⟨fun a _ hb => ec a (by omega) (by omega), fun k _ => by rw [ec 1 (by omega) (by omega)]⟩
      have fr3 : fRat r r2 := fRat_tr (fRat_x s.2.2.1) ⟨fun a _ _ _ _ a5 a6 => g1 a a5 a6, fun k _ _ _ => by rw [g1 536 (by omega) (by omega)]⟩
      unfold yk259_42
      generalize hN : (1000000 : Nat) = N
      refine duo_B (esg (K := 40) (g := 40) t3.1 rfl (Or.inl rfl)) (fun v c4 w4 r4 s4 => ?_) (fun c4 w4 r4 F z => ?_)
      · obtain ⟨w4', k4, s4⟩ := s4
        rw [w4']
        exact dim_l m8 5 N N 0 c4 r4 (by decide) (by omega) (by omega) s4.1.1 (CT_x T3 s4.2.1 s4.2.2.1) (DN_fr N3 (fun a a0 a1 => s4.2.1.1 a (by omega)) (s4.2.2.1.1 542 (by omega)) (s4.2.2.1.1 543 (by omega))) (fCat_tr fc3 (fCat_x s4.2.1)) (fRat_tr fr3 (fRat_x s4.2.2.1)) (by have a := s.2.2.2.1; have b := s4.2.2.2.1; rw [xR_cg (ec 1 (by omega) (by omega))] at b; omega)
      · rw [z.1]
        obtain ⟨N1, rfl⟩ : ∃ N1, N = N1 + 1 := ⟨N - 1, by omega⟩
        exact ⟨0, r4, d53 F.1, F, CT_y T3 z.2.1 z.2.2, fCat_tr fc3 (fCat_y z.2.1), fRat_tr fr3 (fRat_y z.2.2)⟩
    · rw [if_neg m8, if_neg m8, no254 s.1.nf (by decide) (by decide), xB_ret, if_pos rfl]
      unfold yf54
      rw [xB_thr, xB_thr]
      have X := flt (c := c1) (r := r1) (f := 7) (p := xR c1 1 4) (p' := xR r1 536 9) (by decide) (by decide) (w32_xR _ _ _) s.1.2.1.1
      rw [d42 _ X.1.1]
      exact duo_f X.1 ⟨CT_y T1 X.2.1 X.2.2, fCat_tr (fCat_x s.2.1) (fCat_y X.2.1), fRat_tr (fRat_x s.2.2.1) (fRat_y X.2.2)⟩
  · exact ⟨0, r1, by rw [if_pos z.1, d42 r1 F.1], F, CT_y T z.2.1 z.2.2, fCat_y z.2.1, fRat_y z.2.2⟩
end DMN
/-! do members clash -/
/-- from level l on (a: the level before is alike): alike, then not -/
def srch (e : Int → Prop) (L a l : Int) : Prop := (a = 1 ∧ l < L ∧ ¬ e l) ∨ ∃ k, l ≤ k ∧ k + 1 < L ∧ e k ∧ ¬ e (k + 1)
theorem srch_y {e : Int → Prop} {L a l : Int} (h : l < L) (he : e l) : srch e L a l ↔ srch e L 1 (l + 1) := by
  constructor
  · rintro (⟨_, _, k⟩ | ⟨k, k0, k1, k2, k3⟩)
    · exact absurd he k
    · by_cases q : k = l
      · subst q; exact Or.inl ⟨rfl, k1, k3⟩
      · exact Or.inr ⟨k, by omega, k1, k2, k3⟩
  · rintro (⟨_, k1, k⟩ | ⟨k, k0, k1, k2, k3⟩)
    · exact Or.inr ⟨l, Int.le_refl _, k1, he, k⟩
    · exact Or.inr ⟨k, by omega, k1, k2, k3⟩
theorem srch_n {e : Int → Prop} {L l : Int} (he : ¬ e l) : srch e L 0 l ↔ srch e L 0 (l + 1) := by
  constructor
  · rintro (⟨k, _⟩ | ⟨k, k0, k1, k2, k3⟩)
    · omega
    · refine Or.inr ⟨k, ?_, k1, k2, k3⟩
      by_cases q : k = l
      · rw [q] at k2; exact absurd k2 he
      · omega
  · rintro (⟨k, _⟩ | ⟨k, k0, k1, k2, k3⟩)
    · omega
    · exact Or.inr ⟨k, by omega, k1, k2, k3⟩
theorem srch_z {e : Int → Prop} {L a l : Int} (h : L ≤ l) : ¬ srch e L a l := by
  rintro (⟨_, k, _⟩ | ⟨k, k0, k1, _⟩) <;> omega
section CLS
variable {B : Nat} {c r : xw_M}
/-- one member against the one in the making, by the class -/
theorem cls_c1 {d n L x : Int} {R : Int → Int → xw_M → xP} (d0 : 0 ≤ d) (d8 : d < 8) (h10 : xR c (15 + 26 * d) 10 = L) (L4 : L ≤ 4) (h12 : xR c (15 + 26 * d) 12 = n) (n0 : 0 ≤ n) (n1 : n < 1000) (x0 : 0 ≤ x) (xn : x < n) : ∀ (N : Nat) (a l : Int), (a = 0 ∨ a = 1) → 0 ≤ l → (L - l).toNat < N → (srch (fun l => xR c (15 + 26 * d + 9 + l) x = xR c (15 + 26 * d + 9 + l) n) L a l → xl4 (yl143_38 B R) N (15 + 26 * d) x a l c = some (.inl 1, c)) ∧ (¬ srch (fun l => xR c (15 + 26 * d + 9 + l) x = xR c (15 + 26 * d + 9 + l) n) L a l → xl4 (yl143_38 B R) N (15 + 26 * d) x a l c = R (15 + 26 * d) (x + 1) c) := by
  obtain ⟨o0, ⟨_, _, _, r3, _⟩, ⟨_, _, _, ob8, _⟩, ⟨_, _, _, le8, _⟩⟩ := dm_f B d0 d8
  have st : ∀ l, 0 ≤ l → l < L → ∀ A C : xP, (if (0 : Int) ≤ l ∧ l < (xw_le B (xw_rf (15 + 26 * d) 3)) then if 5 ≤ xw_kd (xw_rf (15 + 26 * d) 3) l then if xw_obb 20 (xw_rf (15 + 26 * d) 3) = true then if (0 : Int) ≤ x ∧ x < (xw_le B (xw_rf (xw_rf (15 + 26 * d) 3) l)) then if xw_obb 16 (xw_rf (xw_rf (15 + 26 * d) 3) l) = true then if (0 : Int) ≤ (xR c (15 + 26 * d) 12) ∧ (xR c (15 + 26 * d) 12) < (xw_le B (xw_rf (xw_rf (15 + 26 * d) 3) l)) then if (xR c (xw_rf (xw_rf (15 + 26 * d) 3) l) x) = (xR c (xw_rf (xw_rf (15 + 26 * d) 3) l) (xR c (15 + 26 * d) 12)) then A else C else none else none else none else none else none else none) = if xR c (15 + 26 * d + 9 + l) x = xR c (15 + 26 * d + 9 + l) n then A else C := by
    intro l l0 l1 A C
    have lb : 0 ≤ l ∧ l < 4 := ⟨l0, by omega⟩
    have xb : 0 ≤ x ∧ x < 1000 := ⟨x0, by omega⟩
    have nb : 0 ≤ n ∧ n < 1000 := ⟨n0, n1⟩
    obtain ⟨⟨kd, rf, ob, le⟩, _⟩ := dm_l B d0 d8 lb.1 lb.2
    rw [r3, le8, if_pos lb, if_pos kd, if_pos ob8, rf, le, if_pos xb, if_pos ob, h12, if_pos nb]
  clear r3 ob8 le8
  intro N
  induction N with
  | zero => intro a l _ _ h; omega
  | succ N ih =>
    intro a l ha l0 hN
    have IH := ih
    show (_ → yl143_38 B R (xl4 (yl143_38 B R) N) (15 + 26 * d) x a l c = _) ∧ (_ → yl143_38 B R (xl4 (yl143_38 B R) N) (15 + 26 * d) x a l c = _)
    generalize xl4 (yl143_38 B R) N = R' at IH ⊢
    unfold yl143_38
    rw [if_pos o0, h10]
    by_cases e : l < L
    · rw [if_pos e, st l l0 e, w32_id (x := l + 1) (by omega) (by omega)]
      by_cases q : xR c (15 + 26 * d + 9 + l) x = xR c (15 + 26 * d + 9 + l) n
      · have I := IH 1 (l + 1) (Or.inr rfl) (by omega) (by omega)
        rw [if_pos q, srch_y e q]
        have same : (if a = 0 then R' (15 + 26 * d) x 1 (l + 1) c else R' (15 + 26 * d) x 1 (l + 1) c) = R' (15 + 26 * d) x 1 (l + 1) c := by split <;> rfl
        rw [same]
        exact I
      · rw [if_neg q]
        by_cases a0 : a = 0
        · rw [if_pos a0]
          subst a0
          rw [srch_n (e := fun l => xR c (15 + 26 * d + 9 + l) x = xR c (15 + 26 * d + 9 + l) n) (l := l) q]
          exact IH 0 (l + 1) (Or.inl rfl) (by omega) (by omega)
        · rw [if_neg a0]
          exact ⟨fun _ => rfl, fun h => absurd (Or.inl ⟨by omega, e, q⟩) h⟩
    · rw [if_neg e, w32_id (x := x + 1) (by omega) (by omega)]
      exact ⟨fun h => absurd h (srch_z (by omega)), fun _ => rfl⟩
theorem cls_r1 {d n L k : Int} {R : Int → Int → Int → Int → xw_M → xP} (d0 : 0 ≤ d) (d8 : d < 8) (h538 : xR r 538 d = L) (L4 : L ≤ 4) (n0 : 0 ≤ n) (n1 : n < 1000) (k0 : 0 ≤ k) (kn : k < n) : ∀ (N : Nat) (a l : Int), (a = 0 ∨ a = 1) → 0 ≤ l → (L - l).toNat < N → (srch (fun l => xR r 540 (4000 * d + 4 * k + l) = xR r 540 (4000 * d + 4 * n + l)) L a l → xl7 (yl269_55 B R) N d n (4000 * d + 4 * n) k (4000 * d + 4 * k) a l r = some (.inl 0, r)) ∧ (¬ srch (fun l => xR r 540 (4000 * d + 4 * k + l) = xR r 540 (4000 * d + 4 * n + l)) L a l → xl7 (yl269_55 B R) N d n (4000 * d + 4 * n) k (4000 * d + 4 * k) a l r = R d n (4000 * d + 4 * n) (k + 1) r) := by
  intro N
  induction N with
  | zero => intro a l _ _ h; omega
  | succ N ih =>
    intro a l ha l0 hN
    have IH := ih
    show (_ → yl269_55 B R (xl7 (yl269_55 B R) N) d n (4000 * d + 4 * n) k (4000 * d + 4 * k) a l r = _) ∧ (_ → yl269_55 B R (xl7 (yl269_55 B R) N) d n (4000 * d + 4 * n) k (4000 * d + 4 * k) a l r = _)
    generalize xl7 (yl269_55 B R) N = R' at IH ⊢
    unfold yl269_55 yk269_95
    rw [if_pos ⟨d0, d8⟩, h538]
    by_cases e : l < L
    · have bk : 0 ≤ 4000 * d + 4 * k + l ∧ 4000 * d + 4 * k + l < 32000 := by omega
      have bn : 0 ≤ 4000 * d + 4 * n + l ∧ 4000 * d + 4 * n + l < 32000 := by omega
      rw [if_pos e, w32_id (x := l + 1) (by omega) (by omega)]
      by_cases q : xR r 540 (4000 * d + 4 * k + l) = xR r 540 (4000 * d + 4 * n + l)
      · have I := IH 1 (l + 1) (Or.inr rfl) (by omega) (by omega)
        rw [srch_y e q]
        by_cases a0 : a = 0
        · rw [if_pos a0, if_pos a0, if_pos bk, if_pos bn, if_pos q]; exact I
        · rw [if_neg a0, if_pos bk, if_pos bn, if_pos q, if_neg a0]; exact I
      · by_cases a0 : a = 0
        · rw [if_pos a0, if_pos a0, if_pos bk, if_pos bn, if_neg q]
          subst a0
          rw [srch_n (e := fun l => xR r 540 (4000 * d + 4 * k + l) = xR r 540 (4000 * d + 4 * n + l)) (l := l) q]
          exact IH 0 (l + 1) (Or.inl rfl) (by omega) (by omega)
        · rw [if_neg a0, if_pos bk, if_pos bn, if_neg q]
          exact ⟨fun _ => rfl, fun h => absurd (Or.inl ⟨by omega, e, q⟩) h⟩
    · rw [if_neg e, w32_id (x := k + 1) (by omega) (by omega)]
      exact ⟨fun h => absurd h (srch_z (by omega)), fun _ => rfl⟩
/-- some member clashes: the class -/
theorem cls_c {d n L : Int} (d0 : 0 ≤ d) (d8 : d < 8) (h10 : xR c (15 + 26 * d) 10 = L) (L1 : 1 ≤ L) (L4 : L ≤ 4) (h12 : xR c (15 + 26 * d) 12 = n) (n0 : 0 ≤ n) (n1 : n < 1000) : ∀ (N : Nat) (x : Int), 0 ≤ x → (n - x).toNat < N → ∃ v, (v = 0 ∨ v = 1) ∧ xl2 (yl143_2 B) N (15 + 26 * d) x c = some (.inl v, c) ∧ (v = 1 ↔ ∃ m, x ≤ m ∧ m < n ∧ (xR c (15 + 26 * d + 9 + 0) m = xR c (15 + 26 * d + 9 + 0) n ∨ srch (fun l => xR c (15 + 26 * d + 9 + l) m = xR c (15 + 26 * d + 9 + l) n) L 0 1)) := by
  have o0 := (dm_f B d0 d8).1
  have st : ∀ x, 0 ≤ x → x < n → ∀ A C : xP, (if (0 : Int) ≤ 0 ∧ 0 < (xw_le B (xw_rf (15 + 26 * d) 3)) then if 5 ≤ xw_kd (xw_rf (15 + 26 * d) 3) 0 then if xw_obb 20 (xw_rf (15 + 26 * d) 3) = true then if (0 : Int) ≤ x ∧ x < (xw_le B (xw_rf (xw_rf (15 + 26 * d) 3) 0)) then if xw_obb 16 (xw_rf (xw_rf (15 + 26 * d) 3) 0) = true then if (0 : Int) ≤ (xR c (15 + 26 * d) 12) ∧ (xR c (15 + 26 * d) 12) < (xw_le B (xw_rf (xw_rf (15 + 26 * d) 3) 0)) then if (xR c (xw_rf (xw_rf (15 + 26 * d) 3) 0) x) = (xR c (xw_rf (xw_rf (15 + 26 * d) 3) 0) (xR c (15 + 26 * d) 12)) then A else C else none else none else none else none else none else none) = if xR c (15 + 26 * d + 9 + 0) x = xR c (15 + 26 * d + 9 + 0) n then A else C := by
    intro x x0 x1 A C
    have xb : 0 ≤ x ∧ x < 1000 := ⟨x0, by omega⟩
    have nb : 0 ≤ n ∧ n < 1000 := ⟨n0, n1⟩
    obtain ⟨_, ⟨_, _, _, r3, _⟩, ⟨_, _, _, ob8, _⟩, ⟨_, _, _, le8, _⟩⟩ := dm_f B d0 d8
    obtain ⟨⟨kd, rf, ob, le⟩, _⟩ := dm_l B d0 d8 (show (0 : Int) ≤ 0 by decide) (show (0 : Int) < 4 by decide)
    rw [r3, le8, if_pos (by decide), if_pos kd, if_pos ob8, rf, le, if_pos xb, if_pos ob, h12, if_pos nb]
  intro N
  induction N with
  | zero => intro x _ h; omega
  | succ N ih =>
    intro x x0 hN
    have eN : x < n → (n - (x + 1)).toNat < N := fun _ => by omega
    have x1' : 0 ≤ x + 1 := by omega
    have IH := ih (x + 1) x1'
    show ∃ v, (v = 0 ∨ v = 1) ∧ yl143_2 B (xl2 (yl143_2 B) N) (15 + 26 * d) x c = _ ∧ _
    generalize xl2 (yl143_2 B) N = R at IH ⊢
    unfold yl143_2
    rw [if_pos o0, h12]
    by_cases e : x < n
    · have s := st x x0 e
      rw [h12] at s
      rw [if_pos e, s]
      by_cases q : xR c (15 + 26 * d + 9 + 0) x = xR c (15 + 26 * d + 9 + 0) n
      · rw [if_pos q]
        exact ⟨1, Or.inr rfl, rfl, ⟨fun _ => ⟨x, Int.le_refl _, e, Or.inl q⟩, fun _ => rfl⟩⟩
      · rw [if_neg q]
        have C := cls_c1 (B := B) (c := c) (R := R) d0 d8 h10 L4 h12 n0 n1 x0 e 1000000 0 1 (Or.inl rfl) (by decide) (by omega)
        by_cases sr : srch (fun l => xR c (15 + 26 * d + 9 + l) x = xR c (15 + 26 * d + 9 + l) n) L 0 1
        · rw [C.1 sr]
          exact ⟨1, Or.inr rfl, rfl, ⟨fun _ => ⟨x, Int.le_refl _, e, Or.inr sr⟩, fun _ => rfl⟩⟩
        · rw [C.2 sr]
          obtain ⟨v, v1, z, p⟩ := IH (eN e)
          refine ⟨v, v1, z, p.trans ⟨fun ⟨m, m0, m1, m2⟩ => ⟨m, by clear p C; omega, m1, m2⟩, fun ⟨m, m0, m1, m2⟩ => ⟨m, ?_, m1, m2⟩⟩⟩
          clear p C
          by_cases t : m = x
          · rw [t] at m2
            rcases m2 with m2 | m2
            · exact absurd m2 q
            · exact absurd m2 sr
          · omega
    · rw [if_neg e]
      exact ⟨0, Or.inl rfl, rfl, ⟨fun h => absurd h (by decide), fun ⟨m, m0, m1, _⟩ => by omega⟩⟩
theorem cls_r {d n L : Int} (d0 : 0 ≤ d) (d8 : d < 8) (h538 : xR r 538 d = L) (L1 : 1 ≤ L) (L4 : L ≤ 4) (n0 : 0 ≤ n) (n1 : n < 1000) : ∀ (N : Nat) (x : Int), 0 ≤ x → (n - x).toNat < N → ∃ v, (v = 0 ∨ v = 1) ∧ xl4 (yl269_13 B) N d n (4000 * d + 4 * n) x r = some (.inl v, r) ∧ (v = 0 ↔ ∃ m, x ≤ m ∧ m < n ∧ (xR r 540 (4000 * d + 4 * m + 0) = xR r 540 (4000 * d + 4 * n + 0) ∨ srch (fun l => xR r 540 (4000 * d + 4 * m + l) = xR r 540 (4000 * d + 4 * n + l)) L 0 1)) := by
  intro N
  induction N with
  | zero => intro x _ h; omega
  | succ N ih =>
    intro x x0 hN
    have eN : x < n → (n - (x + 1)).toNat < N := fun _ => by omega
    have x1' : 0 ≤ x + 1 := by omega
    have IH := ih (x + 1) x1'
    show ∃ v, (v = 0 ∨ v = 1) ∧ yl269_13 B (xl4 (yl269_13 B) N) d n (4000 * d + 4 * n) x r = _ ∧ _
    generalize xl4 (yl269_13 B) N = R at IH ⊢
    unfold yl269_13
    by_cases e : x < n
    · have wb : w32 (4000 * d + 4 * x) = 4000 * d + 4 * x := w32_id (by clear IH; omega) (by clear IH; omega)
      rw [if_pos e, wb, if_pos (show 0 ≤ 4000 * d + 4 * x ∧ 4000 * d + 4 * x < 32000 by clear IH; omega), if_pos (show 0 ≤ 4000 * d + 4 * n ∧ 4000 * d + 4 * n < 32000 by clear IH; omega)]
      have z0 : ∀ k : Int, 4000 * d + 4 * k + 0 = 4000 * d + 4 * k := fun k => by clear IH; omega
      by_cases q : xR r 540 (4000 * d + 4 * x) = xR r 540 (4000 * d + 4 * n)
      · rw [if_pos q]
        exact ⟨0, Or.inl rfl, rfl, ⟨fun _ => ⟨x, Int.le_refl _, e, Or.inl (by rw [z0, z0]; exact q)⟩, fun _ => rfl⟩⟩
      · rw [if_neg q]
        have C := cls_r1 (B := B) (r := r) (R := R) d0 d8 h538 L4 n0 n1 x0 e 1000000 0 0 (Or.inl rfl) (by decide) (by clear IH; omega)
        rw [srch_n (e := fun l => xR r 540 (4000 * d + 4 * x + l) = xR r 540 (4000 * d + 4 * n + l)) (l := 0) (by show ¬ xR r 540 (4000 * d + 4 * x + 0) = xR r 540 (4000 * d + 4 * n + 0); rw [z0, z0]; exact q)] at C
        by_cases sr : srch (fun l => xR r 540 (4000 * d + 4 * x + l) = xR r 540 (4000 * d + 4 * n + l)) L 0 1
        · rw [C.1 sr]
          exact ⟨0, Or.inl rfl, rfl, ⟨fun _ => ⟨x, Int.le_refl _, e, Or.inr sr⟩, fun _ => rfl⟩⟩
        · rw [C.2 sr]
          obtain ⟨v, v1, z, p⟩ := IH (eN e)
          refine ⟨v, v1, z, p.trans ⟨fun ⟨m, m0, m1, m2⟩ => ⟨m, by clear p C; omega, m1, m2⟩, fun ⟨m, m0, m1, m2⟩ => ⟨m, ?_, m1, m2⟩⟩⟩
          clear p C
          by_cases t : m = x
          · rw [t] at m2
            rcases m2 with m2 | m2
            · rw [z0, z0] at m2; exact absurd m2 q
            · exact absurd m2 sr
          · omega
    · rw [if_neg e]
      exact ⟨1, Or.inr rfl, rfl, ⟨fun h => absurd h (by decide), fun ⟨m, m0, m1, _⟩ => by omega⟩⟩
end CLS
