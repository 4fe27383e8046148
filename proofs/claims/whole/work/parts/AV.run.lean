/-! RUN before the store is open: the catalog's statements, one behind another -/
section RNA
variable {B : Nat} {c r : xw_M} {D M : Int}
theorem memb_ok (h : TK c r) (T : CT c r D M) : duo (yf141 B c) (yf268 B r) (fun _ c' _ r' => TK c' r' ∧ CT c' r' D M ∧ fCat c c' ∧ fRat r r' ∧ xR c 1 2 ≤ xR c' 1 2) (fun c' _ r' => CT c' r' D M ∧ fCat c c' ∧ fRat r r') := by
  unfold yf141 yf268
  refine duo_B (nx h.1) (fun _ c1 _ r1 s => ?_) (fun c1 _ r1 F z => ⟨0, r1, by rw [d261 F.1, xB_ret, if_pos rfl, d254 F.1, xB_ret, if_pos rfl], F, CT_y T z.1 z.2, fCat_y z.1, fRat_y z.2⟩)
  have T1 := CT_x T s.2.1 s.2.2.1
  have g := T1.1
  have n := s.1.nf
  have D8 := g.cn.1
  have fc1 := fCat_x s.2.1
  have fr1 := fRat_x s.2.2.1
  unfold yf60
  rw [xB_as]
  refine duo_B (nam s.1) (fun _ c2 w r2 p => ?_) (fun c2 w r2 F z => ⟨0, r2, by rw [if_pos z.1, d254 F.1, xB_ret, if_pos rfl], F, CT_y T1 z.2.1 z.2.2, fCat_tr fc1 (fCat_y z.2.1), fRat_tr fr1 (fRat_y z.2.2)⟩)
  obtain ⟨rfl, rfl, w1, _⟩ := p
  unfold yf62 yf262
  generalize hN : (1000000 : Nat) = N
  obtain ⟨v, v1, z, z'⟩ := dimc (B := B) s.1 g.cn.1.2 g.cn.2.2.1 (fun d d0 d1 => cgr_d g d0 d1) 8 N N 0 (by omega) (by omega) (by omega) (by omega)
  rw [if_neg (show ¬ w = 0 by omega), xB_as, z, xB_ret, g.r14, z', xB_ret]
  by_cases e : v = -1
  · rw [if_pos e, if_pos (show v < 0 by omega), no254 n (by decide) (by decide), xB_ret, if_pos rfl]
    have X := flt (c := c2) (r := r2) (f := 5) (p := xR c2 1 4) (p' := xR r2 536 9) (by decide) (by decide) (w32_xR _ _ _) s.1.2.1.1
    unfold yf54
    rw [xB_thr, xB_thr]
    exact duo_f X.1 ⟨CT_y T1 X.2.1 X.2.2, fCat_tr fc1 (fCat_y X.2.1), fRat_tr fr1 (fRat_y X.2.2)⟩
  · have v0 : 0 ≤ v ∧ v < D := by omega
    have o0 := (dm_f B v0.1 (show v < 8 by omega)).1
    have vb : 0 ≤ v ∧ v < 8 := ⟨v0.1, by omega⟩
    have sz := g.sz v v0.1 v0.2
    have cn := g.cn.2.2.2.2.1 v v0.1 v0.2
    rw [if_neg e, if_neg (show ¬ v < 0 by omega), ok254 n, xB_ret, xB_ret, if_neg (show ¬ (1 : Int) = 0 by decide), if_pos vb, if_pos vb, if_pos o0]
    clear o0
    obtain ⟨ρ, p1, p2⟩ := T1.2.1 v v0.1 v0.2
    have di := T1.2.2.1 v v0.1 v0.2
    have hi := T1.2.2.2 v v0.1 v0.2
    rw [sz.2.1] at hi
    rw [sz.2.2.1] at di hi ⊢
    have E : ME c2 r2 v (xR c2 (15 + 26 * v) 10) (xR c2 (15 + 26 * v) 11) ρ := ⟨p1, p2, di, hi⟩
    generalize hm : xR c2 (15 + 26 * v) 11 = mem at *
    generalize hL : xR c2 (15 + 26 * v) 10 = L at *
    generalize hc3 : xw_u c2 (15 + 26 * v) 12 mem = c3
    have e3 : ∀ a, a ≠ 15 + 26 * v → c3 a = c2 a := fun a ha => by rw [← hc3]; exact xu_c ha
    have e3f : ∀ k, k ≠ 12 → c3 (15 + 26 * v) k = c2 (15 + 26 * v) k := fun k hk => by rw [← hc3]; exact xu_ne (by omega)
    have T3 : CT c3 r2 D M := by
      have M8 := g.cn.2.1
      refine CT_k T1 ⟨fun b b0 b1 => ⟨fun k hk => ?_, e3 _ (by omega), fun l _ _ => e3 _ (by omega), e3 _ (by omega), fun l p _ _ _ _ => by rw [e3 _ (by omega)]⟩, fun k k0 k1 => ⟨e3 _ (by omega), by rw [e3 14 (by omega)]⟩⟩ ⟨fun b b0 b1 => ⟨⟨rfl, rfl⟩, fun _ _ _ => rfl, ⟨rfl, fun _ _ _ => rfl⟩, fun _ _ _ => ⟨rfl, fun _ _ _ => rfl⟩⟩, fun _ _ _ => ⟨rfl, fun _ _ _ => rfl⟩⟩ (by rw [xR_cg (e3 3 (by omega))]; exact g.cn.2.2.1) (by rw [xR_cg (e3 3 (by omega))]; exact g.cn.2.2.2.1) g.r14 g.r19
      by_cases q : b = v
      · subst q; exact e3f k (by omega)
      · rw [e3 _ (by omega)]
    have E3 : ME c3 r2 v L mem ρ := ⟨E.1, fun l p l0 l1 q0 q1 => by rw [xR_cg (e3 _ (by omega))]; exact E.2.1 l p l0 l1 q0 q1, E.2.2⟩
    have t3 : TK c3 r2 := TK_fr s.1 (fun k _ _ => by rw [e3 1 (by omega)]) (e3 2 (by omega)) (fun _ _ _ => rfl) rfl
    have R := mem_l (B := B) (c := c) (r := r) (d := v) (L := L) (mem := mem) v0.1 v0.2 (by omega) (by omega) 1001 N N mem ρ c3 r2 (by omega) (by omega) (by omega) (Int.le_refl _) (by omega) t3.1 T3 E3 (by rw [xR_fld (e3f 10 (by omega))]; exact hL) (by rw [xR_fld (e3f 11 (by omega))]; exact hm) (by rw [← hc3]; exact xR_at (w32_id (by omega) (by omega))) (fCat_tr fc1 ⟨fun a _ hb => e3 a (by omega), fun k _ => by rw [e3 1 (by omega)]⟩) fr1 (by rw [xR_cg (e3 1 (by omega))]; exact s.2.2.2.1)
    rw [show mem - mem = 0 by omega] at R
    exact R
/-- one statement of the catalog -/
theorem cst_ok (h : TK c r) (T : CT c r D M) (k : xR c 1 3 = 200 ∨ xR c 1 3 = 201 ∨ xR c 1 3 = 202) : duo (yf133 B c) (if xR c 1 3 = 200 then yf259 B r else if xR c 1 3 = 201 then yf267 B r else yf268 B r) (fun _ c' _ r' => TK c' r' ∧ (∃ D M, CT c' r' D M) ∧ fCat c c' ∧ fRat r r' ∧ xR c 1 2 ≤ xR c' 1 2) (fun c' _ r' => (∃ D M, CT c' r' D M) ∧ fCat c c' ∧ fRat r r') := by
  have id1 : ∀ o : xP, (xB o fun _ m1 => (some (.inl 0, m1) : xP)) = xB o fun _ m1 => some (.inl 0, m1) := fun _ => rfl
  have keep : ∀ {o p : xP} {D' M' : Int}, duo o p (fun _ c' _ r' => TK c' r' ∧ CT c' r' D' M' ∧ fCat c c' ∧ fRat r r' ∧ xR c 1 2 ≤ xR c' 1 2) (fun c' _ r' => CT c' r' D M ∧ fCat c c' ∧ fRat r r') → duo (xB o fun _ m1 => some (.inl 0, m1)) p (fun _ c' _ r' => TK c' r' ∧ (∃ D M, CT c' r' D M) ∧ fCat c c' ∧ fRat r r' ∧ xR c 1 2 ≤ xR c' 1 2) (fun c' _ r' => (∃ D M, CT c' r' D M) ∧ fCat c c' ∧ fRat r r') := by
    intro o p D' M' hd
    rcases hd with ⟨v, c', w, r', e1, e2, q⟩ | ⟨c', w, r', e1, e2, f, z⟩
    · rw [e1, e2, xB_ret]
      exact duo_r ⟨q.1, ⟨D', M', q.2.1⟩, q.2.2⟩
    · rw [e1, e2, xB_thr]
      exact duo_f f ⟨⟨D, M, z.1⟩, z.2⟩
  unfold yf133
  rcases k with k | k | k
  · rw [if_pos k, if_pos k]
    exact keep (dimn_ok h T)
  · rw [if_neg (by omega), if_pos k, if_neg (by omega), if_pos k]
    exact keep (meas_ok h T)
  · rw [if_neg (by omega), if_neg (by omega), if_pos k, if_neg (by omega), if_neg (by omega)]
    exact keep (memb_ok h T)
/-- what run may change before the store is open -/
def fRn (r r' : xw_M) : Prop := (∀ a, a ≠ 536 → a ≠ 538 → a ≠ 539 → a ≠ 540 → a ≠ 542 → a ≠ 543 → r' a = r a) ∧ ∀ k, (k < 5 ∨ 13 < k) → k ≠ 14 → k ≠ 19 → k ≠ 27 → r' 536 k = r 536 k
def fCn (c c' : xw_M) : Prop := (∀ a, a ≠ 1 → ¬ (3 ≤ a ∧ a ≤ 222) → c' a = c a) ∧ ∀ k, (k < 1 ∨ 7 < k) → c' 1 k = c 1 k
theorem fCn_tr {a b c : xw_M} (h : fCn a b) (k : fCn b c) : fCn a c := ⟨fun x hx hy => by rw [k.1 x hx hy, h.1 x hx hy], fun x hx => by rw [k.2 x hx, h.2 x hx]⟩
theorem fRn_tr {a b c : xw_M} (h : fRn a b) (k : fRn b c) : fRn a c := ⟨fun x x1 x2 x3 x4 x5 x6 => by rw [k.1 x x1 x2 x3 x4 x5 x6, h.1 x x1 x2 x3 x4 x5 x6], fun x x1 x2 x3 x4 => by rw [k.2 x x1 x2 x3 x4, h.2 x x1 x2 x3 x4]⟩
theorem fCn_t {c c' : xw_M} (h : fCat c c') : fCn c c' := ⟨h.1, fun k hk => h.2 k (by omega)⟩
theorem fRn_t {r r' : xw_M} (h : fRat r r') : fRn r r' := ⟨h.1, fun k k1 k2 k3 _ => h.2 k (by omega) k2 k3⟩
theorem fCn_y {c c' : xw_M} (h : fTy c c') : fCn c c' := fCn_t (fCat_y h)
theorem fRn_y {r r' : xw_M} (h : fRy r r') : fRn r r' := fRn_t (fRat_y h)
/-- run's end -/
def RE (c r c' r' : xw_M) : Prop := (∃ D M, CT c' r' D M) ∧ fCn c c' ∧ fRn r r' ∧ xR c' 1 1 = 0 ∧ xR r' 536 5 = 0 ∧ xR c' 1 6 = xR r' 536 6 ∧ xR c' 1 7 = xR r' 536 7
theorem RE_of {c5 r5 : xw_M} (T : CT c5 r5 D M) (f : fCn c c5) (k : fRn r r5) (e6 : xR c5 1 6 = xR r5 536 6) (e7 : xR c5 1 7 = xR r5 536 7) : RE c r (xw_u c5 1 1 0) (xw_u r5 536 5 0) := by
  refine ⟨⟨D, M, CT_fr T (fun a a0 _ => xu_c (by omega)) (fun a ha => xu_c (by omega)) (xu_ne (by omega)) (xu_ne (by omega))⟩, fCn_tr f ⟨fun a ha _ => xu_c ha, fun k _ => xu_ne (by omega)⟩, fRn_tr k ⟨fun a ha _ _ _ _ _ => xu_c ha, fun k _ _ _ _ => xu_ne (by omega)⟩, xR_at (by decide), xR_at (by decide), ?_, ?_⟩
  · rw [xR_ne (by omega), xR_ne (by omega)]; exact e6
  · rw [xR_ne (by omega), xR_ne (by omega)]; exact e7
/-- the reference's statement, where a word of the catalog stands here and the store is not open -/
theorem stm_n (h : TK c r) (o2 : xR r 536 2 = 0) (k : xR c 1 3 = 200 ∨ xR c 1 3 = 201 ∨ xR c 1 3 = 202) : yf256 B r = xB (if xR c 1 3 = 200 then yf259 B (xw_u r 536 27 (xR r 536 9)) else if xR c 1 3 = 201 then yf267 B (xw_u r 536 27 (xR r 536 9)) else yf268 B (xw_u r 536 27 (xR r 536 9))) fun _ m => some (.inl 0, m) := by
  have t : TK c (xw_u r 536 27 (xR r 536 9)) := TK_fr h (fun _ _ _ => rfl) rfl (fun k _ _ => xu_ne (by omega)) (xu_c (by omega))
  have e24 : yk256_24 B r = xB (if xR c 1 3 = 200 then yf259 B (xw_u r 536 27 (xR r 536 9)) else if xR c 1 3 = 201 then yf267 B (xw_u r 536 27 (xR r 536 9)) else yf268 B (xw_u r 536 27 (xR r 536 9))) fun _ m => some (.inl 0, m) := by
    unfold yk256_24
    rw [ok258 h.nf, xB_ret, if_neg (show ¬ (1 : Int) = 0 by decide), o2, if_neg (show ¬ (1 : Int) = 0 by decide), ok254 h.nf, xB_ret, if_neg (show ¬ (1 : Int) = 0 by decide), isw t (by decide) (by decide), xB_ret]
    rcases k with k | k | k
    · rw [if_pos (show xR c 1 3 = 200 + 0 by omega), if_neg (show ¬ (1 : Int) = 0 by decide), if_pos k]
    · rw [if_neg (show ¬ xR c 1 3 = 200 + 0 by omega), if_pos (show (0 : Int) = 0 from rfl), isw t (by decide) (by decide), xB_ret, if_pos (show xR c 1 3 = 200 + 1 by omega), if_neg (show ¬ (1 : Int) = 0 by decide), if_neg (show ¬ xR c 1 3 = 200 by omega), if_pos k]
    · rw [if_neg (show ¬ xR c 1 3 = 200 + 0 by omega), if_pos (show (0 : Int) = 0 from rfl), isw t (by decide) (by decide), xB_ret, if_neg (show ¬ xR c 1 3 = 200 + 1 by omega), if_pos (show (0 : Int) = 0 from rfl), if_neg (show ¬ xR c 1 3 = 200 by omega), if_neg (show ¬ xR c 1 3 = 201 by omega)]
  unfold yf256
  rw [isw h (by decide) (by decide), xB_ret]
  rcases k with k | k | k
  · rw [if_pos (show xR c 1 3 = 200 + 0 by omega), if_neg (show ¬ (1 : Int) = 0 by decide)]
    exact e24
  · rw [if_neg (show ¬ xR c 1 3 = 200 + 0 by omega), if_pos (show (0 : Int) = 0 from rfl), isw h (by decide) (by decide), xB_ret, if_pos (show xR c 1 3 = 200 + 1 by omega), if_neg (show ¬ (1 : Int) = 0 by decide)]
    exact e24
  · rw [if_neg (show ¬ xR c 1 3 = 200 + 0 by omega), if_pos (show (0 : Int) = 0 from rfl), isw h (by decide) (by decide), xB_ret, if_neg (show ¬ xR c 1 3 = 200 + 1 by omega), if_pos (show (0 : Int) = 0 from rfl), isw h (by decide) (by decide), xB_ret, if_pos (show xR c 1 3 = 200 + 2 by omega), if_neg (show ¬ (1 : Int) = 0 by decide)]
    exact e24
/-- where no statement begins, both say so -/
theorem stm_x (h : TK c r) (k : ¬ (200 ≤ xR c 1 3 ∧ xR c 1 3 ≤ 203)) : ∃ c' r', yf56 B c = some (.inr 14, c') ∧ yf256 B r = some (.inl 0, r') ∧ FL c' r' ∧ fTy c c' ∧ fRy r r' := by
  obtain ⟨c', r', z1, z2, X, f1, f2⟩ := fhere (B := B) h
  refine ⟨c', r', z1, ?_, X, f1, f2⟩
  unfold yf256
  rw [isw h (by decide) (by decide), xB_ret, if_neg (show ¬ xR c 1 3 = 200 + 0 by omega), if_pos (show (0 : Int) = 0 from rfl), isw h (by decide) (by decide), xB_ret, if_neg (show ¬ xR c 1 3 = 200 + 1 by omega), if_pos (show (0 : Int) = 0 from rfl), isw h (by decide) (by decide), xB_ret, if_neg (show ¬ xR c 1 3 = 200 + 2 by omega), if_pos (show (0 : Int) = 0 from rfl), isw h (by decide) (by decide), xB_ret, if_neg (show ¬ xR c 1 3 = 200 + 3 by omega), if_pos (show (0 : Int) = 0 from rfl), z2, xB_ret, if_pos (show (0 : Int) = 0 from rfl)]
/-- a question before the store is open -/
theorem stm_q0 (h : TK c r) (o2 : xR r 536 2 = 0) (k : xR c 1 3 = 203) : yf256 B r = some (.inl 0, xw_u (xw_u r 536 6 8) 536 7 (xR r 536 9)) := by
  unfold yf256
  rw [isw h (by decide) (by decide), xB_ret, if_neg (show ¬ xR c 1 3 = 200 + 0 by omega), if_pos (show (0 : Int) = 0 from rfl), isw h (by decide) (by decide), xB_ret, if_neg (show ¬ xR c 1 3 = 200 + 1 by omega), if_pos (show (0 : Int) = 0 from rfl), isw h (by decide) (by decide), xB_ret, if_neg (show ¬ xR c 1 3 = 200 + 2 by omega), if_pos (show (0 : Int) = 0 from rfl), isw h (by decide) (by decide), xB_ret, if_pos (show xR c 1 3 = 200 + 3 by omega), if_neg (show ¬ (1 : Int) = 0 by decide), ok258 h.nf, xB_ret, if_neg (show ¬ (1 : Int) = 0 by decide), o2, if_pos (show (0 : Int) = 0 from rfl), no254 h.nf (by decide) (by decide), xB_ret, if_pos (show (0 : Int) = 0 from rfl)]
/-- the reference's next at the end of the text -/
theorem nx_end (h : PS c r) (e : xR c 1 2 = xR c 1 1) : ∃ r', yf248 B r = some (.inl 0, r') ∧ fRx r r' ∧ xR r' 536 10 = 0 := by
  obtain ⟨⟨t1, t2, t3, t4⟩, p1, p2, p3, p4, p5, p6, p7⟩ := h
  have hb : ∀ i, 0 ≤ i → i < xR c 1 1 → w8 (xR r 537 i) = xR r 537 i := fun i i0 i1 => by rw [← (t4 i i0 i1).1]; exact (t4 i i0 i1).2
  obtain ⟨w, r', y, w0, g, b8, b9, b10⟩ := xH_ex (rnext_e (B := B) (m := r) (n := xR c 1 1) (p := xR c 1 2) (q := xR c 1 2) (Q := fun w r' => w = 0 ∧ fRx r r' ∧ xR r' 536 8 = xR c 1 2 ∧ xR r' 536 9 = xR c 1 2 ∧ xR r' 536 10 = 0) p6 t1 t3 p1 p2 p3 hb (skp_end (by omega)) (by omega) (fun c' f a2 a4 a3 => ⟨rfl, f, a2, a4, a3⟩))
  exact ⟨r', by rw [y, w0], g, b10⟩
end RNA
