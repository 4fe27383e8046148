/-! OPERATIONS: trim, fault, state, writes, count, view -/
def ag0 (r : Int ⊕ Nat) (_ v : Int) : Prop := r = .inl v
section OPS2
variable {B : Nat} {m : xw_M} {c : Int}
theorem sta_0 (h : sta m) (hd : ¬ xR m 536 3 = 1) : xR m 536 3 = 0 := by have := h.2.1; omega
theorem trim_ok {n : Int} (h : Inw B c m) (hc : c < 600) : opOk B c m (yf42 B n) (yf246 B n) ag2 := by
  obtain ⟨d1, d2, d3⟩ := sta_dn h.st
  obtain ⟨⟨t1, t2, t3⟩, t4, t5', t6, t7⟩ := h.tx
  unfold opOk yf42
  have bad : ∀ m1 : xw_M, (∀ a, a ≠ 604 → m1 a = m a) → (n < 0 ∨ 20 < n ∨ xR m 1 1 < n) → ∃ v m2, yf246 B n m1 = some (.inl v, m2) ∧ Inw B (c + 1) m2 ∧ (anF m m2 ∨ anN m2) ∧ ag2 (.inr 15) (xR m2 536 1) v := by
    intro m1 e1 hn
    have e5 : xR m1 536 5 = xR m 1 1 := by rw [xR_cg (e1 536 (by omega))]; exact t1.symm
    have I := Inw_1 (x := 1) h hc e1
    unfold yf246
    by_cases x1 : n < 0
    · rw [if_pos x1]; exact ⟨_, _, rfl, I.1, Or.inl I.2, Or.inr (Or.inl ⟨rfl, xR_at (by decide)⟩)⟩
    · rw [if_neg x1]
      by_cases x2 : 20 < n
      · rw [if_pos x2]; exact ⟨_, _, rfl, I.1, Or.inl I.2, Or.inr (Or.inl ⟨rfl, xR_at (by decide)⟩)⟩
      · rw [if_neg x2, e5, if_pos (by omega)]; exact ⟨_, _, rfl, I.1, Or.inl I.2, Or.inr (Or.inl ⟨rfl, xR_at (by decide)⟩)⟩
  by_cases x1 : n < 0
  · rw [if_pos x1]; exact ⟨_, _, rfl, fun m1 e1 => bad m1 e1 (Or.inl x1)⟩
  · rw [if_neg x1]
    by_cases x2 : 20 < n
    · rw [if_pos x2]; exact ⟨_, _, rfl, fun m1 e1 => bad m1 e1 (Or.inr (Or.inl x2))⟩
    · rw [if_neg x2]
      by_cases x3 : xR m 1 1 < n
      · rw [if_pos x3]; exact ⟨_, _, rfl, fun m1 e1 => bad m1 e1 (Or.inr (Or.inr x3))⟩
      · rw [if_neg x3]
        show ∃ r m1, (xB (yf38 B m) _ : xP) = _ ∧ _
        by_cases hd : xR m 536 3 = 1
        · rw [fdown (d1.mpr hd)]
          refine ⟨_, _, rfl, fun m1 e1 => ?_⟩
          have e3 : xR m1 536 3 = 1 := by rw [xR_cg (e1 536 (by omega))]; exact hd
          have e5 : xR m1 536 5 = xR m 1 1 := by rw [xR_cg (e1 536 (by omega))]; exact t1.symm
          have I := Inw_1 (x := 2) h hc e1
          unfold yf246
          rw [if_neg x1, if_neg x2, e5, if_neg x3, if_neg (by omega)]
          exact ⟨_, _, rfl, I.1, Or.inl I.2, Or.inr (Or.inr ⟨rfl, xR_at (by decide)⟩)⟩
        · have hd0 := sta_0 h.st hd
          rw [fup (by rw [Ne, d1]; exact hd), xB_ret]
          refine ⟨_, _, rfl, fun m1 e1 => ?_⟩
          have e53 : m1 536 = m 536 := by rw [e1 536 (by omega), xu_c (by omega)]
          have e3 : xR m1 536 3 = 0 := by rw [xR_cg e53]; exact hd0
          have e5 : xR m1 536 5 = xR m 1 1 := by rw [xR_cg e53]; exact t1.symm
          unfold yf246
          rw [if_neg x1, if_neg x2, e5, if_neg x3, if_pos e3]
          generalize hs : xR m 1 1 = s at *
          have g1 : ∀ k, k ≠ 1 → m1 1 k = m 1 k := fun k hk => by rw [e1 1 (by omega), xu_ne (by omega)]
          have g11 : xR m1 1 1 = s - n := by rw [xR_cg (e1 1 (by omega)), xR_at (w32_id (by omega) (by omega))]
          have eo : ∀ a, a ≠ 1 → a ≠ 536 → a ≠ 604 → xw_u (xw_u m1 536 1 0) 536 5 (s - n) a = m a := fun a h1 h2 h3 => by rw [xu_c h2, xu_c h2, e1 a h3, xu_c h1]
          have ef : ∀ k, k ≠ 1 → k ≠ 5 → xw_u (xw_u m1 536 1 0) 536 5 (s - n) 536 k = m 536 k := fun k h1 h2 => by rw [xu_ne (by omega), xu_ne (by omega), e53]
          have b1 : xw_u (xw_u m1 536 1 0) 536 5 (s - n) 1 = m1 1 := by rw [xu_c (by omega), xu_c (by omega)]
          have I := Inw_tx (m' := xw_u (xw_u m1 536 1 0) 536 5 (s - n)) h hc (fun a h1 h2 h3 h4 h5 => eo a h1 h3 h5) (fun k h1 h2 _ _ => ef k h1 h2) ⟨⟨by rw [xR_cg b1, g11, xR_at (w32_id (by omega) (by omega))], by rw [xR_cg b1, g11]; omega, by rw [xR_cg b1, g11]; omega⟩, fun i i0 i1 => by
              rw [xR_cg b1, g11] at i1
              rw [xR_cg (eo 2 (by omega) (by omega) (by omega)), xR_cg (eo 537 (by omega) (by omega) (by omega))]
              exact t4 i i0 (by omega), fun i => by rw [xR_cg (eo 2 (by omega) (by omega) (by omega))]; exact t5' i, by rw [xR_cg b1, xR_fld (g1 6 (by omega)), xR_fld (ef 6 (by omega) (by omega))]; exact t6, by rw [xR_cg b1, xR_fld (g1 7 (by omega)), xR_fld (ef 7 (by omega) (by omega))]; exact t7⟩
          exact ⟨_, _, rfl, I.1, Or.inl I.2, Or.inl ⟨rfl, by rw [xR_ne (by omega), xR_at (by decide)]⟩⟩
theorem fault_ok {n : Int} (h : Inw B c m) (hc : c < 600) : opOk B c m (yf145 B n) (yf302 B n) ag2 := by
  obtain ⟨d1, d2, d3⟩ := sta_dn h.st
  obtain ⟨⟨t1, t2, t3⟩, t4, t5', t6, t7⟩ := h.tx
  unfold opOk yf145 yk145_9
  by_cases x1 : n = 0
  · rw [if_pos x1]
    show ∃ r m1, (xB (yf38 B m) _ : xP) = _ ∧ _
    by_cases hd : xR m 536 3 = 1
    · rw [fdown (d1.mpr hd)]
      refine ⟨_, _, rfl, fun m1 e1 => ?_⟩
      have e3 : xR m1 536 3 = 1 := by rw [xR_cg (e1 536 (by omega))]; exact hd
      have I := Inw_1 (x := 2) h hc e1
      unfold yf302
      rw [if_pos x1, if_neg (by omega)]
      exact ⟨_, _, rfl, I.1, Or.inl I.2, Or.inr (Or.inr ⟨rfl, xR_at (by decide)⟩)⟩
    · rw [fup (by rw [Ne, d1]; exact hd), xB_ret, if_pos x1]
      refine ⟨_, _, rfl, fun m1 e1 => ?_⟩
      have e53 := e1 536 (by omega)
      have I := Inw_1 (x := 0) h hc e1
      unfold yf302
      rw [if_pos x1, if_pos (by rw [xR_cg e53]; exact sta_0 h.st hd)]
      exact ⟨_, _, rfl, I.1, Or.inl I.2, Or.inl ⟨by rw [xR_cg e53, t6], xR_at (by decide)⟩⟩
  · rw [if_neg x1]
    by_cases x2 : n = 1
    · rw [if_pos x2]
      show ∃ r m1, (xB (yf38 B m) _ : xP) = _ ∧ _
      by_cases hd : xR m 536 3 = 1
      · rw [fdown (d1.mpr hd)]
        refine ⟨_, _, rfl, fun m1 e1 => ?_⟩
        have e3 : xR m1 536 3 = 1 := by rw [xR_cg (e1 536 (by omega))]; exact hd
        have I := Inw_1 (x := 2) h hc e1
        unfold yf302
        rw [if_neg x1, if_pos x2, if_neg (by omega)]
        exact ⟨_, _, rfl, I.1, Or.inl I.2, Or.inr (Or.inr ⟨rfl, xR_at (by decide)⟩)⟩
      · rw [fup (by rw [Ne, d1]; exact hd), xB_ret, if_neg x1]
        refine ⟨_, _, rfl, fun m1 e1 => ?_⟩
        have e53 := e1 536 (by omega)
        have I := Inw_1 (x := 0) h hc e1
        unfold yf302
        rw [if_neg x1, if_pos x2, if_pos (by rw [xR_cg e53]; exact sta_0 h.st hd)]
        exact ⟨_, _, rfl, I.1, Or.inl I.2, Or.inl ⟨by rw [xR_cg e53, t7], xR_at (by decide)⟩⟩
    · rw [if_neg x2]
      refine ⟨_, _, rfl, fun m1 e1 => ?_⟩
      have I := Inw_1 (x := 1) h hc e1
      unfold yf302
      rw [if_neg x1, if_neg x2]
      exact ⟨_, _, rfl, I.1, Or.inl I.2, Or.inr (Or.inl ⟨rfl, xR_at (by decide)⟩)⟩
theorem state_ok (h : Inw B c m) (hc : c < 600) : opOk B c m (yf33 B) (yf337 B) ag0 := by
  refine ⟨_, _, rfl, fun m1 e1 => ?_⟩
  have e53 := e1 536 (by omega)
  have I := Inw_1 (x := 0) h hc e1
  obtain ⟨s1, s2, s3⟩ := h.st
  unfold yf337
  rw [xR_cg e53]
  rcases s2 with e | e
  · rw [if_pos e]
    rw [e, if_neg (by decide)] at s3
    rcases s1 with q | q
    · rw [if_pos q]
      exact ⟨_, _, rfl, I.1, Or.inl I.2, by unfold ag0; rw [s3, q]⟩
    · rw [if_neg (by omega)]
      exact ⟨_, _, rfl, I.1, Or.inl I.2, by unfold ag0; rw [s3, q]⟩
  · rw [if_neg (by omega)]
    rw [e, if_pos rfl] at s3
    exact ⟨_, _, rfl, I.1, Or.inl I.2, by unfold ag0; rw [s3]⟩
theorem writes_ok (h : Inw B c m) (hc : c < 600) : opOk B c m (yf34 B) (yf338 B) ag0 := by
  refine ⟨_, _, rfl, fun m1 e1 => ?_⟩
  have I := Inw_1 (x := 0) h hc e1
  exact ⟨_, _, rfl, I.1, Or.inl I.2, by unfold ag0; rw [h.cn.wr.1, xR_cg (e1 536 (by omega))]⟩
theorem fre_cg {S S' L L' : Int → Int} {x : Int} : ∀ n : Nat, (∀ e : Int, 0 ≤ e → e < n → S e = S' e ∧ L e = L' e) → fre S L n x = fre S' L' n x := by
  intro n
  induction n with
  | zero => intro _; rfl
  | succ n ih =>
    intro h
    show (fre S L n x && !decide (S n ≤ x ∧ x < S n + L n)) = (fre S' L' n x && !decide (S' n ≤ x ∧ x < S' n + L' n))
    rw [ih (fun e e0 e1 => h e e0 (by omega)), (h n (by omega) (by omega)).1, (h n (by omega) (by omega)).2]
theorem exts_cg {S S' L L' : Int → Int} {E b : Int} (h : exts S L E b) (e : ∀ e, 0 ≤ e → e < E → S' e = S e ∧ L' e = L e) : exts S' L' E b := by
  refine ⟨h.1, fun x x0 x1 => ?_, fun x y x0 x1 y0 y1 hn => ?_⟩
  · rw [(e x x0 x1).1, (e x x0 x1).2]; exact h.2.1 x x0 x1
  · rw [(e x x0 x1).1, (e x x0 x1).2, (e y y0 y1).1, (e y y0 y1).2]; exact h.2.2 x y x0 x1 y0 y1 hn
theorem exts_0 (S L : Int → Int) (b : Int) : exts S L 0 b := ⟨by omega, fun e e0 e1 => by omega, fun e e' e0 e1 => by omega⟩
/-- the class's ledger is the reference's while the power is there -/
theorem led_eq (h : Inw B c m) (hd : xR m 536 3 = 0) : (xR m 508 9 = xR m 536 38 ∧ xR m 508 10 = xR m 536 31 ∧ xR m 508 11 = xR m 536 40 ∧ xR m 508 14 = xR m 536 52) ∧ exts (xR m 587) (xR m 588) (xR m 536 52) B ∧ ∀ e, 0 ≤ e → e < xR m 536 52 → xR m 514 e = xR m 587 e ∧ xR m 515 e = xR m 588 e := by
  rcases h.st.1 with e | e
  · have n := h.nw e
    obtain ⟨r1, r2, r3, r4, r5⟩ := n.rf
    obtain ⟨c1, c2, c3, c4, c5⟩ := n.cl
    rw [r1, r2, r3, r4, c2, c3, c4, c5]
    exact ⟨⟨rfl, rfl, rfl, rfl⟩, exts_0 _ _ _, fun e e0 e1 => by omega⟩
  · obtain ⟨D, M, tu, K, Rf, Rv, F, ht, u, v⟩ := h.op e
    have r := u hd
    exact ⟨⟨r.lo, r.fa, r.vi, r.ex⟩, F.ex, fun e e0 e1 => (r.le e e0 e1).2⟩
theorem count_op {n : Int} (h : Inw B c m) (hc : c < 600) : opOk B c m (yf220 B n) (yf339 B n) ag2 := by
  obtain ⟨d1, d2, d3⟩ := sta_dn h.st
  unfold opOk yf220 yk220_14
  have bad : ∀ m1 : xw_M, (∀ a, a ≠ 604 → m1 a = m a) → (n < 0 ∨ 6 < n) → ∃ v m2, yf339 B n m1 = some (.inl v, m2) ∧ Inw B (c + 1) m2 ∧ (anF m m2 ∨ anN m2) ∧ ag2 (.inr 15) (xR m2 536 1) v := by
    intro m1 e1 hn
    have I := Inw_1 (x := 1) h hc e1
    unfold yf339
    by_cases x1 : n < 0
    · rw [if_pos x1]; exact ⟨_, _, rfl, I.1, Or.inl I.2, Or.inr (Or.inl ⟨rfl, xR_at (by decide)⟩)⟩
    · rw [if_neg x1, if_pos (by omega)]; exact ⟨_, _, rfl, I.1, Or.inl I.2, Or.inr (Or.inl ⟨rfl, xR_at (by decide)⟩)⟩
  by_cases x1 : n < 0
  · rw [if_pos x1]; exact ⟨_, _, rfl, fun m1 e1 => bad m1 e1 (Or.inl x1)⟩
  · rw [if_neg x1]
    by_cases x2 : 6 < n
    · rw [if_pos x2]; exact ⟨_, _, rfl, fun m1 e1 => bad m1 e1 (Or.inr x2)⟩
    · rw [if_neg x2]
      show ∃ r m1, (xB (yf38 B m) _ : xP) = _ ∧ _
      by_cases hd : xR m 536 3 = 1
      · rw [fdown (d1.mpr hd)]
        refine ⟨_, _, rfl, fun m1 e1 => ?_⟩
        have e3 : xR m1 536 3 = 1 := by rw [xR_cg (e1 536 (by omega))]; exact hd
        have I := Inw_1 (x := 2) h hc e1
        unfold yf339
        rw [if_neg x1, if_neg x2, if_neg (by omega)]
        exact ⟨_, _, rfl, I.1, Or.inl I.2, Or.inr (Or.inr ⟨rfl, xR_at (by decide)⟩)⟩
      · have hd0 := sta_0 h.st hd
        rw [fup (by rw [Ne, d1]; exact hd), xB_ret]
        obtain ⟨⟨l1, l2, l3, l4⟩, lx, le⟩ := led_eq h hd0
        have go : ∀ (v : Int) (k : Int), v = xR m 536 k → (∀ m1 : xw_M, m1 536 = m 536 → yf339 B n m1 = some (.inl (xR m1 536 k), xw_u m1 536 1 0)) → ∃ r m1, (some (.inl v, m) : xP) = some (r, m1) ∧ ∀ m1', (∀ a, a ≠ 604 → m1' a = m1 a) → ∃ v m2, yf339 B n m1' = some (.inl v, m2) ∧ Inw B (c + 1) m2 ∧ (anF m m2 ∨ anN m2) ∧ ag2 r (xR m2 536 1) v := by
          intro v k hv hm
          refine ⟨_, _, rfl, fun m1 e1 => ?_⟩
          have e53 := e1 536 (by omega)
          have I := Inw_1 (x := 0) h hc e1
          exact ⟨_, _, hm m1 e53, I.1, Or.inl I.2, Or.inl ⟨by rw [hv, xR_cg e53], xR_at (by decide)⟩⟩
        have up : ∀ m1 : xw_M, m1 536 = m 536 → xR m1 536 3 = 0 := fun m1 e => by rw [xR_cg e]; exact hd0
        by_cases y0 : n = 0
        · rw [if_pos y0]
          exact go _ 38 l1 (fun m1 e => by unfold yf339; rw [if_neg x1, if_neg x2, if_pos (up m1 e), if_pos y0])
        rw [if_neg y0]
        by_cases y1 : n = 1
        · rw [if_pos y1]
          exact go _ 31 l2 (fun m1 e => by unfold yf339; rw [if_neg x1, if_neg x2, if_pos (up m1 e), if_neg y0, if_pos y1])
        rw [if_neg y1]
        by_cases y2 : n = 2
        · rw [if_pos y2]
          exact go _ 40 l3 (fun m1 e => by unfold yf339; rw [if_neg x1, if_neg x2, if_pos (up m1 e), if_neg y0, if_neg y1, if_pos y2])
        rw [if_neg y2]
        by_cases y3 : n = 3
        · rw [if_pos y3]
          exact go _ 52 l4 (fun m1 e => by unfold yf339; rw [if_neg x1, if_neg x2, if_pos (up m1 e), if_neg y0, if_neg y1, if_neg y2, if_pos y3])
        rw [if_neg y3]
        by_cases y4 : n = 4
        · rw [if_pos y4, freeBlocks_ok h.tp.1 (by have := h.bd; omega) h.bd.2 l4 (exts_cg lx le), xB_ret]
          refine ⟨_, _, rfl, fun m1 e1 => ?_⟩
          have e53 := e1 536 (by omega)
          have R : ∀ a, a ≠ 604 → a ≠ 536 → xw_u m1 536 1 0 a = m a := fun a h1 h2 => by rw [xu_c h2]; exact e1 a h1
          have Rf : ∀ k, k ≠ 1 → xR (xw_u m1 536 1 0) 536 k = xR m 536 k := fun k hk => by rw [xR_ne (by omega), xR_cg e53]
          obtain ⟨m2, z, F⟩ := rfree_ok (B := B) (m := xw_u m1 536 1 0) (E := xR m 536 52) (b := B) (by rw [Rf 49 (by omega)]; exact h.tp.2.1) h.bd.2 (Rf 52 (by omega)) (by rw [xR_cg (R 587 (by omega) (by omega)), xR_cg (R 588 (by omega) (by omega))]; exact lx)
          unfold yf339
          rw [if_neg x1, if_neg x2, if_pos (up m1 e53), if_neg y0, if_neg y1, if_neg y2, if_neg y3, if_pos y4]
          have e : ∀ a, a ≠ 604 → a ≠ 536 → a ≠ 589 → m2 a = m a := fun a h1 h2 h3 => by rw [F a h3]; exact R a h1 h2
          have f : ∀ k, k ≠ 1 → m2 536 k = m 536 k := fun k hk => by rw [F 536 (by omega), xu_ne (by omega), e53]
          refine ⟨_, m2, z, Inw_fr h (by omega) (by omega) ⟨fun k _ => by rw [e 0 (by omega) (by omega) (by omega)], fun k _ => by rw [e 1 (by omega) (by omega) (by omega)], fun a a0 a1 => e a (by omega) (by omega) (by omega), by rw [e 373 (by omega) (by omega) (by omega)], fun a a0 a1 => e a (by omega) (by omega) (by omega), fun a ha => e a (by omega) (by omega) (by omega), fun k k1 _ _ _ _ _ _ => f k k1, fun a ha => e a (by omega) (by omega) (by omega)⟩ (tps_fr h.tp (by rw [e 508 (by omega) (by omega) (by omega)]) (f 49 (by omega)) (fun a ha => e a (by omega) (by omega) (by omega)) (by
              obtain ⟨p, hp⟩ := h.tp.2.2.2.2
              exact ⟨p, rs_fr hp (e 530 (by omega) (by omega) (by omega))⟩)) (ptr_fr h.pt (fun k hk => f k (by omega)) (fun k hk => by rw [e 0 (by omega) (by omega) (by omega)])), Or.inl ⟨fun h3 => by rw [xR_fld (f 3 (by omega))] at h3; exact h3, fun k _ => by rw [e 0 (by omega) (by omega) (by omega)], fun a a0 a1 => e a (by omega) (by omega) (by omega), fun k hk => f k (by omega), fun a ha => e a (by omega) (by omega) (by omega)⟩, Or.inl ⟨?_, ?_⟩⟩
          · rw [xR_cg (R 587 (by omega) (by omega)), xR_cg (R 588 (by omega) (by omega))]
            have q : cnt (fre (xR m 514) (xR m 515) (xR m 536 52).toNat) B = cnt (fre (xR m 587) (xR m 588) (xR m 536 52).toNat) B := cnt_cg _ (fun i hi => fre_cg _ (fun e e0 e1 => le e e0 (by have := lx.1; omega)))
            rw [q]
          · rw [xR_cg (F 536 (by omega)), xR_at (by decide)]
        rw [if_neg y4]
        by_cases y5 : n = 5
        · rw [if_pos y5]
          exact go _ 32 h.cn.ba.1 (fun m1 e => by unfold yf339; rw [if_neg x1, if_neg x2, if_pos (up m1 e), if_neg y0, if_neg y1, if_neg y2, if_neg y3, if_neg y4, if_pos y5])
        rw [if_neg y5]
        exact go _ 5 h.tx.1.1 (fun m1 e => by unfold yf339; rw [if_neg x1, if_neg x2, if_pos (up m1 e), if_neg y0, if_neg y1, if_neg y2, if_neg y3, if_neg y4, if_neg y5])
theorem view_op {i d : Int} (h : Inw B c m) (hc : c < 600) : opOk B c m (yf223 B i d) (yf340 B i d) ag3 := by
  unfold opOk yf223 yk223_34
  have bad : ∀ m1 : xw_M, (∀ a, a ≠ 604 → m1 a = m a) → (xR m 536 3 ≠ 0 ∨ i < 0 ∨ xR m 536 40 ≤ i ∨ d < 0 ∨ xR m 536 14 ≤ d) → ∃ v m2, yf340 B i d m1 = some (.inl v, m2) ∧ Inw B (c + 1) m2 ∧ (anF m m2 ∨ anN m2) ∧ ag3 (.inr 15) (xR m2 536 1) v := by
    intro m1 e1 hn
    have I := Inw_1 (x := 1) h hc e1
    have r : ∃ v, yf340 B i d m1 = some (.inl v, xw_u m1 536 1 1) := by
      unfold yf340
      rw [xR_cg (e1 536 (by omega))]
      by_cases x0 : xR m 536 3 = 0
      · rw [if_pos x0]
        by_cases x1 : i < 0
        · rw [if_pos x1]; exact ⟨_, rfl⟩
        · rw [if_neg x1]
          by_cases x2 : i < xR m 536 40
          · rw [if_pos x2]
            by_cases x3 : d < 0
            · rw [if_pos x3]; exact ⟨_, rfl⟩
            · rw [if_neg x3, if_neg (by omega)]; exact ⟨_, rfl⟩
          · rw [if_neg x2]; exact ⟨_, rfl⟩
      · rw [if_neg x0]; exact ⟨_, rfl⟩
    obtain ⟨v, hv⟩ := r
    exact ⟨v, _, hv, I.1, Or.inl I.2, Or.inr ⟨rfl, xR_at (by decide)⟩⟩
  by_cases ho : xR m 536 2 = 1 ∧ xR m 536 3 = 0
  · obtain ⟨D, M, tu, K, Rf, Rv, F, ht, u, v⟩ := h.op ho.1
    have r := u ho.2
    have hD := r.cg.cn.1
    rw [r.vi]
    have h31 : xR m 3 1 = xR m 536 14 := by rw [r.cg.cn.2.2.1, r.cg.r14]
    rw [h31]
    by_cases x1 : i < 0
    · rw [if_pos x1]; exact ⟨_, _, rfl, fun m1 e1 => bad m1 e1 (by omega)⟩
    rw [if_neg x1]
    by_cases x2 : i < xR m 536 40
    · rw [if_pos x2]
      by_cases x3 : d < 0
      · rw [if_pos x3]; exact ⟨_, _, rfl, fun m1 e1 => bad m1 e1 (by omega)⟩
      rw [if_neg x3]
      by_cases x4 : d < xR m 536 14
      · rw [if_pos x4]
        have tn := F.tn
        have vb : 0 ≤ xR m 579 i ∧ xR m 579 i < 2147483648 := ⟨F.vn i (by omega) x2, (w32_rng _).2⟩
        show ∃ r m1, (if (0 : Int) ≤ i ∧ i < 16 then _ else _ : xP) = _ ∧ _
        rw [if_pos ⟨by omega, by omega⟩, (r.vw i (by omega) x2).1, levelIn_ok (D := D) hD.2 r.cg.cn.2.2.1 vb (fun d d0 d1 => (r.cg.cn.2.2.2.2.1 d d0 d1).2.1) (by omega) (by rw [← r.cg.r14]; exact x4), xB_ret]
        refine ⟨_, _, rfl, fun m1 e1 => ?_⟩
        have I := Inw_1 (x := 0) h hc e1
        unfold yf340
        have R : ∀ a, a ≠ 604 → xR m1 a = xR m a := fun a h1 => xR_cg (e1 a h1)
        have e38 : xR (xw_u m1 536 1 0) 538 = xR m 538 := by rw [xR_cg (xu_c (by omega)), R 538 (by omega)]
        rw [R 536 (by omega), R 579 (by omega), if_pos ho.2, if_neg x1, if_pos x2, if_neg x3, if_pos x4, if_pos ⟨by omega, by omega⟩, digit_ok (D := D) hD.2 (by rw [xR_ne (by omega), R 536 (by omega)]; exact r.cg.r14) vb (fun d d0 d1 => by
          rw [e38, (r.cg.sz d d0 d1).2.1]; exact (r.cg.cn.2.2.2.2.1 d d0 d1).2.1) (by omega) (by rw [← r.cg.r14]; exact x4), xB_ret]
        refine ⟨_, _, rfl, I.1, Or.inl I.2, Or.inl ⟨?_, xR_at (by decide)⟩⟩
        rw [e38]
        congr 1
        exact vdg_cg (by omega) (by rw [← r.cg.r14]; exact x4) (fun d d0 d1 => (r.cg.sz d d0 d1).2.1.symm)
      · rw [if_neg x4]; exact ⟨_, _, rfl, fun m1 e1 => bad m1 e1 (by omega)⟩
    · rw [if_neg x2]; exact ⟨_, _, rfl, fun m1 e1 => bad m1 e1 (by omega)⟩
  · have z : xR m 508 11 = 0 ∧ (xR m 536 3 ≠ 0 ∨ xR m 536 40 = 0) := by
      rcases h.st.1 with e | e
      · exact ⟨(h.nw e).cl.2.2.2.1, Or.inr (h.nw e).rf.2.2.1⟩
      · obtain ⟨D, M, tu, K, Rf, Rv, F, ht, u, v⟩ := h.op e
        have d1 : xR m 536 3 = 1 := by have := h.st.2.1; omega
        exact ⟨(v d1).2.2, Or.inl (by omega)⟩
    rw [z.1]
    by_cases x1 : i < 0
    · rw [if_pos x1]; exact ⟨_, _, rfl, fun m1 e1 => bad m1 e1 (by omega)⟩
    · rw [if_neg x1, if_neg x1]; exact ⟨_, _, rfl, fun m1 e1 => bad m1 e1 (by omega)⟩
end OPS2
