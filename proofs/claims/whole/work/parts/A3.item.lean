/-! THE READERS: an item of a question, both sides: readItem, item -/
section RDD
variable {B : Nat} {c r : xw_M}
theorem riH_d {q s : Int} {G : xw_M → xP} (f : FL c r) (hq : r 536 23 = q) (q0 : q = 544 ∨ q = 558) : riH B s G r = some (.inl 0, r) := by
  unfold riH
  rw [hq, if_pos (q_l B q0).1]
  split <;> rw [d254 f.1, xB_ret, if_pos rfl]
theorem itq_x {c' r' : xw_M} {q M n : Int} (q0 : q = 544 ∨ q = 558) (h : itq c r q M n) (f : fTx c c') (k : fRx r r') : itq c' r' q M n := by
  unfold itq itm at *
  rw [xR_cg (f.1 223 (by omega)), xR_cg (f.1 224 (by omega)), xR_cg (f.1 225 (by omega)), xR_cg (f.1 226 (by omega)), xR_cg (k.1 q (by omega)), xR_cg (k.1 (q + 1) (by omega)), xR_cg (k.1 (q + 2) (by omega)), xR_cg (k.1 (q + 3) (by omega))]
  exact h
theorem kmp_b {K : Int} : 0 ≤ kmp K ∧ kmp K ≤ 5 := by
  unfold kmp
  split
  · decide
  · split
    · decide
    · split
      · decide
      · split
        · decide
        · split <;> decide
/-- the item is laid down, then its end bracket (the reference: the other way round) -/
theorem tail_i {q M n K of s : Int} (h : TK c r) (hq : r 536 23 = q) (q0 : q = 544 ∨ q = 558) (I : itq c r q M n) (n1 : n < 24) (hs : w32 s = s) (hK : K = 1 ∨ (209 ≤ K ∧ K ≤ 213)) (ho : 0 ≤ of ∧ of < 32) (hm : K = 210 ∨ K = 212 ∨ K = 213 → of < M) : duo (yk59_136 B s K of c) (yk271_226 B s (kmp K) of r) (fun _ c' _ r' => itq c' r' q M (n + 1) ∧ TK c' r' ∧ fCi c c' ∧ fRi q r r' ∧ xR c 1 2 ≤ xR c' 1 2) (fun c' _ r' => QC c c' ∧ QR q r r') := by
  have kb := kmp_b (K := K)
  obtain ⟨c1, z1, fc, fc1, i1, i2, i3, i4, i5⟩ := addi_c (B := B) (c := c) (K := K) (of := of) (s := s) I.1 I.2.2.1 n1 (w32_id (by omega) (by omega)) (w32_id (by omega) (by omega)) hs
  have h1 : TK c1 r := TK_fr h (fun k _ _ => fc1 k) (fc.1 2 (by omega) (by omega)) (fun _ _ _ => rfl) rfl
  unfold yk59_136 yk271_226
  rw [z1, xB_ret]
  refine duo_B (esg (K := 41) (g := 41) h1.1 rfl (Or.inl rfl)) (fun v c2 w r2 p => ?_) (fun c2 w r2 f z => ?_)
  · obtain ⟨w1, k1, p⟩ := p
    obtain ⟨r3, z3, fr, fr1, j1, j2, j3, j4, j5⟩ := addi_r (B := B) (r := r2) (k := kmp K) (of := of) (s := s) (by rw [p.2.2.1.2 23 (by omega)]; exact hq) q0 (by rw [xR_cg (p.2.2.1.1 q (by omega))]; exact I.2.1) I.2.2.1 n1 (w32_id (by omega) (by omega)) (w32_id (by omega) (by omega)) hs
    rw [z3]
    have e1 := p.2.1.1
    exact duo_r ⟨itq_add (c := c) (r := r2) q0 (itq_x q0 I fTx_rf p.2.2.1) (by rw [xR_cg (e1 223 (by omega))]; exact i1) j1 n1 (by rw [xR_cg (e1 224 (by omega))]; exact i2) (by rw [xR_cg (e1 225 (by omega))]; exact i3) (by rw [xR_cg (e1 226 (by omega))]; exact i4) j2 j3 j4 (fun a i a0 a1 hi => by rw [e1 a (by omega), i5 a i a0 a1 hi]) j5 hK ho hm, TK_fr p.1 (fun _ _ _ => rfl) rfl (fun k _ _ => fr1 k) (fr.1 537 (by omega) (by omega)), fCi_tr fc (fCi_x p.2.1), fRi_tr (fRi_x q0 p.2.2.1) fr, by have := p.2.2.2.1; rw [xR_fld (fc1 2)] at this; exact this⟩
  · have kq : r2 q = r q := z.2.2.1 q (by omega)
    obtain ⟨r3, z3, f3, g3⟩ := addi_d (B := B) (k := kmp K) (of := of) (s := s) f (by rw [z.2.2.2 23 (by omega)]; exact hq) q0 (by rw [xR_cg kq]; exact I.2.1) I.2.2.1 n1
    exact ⟨0, r3, z3, f3, QC_tr (QC_i fc) (QC_y z.2.1), QR_tr (QR_y z.2.2) g3⟩
/-- a column -/
theorem item_c {D M q n : Int} (h : TK c r) (g : cgr c r D M) (hq : r 536 23 = q) (q0 : q = 544 ∨ q = 558) (I : itq c r q M n) : duo (yk59_30 B (xR c 1 4) c) (xB (yf272 B r) fun v6 m6 => riH B (xR r 536 9) (fun m7 => xB (yf273 B v6 m7) fun v8 m8 => yk271_234 B (xR r 536 9) 0 v8 m8) m6) (fun _ c' _ r' => itq c' r' q M (n + 1) ∧ TK c' r' ∧ fCi c c' ∧ fRi q r r' ∧ xR c 1 2 < xR c' 1 2) (fun c' _ r' => QC c c' ∧ QR q r r') := by
  have D8 := g.cn.1
  unfold yk59_30
  refine duo_B (dimh h g) (fun v c1 w r1 p => ?_) (fun c1 w r1 f z => ⟨0, r1, riH_d f (by rw [z.2.2.2 23 (by omega)]; exact hq) q0, f, QC_y z.2.1, QR_y z.2.2⟩)
  obtain ⟨rfl, rfl, rfl, d0, d1⟩ := p
  refine riH_ok (F := fun m2 => xB (yf65 B w m2) fun v3 m3 => xB (yf67 B 1 v3 (xR c1 1 4) m3) fun _ m4 => some (.inl 0, m4)) h hq q0 I.1 I.2.1 (fun n1 => ?_) (fun c' r' f1 f2 => ⟨QC_y f1, QR_y f2⟩)
  refine duo_B (levb h.1 g d0 d1) (fun v c2 w2 r2 p => ?_) (fun c2 w r2 f z => ?_)
  · obtain ⟨rfl, ⟨l, e1, l0, l1⟩, t2, fc, fr, le⟩ := p
    have L4 := (g.cn.2.2.2.2.1 w d0 d1).2.1
    have I2 := itq_x q0 I fc fr
    obtain ⟨c3, z3, gc, gc1, i1, i2, i3, i4, i5⟩ := addi_c (B := B) (c := c2) (K := 1) (of := w2) (s := xR c1 1 4) I2.1 I2.2.2.1 n1 (by decide) (w32_id (by omega) (by omega)) (w32_xR _ _ _)
    obtain ⟨r3, y3, gr, gr1, j1, j2, j3, j4, j5⟩ := addi_r (B := B) (r := r2) (k := 0) (of := w2) (s := xR r1 536 9) (by rw [fr.2 23 (by omega)]; exact hq) q0 I2.2.1 I2.2.2.1 n1 (by decide) (w32_id (by omega) (by omega)) (w32_xR _ _ _)
    rw [z3, xB_ret, y3]
    refine duo_r ⟨itq_add (c := c2) (r := r2) q0 I2 i1 j1 n1 i2 i3 i4 j2 j3 (by rw [j4]; exact h.2.1.1) i5 j5 (Or.inl rfl) ⟨by omega, by omega⟩ (fun k => by omega), TK_fr t2 (fun k _ _ => gc1 k) (gc.1 2 (by omega) (by omega)) (fun k _ _ => gr1 k) (gr.1 537 (by omega) (by omega)), fCi_tr (fCi_x fc) gc, fRi_tr (fRi_x q0 fr) gr, by rw [xR_fld (gc1 2)]; omega⟩
  · have kq : r2 q = r1 q := z.2.2.1 q (by omega)
    obtain ⟨r3, z3, f3, g3⟩ := addi_d (B := B) (k := 0) (of := w) (s := xR r1 536 9) f (by rw [z.2.2.2 23 (by omega)]; exact hq) q0 (by rw [xR_cg kq]; exact I.2.1) I.2.2.1 n1
    exact ⟨0, r3, z3, f3, QC_y z.2.1, QR_tr (QR_y z.2.2) g3⟩
/-- sum, min, max of a measure -/
theorem item_m {D M q n K : Int} (h : TK c r) (g : cgr c r D M) (hq : r 536 23 = q) (q0 : q = 544 ∨ q = 558) (I : itq c r q M n) (n1 : n < 24) (hK : K = 210 ∨ K = 212 ∨ K = 213) : duo (xB (yf68 B 40 c) fun _ m2 => if K = 211 then (xB (yf68 B 42 m2) fun _ m3 => yk59_136 B (xR c 1 4) K 0 m3) else (xB (yf47 B m2) fun _ m4 => if K = 209 then (xB (yf60 B m4) fun v5 m5 => xB (yf65 B v5 m5) fun v6 m6 => yk59_136 B (xR c 1 4) K v6 m6) else (xB (yf69 B m4) fun v7 m7 => yk59_136 B (xR c 1 4) K v7 m7))) (riM B (xR r 536 9) (kmp K) r) (fun _ c' _ r' => itq c' r' q M (n + 1) ∧ TK c' r' ∧ fCi c c' ∧ fRi q r r' ∧ xR c 1 2 < xR c' 1 2) (fun c' _ r' => QC c c' ∧ QR q r r') := by
  have M8 := g.cn.2.1
  rw [riM_e, h.2.1.1]
  have dd : ∀ (c1 r1 : xw_M) (w : Int), FL c1 r1 → QR q r r1 → r1 q = r q → ∃ w' r', yk271_226 B (xR c 1 4) (kmp K) w r1 = some (.inl w', r') ∧ FL c1 r' ∧ QR q r r' := fun c1 r1 w f z kq => by
    obtain ⟨r3, z3, f3, g3⟩ := addi_e (B := B) (k := kmp K) (of := w) (s := xR c 1 4) f (by rw [z.2 23 (by omega) (by omega) (by omega)]; exact hq) q0 (by rw [xR_cg kq]; exact I.2.1) I.2.2.1 n1
    exact ⟨0, r3, z3, f3, QR_tr z g3⟩
  have nn : ∀ (r1 : xw_M), 0 < xR r1 536 6 → riN B r1 = some (.inl 0, r1) := fun r1 f => by
    unfold riN
    rw [d261 f, xB_ret, if_pos rfl, d254 f, xB_ret]
  refine duo_B (esg (K := 40) (g := 40) h.1 rfl (Or.inl rfl)) (fun v c1 w r1 p => ?_) (fun c1 w r1 f z => ?_)
  · obtain ⟨w1, k1, p⟩ := p
    rw [if_neg (by omega)]
    refine duo_B (nx p.1.1) (fun v c2 w r2 s => ?_) (fun c2 w r2 f z => ?_)
    · rw [if_neg (by omega)]
      have fc := fTx_tr p.2.1 s.2.1
      have fr := fRx_tr p.2.2.1 s.2.2.1
      refine duo_B (meah s.1 (cgr_x g fc fr)) (fun v c3 w r3 t => ?_) (fun c3 w r3 f z => ?_)
      · obtain ⟨rfl, rfl, rfl, v0, v1⟩ := t
        refine duo_m (tail_i s.1 (by rw [fr.2 23 (by omega)]; exact hq) q0 (itq_x q0 I fc fr) n1 (w32_xR _ _ _) (Or.inr ⟨by omega, by omega⟩) ⟨by omega, by omega⟩ (fun _ => v1)) (fun v c4 w r4 u => ⟨u.1, u.2.1, fCi_tr (fCi_x fc) u.2.2.1, fRi_tr (fRi_x q0 fr) u.2.2.2.1, by have := u.2.2.2.2; have := p.2.2.2.2 (by omega); have := s.2.2.2.1; omega⟩) (fun c4 w r4 f z => ⟨QC_tr (QC_x fc) z.1, QR_tr (QR_x fr) z.2⟩)
      · obtain ⟨w', r', z1, f1, g1⟩ := dd c3 r3 w f (QR_tr (QR_x fr) (QR_y z.2)) (by rw [z.2.1 q (by omega), fr.1 q (by omega)])
        exact ⟨w', r', z1, f1, QC_tr (QC_x fc) (QC_y z.1), g1⟩
    · obtain ⟨w', r', z1, f1, g1⟩ := dd c2 r2 0 f (QR_tr (QR_x p.2.2.1) (QR_y z.2)) (by rw [z.2.1 q (by omega), p.2.2.1.1 q (by omega)])
      exact ⟨w', r', by rw [nn r2 f.1, xB_ret, z1], f1, QC_tr (QC_x p.2.1) (QC_y z.1), g1⟩
  · obtain ⟨w', r', z1, f1, g1⟩ := dd c1 r1 0 f (QR_y z.2.2) (by rw [z.2.2.1 q (by omega)])
    exact ⟨w', r', by rw [d248 f.1, xB_ret, nn r1 f.1, xB_ret, z1], f1, QC_y z.2.1, g1⟩
/-- count( * ) -/
theorem item_n {D M q n : Int} (h : TK c r) (hq : r 536 23 = q) (q0 : q = 544 ∨ q = 558) (I : itq c r q M n) (n1 : n < 24) : duo (xB (yf68 B 40 c) fun _ m2 => xB (yf68 B 42 m2) fun _ m3 => yk59_136 B (xR c 1 4) 211 0 m3) (xB (yf265 B 40 r) fun v22 m22 => xB (yf248 B m22) fun _ m23 => xB (yf266 B 42 m23) fun v24 m24 => xB (yf258 B v24 m24) fun v25 m25 => yk271_226 B (xR r 536 9) 4 0 m25) (fun _ c' _ r' => itq c' r' q M (n + 1) ∧ TK c' r' ∧ fCi c c' ∧ fRi q r r' ∧ xR c 1 2 < xR c' 1 2) (fun c' _ r' => QC c c' ∧ QR q r r') := by
  rw [h.2.1.1]
  have dd : ∀ (c1 r1 : xw_M) (w : Int), FL c1 r1 → QR q r r1 → r1 q = r q → ∃ w' r', yk271_226 B (xR c 1 4) 4 w r1 = some (.inl w', r') ∧ FL c1 r' ∧ QR q r r' := fun c1 r1 w f z kq => by
    obtain ⟨r3, z3, f3, g3⟩ := addi_e (B := B) (k := 4) (of := w) (s := xR c 1 4) f (by rw [z.2 23 (by omega) (by omega) (by omega)]; exact hq) q0 (by rw [xR_cg kq]; exact I.2.1) I.2.2.1 n1
    exact ⟨0, r3, z3, f3, QR_tr z g3⟩
  refine duo_B (esg (K := 40) (g := 40) h.1 rfl (Or.inl rfl)) (fun v c1 w r1 p => ?_) (fun c1 w r1 f z => ?_)
  · obtain ⟨w1, k1, p⟩ := p
    have e := esg (B := B) (K := 42) (g := 42) p.1.1 rfl (Or.inl rfl)
    unfold yf265 at e
    have e2 : (xB (yf248 B r1) fun _ m23 => xB (yf266 B 42 m23) fun v24 m24 => xB (yf258 B v24 m24) fun v25 m25 => yk271_226 B (xR c 1 4) 4 0 m25) = xB (xB (yf248 B r1) fun _ m1 => xB (yf266 B 42 m1) fun v2 m2 => xB (yf258 B v2 m2) fun v3 m3 => some (.inl v3, m3)) fun v25 m25 => yk271_226 B (xR c 1 4) 4 0 m25 := by
      simp only [xB_as]
      rfl
    rw [e2]
    refine duo_B e (fun v c2 w r2 s => ?_) (fun c2 w r2 f z => ?_)
    · obtain ⟨w2, k2, s⟩ := s
      have fc := fTx_tr p.2.1 s.2.1
      have fr := fRx_tr p.2.2.1 s.2.2.1
      refine duo_m (tail_i (K := 211) (of := 0) s.1 (by rw [fr.2 23 (by omega)]; exact hq) q0 (itq_x q0 I fc fr) n1 (w32_xR _ _ _) (Or.inr ⟨by omega, by omega⟩) ⟨by omega, by omega⟩ (fun k => by omega)) (fun v c4 w r4 u => ⟨u.1, u.2.1, fCi_tr (fCi_x fc) u.2.2.1, fRi_tr (fRi_x q0 fr) u.2.2.2.1, by have := u.2.2.2.2; have := p.2.2.2.2 (by omega); have := s.2.2.2.1; omega⟩) (fun c4 w r4 f z => ⟨QC_tr (QC_x fc) z.1, QR_tr (QR_x fr) z.2⟩)
    · obtain ⟨w', r', z1, f1, g1⟩ := dd c2 r2 0 f (QR_tr (QR_x p.2.2.1) (QR_y z.2.2)) (by rw [z.2.2.1 q (by omega), p.2.2.1.1 q (by omega)])
      exact ⟨w', r', z1, f1, QC_tr (QC_x p.2.1) (QC_y z.2.1), g1⟩
  · obtain ⟨w', r', z1, f1, g1⟩ := dd c1 r1 0 f (QR_y z.2.2) (by rw [z.2.2.1 q (by omega)])
    exact ⟨w', r', by rw [d248 f.1, xB_ret, p266, xB_ret, d258 f.1, xB_ret, z1], f1, QC_y z.2.1, g1⟩
/-- grouping(column) -/
theorem item_g {D M q n : Int} (h : TK c r) (g : cgr c r D M) (hq : r 536 23 = q) (q0 : q = 544 ∨ q = 558) (I : itq c r q M n) (n1 : n < 24) : duo (xB (yf68 B 40 c) fun _ m2 => xB (yf47 B m2) fun _ m4 => xB (yf60 B m4) fun v5 m5 => xB (yf65 B v5 m5) fun v6 m6 => yk59_136 B (xR c 1 4) 209 v6 m6) (xB (yf265 B 40 r) fun v12 m12 => xB (yf248 B m12) fun _ m13 => xB (yf272 B m13) fun v14 m14 => xB (yf273 B v14 m14) fun v15 m15 => yk271_226 B (xR r 536 9) 5 v15 m15) (fun _ c' _ r' => itq c' r' q M (n + 1) ∧ TK c' r' ∧ fCi c c' ∧ fRi q r r' ∧ xR c 1 2 < xR c' 1 2) (fun c' _ r' => QC c c' ∧ QR q r r') := by
  rw [h.2.1.1]
  have D8 := g.cn.1
  have dd : ∀ (c1 r1 : xw_M) (w : Int), FL c1 r1 → QR q r r1 → r1 q = r q → ∃ w' r', yk271_226 B (xR c 1 4) 5 w r1 = some (.inl w', r') ∧ FL c1 r' ∧ QR q r r' := fun c1 r1 w f z kq => by
    obtain ⟨r3, z3, f3, g3⟩ := addi_e (B := B) (k := 5) (of := w) (s := xR c 1 4) f (by rw [z.2 23 (by omega) (by omega) (by omega)]; exact hq) q0 (by rw [xR_cg kq]; exact I.2.1) I.2.2.1 n1
    exact ⟨0, r3, z3, f3, QR_tr z g3⟩
  refine duo_B (esg (K := 40) (g := 40) h.1 rfl (Or.inl rfl)) (fun v c1 w r1 p => ?_) (fun c1 w r1 f z => ?_)
  · obtain ⟨w1, k1, p⟩ := p
    refine duo_B (nx p.1.1) (fun v c2 w r2 s => ?_) (fun c2 w r2 f z => ?_)
    · have fc := fTx_tr p.2.1 s.2.1
      have fr := fRx_tr p.2.2.1 s.2.2.1
      have g2 := cgr_x g fc fr
      refine duo_B (dimh s.1 g2) (fun v c3 w r3 t => ?_) (fun c3 w r3 f z => ?_)
      · obtain ⟨rfl, rfl, rfl, d0, d1⟩ := t
        have L4 := (g2.cn.2.2.2.2.1 w d0 d1).2.1
        refine duo_B (levb s.1.1 g2 d0 d1) (fun v c4 w4 r4 t => ?_) (fun c4 w r4 f z => ?_)
        · obtain ⟨rfl, ⟨l, e1, l0, l1⟩, t4, fc4, fr4, le⟩ := t
          have fc' := fTx_tr fc fc4
          have fr' := fRx_tr fr fr4
          exact duo_m (tail_i (K := 209) t4 (by rw [fr'.2 23 (by omega)]; exact hq) q0 (itq_x q0 I fc' fr') n1 (w32_xR _ _ _) (Or.inr ⟨by omega, by omega⟩) ⟨by omega, by omega⟩ (fun k => by omega)) (fun v c5 w r5 u => ⟨u.1, u.2.1, fCi_tr (fCi_x fc') u.2.2.1, fRi_tr (fRi_x q0 fr') u.2.2.2.1, by have := u.2.2.2.2; have := p.2.2.2.2 (by omega); have := s.2.2.2.1; omega⟩) (fun c5 w r5 f z => ⟨QC_tr (QC_x fc') z.1, QR_tr (QR_x fr') z.2⟩)
        · obtain ⟨w', r', z1, f1, g1⟩ := dd c4 r4 w f (QR_tr (QR_x fr) (QR_y z.2.2)) (by rw [z.2.2.1 q (by omega), fr.1 q (by omega)])
          exact ⟨w', r', z1, f1, QC_tr (QC_x fc) (QC_y z.2.1), g1⟩
      · obtain ⟨w', r', z1, f1, g1⟩ := dd c3 r3 0 f (QR_tr (QR_x fr) (QR_y z.2.2)) (by rw [z.2.2.1 q (by omega), fr.1 q (by omega)])
        exact ⟨w', r', by rw [d273 f.1, xB_ret, z1], f1, QC_tr (QC_x fc) (QC_y z.2.1), g1⟩
    · obtain ⟨w', r', z1, f1, g1⟩ := dd c2 r2 0 f (QR_tr (QR_x p.2.2.1) (QR_y z.2)) (by rw [z.2.1 q (by omega), p.2.2.1.1 q (by omega)])
      exact ⟨w', r', by rw [d272 f.1, xB_ret, d273 f.1, xB_ret, z1], f1, QC_tr (QC_x p.2.1) (QC_y z.1), g1⟩
  · obtain ⟨w', r', z1, f1, g1⟩ := dd c1 r1 0 f (QR_y z.2.2) (by rw [z.2.2.1 q (by omega)])
    exact ⟨w', r', by rw [d248 f.1, xB_ret, d272 f.1, xB_ret, d273 f.1, xB_ret, z1], f1, QC_y z.2.1, g1⟩
theorem item_ok {D M q n : Int} (h : TK c r) (g : cgr c r D M) (hq : r 536 23 = q) (q0 : q = 544 ∨ q = 558) (I : itq c r q M n) : duo (yf59 B c) (yf271 B r) (fun _ c' _ r' => itq c' r' q M (n + 1) ∧ TK c' r' ∧ fCi c c' ∧ fRi q r r' ∧ xR c 1 2 < xR c' 1 2) (fun c' _ r' => QC c c' ∧ QR q r r') := by
  have dw : ∀ c' r', fTy c c' → fRy r r' → QC c c' ∧ QR q r r' := fun c' r' f1 f2 => ⟨QC_y f1, QR_y f2⟩
  unfold yf59 yf271
  have w10 := isw (B := B) (w := 10) h (by decide) (by decide)
  have w12 := isw (B := B) (w := 12) h (by decide) (by decide)
  have w13 := isw (B := B) (w := 13) h (by decide) (by decide)
  have w11 := isw (B := B) (w := 11) h (by decide) (by decide)
  have w9 := isw (B := B) (w := 9) h (by decide) (by decide)
  generalize hK : xR c 1 3 = K at *
  by_cases k10 : K = 210
  · rw [if_pos (by omega)] at w10
    rw [w10, xB_ret, if_neg (show ¬ K < 209 by omega), if_neg (show ¬ 213 < K by omega), if_neg (show ¬ (1 : Int) = 0 by decide)]
    exact riH_ok (G := riM B (xR r 536 9) 1) h hq q0 I.1 I.2.1 (fun n1 => by subst k10; exact item_m (K := 210) h g hq q0 I n1 (by omega)) dw
  rw [if_neg (by omega)] at w10
  rw [w10, xB_ret, if_pos rfl]
  by_cases k12 : K = 212
  · rw [if_pos (by omega)] at w12
    rw [w12, xB_ret, if_neg (show ¬ K < 209 by omega), if_neg (show ¬ 213 < K by omega), if_neg (show ¬ (1 : Int) = 0 by decide)]
    exact riH_ok (G := riM B (xR r 536 9) 2) h hq q0 I.1 I.2.1 (fun n1 => by subst k12; exact item_m (K := 212) h g hq q0 I n1 (by omega)) dw
  rw [if_neg (by omega)] at w12
  rw [w12, xB_ret, if_pos rfl]
  by_cases k13 : K = 213
  · rw [if_pos (by omega)] at w13
    rw [w13, xB_ret, if_neg (show ¬ K < 209 by omega), if_neg (show ¬ 213 < K by omega), if_neg (show ¬ (1 : Int) = 0 by decide)]
    exact riH_ok (G := riM B (xR r 536 9) 3) h hq q0 I.1 I.2.1 (fun n1 => by subst k13; exact item_m (K := 213) h g hq q0 I n1 (by omega)) dw
  rw [if_neg (by omega)] at w13
  rw [w13, xB_ret, if_pos rfl]
  by_cases k11 : K = 211
  · rw [if_pos (by omega)] at w11
    rw [w11, xB_ret, if_neg (show ¬ K < 209 by omega), if_neg (show ¬ 213 < K by omega), if_neg (show ¬ (1 : Int) = 0 by decide)]
    refine riH_ok (F := fun m1 => xB (yf68 B 40 m1) fun _ m2 => if K = 211 then (xB (yf68 B 42 m2) fun _ m3 => yk59_136 B (xR c 1 4) K 0 m3) else (xB (yf47 B m2) fun _ m4 => if K = 209 then (xB (yf60 B m4) fun v5 m5 => xB (yf65 B v5 m5) fun v6 m6 => yk59_136 B (xR c 1 4) K v6 m6) else (xB (yf69 B m4) fun v7 m7 => yk59_136 B (xR c 1 4) K v7 m7))) (G := fun m21 => (xB (yf265 B 40 m21) fun v22 m22 => xB (yf248 B m22) fun _ m23 => xB (yf266 B 42 m23) fun v24 m24 => xB (yf258 B v24 m24) fun v25 m25 => yk271_226 B (xR r 536 9) 4 0 m25)) h hq q0 I.1 I.2.1 (fun n1 => ?_) dw
    subst k11
    simp only [if_true]
    exact item_n (D := D) h hq q0 I n1
  rw [if_neg (by omega)] at w11
  rw [w11, xB_ret, if_pos rfl]
  by_cases k9 : K = 209
  · rw [if_pos (by omega)] at w9
    rw [w9, xB_ret, if_neg (show ¬ K < 209 by omega), if_neg (show ¬ 213 < K by omega), if_neg (show ¬ (1 : Int) = 0 by decide)]
    refine riH_ok (F := fun m1 => xB (yf68 B 40 m1) fun _ m2 => if K = 211 then (xB (yf68 B 42 m2) fun _ m3 => yk59_136 B (xR c 1 4) K 0 m3) else (xB (yf47 B m2) fun _ m4 => if K = 209 then (xB (yf60 B m4) fun v5 m5 => xB (yf65 B v5 m5) fun v6 m6 => yk59_136 B (xR c 1 4) K v6 m6) else (xB (yf69 B m4) fun v7 m7 => yk59_136 B (xR c 1 4) K v7 m7))) (G := fun m11 => (xB (yf265 B 40 m11) fun v12 m12 => xB (yf248 B m12) fun _ m13 => xB (yf272 B m13) fun v14 m14 => xB (yf273 B v14 m14) fun v15 m15 => yk271_226 B (xR r 536 9) 5 v15 m15)) h hq q0 I.1 I.2.1 (fun n1 => ?_) dw
    subst k9
    simp only [if_true, if_neg (show ¬ (209 : Int) = 211 by decide)]
    exact item_g h g hq q0 I n1
  rw [if_neg (by omega)] at w9
  rw [w9, xB_ret, if_pos rfl]
  have W : duo (yk59_30 B (xR c 1 4) c) (xB (yf272 B r) fun v6 m6 => riH B (xR r 536 9) (fun m7 => xB (yf273 B v6 m7) fun v8 m8 => yk271_234 B (xR r 536 9) 0 v8 m8) m6) (fun _ c' _ r' => itq c' r' q M (n + 1) ∧ TK c' r' ∧ fCi c c' ∧ fRi q r r' ∧ xR c 1 2 < xR c' 1 2) (fun c' _ r' => QC c c' ∧ QR q r r') := item_c h g hq q0 I
  by_cases k0 : K < 209
  · rw [if_pos k0]; exact W
  · rw [if_neg k0, if_pos (by omega)]; exact W
end RDD
