/-! OPERATIONS: open -/
section OPO
variable {B : Nat} {m : xw_M} {c D M : Int}
theorem cgr_w2 {w w' : xw_M} (A : ∀ a, 3 ≤ a → a < 223 → (∀ d, 0 ≤ d → d < D → a < 15 + 26 * d + 9 ∨ 15 + 26 * d + 25 < a) → w' a = w a) (F : cgr w m D M) : cgr w' m D M := by
  obtain ⟨⟨c1, c2, c3, c4, c5, c6⟩, ⟨n1, n2⟩, r14, r19, sz, ms⟩ := F
  have R : ∀ a, 3 ≤ a → a < 15 → xR w' a = xR w a := fun a a0 a1 => xR_cg (A a a0 (by omega) (fun d _ _ => by omega))
  have S : ∀ a d, 0 ≤ d → d < D → 15 + 26 * d ≤ a → a < 15 + 26 * d + 9 → xR w' a = xR w a := fun a d d0 d1 a0 a1 => xR_cg (A a (by omega) (by omega) (fun d' _ _ => by omega))
  refine ⟨⟨c1, c2, by rw [R 3 (by omega) (by omega)]; exact c3, by rw [R 3 (by omega) (by omega)]; exact c4, fun d d0 d1 => ?_, by rw [R 14 (by omega) (by omega)]; exact c6⟩, ⟨fun d d0 d1 => ?_, fun k i k0 k1 i0 i1 => ?_⟩, r14, r19, fun d d0 d1 => ?_, fun k k0 k1 => ?_⟩
  · rw [S (15 + 26 * d) d d0 d1 (by omega) (by omega), S (15 + 26 * d + 7) d d0 d1 (by omega) (by omega)]
    exact c5 d d0 d1
  · have hL := (c5 d d0 d1).2.1
    refine ⟨fun i i0 i1 => ?_, fun l i l0 l1 i0 i1 => ?_⟩
    · rw [S (15 + 26 * d) d d0 d1 (by omega) (by omega)] at i1
      rw [S (15 + 26 * d + 1) d d0 d1 (by omega) (by omega)]; exact (n1 d d0 d1).1 i i0 i1
    · rw [S (15 + 26 * d) d d0 d1 (by omega) (by omega)] at l1
      rw [S (15 + 26 * d + 7) d d0 d1 (by omega) (by omega)] at i1
      rw [S (15 + 26 * d + 3 + l) d d0 d1 (by omega) (by omega)]; exact (n1 d d0 d1).2 l i l0 l1 i0 i1
  · rw [R 14 (by omega) (by omega)] at i1
    rw [R (6 + k) (by omega) (by omega)]; exact n2 k i k0 k1 i0 i1
  · have hL := (c5 d d0 d1).2.1
    rw [S (15 + 26 * d) d d0 d1 (by omega) (by omega), S (15 + 26 * d + 7) d d0 d1 (by omega) (by omega), S (15 + 26 * d + 1) d d0 d1 (by omega) (by omega)]
    obtain ⟨s1, s2, s3, s4, s5, s6⟩ := sz d d0 d1
    refine ⟨s1, s2, s3, s4, s5, fun l l0 l1 => ?_⟩
    rw [S (15 + 26 * d + 3 + l) d d0 d1 (by omega) (by omega)]
    exact s6 l l0 l1
  · rw [R 14 (by omega) (by omega), R (6 + k) (by omega) (by omega)]
    exact ms k k0 k1
/-- the arranged catalog of the class is the reference's -/
theorem cat_open {ma w mz : xw_M} {os : Int → Int → Int} (F : catN m D M) (fa : ∀ a, (∀ d, 0 ≤ d → d < D → a < 15 + 26 * d + 9 ∨ 15 + 26 * d + 25 < a) → ma a = m a) (Aa : ∀ d, 0 ≤ d → d < D → arrM m ma d (os d)) (hw : ∀ a, 3 ≤ a → a < 223 → w a = ma a) (k1 : ∀ a, a = 538 ∨ a = 539 ∨ a = 542 ∨ a = 543 → mz a = m a) (kf : ∀ q, q = 14 ∨ q = 19 → mz 536 q = m 536 q) (RA : ∀ d, 0 ≤ d → d < D → rarr m mz d) : cgr w mz D M ∧ vls w mz D ∧ rrk mz D ∧ ∀ d, 0 ≤ d → d < D → arrd w d (xR w (15 + 26 * d) 10) (xR w (15 + 26 * d) 11) := by
  have cn := F.cg.cn
  have hD := cn.1
  have same : ∀ d, 0 ≤ d → d < D → (∀ l p, 0 ≤ l → l < xR m (15 + 26 * d) 10 → 0 ≤ p → p < xR m (15 + 26 * d) 11 → xR ma (15 + 26 * d + 9 + l) p = xR mz 540 (4000 * d + 4 * p + l)) ∧ ∀ i j, 0 ≤ i → i < j → j < xR m (15 + 26 * d) 11 → xR ma (15 + 26 * d + 9) i < xR ma (15 + 26 * d + 9) j := fun d d0 d1 => by
    obtain ⟨ρ, hρ⟩ := F.me d d0 d1
    obtain ⟨⟨π, p1, p2⟩, so, _⟩ := RA d d0 d1
    have nn := (F.cg.sz d d0 d1).2.2.1
    rw [nn] at p1 p2 so
    obtain ⟨A1, A2, A3⟩ := Aa d d0 d1
    have di := F.di d d0 d1
    rw [nn] at di
    exact (members_same (m := m) (mc := ma) (mr := mz) ⟨(F.cg.sz d d0 d1).1, (cn.2.2.2.2.1 d d0 d1).2.1.2⟩ hρ di A1 A2 p1 p2 so).2
  have L4 : ∀ d, 0 ≤ d → d < D → 1 ≤ xR m (15 + 26 * d) 10 ∧ xR m (15 + 26 * d) 10 ≤ 4 := fun d d0 d1 => ⟨(F.cg.sz d d0 d1).1, (cn.2.2.2.2.1 d d0 d1).2.1.2⟩
  have hwm : ∀ a, 3 ≤ a → a < 223 → (∀ d, 0 ≤ d → d < D → a < 15 + 26 * d + 9 ∨ 15 + 26 * d + 25 < a) → w a = m a := fun a a0 a1 h => by rw [hw a a0 a1]; exact fa a h
  have d10 : ∀ d, 0 ≤ d → d < D → xR w (15 + 26 * d) = xR m (15 + 26 * d) := fun d d0 d1 => xR_cg (hwm _ (by omega) (by omega) (fun d' _ _ => by omega))
  refine ⟨cgr_m (kf 14 (by omega)) (kf 19 (by omega)) (k1 538 (by omega)) (k1 539 (by omega)) (k1 542 (by omega)) (k1 543 (by omega)) (cgr_w2 hwm F.cg), fun d d0 d1 => ?_, fun d d0 d1 => ⟨fun l l0 l1 => ?_, ?_⟩, fun d d0 d1 => ?_⟩
  · obtain ⟨q1, q2⟩ := same d d0 d1
    have := L4 d d0 d1
    rw [d10 d d0 d1, xR_cg (hw (15 + 26 * d + 9) (by omega) (by omega))]
    refine ⟨fun l p l0 l1 p0 p1 => ?_, q2⟩
    rw [xR_cg (hw (15 + 26 * d + 9 + l) (by omega) (by omega))]
    exact q1 l p l0 l1 p0 p1
  · rw [xR_cg (k1 538 (by omega))] at l1
    rw [xR_cg (k1 539 (by omega))]
    exact (RA d d0 d1).2.2 l l0 l1
  · have hl := L4 d d0 d1
    have s2 := (F.cg.sz d d0 d1).2.1
    obtain ⟨⟨π, p1, p2⟩, _⟩ := RA d d0 d1
    rw [xR_cg (k1 538 (by omega)), xR_cg (k1 539 (by omega))]
    intro x y l x0 x1 y0 y1 l0 l1 e
    rw [p2 l x l0 (by omega) x0 x1, p2 l y l0 (by omega) y0 y1] at e
    rw [p2 (l + 1) x (by omega) (by omega) x0 x1, p2 (l + 1) y (by omega) (by omega) y0 y1]
    exact F.hi d d0 d1 (π x) (π y) l (p1.1 x x0 x1).1 (p1.1 x x0 x1).2 (p1.1 y y0 y1).1 (p1.1 y y0 y1).2 l0 l1 e
  · rw [d10 d d0 d1]
    exact arrd_cg (Aa d d0 d1).2.2 (L4 d d0 d1).2 (fun a a0 a1 => hw a (by omega) (by omega))
/-- the disk behind an opening -/
theorem dsk_open {ma w mL mc mz : xw_M} {Wt nb pl lf wr : Int} (hm0 : tk (m 516) 0 32 = 0) (hB : 16 ≤ B ∧ B ≤ 512) (C : cgr w mz D M) (V : vls w mz D) (R : rrk mz D) (hD1 : 0 < D) (hM1 : 0 < M) (hmem : ∀ d, 0 ≤ d → d < D → 0 < xR mz 539 d) (eW : Wt = dsm w D.toNat + msm w M.toNat) (LD : opm B ma mL w D M Wt nb pl) (A : cmA B mL mc pl nb 0 lf wr) (w5 : mL 516 = m 516) (l508 : xR mL 508 9 = 0 ∧ xR mL 508 10 = 0 ∧ xR mL 508 11 = 0) (pb : 2 ≤ pl ∧ pl + nb ≤ B) (nb1 : 1 ≤ nb) (w' : mz 516 = mc 516) (x : xR mz 536 31 = 0 ∧ xR mz 536 38 = 0 ∧ xR mz 536 40 = 0) (x52 : xR mz 536 52 = 1) (l0 : xR mz 586 0 = 0 ∧ xR mz 587 0 = pl ∧ xR mz 588 0 = nb) : dsk B mz D M 1 (fun _ => 1) (fun _ => 0) (fun _ _ => 0) := by
  obtain ⟨d1, d2, d3, d4, d5, d6, d7, d8, d9, d10⟩ := LD
  obtain ⟨a1, a2, a3, a4, a5, a6, a7, a8⟩ := A
  have cn := C.cn
  have ed := dm_end cn
  rw [w5] at a8
  rw [d7, l508.1, l508.2.1, l508.2.2] at a7
  have bits : ∀ y, 0 ≤ y → y < nb * 32768 → bW (mz 516) (y + pl * 32768) = bW (mL 517) y := fun y y0 y1 => by
    rw [w', a8.1 (y + pl * 32768) (by omega) (by omega), show y + pl * 32768 - pl * 32768 = y by omega]
  have e0 : ∀ e : Int, 0 ≤ e → e < 1 → e = 0 := fun e a b => by omega
  unfold dsk
  rw [x.1, x.2.1, x.2.2, x52]
  refine ⟨?_, ?_, ⟨by omega, fun e q0 q1 => ?_, fun e e' q0 q1 q0' q1' hn => by omega⟩, by omega, fun e q0 q1 => ?_, fun e e' q0 q1 q0' q1' h3 => absurd (show (1 : Int) = 3 from h3) (by decide), by omega, fun i i0 i1 => by omega, ⟨by omega, by omega, fun d d0 d1 => by have := hmem d d0 d1; omega⟩, ⟨w, C, V, ?_, ?_, ?_⟩, R, fun e => Int.le_refl _, ?_, fun e q0 q1 => by omega, fun i i0 i1 => by omega, fun y d y0 y1 => by omega, fun e q0 q1 => ?_⟩
  · have := nman_cmt (W := m 516) (tu := 0) a8 (Or.inl pb.1) (by omega) (Int.le_refl _) (by omega) hm0 a7
    rw [w']
    exact this
  · rw [w']
    exact Man_f a7 (fun i i0 i1 => by omega) (fun e q0 q1 => by
      rw [e0 e q0 q1, d8, d9, d10, l0.2.1, l0.2.2]
      exact ⟨rfl, rfl, rfl⟩)
  · rw [e0 e q0 q1, l0.2.1, l0.2.2]; omega
  · rw [e0 e q0 q1]; exact Or.inl ⟨l0.1, rfl, rfl⟩
  · rw [l0.2.1, show pl * 32768 + 32 = 32 + pl * 32768 by omega, tk_W (z := 0) (ze := nb * 32768) (fun y y0 y1 => bits y y0 y1) (by omega) (by omega)]
    exact d2
  · rw [l0.2.1, show pl * 32768 + 64 = 64 + pl * 32768 by omega]
    exact Ctl_W (ze := nb * 32768) cn (fun y y0 y1 => bits y (by omega) y1) (by omega) d1
  · rw [l0.2.1, l0.2.2]; omega
  · show (0 : Int) + (if hfx (fun _ => 1) ((0 : Nat) : Int) = true then 0 else 0) = 0
    split <;> rfl
  · rw [e0 e q0 q1, l0.2.2]; exact nb1
end OPO
