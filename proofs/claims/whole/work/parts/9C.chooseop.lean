/-! OPERATIONS: choose -/
section COP
variable {B : Nat} {m : xw_M} {c : Int}
theorem pkn_nn {lv est : Int → Int} {D F k n : Int} {V : Nat} (h : pkn lv D est F V k n) : ∀ i : Int, 0 ≤ i → i < n → 0 ≤ pkf lv D est F V i.toNat := fun i i0 i1 => by
  have q := h.2.1 i i0 i1
  have q' := (bsf_b (fun v => bnf lv D est (cSf lv D est F V i.toNat) v V) V).1
  unfold pkf at q ⊢
  omega
/-- behind a choice that had no room -/
theorem Inw_F2 {mz : xw_M} (h : Inw B c m) (hc : c < 600) (k : ∀ a, a < 295 ∨ (336 < a ∧ a < 371) ∨ a = 373 ∨ (376 ≤ a ∧ a ≤ 392) ∨ (417 ≤ a ∧ a ≤ 418) ∨ (420 ≤ a ∧ a ≤ 509) ∨ (511 ≤ a ∧ a ≤ 516) ∨ a = 524 ∨ (537 ≤ a ∧ a ≤ 580) ∨ (586 ≤ a ∧ a ≤ 588) ∨ (595 ≤ a ∧ a ≤ 602) → (a = 0 ∨ a ≠ 0) → mz a = m a) (kf : ∀ q, q ≠ 1 → (q < 43 ∨ 48 < q) → q ≠ 57 → q ≠ 58 → q ≠ 59 → q ≠ 60 → q ≠ 61 → mz 536 q = m 536 q) (t : tpz 518 517 (B * 512 : Nat) mz) (rz : ∃ p, rs B mz p) (tw : ∃ s t, two s t ∧ mz 536 59 = s ∧ mz 536 60 = t) : Inw B (c + 1) mz ∧ anF m mz := by
  have e : ∀ a, a < 295 ∨ (336 < a ∧ a < 371) ∨ a = 373 ∨ (376 ≤ a ∧ a ≤ 392) ∨ (417 ≤ a ∧ a ≤ 418) ∨ (420 ≤ a ∧ a ≤ 509) ∨ (511 ≤ a ∧ a ≤ 516) ∨ a = 524 ∨ (537 ≤ a ∧ a ≤ 580) ∨ (586 ≤ a ∧ a ≤ 588) ∨ (595 ≤ a ∧ a ≤ 602) → mz a = m a := fun a ha => k a ha (by omega)
  refine ⟨Inw_fr h (by omega) (by omega) ⟨fun k' _ => by rw [e 0 (by omega)], fun k' _ => by rw [e 1 (by omega)], fun a a0 a1 => e a (by omega), by rw [e 373 (by omega)], fun a a0 a1 => e a (by omega), fun a ha => e a (by omega), fun q q1 q2 q3 q4 q5 q6 q7 => kf q q1 (by omega) (by omega) (by omega) (by omega) (by omega) (by omega), fun a ha => e a (by omega)⟩ ⟨?_, ?_, t, tpz_fr h.tp.2.2.2.1 (e 524 (by omega)) (e 509 (by omega)), rz⟩ ⟨tw, ?_, ?_, ?_⟩, fun h3 => by rw [xR_fld (kf 3 (by omega) (by omega) (by omega) (by omega) (by omega) (by omega) (by omega))] at h3; exact h3, fun k' _ => by rw [e 0 (by omega)], fun a a0 a1 => e a (by omega), fun q hq => kf q (by omega) (by omega) (by omega) (by omega) (by omega) (by omega) (by omega), fun a ha => e a (by omega)⟩
  · rw [xR_cg (e 508 (by omega))]; exact h.tp.1
  · rw [xR_fld (kf 49 (by omega) (by omega) (by omega) (by omega) (by omega) (by omega) (by omega))]; exact h.tp.2.1
  · rw [e 0 (by omega)]; exact h.pt.2.1
  · rw [kf 22 (by omega) (by omega) (by omega) (by omega) (by omega) (by omega) (by omega), kf 23 (by omega) (by omega) (by omega) (by omega) (by omega) (by omega) (by omega)]; exact h.pt.2.2.1
  · rw [kf 73 (by omega) (by omega) (by omega) (by omega) (by omega) (by omega) (by omega), kf 74 (by omega) (by omega) (by omega) (by omega) (by omega) (by omega) (by omega)]; exact h.pt.2.2.2
/-- which extents are kept, by either side -/
theorem gz_kp {D M tu : Int} {K Rf : Int → Int} {Rv : Int → Int → Int} (F : dsk B m D M tu K Rf Rv) {e : Int} (e0 : 0 ≤ e) (e1 : e < xR m 536 52) : (!gz 0 1 (xR m 586 e)) = kpP K e := by
  unfold kpP
  rcases F.kd e e0 e1 with ⟨a, b, _⟩ | ⟨a, b, _⟩ | ⟨a, b, _⟩
  · rw [a, decide_eq_true (show K e ≠ 3 by omega)]; decide
  · rw [a, decide_eq_true (show K e ≠ 3 by omega)]; decide
  · rw [a, decide_eq_false (show ¬ K e ≠ 3 by omega)]; decide
theorem gz_cnt {D M tu : Int} {K Rf : Int → Int} {Rv : Int → Int → Int} (F : dsk B m D M tu K Rf Rv) (n : Nat) (hn : (n : Int) ≤ xR m 536 52) : cnt (fun e => !gz 0 1 (xR m 586 e)) n = cnt (kpP K) n := cnt_cg n (fun i hi => gz_kp F (by omega) (by omega))
/-- the ledger behind a choice, by either side -/
theorem led_kp {D M tu nb pl x E' : Int} {K Rf K' S' L' : Int → Int} {Rv : Int → Int → Int} (F : dsk B m D M tu K Rf Rv) (nx : 0 < nb ↔ 0 < x) (hl : led (xR m 586) (xR m 587) (xR m 588) (xR m 536 52) (fun e => !gz 0 1 (xR m 586 e)) nb 2 pl K' S' L' E') : E' = cnt (kpP K) (xR m 536 52).toNat + (if 0 < x then 1 else 0) ∧ (∀ e, 0 ≤ e → e < xR m 536 52 → K e ≠ 3 → K' (cnt (kpP K) e.toNat) = xR m 586 e ∧ S' (cnt (kpP K) e.toNat) = xR m 587 e ∧ L' (cnt (kpP K) e.toNat) = xR m 588 e) ∧ (0 < x → K' (cnt (kpP K) (xR m 536 52).toNat) = 2 ∧ S' (cnt (kpP K) (xR m 536 52).toNat) = pl ∧ L' (cnt (kpP K) (xR m 536 52).toNat) = nb) := by
  obtain ⟨l1, l2, l3⟩ := hl
  have E0 := F.ex.1
  refine ⟨?_, fun e e0 e1 h3 => ?_, fun hx => ?_⟩
  · rw [l1, gz_cnt F _ (by omega)]
    by_cases hx : 0 < x
    · rw [if_pos hx, if_pos (nx.mpr hx)]
    · rw [if_neg hx, if_neg (fun h => hx (nx.mp h))]
  · have q := l2 e e0 e1 (by show (!gz 0 1 (xR m 586 e)) = true; rw [gz_kp F e0 e1]; unfold kpP; exact decide_eq_true h3)
    rw [gz_cnt F _ (by omega)] at q
    exact q
  · have q := l3 (nx.mpr hx)
    rw [gz_cnt F _ (by omega)] at q
    exact q
theorem choose_dsk {mL mc mz : xw_M} {D M tu x nb pl q2 lf wr : Int} {K Rf pkv Rs : Int → Int} {Rv : Int → Int → Int} (F : dsk B m D M tu K Rf Rv) (r : ram m D M tu K) (tu1 : tu < 1000000000) (f0 : 0 ≤ xR m 536 31) (x0 : 0 ≤ x ∧ x ≤ 16) (LD : ctm B m mL D M x nb pl q2 K pkv Rs) (A : cmA B mL mc pl nb tu lf wr) (ro : 0 < x → isRoom (xR m 587) (xR m 588) (xR m 536 52) B nb pl ∧ 2 ≤ pl ∧ pl + nb ≤ B ∧ 1 ≤ nb ∧ cnt (kpP K) (xR m 536 52).toNat < 200) (no : ¬ 0 < x → nb = 0) (w : mz 516 = mc 516) (k1 : ∀ a, 537 ≤ a → (a < 579 ∨ 594 < a) → a ≠ 603 → a ≠ 604 → mz a = m a) (kf : ∀ q, q = 14 ∨ q = 19 ∨ q = 31 ∨ q = 38 → mz 536 q = m 536 q) (x40 : xR mz 536 40 = x) (hl : led (xR m 586) (xR m 587) (xR m 588) (xR m 536 52) (fun e => !gz 0 1 (xR m 586 e)) nb 2 pl (xR mz 586) (xR mz 587) (xR mz 588) (xR mz 536 52)) (h579 : ∀ i, 0 ≤ i → i < x → xR mz 579 i = pkv i ∧ xR mz 580 i = Rs i) (pkb : ∀ i, 0 ≤ i → i < x → 0 ≤ pkv i) : dsk B mz D M (tu + 1) (kpK K (xR m 536 52) 3 K) (kpK K (xR m 536 52) 0 Rf) (kpK K (xR m 536 52) Rs Rv) ∧ ∀ e, 0 ≤ e → e < xR mz 536 52 → xR mL 513 e = kpK K (xR m 536 52) 3 K e ∧ xR mL 514 e = xR mz 587 e ∧ xR mL 515 e = xR mz 588 e := by
  obtain ⟨d1, d2, d3, d4, d5, d6, d7, d8, d9, d10, d11, d12⟩ := LD
  obtain ⟨a1, a2, a3, a4, a5, a6, a7, a8⟩ := A
  have E0 := F.ex.1
  have kpe : (fun e => decide (K e ≠ 3)) = kpP K := rfl
  rw [kpe] at d9 d11 d12
  have w5 : mL 516 = m 516 := d2 516 (by omega) (by omega) (by omega) (by omega) (by omega) (by omega) (by omega) (by omega) (by omega) (by omega) (by omega)
  have nx : 0 < nb ↔ 0 < x := ⟨fun hn => by by_cases hx : 0 < x; exact hx; have := no hx; omega, fun hx => by have := (ro hx).2.2.2.1; omega⟩
  obtain ⟨l1, l2, l3⟩ := led_kp F nx hl
  have LE : ∀ e, 0 ≤ e → e < xR mz 536 52 → xR mL 513 e = kpK K (xR m 536 52) 3 K e ∧ xR mL 514 e = xR mz 587 e ∧ xR mL 515 e = xR mz 588 e := fun j j0 j1 => by
    rw [l1] at j1
    by_cases hj : j < cnt (kpP K) (xR m 536 52).toNat
    · obtain ⟨e, e0, e1, h3, rfl⟩ := kp_at j0 hj
      have q := d11 e e0 e1 h3
      have q' := l2 e e0 e1 h3
      rw [q.1, q.2.1, q.2.2, q'.2.1, q'.2.2, (kp_old (K := K) (E := xR m 536 52) (z := (3 : Int)) (f := K) e0 e1 h3).2]
      exact ⟨rfl, rfl, rfl⟩
    · by_cases hx : 0 < x
      · rw [if_pos hx] at j1
        have ej : j = cnt (kpP K) (xR m 536 52).toNat := by omega
        subst ej
        have q := d12 hx
        have q' := l3 hx
        rw [q.1, q.2.1, q.2.2, q'.2.1, q'.2.2, kp_new]
        exact ⟨rfl, rfl, rfl⟩
      · rw [if_neg hx] at j1; omega
  refine ⟨dsk_choose (fw := mL 517) (x := x) (pl := pl) (nb := nb) (q2 := q2) (Rs := Rs) F rfl rfl tu1 f0 ⟨k1 538 (by omega) (by omega) (by omega) (by omega), k1 539 (by omega) (by omega) (by omega) (by omega), k1 573 (by omega) (by omega) (by omega) (by omega), fun i _ _ => ⟨by rw [k1 575 (by omega) (by omega) (by omega) (by omega)], by rw [k1 576 (by omega) (by omega) (by omega) (by omega)]⟩⟩ (fun a ha => k1 a (by omega) (by omega) (by omega) (by omega)) kf x40 x0 (fun i i0 i1 => by rw [(h579 i i0 i1).1]; exact pkb i i0 i1) l1 l2 l3 (fun i i0 i1 => (h579 i i0 i1).2) (by rw [w, ← w5]; exact a8) ?_ ro no (fun hx => ⟨vps_vs (fun i i0 i1 => ⟨(h579 i i0 i1).1.symm, rfl⟩) (d1 hx).1, (d1 hx).2⟩), LE⟩
  have mm := a7
  rw [xR_fld (d7 9 (by omega) (by omega)), xR_fld (d7 10 (by omega) (by omega)), d8, d9, r.lo, r.fa, ← l1] at mm
  rw [w, xR_fld (kf 38 (by omega)), xR_fld (kf 31 (by omega))]
  refine Man_f mm (fun i i0 i1 => ⟨?_, ?_⟩) (fun e e0 e1 => LE e e0 e1)
  · rw [(d10 i i0 i1).1, (h579 i i0 i1).1]
  · rw [(d10 i i0 i1).2, (h579 i i0 i1).2]
end COP
