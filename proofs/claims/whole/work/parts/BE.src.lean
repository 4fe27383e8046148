/-! THE ANSWER, by the class: the rows of a facts' part, and of a view's part, as a source -/
/-- what a question asks of a row (comparisons and groups, by members; items, by measures) -/
def ASK (m : xw_M) (D M k it nc p : Int) : Prop := (0 ≤ D ∧ D ≤ 8) ∧ (0 ≤ M ∧ M ≤ 8) ∧ SB m nc p ∧ nc ≤ 60 ∧ 0 ≤ p ∧ (∀ d, 0 ≤ d → d < D → xR m (15 + 26 * d) 11 ≤ 1000) ∧ (∀ i, 0 ≤ i → i < nc → ∃ d l, xR m 229 i = 4 * d + l ∧ (0 ≤ d ∧ d < D) ∧ (0 ≤ l ∧ l < 4) ∧ xR m 292 d < 4 ∧ ∀ q, 0 ≤ q → q < xR m (15 + 26 * d) 11 → (xR m (231 + i) q = 0 ∨ xR m (231 + i) q = 1)) ∧ (∀ g, 0 ≤ g → g < k → ∃ d l, xR m 227 g = 4 * d + l ∧ (0 ≤ d ∧ d < D) ∧ (0 ≤ l ∧ l < 4) ∧ xR m 292 d < 4) ∧ ∀ i, 0 ≤ i → i < it → (xR m 224 i = 210 ∨ xR m 224 i = 212 ∨ xR m 224 i = 213) → 0 ≤ xR m 225 i ∧ xR m 225 i < M
section SRF
variable {B : Nat} {m : xw_M} {k it D M nc p R : Int} {T : Int → Int → Int} {J0 : Nat} {hl : Nat → Bool} {rk : Nat → Int → Int} {cf : Nat → Int} {mo : Nat → Int → Int}
theorem src_f (A : ASK m D M k it nc p) (h7 : xR m 302 7 = 0) (h5 : xR m 302 5 = D) (h72 : ∀ d, 0 ≤ d → d < D → xR m 372 d = d) (hT : ∀ d j, 0 ≤ d → d < D → 0 ≤ j → j < R → 0 ≤ T d j ∧ T d j < xR m (15 + 26 * d) 11) (e1 : ∀ j, 0 ≤ j → j < R → hl (J0 + j.toNat) = top (SC m (vmb m (fun d => T d j))) ∧ rk (J0 + j.toNat) = rmb m (fun d => T d j) ∧ cf (J0 + j.toNat) = 1 ∧ mo (J0 + j.toNat) = fun i => if xR m 224 i = 211 then 1 else T (D + xR m 225 i) j) : ∀ w, WNT B m D it D w → SRC B m R w (D + M).toNat T J0 k it hl rk cf mo := by
  intro w ⟨_, w2, w3⟩ mm x j x0 x1 j0 j1 hm hV
  obtain ⟨D0, M0, S, nc1, p0, mc, hcp, hgr, hit⟩ := A
  obtain ⟨q1, q2, q3, q4⟩ := e1 j j0 j1
  rw [q1, q2, q3, q4]
  have x302 := xR_cg (hm 302 (by omega) (by omega))
  have x372 := xR_cg (hm 372 (by omega) (by omega))
  refine rdy_g (D := D) (nc := nc) (p := p) hm x0 x1 D0.2 S nc1 p0 (fun i i0 i1 => ?_) hgr (fun d d0 d1 d2 => ?_) (by decide) (fun m' h => ?_) (fun i i0 i1 hi => by rw [if_pos hi]) (fun i i0 i1 hi => ?_)
  · obtain ⟨d, l, c1, c2, c3, c4, c5⟩ := hcp i i0 i1
    exact ⟨d, l, c1, c2, c3, c4, c5 _ (hT d j c2.1 c2.2 j0 j1).1 (hT d j c2.1 c2.2 j0 j1).2⟩
  · have tb := hT d j d0 d1 j0 j1
    have mb := mc d d0 d1
    refine ⟨fun m' h => ?_, tb.1, by omega⟩
    have z := w2 d d0 d1 d2 (by rw [h72 d d0 d1]; omega)
    rw [h72 d d0 d1] at z
    have v := hV d.toNat (by omega) z
    rw [Int.toNat_of_nonneg d0] at v
    rw [mem_f (B := B) (m := m') d0 (by omega) x0 x1 (by rw [xR_cg (h 302 (by omega)), x302]; exact h7) (by rw [xR_cg (h 372 (by omega)), x372]; exact h72 d d0 d1)]
    have e : xJ m' (304 + d) x = T d j := by unfold xJ at v ⊢; rw [h _ (by omega)]; exact v
    rw [e, w32_id (by omega) (by omega)]
  · exact fac_f (by rw [xR_cg (h 302 (by omega) (by omega)), x302]; exact h7)
  · obtain ⟨a0, a1⟩ := hit i i0 i1 hi
    have cc := fun (m' : xw_M) (hz : xR m' 302 = xR m 302) => col_f (B := B) (m := m') (K := xR m 224 i) (a := xR m 225 i) (D := D) (by rw [hz]; exact h7) (by rw [hz]; exact h5) D0.1 D0.2 a0 (by omega)
    have z := w3 i i0 i1 hi _ (cc m rfl)
    have v := hV (D + xR m 225 i).toNat (by omega) z
    rw [Int.toNat_of_nonneg (by omega)] at v
    refine ⟨D + xR m 225 i, fun m' h => cc m' (by rw [xR_cg (h 302 (by omega) (by omega)), x302]), by omega, ?_⟩
    rw [if_neg (by omega)]
    exact v
theorem src_v {P : Int} (A : ASK m D M k it nc p) (h7 : xR m 302 7 = 1) (h5 : xR m 302 5 = P) (P0 : 0 ≤ P) (P8 : P ≤ 8) (h72 : ∀ d, 0 ≤ d → d < D → xR m 292 d < 4 → (0 ≤ xR m 372 d ∧ xR m 372 d < P) ∧ (0 ≤ xR m 371 d ∧ xR m 371 d < 4)) (hT : ∀ d j, 0 ≤ d → d < D → xR m 292 d < 4 → 0 ≤ j → j < R → (0 ≤ T (xR m 372 d) j ∧ T (xR m 372 d) j < 1000) ∧ 0 ≤ xR m (15 + 26 * d + 19 + xR m 371 d) (T (xR m 372 d) j) ∧ xR m (15 + 26 * d + 19 + xR m 371 d) (T (xR m 372 d) j) < xR m (15 + 26 * d) 11) (wT : cwd T) (e1 : ∀ j, 0 ≤ j → j < R → hl (J0 + j.toNat) = top (SC m (vmb m (fun d => xR m (15 + 26 * d + 19 + xR m 371 d) (T (xR m 372 d) j)))) ∧ rk (J0 + j.toNat) = rmb m (fun d => xR m (15 + 26 * d + 19 + xR m 371 d) (T (xR m 372 d) j)) ∧ cf (J0 + j.toNat) = T P j ∧ mo (J0 + j.toNat) = fun i => if xR m 224 i = 211 then T P j else T (vco P (xR m 224 i) (xR m 225 i)) j) : ∀ w, WNT B m D it P w → SRC B m R w (P + 1 + 3 * M).toNat T J0 k it hl rk cf mo := by
  intro w ⟨w1, w2, w3⟩ mm x j x0 x1 j0 j1 hm hV
  obtain ⟨D0, M0, S, nc1, p0, mc, hcp, hgr, hit⟩ := A
  obtain ⟨q1, q2, q3, q4⟩ := e1 j j0 j1
  rw [q1, q2, q3, q4]
  have x302 := xR_cg (hm 302 (by omega) (by omega))
  have x372 := xR_cg (hm 372 (by omega) (by omega))
  have x371 := xR_cg (hm 371 (by omega) (by omega))
  refine rdy_g (D := D) (nc := nc) (p := p) hm x0 x1 D0.2 S nc1 p0 (fun i i0 i1 => ?_) hgr (fun d d0 d1 d2 => ?_) (wT _ _) (fun m' h => ?_) (fun i i0 i1 hi => by rw [if_pos hi]) (fun i i0 i1 hi => ?_)
  · obtain ⟨d, l, c1, c2, c3, c4, c5⟩ := hcp i i0 i1
    have tb := (hT d j c2.1 c2.2 c4 j0 j1).2
    exact ⟨d, l, c1, c2, c3, c4, c5 _ tb.1 tb.2⟩
  · obtain ⟨ta, tb⟩ := hT d j d0 d1 d2 j0 j1
    obtain ⟨cb, lb⟩ := h72 d d0 d1 d2
    have mb := mc d d0 d1
    refine ⟨fun m' h => ?_, tb.1, by omega⟩
    have z := w2 d d0 d1 d2 (by omega)
    have v := hV (xR m 372 d).toNat (by omega) z
    rw [Int.toNat_of_nonneg cb.1] at v
    have e : xJ m' (304 + xR m 372 d) x = T (xR m 372 d) j := by unfold xJ at v ⊢; rw [h _ (by omega)]; exact v
    have ef : xR m' (15 + 26 * d + 19 + xR m 371 d) = xR m (15 + 26 * d + 19 + xR m 371 d) := by rw [xR_cg (h _ (by omega)), xR_cg (hm _ (by omega) (by omega))]
    rw [mem_v (B := B) (m := m') (c := xR m 372 d) (l := xR m 371 d) (r := T (xR m 372 d) j) d0 (by omega) x0 x1 (by rw [xR_cg (h 302 (by omega)), x302]; exact h7) (by rw [xR_cg (h 372 (by omega)), x372]) cb.1 (by omega) (by rw [xR_cg (h 371 (by omega)), x371]) lb.1 lb.2 (by rw [e, w32_id (by omega) (by omega)]) ta.1 ta.2, ef]
  · have z := w1 (by rw [h7]; decide)
    have v := hV P.toNat (by omega) z
    rw [Int.toNat_of_nonneg P0] at v
    rw [fac_v (B := B) (m := m') (P := P) (by rw [xR_cg (h 302 (by omega) (by omega)), x302]; exact h7) (by rw [xR_cg (h 302 (by omega) (by omega)), x302]; exact h5) P0 (by omega) x0 x1]
    have e : xJ m' (304 + P) x = T P j := by unfold xJ at v ⊢; rw [h _ (by omega) (by omega)]; exact v
    rw [e]
  · obtain ⟨a0, a1⟩ := hit i i0 i1 hi
    have cc := fun (m' : xw_M) (hz : xR m' 302 = xR m 302) => col_v (B := B) (m := m') (K := xR m 224 i) (a := xR m 225 i) (P := P) (by rw [hz]; exact h7) (by rw [hz]; exact h5) P0 P8 a0 (by omega)
    have z := w3 i i0 i1 hi _ (cc m rfl)
    have vb : 0 ≤ vco P (xR m 224 i) (xR m 225 i) ∧ vco P (xR m 224 i) (xR m 225 i) < P + 1 + 3 * M := by
      unfold vco; split
      · omega
      · split <;> omega
    have v := hV (vco P (xR m 224 i) (xR m 225 i)).toNat (by omega) z
    rw [Int.toNat_of_nonneg vb.1] at v
    refine ⟨vco P (xR m 224 i) (xR m 225 i), fun m' h => cc m' (by rw [xR_cg (h 302 (by omega) (by omega)), x302]), by omega, ?_⟩
    rw [if_neg (by omega)]
    exact v
end SRF
