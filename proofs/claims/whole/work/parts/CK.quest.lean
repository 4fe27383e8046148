/-! A QUESTION, both sides: what stays of an answer; frames on the reference's side -/
/-- the class's cells of the one memory, the reference's of the other -/
def mix (c r : xw_M) : xw_M := fun a => if a < 536 then c a else r a
theorem mix_c {c r : xw_M} {a : Int} (h : a < 536) : mix c r a = c a := if_pos h
theorem mix_r {c r : xw_M} {a : Int} (h : 536 ≤ a) : mix c r a = r a := if_neg (by omega)
theorem ans_G {m m' : xw_M} (t0 : m 0 12 = 420 ∨ m 0 12 = 464) (q0 : m 536 22 = 544 ∨ m 536 22 = 558) (o0 : m 536 73 = 601 ∨ m 536 73 = 602) (h : ans m) (f1 : xR m' 536 3 = 1 → xR m 536 3 = 1) (e12 : m' 0 12 = m 0 12) (f3 : ∀ a, m 0 12 ≤ a → a ≤ m 0 12 + 43 → m' a = m a) (f4 : ∀ k, k = 22 ∨ k = 24 ∨ k = 65 ∨ k = 66 ∨ k = 73 → m' 536 k = m 536 k) (f5 : ∀ a, (m 536 22 ≤ a ∧ a ≤ m 536 22 + 13) ∨ (595 ≤ a ∧ a ≤ 602) → m' a = m a) : ans m' := by
  have e22 := f4 22 (by omega)
  have e73 := f4 73 (by omega)
  have e24 : xR m' 536 24 = xR m 536 24 := xR_fld (f4 24 (by omega))
  have e65 : xR m' 536 65 = xR m 536 65 := xR_fld (f4 65 (by omega))
  have e66 : xR m' 536 66 = xR m 536 66 := xR_fld (f4 66 (by omega))
  obtain ⟨a1, a2, a3⟩ := h
  unfold ans
  generalize hq : m 536 22 = Q at *
  generalize ht : m 0 12 = t at *
  generalize hO : m 536 73 = O at *
  rw [e12, e22, e73, e24, e65, e66, xR_cg (f3 t (by omega) (by omega)), xR_cg (f3 (t + 1) (by omega) (by omega)), xR_cg (f3 (t + 37) (by omega) (by omega)), xR_cg (f5 Q (by omega)), xR_cg (f5 O (by omega))]
  refine ⟨a1, fun h3 => a2 (f1 h3), fun hn => ?_⟩
  obtain ⟨b1, b2, b3, b4, b5⟩ := a3 hn
  refine ⟨b1, b2, b3, b4, fun i i0 i1 => ?_⟩
  obtain ⟨c1, c2, c3⟩ := b5 i i0 i1
  refine ⟨c1, c2, fun p p0 p1 => ?_⟩
  have d := c3 p p0 p1
  have g : ∀ p, rgi m' Q p = rgi m Q p := fun p => by unfold rgi; rw [xR_cg (f5 (Q + 4) (by omega)), xR_cg (f5 (Q + 2) (by omega)), xR_cg (f5 Q (by omega))]
  have k : ∀ r p, rtk m' Q r p = rtk m Q r p := fun r p => by unfold rtk; rw [g, xR_cg (f5 595 (by omega))]
  have v : ∀ r p, rvl m' Q r p = rvl m Q r p := fun r p => by unfold rvl; rw [g, k, xR_cg (f5 (Q + 1) (by omega)), xR_cg (f5 (Q + 2) (by omega)), xR_cg (f5 596 (by omega)), xJ_cg (f5 597 (by omega)), xJ_cg (f5 598 (by omega)), xJ_cg (f5 599 (by omega)), xJ_cg (f5 600 (by omega))]
  have b : ∀ r p, rbk m' Q r p = rbk m Q r p := fun r p => by unfold rbk; rw [k, xR_cg (f5 (Q + 1) (by omega)), xJ_cg (f5 597 (by omega))]
  have p24 : p < 24 := by omega
  unfold anC at d ⊢
  rw [g, v, b, xR_cg (f5 (Q + 1) (by omega)), xR_cg (f5 (Q + 2) (by omega)), xJ_cg (f3 (t + 13 + p) (by omega) (by omega)), xR_cg (f3 (t + 37) (by omega) (by omega)), xR_cg (f3 (t + 40) (by omega) (by omega))]
  exact d
section QFR
variable {c r r' : xw_M} {q D M k nc p : Int}
theorem GC_ro (G : GC c r q D k) (e4 : r' q 4 = r q 4) (eq : r' (q + 4) = r (q + 4)) : GC c r' q D k := by
  obtain ⟨g1, g2, g3, g4, g5⟩ := G
  exact ⟨g1, by rw [xR_fld e4]; exact g2, g3, by rw [xR_cg eq]; exact g4, g5⟩
theorem CDN_ro (N : CDN c r q D nc k p) (e11 : r' q 11 = r q 11) (e13 : r' q 13 = r q 13) (eq : ∀ j, 8 ≤ j → j ≤ 13 → r' (q + j) = r (q + j)) : CDN c r' q D nc k p := by
  obtain ⟨⟨a1, a2, a3, a4, a5⟩, b, s, e, f, w, z⟩ := N
  have x : ∀ j, 8 ≤ j → j ≤ 13 → xR r' (q + j) = xR r (q + j) := fun j j0 j1 => xR_cg (eq j j0 j1)
  refine ⟨⟨a1, by rw [xR_fld e13]; exact a2, a3, a4, fun i i0 i1 => ?_⟩, b, s, fun v => ?_, by rw [xR_fld e11]; exact f, by rw [xR_fld e11, x 8 (by decide) (by decide)]; exact w, z⟩
  · unfold CM1
    rw [x 9 (by decide) (by decide), x 10 (by decide) (by decide), x 11 (by decide) (by decide), x 12 (by decide) (by decide), x 13 (by decide) (by decide)]
    exact a5 i i0 i1
  · rw [e v, RS_fr (r := r) (r' := r') e11 (fun i _ _ => by rw [x 8 (by decide) (by decide)])]
theorem rsi_ro {i : Int} (e : ∀ j, 1 ≤ j → j ≤ 2 → r' (q + j) = r (q + j)) (h : rsi c r q M k i) : rsi c r' q M k i := by
  unfold rsi at *
  rw [xR_cg (e 1 (by decide) (by decide)), xR_cg (e 2 (by decide) (by decide))]
  exact h
end QFR
