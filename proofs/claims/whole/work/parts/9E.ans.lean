/-! THE ANSWER, read by either side: rows, cell, isBlank, served -/
/-- the last of the first n that is o -/
def gix (G : Int → Int) (o : Int) : Nat → Int
  | 0 => -1
  | n + 1 => if G n = o then (n : Int) else gix G o n
theorem gix_b (G : Int → Int) (o : Int) : ∀ n : Nat, -1 ≤ gix G o n ∧ gix G o n < n := by
  intro n
  induction n with
  | zero => exact ⟨Int.le_refl _, by show (-1 : Int) < 0; decide⟩
  | succ n ih =>
    show -1 ≤ (if G n = o then (n : Int) else gix G o n) ∧ (if G n = o then (n : Int) else gix G o n) < ((n + 1 : Nat) : Int)
    split <;> omega
/-- which group an item of the question Q is -/
def rgi (m : xw_M) (Q p : Int) : Int := gix (xR m (Q + 4)) (xR m (Q + 2) p) (xR m Q 4).toNat
/-- is that group taken together in the reference's row r -/
def rtk (m : xw_M) (Q r p : Int) : Int := if xw_iandf (xw_ishrf (xR m 595 r) (rgi m Q p)) 1 = 0 then 1 else 0
/-- the reference's cell -/
def rvl (m : xw_M) (Q r p : Int) : Int := if xR m (Q + 1) p = 0 then (if rtk m Q r p = 0 then xR m 596 (8 * r + rgi m Q p) else 0) else if xR m (Q + 1) p = 1 then xJ m 598 (8 * r + xR m (Q + 2) p) else if xR m (Q + 1) p = 2 then (if xJ m 597 r = 0 then 0 else xJ m 599 (8 * r + xR m (Q + 2) p)) else if xR m (Q + 1) p = 3 then (if xJ m 597 r = 0 then 0 else xJ m 600 (8 * r + xR m (Q + 2) p)) else if xR m (Q + 1) p = 4 then xJ m 597 r else rtk m Q r p
def rbk (m : xw_M) (Q r p : Int) : Int := if xR m (Q + 1) p = 0 then rtk m Q r p else if xR m (Q + 1) p = 2 ∨ xR m (Q + 1) p = 3 then (if xJ m 597 r = 0 then 1 else 0) else 0
/-- row i, item p of the answer t of the class is that of the reference -/
def anC (m : xw_M) (t Q r i p : Int) : Prop := (xR m (Q + 1) p = 0 → 0 ≤ rgi m Q p) ∧ (1 ≤ xR m (Q + 1) p ∧ xR m (Q + 1) p ≤ 3 → 0 ≤ xR m (Q + 2) p ∧ xR m (Q + 2) p < 8) ∧ xJ m (t + 13 + p) (xR m (t + 37) i) = rvl m Q r p ∧ (if xw_iandf (xw_ishrf (xR m (t + 40) (xR m (t + 37) i)) p) 1 = 0 then 0 else 1) = rbk m Q r p
def ans (m : xw_M) : Prop := (xR m (m 0 12) 7 = 0 ↔ xR m 536 24 = 0) ∧ (xR m 536 3 = 1 → xR m 536 24 = 0) ∧ (xR m 536 24 ≠ 0 → ((0 ≤ xR m 536 65 ∧ xR m 536 65 ≤ 4000) ∧ xR m (m 0 12 + 1) 5 = xR m 536 65) ∧ xR m (m 0 12) 9 = xR m 536 66 ∧ ((0 ≤ xR m (m 536 22) 0 ∧ xR m (m 536 22) 0 ≤ 24) ∧ xR m (m 0 12) 6 = xR m (m 536 22) 0) ∧ (0 ≤ xR m (m 536 22) 4 ∧ xR m (m 536 22) 4 ≤ 8) ∧ ∀ i, 0 ≤ i → i < xR m 536 65 → (0 ≤ xR m (m 536 73) i ∧ xR m (m 536 73) i < 4000) ∧ (0 ≤ xR m (m 0 12 + 37) i ∧ xR m (m 0 12 + 37) i < 4000) ∧ ∀ p, 0 ≤ p → p < xR m (m 536 22) 0 → anC m (m 0 12) (m 536 22) (xR m (m 536 73) i) i p)
theorem ans_N {m : xw_M} (h : anN m) : ans m := ⟨⟨fun _ => h.2, fun _ => h.1⟩, fun _ => h.2, fun hn => absurd h.2 hn⟩
theorem ans_F {m m' : xw_M} (pt : ptr m) (h : ans m) (F : anF m m') : ans m' := by
  obtain ⟨f1, f2, f3, f4, f5⟩ := F
  have t0 := (ans_ob pt).2
  have q0 : m 536 22 = 544 ∨ m 536 22 = 558 := by rcases pt.2.2.1 with q | q <;> omega
  have o0 : m 536 73 = 601 ∨ m 536 73 = 602 := by rcases pt.2.2.2 with q | q <;> omega
  have e12 := f2 12 (by omega)
  have e22 := f4 22 (by omega)
  have e73 := f4 73 (by omega)
  have e24 : xR m' 536 24 = xR m 536 24 := xR_fld (f4 24 (by omega))
  have e65 : xR m' 536 65 = xR m 536 65 := xR_fld (f4 65 (by omega))
  have e66 : xR m' 536 66 = xR m 536 66 := xR_fld (f4 66 (by omega))
  obtain ⟨a1, a2, a3⟩ := h
  unfold ans
  generalize hq : m 536 22 = Q at *
  generalize ht : m 0 12 = t at *
  generalize hO : m 536 73 = O at *
  rw [e12, e22, e73, e24, e65, e66, xR_cg (f3 t (by omega) (by omega)), xR_cg (f3 (t + 1) (by omega) (by omega)), xR_cg (f3 (t + 37) (by omega) (by omega)), xR_cg (f5 Q (by omega)), xR_cg (f5 O (by omega))]
  refine ⟨a1, fun h3 => a2 (f1 h3), fun hn => ?_⟩
  obtain ⟨b1, b2, b3, b4, b5⟩ := a3 hn
  refine ⟨b1, b2, b3, b4, fun i i0 i1 => ?_⟩
  obtain ⟨c1, c2, c3⟩ := b5 i i0 i1
  refine ⟨c1, c2, fun p p0 p1 => ?_⟩
  have d := c3 p p0 p1
  have g : ∀ p, rgi m' Q p = rgi m Q p := fun p => by unfold rgi; rw [xR_cg (f5 (Q + 4) (by omega)), xR_cg (f5 (Q + 2) (by omega)), xR_cg (f5 Q (by omega))]
  have k : ∀ r p, rtk m' Q r p = rtk m Q r p := fun r p => by unfold rtk; rw [g, xR_cg (f5 595 (by omega))]
  have v : ∀ r p, rvl m' Q r p = rvl m Q r p := fun r p => by unfold rvl; rw [g, k, xR_cg (f5 (Q + 1) (by omega)), xR_cg (f5 (Q + 2) (by omega)), xR_cg (f5 596 (by omega)), xJ_cg (f5 597 (by omega)), xJ_cg (f5 598 (by omega)), xJ_cg (f5 599 (by omega)), xJ_cg (f5 600 (by omega))]
  have b : ∀ r p, rbk m' Q r p = rbk m Q r p := fun r p => by unfold rbk; rw [k, xR_cg (f5 (Q + 1) (by omega)), xJ_cg (f5 597 (by omega))]
  unfold anC at d ⊢
  rw [g, v, b, xR_cg (f5 (Q + 1) (by omega)), xR_cg (f5 (Q + 2) (by omega)), xJ_cg (f3 (t + 13 + p) (by omega) (by omega)), xR_cg (f3 (t + 37) (by omega) (by omega)), xR_cg (f3 (t + 40) (by omega) (by omega))]
  exact d
section ANO
variable {B : Nat} {m : xw_M} {c : Int}
theorem down2 (h : Inw B c m) : (xR m 0 14 = 2 ↔ xR m 536 3 = 1) ∧ (xR m 536 3 = 0 ∨ xR m 536 3 = 1) := by
  obtain ⟨s1, s2, s3⟩ := h.st
  refine ⟨?_, s2⟩
  rw [s3]
  split <;> omega
theorem rows_op (h : Inw B c m) (a : ans m) (hc : c < 600) : opOk B c m (yf225 B) (yf341 B) ag1 := by
  obtain ⟨d1, d2⟩ := down2 h
  obtain ⟨o, t0⟩ := ans_ob h.pt
  obtain ⟨a1, a2, a3⟩ := a
  unfold opOk yf225
  by_cases h3 : xR m 536 3 = 1
  · rw [fdown (d1.mpr h3)]
    refine ⟨_, _, rfl, fun m1 e1 => ?_⟩
    have I := Inw_1 (x := 1) h hc e1
    unfold yf341
    rw [xR_cg (e1 536 (by omega)), if_neg (by omega)]
    exact ⟨_, _, rfl, I.1, Or.inl I.2, Or.inr ⟨rfl, xR_at (by decide)⟩⟩
  · rw [fup (fun q => h3 (d1.mp q)), xB_ret, if_pos o]
    by_cases h7 : xR m (m 0 12) 7 = 0
    · rw [if_pos h7]
      refine ⟨_, _, rfl, fun m1 e1 => ?_⟩
      have I := Inw_1 (x := 0) h hc e1
      unfold yf341
      rw [xR_cg (e1 536 (by omega)), if_pos (by omega), if_pos (a1.mp h7)]
      exact ⟨_, _, rfl, I.1, Or.inl I.2, Or.inl ⟨rfl, xR_at (by decide)⟩⟩
    · have h24 : xR m 536 24 ≠ 0 := fun q => h7 (a1.mpr q)
      obtain ⟨b1, b2, b3, b4, b5⟩ := a3 h24
      have r0 : xw_rf (m 0 12) 0 = m 0 12 + 1 ∧ xw_obb 8 (m 0 12 + 1) = true := by rcases t0 with q | q <;> rw [q] <;> decide
      rw [if_neg h7, r0.1, if_pos r0.2, b1.2]
      refine ⟨_, _, rfl, fun m1 e1 => ?_⟩
      have I := Inw_1 (x := 0) h hc e1
      unfold yf341
      rw [xR_cg (e1 536 (by omega)), if_pos (by omega), if_neg h24]
      exact ⟨_, _, rfl, I.1, Or.inl I.2, Or.inl ⟨rfl, xR_at (by decide)⟩⟩
theorem served_op (h : Inw B c m) (a : ans m) (hc : c < 600) : opOk B c m (yf234 B) (yf347 B) ag1 := by
  obtain ⟨d1, d2⟩ := down2 h
  obtain ⟨o, t0⟩ := ans_ob h.pt
  obtain ⟨a1, a2, a3⟩ := a
  unfold opOk yf234
  rw [if_pos o]
  by_cases h7 : xR m (m 0 12) 7 = 0
  · rw [if_pos h7]
    refine ⟨_, _, rfl, fun m1 e1 => ?_⟩
    have I := Inw_1 (x := 1) h hc e1
    unfold yf347
    rw [xR_cg (e1 536 (by omega)), if_pos (a1.mp h7)]
    refine ⟨0, xw_u m1 536 1 1, by split <;> rfl, I.1, Or.inl I.2, Or.inr ⟨rfl, xR_at (by decide)⟩⟩
  · have h24 : xR m 536 24 ≠ 0 := fun q => h7 (a1.mpr q)
    have h3 : xR m 536 3 = 0 := by
      rcases d2 with q | q
      · exact q
      · exact absurd (a2 q) h24
    obtain ⟨b1, b2, b3, b4, b5⟩ := a3 h24
    rw [if_neg h7]
    show ∃ r m1, xB (some (.inl 0, m)) _ = some (r, m1) ∧ _
    rw [xB_ret, if_pos o, b2]
    refine ⟨_, _, rfl, fun m1 e1 => ?_⟩
    have I := Inw_1 (x := 0) h hc e1
    unfold yf347
    rw [xR_cg (e1 536 (by omega)), if_pos h3, if_neg h24]
    exact ⟨_, _, rfl, I.1, Or.inl I.2, Or.inl ⟨rfl, xR_at (by decide)⟩⟩
end ANO
