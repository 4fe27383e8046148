/-! OPERATIONS: cell, isBlank -/
section CLO
variable {B : Nat} {m : xw_M} {c : Int}
theorem rgi_cg {m' : xw_M} {Q p : Int} (q0 : Q = 544 ∨ Q = 558) (f : ∀ a, a ≠ 604 → a ≠ 536 → m' a = m a) : rgi m' Q p = rgi m Q p := by
  unfold rgi
  rw [xR_cg (f (Q + 4) (by omega) (by omega)), xR_cg (f (Q + 2) (by omega) (by omega)), xR_cg (f Q (by omega) (by omega))]
theorem rtk_cg {m' : xw_M} {Q p r : Int} (q0 : Q = 544 ∨ Q = 558) (f : ∀ a, a ≠ 604 → a ≠ 536 → m' a = m a) : rtk m' Q r p = rtk m Q r p := by
  unfold rtk
  rw [rgi_cg q0 f, xR_cg (f 595 (by omega) (by omega))]
theorem rcell_ok {m1 : xw_M} {i p r : Int} (pt : ptr m) (e1 : ∀ a, a ≠ 604 → m1 a = m a) (hT : xR m 536 24 ≠ 0 ∧ (0 ≤ i ∧ i < xR m 536 65) ∧ 0 ≤ p ∧ p < xR m (m 536 22) 0) (h65 : xR m 536 65 ≤ 4000) (hI : xR m (m 536 22) 0 ≤ 24) (g0 : 0 ≤ xR m (m 536 22) 4 ∧ xR m (m 536 22) 4 ≤ 8) (hr : xR m (m 536 73) i = r) (r0 : 0 ≤ r ∧ r < 4000) (k0 : xR m (m 536 22 + 1) p = 0 → 0 ≤ rgi m (m 536 22) p) (k1 : 1 ≤ xR m (m 536 22 + 1) p ∧ xR m (m 536 22 + 1) p ≤ 3 → 0 ≤ xR m (m 536 22 + 2) p ∧ xR m (m 536 22 + 2) p < 8) : yf342 B i p m1 = some (.inl (rvl m (m 536 22) r p), xw_u m1 536 1 0) ∧ yf346 B i p m1 = some (.inl (rbk m (m 536 22) r p), xw_u m1 536 1 0) := by
  have q0 : m 536 22 = 544 ∨ m 536 22 = 558 := by rcases pt.2.2.1 with q | q <;> omega
  have o0 : m 536 73 = 601 ∨ m 536 73 = 602 := by rcases pt.2.2.2 with q | q <;> omega
  have e536 := e1 536 (by omega)
  have e22 : m1 536 22 = m 536 22 := by rw [e536]
  have e73 : m1 536 73 = m 536 73 := by rw [e536]
  have pt1 : ptr m1 := ptr_fr pt (fun k _ => by rw [e536]) (fun k _ => by rw [e1 0 (by omega)])
  have T := there_rf (B := B) (m := m1) (i := i) (p := p) pt1
  rw [xR_cg e536, e22, xR_cg (e1 (m 536 22) (by omega)), if_pos hT] at T
  have oO : xw_obb 16 (m 536 73) = true ∧ xw_le B (m 536 73) = 4000 := by
    rw [le_B B (a := m 536 73) (by omega) (by omega) (by omega)]
    rcases o0 with q | q <;> rw [q] <;> decide +kernel
  obtain ⟨o1, ⟨r1, r2, r5⟩, ⟨x1, x2, x4⟩, l1, l2, l4⟩ := q_f B q0
  have gl := gix_b (xR m (m 536 22 + 4)) (xR m (m 536 22 + 2) p) (xR m (m 536 22) 4).toNat
  generalize hQ : m 536 22 = Q at *
  generalize hO : m 536 73 = O at *
  have f : ∀ a, a ≠ 604 → a ≠ 536 → xw_u m1 536 1 0 a = m a := fun a h1 h2 => by rw [xu_c h2]; exact e1 a h1
  have uQ : xw_u m1 536 1 0 536 22 = Q := by rw [xu_ne (by omega)]; exact e22
  have g1 : 0 ≤ xR (xw_u m1 536 1 0) Q 4 ∧ xR (xw_u m1 536 1 0) Q 4 ≤ 8 := by rw [xR_cg (f Q (by omega) (by omega))]; exact g0
  have TG := toget_ok (B := B) (m := xw_u m1 536 1 0) (r := r) (p := p) uQ q0 g1 hT.2.2.1 (by omega) r0
  have GR := group_ok (B := B) (m := xw_u m1 536 1 0) (p := p) uQ q0 g1 hT.2.2.1 (by omega)
  rw [rtk_cg q0 f] at TG
  rw [rgi_cg q0 f] at GR
  have c1 := xR_cg (e1 (Q + 1) (by omega))
  have c2 := xR_cg (e1 (Q + 2) (by omega))
  have c5 := xJ_cg (e1 597 (by omega))
  have c6 := xJ_cg (e1 598 (by omega))
  have c7 := xJ_cg (e1 599 (by omega))
  have c8 := xJ_cg (e1 600 (by omega))
  have gl' : rgi m Q p < 8 := by unfold rgi; omega
  have pb : 0 ≤ p ∧ p < 24 := ⟨hT.2.2.1, by omega⟩
  have ib : 0 ≤ i ∧ i < 4000 := ⟨hT.2.1.1, by omega⟩
  refine ⟨?_, ?_⟩
  · unfold yf342
    rw [T, xB_ret, if_neg (by decide), e22, e73, oO.2, if_pos ib, if_pos oO.1, if_pos o1, r2, l2, if_pos pb, if_pos x2, r1, l1, if_pos pb, if_pos x1, xR_cg (e1 O (by omega)), hr, c1, c2, c5, c6, c7, c8, TG]
    unfold rvl
    by_cases h0 : xR m (Q + 1) p = 0
    · rw [if_pos h0, if_pos h0, xB_ret]
      by_cases ht : rtk m Q r p = 0
      · have := k0 h0
        rw [if_pos ht, if_pos ht, GR, xB_ret, if_pos (by omega), xR_cg (f 596 (by omega) (by omega))]
      · rw [if_neg ht, if_neg ht]
    · rw [if_neg h0, if_neg h0]
      by_cases h1 : xR m (Q + 1) p = 1
      · have := k1 (by omega)
        rw [if_pos h1, if_pos h1, if_pos (by omega)]
      · rw [if_neg h1, if_neg h1]
        by_cases h2 : xR m (Q + 1) p = 2
        · have := k1 (by omega)
          rw [if_pos h2, if_pos h2, if_pos r0]
          by_cases hz : xJ m 597 r = 0
          · rw [if_pos hz, if_pos hz]
          · rw [if_neg hz, if_neg hz, if_pos (by omega)]
        · rw [if_neg h2, if_neg h2]
          by_cases h3 : xR m (Q + 1) p = 3
          · have := k1 (by omega)
            rw [if_pos h3, if_pos h3, if_pos r0]
            by_cases hz : xJ m 597 r = 0
            · rw [if_pos hz, if_pos hz]
            · rw [if_neg hz, if_neg hz, if_pos (by omega)]
          · rw [if_neg h3, if_neg h3]
            by_cases h4 : xR m (Q + 1) p = 4
            · rw [if_pos h4, if_pos h4, if_pos r0]
            · rw [if_neg h4, if_neg h4, xB_ret]
              unfold rtk
              split <;> rfl
  · have YK : yk346_71 B r (xw_u m1 536 1 0) = some (.inl (if xJ m 597 r = 0 then 1 else 0), xw_u m1 536 1 0) := by
      unfold yk346_71
      rw [if_pos r0, xJ_cg (f 597 (by omega) (by omega))]
      split <;> rfl
    unfold yf346
    rw [T, xB_ret, if_neg (by decide), e22, e73, oO.2, if_pos ib, if_pos oO.1, if_pos o1, r1, l1, if_pos pb, if_pos x1, xR_cg (e1 O (by omega)), hr, c1, TG, YK]
    unfold rbk
    by_cases h0 : xR m (Q + 1) p = 0
    · rw [if_pos h0, if_pos h0, xB_ret]
    · rw [if_neg h0, if_neg h0]
      by_cases h2 : xR m (Q + 1) p = 2
      · rw [if_pos h2, if_pos (Or.inl h2)]
      · rw [if_neg h2]
        by_cases h3 : xR m (Q + 1) p = 3
        · rw [if_pos h3, if_pos (Or.inr h3)]
        · rw [if_neg h3, if_neg (by omega)]
theorem cell_op {i p : Int} (h : Inw B c m) (a : ans m) (hc : c < 600) : opOk B c m (yf227 B i p) (yf342 B i p) ag3 ∧ opOk B c m (yf231 B i p) (yf346 B i p) ag3 := by
  obtain ⟨o, t0⟩ := ans_ob h.pt
  have TC := there_cl (B := B) (i := i) (p := p) h.pt a
  by_cases hT : xR m 536 24 ≠ 0 ∧ (0 ≤ i ∧ i < xR m 536 65) ∧ 0 ≤ p ∧ p < xR m (m 536 22) 0
  · rw [if_pos hT] at TC
    obtain ⟨b1, b2, b3, b4, b5⟩ := a.2.2 hT.1
    obtain ⟨c1, c2, c3⟩ := b5 i hT.2.1.1 hT.2.1.2
    obtain ⟨d1, d2, d3, d4⟩ := c3 p hT.2.2.1 hT.2.2.2
    have CL := cell_cl (B := B) (m := m) (p := p) (i := i) t0 hT.2.2.1 (by omega) hT.2.1.1 (by omega) c2
    have RC : ∀ m1 : xw_M, (∀ a, a ≠ 604 → m1 a = m a) → _ := fun m1 e1 => rcell_ok (B := B) (m1 := m1) h.pt e1 hT b1.1.2 b3.1.2 b4 rfl c1 d1 d2
    refine ⟨?_, ?_⟩
    · unfold opOk yf227
      rw [if_pos o, TC, xB_ret]
      show ∃ r m1, xB (some (.inl 0, m)) _ = some (r, m1) ∧ _
      rw [xB_ret, if_pos o, CL.1, xB_ret, d3]
      refine ⟨_, _, rfl, fun m1 e1 => ?_⟩
      have I := Inw_1 (x := 0) h hc e1
      rw [(RC m1 e1).1]
      exact ⟨_, _, rfl, I.1, Or.inl I.2, Or.inl ⟨rfl, xR_at (by decide)⟩⟩
    · unfold opOk yf231
      rw [if_pos o, TC, xB_ret]
      show ∃ r m1, xB (some (.inl 0, m)) _ = some (r, m1) ∧ _
      rw [xB_ret, if_pos o, CL.2, xB_ret, d4]
      refine ⟨_, _, rfl, fun m1 e1 => ?_⟩
      have I := Inw_1 (x := 0) h hc e1
      rw [(RC m1 e1).2]
      exact ⟨_, _, rfl, I.1, Or.inl I.2, Or.inl ⟨rfl, xR_at (by decide)⟩⟩
  · rw [if_neg hT] at TC
    have TR : ∀ m1 : xw_M, (∀ a, a ≠ 604 → m1 a = m a) → yf343 B i p m1 = some (.inl 0, m1) := fun m1 e1 => by
      have e536 := e1 536 (by omega)
      have q0 : m 536 22 = 544 ∨ m 536 22 = 558 := by rcases h.pt.2.2.1 with q | q <;> omega
      have T := there_rf (B := B) (m := m1) (i := i) (p := p) (ptr_fr h.pt (fun k _ => by rw [e536]) (fun k _ => by rw [e1 0 (by omega)]))
      rw [xR_cg e536, show m1 536 22 = m 536 22 by rw [e536], xR_cg (e1 (m 536 22) (by omega)), if_neg hT] at T
      exact T
    refine ⟨?_, ?_⟩
    · unfold opOk yf227
      rw [if_pos o, TC, xB_ret]
      refine ⟨_, _, rfl, fun m1 e1 => ?_⟩
      have I := Inw_1 (x := 1) h hc e1
      unfold yf342
      rw [TR m1 e1, xB_ret, if_pos rfl]
      exact ⟨_, _, rfl, I.1, Or.inl I.2, Or.inr ⟨rfl, xR_at (by decide)⟩⟩
    · unfold opOk yf231
      rw [if_pos o, TC, xB_ret]
      refine ⟨_, _, rfl, fun m1 e1 => ?_⟩
      have I := Inw_1 (x := 1) h hc e1
      unfold yf346
      rw [TR m1 e1, xB_ret, if_pos rfl]
      exact ⟨_, _, rfl, I.1, Or.inl I.2, Or.inr ⟨rfl, xR_at (by decide)⟩⟩
end CLO
