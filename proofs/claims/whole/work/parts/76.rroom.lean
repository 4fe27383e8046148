/-! ROOM ON THE DISK, by the reference: mark, placeFor -/
section RROOM
variable {B : Nat} {m : xw_M} {E b : Int}
theorem mark_ok (hb : b ≤ 512) (hE : xR m 536 52 = E) (hx : exts (xR m 587) (xR m 588) E b) : ∃ m', yf308 B m = some (.inl 0, m') ∧ (∀ a, a ≠ 589 → m' a = m a) ∧ ∀ x, 0 ≤ x → x < 512 → (xR m' 589 x = 0 ∨ xR m' 589 x = 1) ∧ (xR m' 589 x = 0 ↔ 2 ≤ x ∧ frx (xR m 587) (xR m 588) E x) := by
  obtain ⟨⟨E0, E1⟩, h2, h3⟩ := hx
  generalize hSf : xR m 587 = S at *
  generalize hLf : xR m 588 = Ln at *
  unfold yf308
  generalize hN : (1000000 : Nat) = N
  obtain ⟨W, hW⟩ : ∃ W : Int, W = 512 := ⟨_, rfl⟩
  have ini : (fun x0 m' => 0 ≤ x0 ∧ x0 ≤ 512 ∧ (∀ a, a ≠ 589 → m' a = m a) ∧ ∀ x, 0 ≤ x → x < x0 → (xR m' 589 x = 0 ∨ xR m' 589 x = 1) ∧ (xR m' 589 x = 0 ↔ 2 ≤ x) : Int → xw_M → Prop) 0 m := ⟨Int.le_refl 0, by decide, fun _ _ => rfl, fun x x0 x1 => absurd x1 (Int.not_lt.mpr x0)⟩
  have fu : (fun (x0 : Int) (_ : xw_M) => (W - x0).toNat) 0 m < N := by
    show (W - 0).toNat < N
    omega
  have goal := xH_ex (Q := fun v m' => v = 0 ∧ (∀ a, a ≠ 589 → m' a = m a) ∧ ∀ x, 0 ≤ x → x < 512 → (xR m' 589 x = 0 ∨ xR m' 589 x = 1) ∧ (xR m' 589 x = 0 ↔ 2 ≤ x ∧ frx S Ln E x)) (xl1_rule (F := yl308_2 B) (fun x0 m' => 0 ≤ x0 ∧ x0 ≤ 512 ∧ (∀ a, a ≠ 589 → m' a = m a) ∧ ∀ x, 0 ≤ x → x < x0 → (xR m' 589 x = 0 ∨ xR m' 589 x = 1) ∧ (xR m' 589 x = 0 ↔ 2 ≤ x)) (fun x0 _ => (W - x0).toNat) ?_ N 0 m ini fu)
  · obtain ⟨v, m', e, rfl, h⟩ := goal
    exact ⟨m', e, h⟩
  · intro r x0 m1 ⟨a0, a1, F, V⟩ ih
    unfold yl308_2
    by_cases hx0 : x0 < 512
    · rw [if_pos hx0, w32_id (by omega) (by omega)]
      by_cases h : x0 < 2
      · rw [if_pos h, if_pos ⟨a0, hx0⟩]
        refine ih _ _ ⟨by omega, by omega, fun a ha => by rw [xu_c ha]; exact F a ha, fun x q0 q1 => ?_⟩ (by omega)
        rw [xR_u]
        by_cases e : x = x0
        · rw [if_pos ⟨rfl, e⟩]
          exact ⟨Or.inr rfl, ⟨fun h => absurd h (by decide), fun h => by omega⟩⟩
        · rw [if_neg (fun h => e h.2)]
          exact V x q0 (by omega)
      · rw [if_neg h, if_pos ⟨a0, hx0⟩]
        refine ih _ _ ⟨by omega, by omega, fun a ha => by rw [xu_c ha]; exact F a ha, fun x q0 q1 => ?_⟩ (by omega)
        rw [xR_u]
        by_cases e : x = x0
        · rw [if_pos ⟨rfl, e⟩]
          exact ⟨Or.inl rfl, ⟨fun _ => by omega, fun _ => rfl⟩⟩
        · rw [if_neg (fun h => e h.2)]
          exact V x q0 (by omega)
    · have ex : x0 = 512 := by omega
      subst ex
      rw [if_neg hx0]
      refine xl1_rule (F := yl308_33 B) (fun y0 m' => 0 ≤ y0 ∧ y0 ≤ E ∧ (∀ a, a ≠ 589 → m' a = m a) ∧ ∀ x, 0 ≤ x → x < 512 → (xR m' 589 x = 0 ∨ xR m' 589 x = 1) ∧ (xR m' 589 x = 0 ↔ 2 ≤ x ∧ ∀ e, 0 ≤ e → e < y0 → ¬ (S e ≤ x ∧ x < S e + Ln e))) (fun y0 _ => (E - y0).toNat) ?_ 1000000 0 m1 ⟨by omega, by omega, F, fun x q0 q1 => ⟨(V x q0 q1).1, by rw [(V x q0 q1).2]; exact ⟨fun h => ⟨h, fun e e0 e1 => by omega⟩, fun h => h.1⟩⟩⟩ (by omega)
      intro r' y0 m2 ⟨b0, b1, F2, V2⟩ ih'
      have q52 : xR m2 536 52 = E := by rw [xR_cg (F2 536 (by decide))]; exact hE
      unfold yl308_33
      rw [q52]
      by_cases hy : y0 < E
      · obtain ⟨k1, k2, k3⟩ := h2 y0 b0 hy
        rw [if_pos hy]
        refine xl2_rule (F := yl308_43 B r') (fun z0 z1 m' => z0 = y0 ∧ 0 ≤ z1 ∧ z1 ≤ Ln y0 ∧ (∀ a, a ≠ 589 → m' a = m a) ∧ ∀ x, 0 ≤ x → x < 512 → (xR m' 589 x = 0 ∨ xR m' 589 x = 1) ∧ (xR m' 589 x = 0 ↔ 2 ≤ x ∧ (∀ e, 0 ≤ e → e < y0 → ¬ (S e ≤ x ∧ x < S e + Ln e)) ∧ ¬ (S y0 ≤ x ∧ x < S y0 + z1))) (fun _ z1 _ => (Ln y0 - z1).toNat) ?_ 1000000 y0 0 m2 ⟨rfl, by omega, by omega, F2, fun x q0 q1 => ⟨(V2 x q0 q1).1, by rw [(V2 x q0 q1).2]; exact ⟨fun h => ⟨h.1, h.2, by omega⟩, fun h => ⟨h.1, h.2.1⟩⟩⟩⟩ (by omega)
        intro r'' z0 z1 m3 ⟨c0, c1, c2, F3, V3⟩ ih''
        subst c0
        have eS : xR m3 587 = S := by rw [xR_cg (F3 587 (by decide))]; exact hSf
        have eL : xR m3 588 = Ln := by rw [xR_cg (F3 588 (by decide))]; exact hLf
        unfold yl308_43
        rw [if_pos ⟨b0, by omega⟩, eS, eL]
        by_cases hz : z1 < Ln z0
        · rw [if_pos hz, if_pos ⟨by omega, by omega⟩, w32_id (by omega) (by omega)]
          refine ih'' _ _ _ ⟨rfl, by omega, by omega, fun a ha => by rw [xu_c ha]; exact F3 a ha, fun x q0 q1 => ?_⟩ (by omega)
          rw [xR_u]
          by_cases e : x = S z0 + z1
          · rw [if_pos ⟨rfl, e⟩]
            exact ⟨Or.inr rfl, ⟨fun h => absurd h (by decide), fun h => by omega⟩⟩
          · rw [if_neg (fun h => e h.2)]
            refine ⟨(V3 x q0 q1).1, ?_⟩
            rw [(V3 x q0 q1).2]
            exact ⟨fun h => ⟨h.1, h.2.1, by omega⟩, fun h => ⟨h.1, h.2.1, by omega⟩⟩
        · have ez : z1 = Ln z0 := by omega
          subst ez
          rw [if_neg hz, w32_id (by omega) (by omega)]
          refine ih' _ _ ⟨by omega, by omega, F3, fun x q0 q1 => ⟨(V3 x q0 q1).1, ?_⟩⟩ (by omega)
          rw [(V3 x q0 q1).2]
          constructor
          · rintro ⟨g1, g2, g3⟩
            refine ⟨g1, fun e e0 e1 => ?_⟩
            by_cases ee : e = z0
            · rw [ee]; exact g3
            · exact g2 e e0 (by omega)
          · rintro ⟨g1, g2⟩
            exact ⟨g1, fun e e0 e1 => g2 e e0 (by omega), g2 z0 b0 (by omega)⟩
      · have ey : y0 = E := by omega
        subst ey
        rw [if_neg hy, xH_ret]
        exact ⟨rfl, F2, V2⟩
theorem placeFor_ok (hb : b ≤ 512) (hb0 : xR m 536 49 = b) (hE : xR m 536 52 = E) (hx : exts (xR m 587) (xR m 588) E b) {n : Int} (hn : 1 ≤ n) (hn2 : n ≤ 1000000) : ∃ m' v, yf307 B n m = some (.inl v, m') ∧ (∀ a, a ≠ 589 → m' a = m a) ∧ isRoom (xR m 587) (xR m 588) E b n v := by
  obtain ⟨m1, e1, F1, V1⟩ := mark_ok (B := B) hb hE hx
  unfold yf307
  rw [e1, xB_ret]
  generalize hSf : xR m 587 = S at *
  generalize hLf : xR m 588 = Ln at *
  have q49 : xR m1 536 49 = b := by rw [xR_cg (F1 536 (by decide))]; exact hb0
  have goal := xH_ex (Q := fun v m' => m' = m1 ∧ isRoom S Ln E b n v) (xl2_rule (F := yl307_6 B) (fun x0 x1 m' => x0 = n ∧ m' = m1 ∧ 2 ≤ x1 ∧ (x1 ≤ b ∨ x1 = 2) ∧ ∀ s, 2 ≤ s → s < x1 → ∃ x, (s ≤ x ∧ x < s + n) ∧ ¬ frx S Ln E x) (fun _ x1 _ => (b + 2 - x1).toNat) ?_ 1000000 n 2 m1 ⟨rfl, rfl, by omega, by omega, fun s h1 h2 => by omega⟩ (by omega))
  · obtain ⟨v, m', e, rfl, h⟩ := goal
    exact ⟨m', v, e, F1, h⟩
  · intro r x0 x1 m' ⟨a0, a1, a2, a3, A⟩ ih
    subst a0 a1
    unfold yl307_6
    rw [q49, w32_id (by omega) (by omega)]
    by_cases h : b < x1 + x0
    · rw [if_pos h, xH_ret]
      exact ⟨rfl, Or.inl ⟨rfl, fun s h1 h2 => A s h1 (by omega)⟩⟩
    · rw [if_neg h]
      have fin : ∀ f, (f = 0 ∨ f = 1) → (f = 0 → ∃ x, (x1 ≤ x ∧ x < x1 + x0) ∧ ¬ frx S Ln E x) → (f = 1 → ∀ x, x1 ≤ x → x < x1 + x0 → frx S Ln E x) → xH (yk307_55 B r x0 x1 f m') (fun v m'_1 => m'_1 = m' ∧ isRoom S Ln E b x0 v) (fun _ _ => False) := by
        intro f hf h0 h1
        unfold yk307_55
        by_cases e : f = 0
        · rw [if_pos e, w32_id (by omega) (by omega)]
          refine ih _ _ _ ⟨rfl, rfl, by omega, by omega, fun s g1 g2 => ?_⟩ (by omega)
          by_cases es : s = x1
          · rw [es]; exact h0 e
          · exact A s g1 (by omega)
        · rw [if_neg e, xH_ret]
          exact ⟨rfl, Or.inr ⟨⟨a2, by omega⟩, h1 (hf.resolve_left e), A⟩⟩
      refine xl4_rule (F := yl307_21 B r) (fun y0 y1 y2 y3 m2 => y0 = x0 ∧ y1 = x1 ∧ m2 = m' ∧ x1 ≤ y3 ∧ y3 ≤ x1 + x0 ∧ (y2 = 0 ∨ y2 = 1) ∧ (y2 = 0 → ∃ x, (x1 ≤ x ∧ x < y3) ∧ ¬ frx S Ln E x) ∧ (y2 = 1 → ∀ x, x1 ≤ x → x < y3 → frx S Ln E x)) (fun _ _ _ y3 _ => (x1 + x0 - y3).toNat) ?_ 1000000 x0 x1 1 x1 m' ⟨rfl, rfl, rfl, by omega, by omega, Or.inr rfl, fun h => absurd h (by decide), fun _ x h1 h2 => by omega⟩ (by omega)
      intro r' y0 y1 y2 y3 m2 ⟨b0, b1, b2, b3, b4, b5, b6, b7⟩ ih'
      subst b0 b1 b2
      unfold yl307_21
      rw [w32_id (x := y1 + y0) (by omega) (by omega)]
      by_cases hy : y3 < y1 + y0
      · rw [if_pos hy]
        by_cases e2 : y2 = 0
        · rw [if_pos e2]
          obtain ⟨x, hx1, hx2⟩ := b6 e2
          exact fin y2 b5 (fun _ => ⟨x, ⟨hx1.1, by omega⟩, hx2⟩) (fun h => by omega)
        · have V := V1 y3 (by omega) (by omega)
          rw [if_neg e2, if_pos ⟨by omega, by omega⟩, w32_id (by omega) (by omega)]
          by_cases hu : xR m2 589 y3 = 0
          · rw [if_pos hu]
            refine ih' _ _ _ _ _ ⟨rfl, rfl, rfl, by omega, by omega, Or.inr rfl, fun h => absurd h (by decide), fun _ x g1 g2 => ?_⟩ (by omega)
            by_cases e : x = y3
            · rw [e]; exact (V.2.mp hu).2
            · exact b7 (b5.resolve_left e2) x g1 (by omega)
          · rw [if_neg hu]
            refine ih' _ _ _ _ _ ⟨rfl, rfl, rfl, by omega, by omega, Or.inl rfl, fun _ => ⟨y3, ⟨b3, by omega⟩, fun hf => hu (V.2.mpr ⟨by omega, hf⟩)⟩, fun h => absurd h (by decide)⟩ (by omega)
      · rw [if_neg hy]
        have ey : y3 = y1 + y0 := by omega
        subst ey
        exact fin y2 b5 b6 b7
end RROOM
