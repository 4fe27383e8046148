/-! THE ANSWER, by the reference: its rows in order (arrange) -/
def twA (s t : Int) : Prop := (s = 601 ∧ t = 602) ∨ (s = 602 ∧ t = 601)
theorem twA_f (B : Nat) {s t : Int} (h : twA s t) : xw_obb 16 s = true ∧ xw_obb 16 t = true ∧ xw_le B s = 4000 ∧ xw_le B t = 4000 := by
  rcases h with ⟨rfl, rfl⟩ | ⟨rfl, rfl⟩
  · exact ⟨by decide, by decide, rfl, rfl⟩
  · exact ⟨by decide, by decide, rfl, rfl⟩
section ARR
variable {B : Nat} {m : xw_M} {N n q : Int} {κ : Int → Int → Int}
theorem arng_ok (q0 : q = 544 ∨ q = 558) (h4 : xR m q 4 = N) (hk : bspc B m N κ n) (hn : 0 ≤ n ∧ n ≤ 4000) (h65 : xR m 536 65 = n) (hO : ∃ s t, twA s t ∧ m 536 73 = s ∧ m 536 74 = t) : ∃ m' o, yf298 B q m = some (.inl 0, m') ∧ sfo m m' ∧ (∃ s t, twA s t ∧ m' 536 73 = s ∧ m' 536 74 = t ∧ ∀ k, 0 ≤ k → k < n → xR m' s k = o k) ∧ srt κ N.toNat o n := by
  have o13 := (q_l B q0).1
  obtain ⟨s, t, tw, e73, e74⟩ := hO
  unfold yf298
  -- the places
  have first : ∃ m0, xl2 (yl298_2 B) 1000000 q 0 m = xl2 (yl298_25 B) 1000000 q 1 m0 ∧ sfo m m0 ∧ m0 536 = m 536 ∧ ∀ k, 0 ≤ k → k < n → xR m0 s k = k := by
    obtain ⟨t1, _, t3, _⟩ := twA_f B tw
    have sv : s = 601 ∨ s = 602 := by unfold twA at tw; omega
    have key : ∀ (NN : Nat) (x : Int) (m1 : xw_M), 0 ≤ x → x ≤ n → (n - x).toNat < NN → (∀ a, a ≠ s → m1 a = m a) → (∀ k, 0 ≤ k → k < x → xR m1 s k = k) → ∃ m0, xl2 (yl298_2 B) NN q x m1 = xl2 (yl298_25 B) 1000000 q 1 m0 ∧ (∀ a, a ≠ s → m0 a = m a) ∧ ∀ k, 0 ≤ k → k < n → xR m0 s k = k := by
      intro NN
      induction NN with
      | zero => intro x m1 _ _ h; omega
      | succ NN ih =>
        intro x m1 x0 x1 hN f v
        show ∃ m0, yl298_2 B (xl2 (yl298_2 B) NN) q x m1 = _ ∧ _
        have IH := ih (x + 1)
        clear ih
        generalize xl2 (yl298_2 B) NN = R at IH ⊢
        unfold yl298_2
        rw [xR_cg (f 536 (by omega)), h65, f 536 (by omega), e73]
        by_cases h : x < n
        · rw [if_pos h, t3, if_pos ⟨x0, by omega⟩, if_pos t1, w32_id (x := x + 1) (by omega) (by omega)]
          refine IH _ (by omega) (by omega) (by omega) (fun a ha => by rw [xu_c ha]; exact f a ha) (fun j j0 j1 => ?_)
          rw [xR_u]
          by_cases e : j = x
          · rw [if_pos ⟨rfl, e⟩, w32_id (by omega) (by omega), e]
          · rw [if_neg (fun z => e z.2)]; exact v j j0 (by omega)
        · rw [if_neg h]
          exact ⟨m1, rfl, f, fun j j0 j1 => v j j0 (by omega)⟩
    obtain ⟨NN, hNN⟩ : ∃ NN : Nat, NN = 1000000 := ⟨_, rfl⟩
    obtain ⟨m0, e, f, v⟩ := key NN 0 m (Int.le_refl _) hn.1 (by omega) (fun _ _ => rfl) (fun j j0 j1 => by omega)
    rw [hNN] at e
    exact ⟨m0, e, ⟨fun a a1 a2 a3 => f a (by omega), fun j _ _ => by rw [f 536 (by omega)]⟩, f 536 (by omega), v⟩
  obtain ⟨m0, e0, sf0, x536, v0⟩ := first
  rw [e0]
  have goal := xH_ex (Q := fun v m' => v = 0 ∧ ∃ o, sfo m m' ∧ (∃ s t, twA s t ∧ m' 536 73 = s ∧ m' 536 74 = t ∧ ∀ k, 0 ≤ k → k < n → xR m' s k = o k) ∧ srt κ N.toNat o n) (xl2_rule (F := yl298_25 B) (fun x0 x1 m' => x0 = q ∧ 1 ≤ x1 ∧ x1 ≤ 8000 ∧ sfo m m' ∧ ∃ o, (∃ s t, twA s t ∧ m' 536 73 = s ∧ m' 536 74 = t ∧ ∀ k, 0 ≤ k → k < n → xR m' s k = o k) ∧ ∀ f, Bnd x1 f → f < n → BP κ N.toNat o f (min (f + x1) n)) (fun _ x1 _ => (8000 - x1).toNat) ?_ 1000000 q 1 m0 ⟨rfl, by omega, by omega, sf0, fun k => k, ⟨s, t, tw, by rw [x536]; exact e73, by rw [x536]; exact e74, v0⟩, fun f _ h2 => ⟨fun k h3 h4 => ⟨h3, h4⟩, fun q q' h3 h4 h5 => by omega⟩⟩ (by omega))
  · obtain ⟨v, m', e1, rfl, o, h⟩ := goal
    exact ⟨m', o, e1, h⟩
  · intro r x0 x1 m1 ⟨a0, a1, a2, S1, o, O1, P1⟩ ih
    subst a0
    have r65 : xR m1 536 65 = n := by unfold xR; rw [S1.2 65 (by decide) (by decide)]; exact h65
    unfold yl298_25
    rw [r65]
    by_cases hx : x1 < n
    · rw [if_pos hx]
      obtain ⟨s, t, hst, h59, h60, hv⟩ := O1
      have hts : t ≠ s := by rcases hst with q | q <;> omega
      have ht : t = 601 ∨ t = 602 := by rcases hst with q | q <;> omega
      have hs : s = 601 ∨ s = 602 := by rcases hst with q | q <;> omega
      obtain ⟨t1, t2, t3, t4⟩ := twA_f B hst
      refine xl3_rule (F := yl298_35 B r) (fun y0 y1 y2 m' => y0 = x0 ∧ y1 = x1 ∧ Bnd (2 * x1) y2 ∧ 0 ≤ y2 ∧ y2 < n + 2 * x1 ∧ (∀ a, a ≠ t → m' a = m1 a) ∧ ∃ o', (∀ k, 0 ≤ k → k < n → k < y2 → xR m' t k = o' k) ∧ ∀ f, Bnd (2 * x1) f → f < n → f < y2 → BP κ N.toNat o' f (min (f + 2 * x1) n)) (fun _ _ y2 _ => (n + 2 * x1 - y2).toNat) ?_ 1000000 x0 x1 0 m1 ⟨rfl, rfl, ⟨0, by simp⟩, by omega, by omega, fun _ _ => rfl, o, fun k h1 h2 h3 => by omega, fun f ⟨j, hj⟩ _ h => by
        have : 0 ≤ 2 * x1 * (j : Int) := Int.mul_nonneg (by omega) (by omega)
        omega⟩ (by omega)
      intro r' y0 y1 y2 m2 ⟨b0, b1, b2, b3, b4, F2, o', V2, P2⟩ ih'
      subst b0 b1
      have S2 : sfo m m2 := sfo_tr S1 ⟨fun a b1 b2 b3 => F2 a (by omega), fun k _ _ => by rw [F2 536 (by omega)]⟩
      have q65 : xR m2 536 65 = n := by unfold xR; rw [S2.2 65 (by decide) (by decide)]; exact h65
      have q59 : m2 536 73 = s := by rw [F2 536 (by omega)]; exact h59
      have q60 : m2 536 74 = t := by rw [F2 536 (by omega)]; exact h60
      have rS : xR m2 s = xR m1 s := xR_cg (F2 s (fun q => hts q.symm))
      unfold yl298_35
      rw [q65]
      obtain ⟨d1, d2, d3⟩ := Bnd_half b2
      by_cases hy : y2 < n
      · rw [if_pos hy, w32_id (x := y2 + y1) (by omega) (by omega), w32_id (x := y2 + 2 * y1) (by omega) (by omega)]
        have hb1 := P1 y2 d1 hy
        have hb2 : BP κ N.toNat o (min (y2 + y1) n) (min (y2 + 2 * y1) n) := by
          by_cases hq : y2 + y1 < n
          · have := P1 (y2 + y1) d2 hq
            rw [show min (y2 + y1) n = y2 + y1 from by omega, show min (y2 + 2 * y1) n = min (y2 + y1 + y1) n from by omega]
            exact this
          · exact ⟨fun k h1 h2 => by omega, fun q q' h1 h2 h3 => by omega⟩
        have hv' : ∀ k, y2 ≤ k → k < min (y2 + 2 * y1) n → xR m2 s k = o k := fun k h1 h2 => by rw [rS]; exact hv k (by omega) (by omega)
        -- behind the merge
        have after : ∀ (m3 : xw_M) (o3 : Int → Int), (∀ a, a ≠ t → m3 a = m2 a) → (∀ k, k < y2 ∨ min (y2 + 2 * y1) n ≤ k → m3 t k = m2 t k) → BP κ N.toNat o3 y2 (min (y2 + 2 * y1) n) → (∀ k, y2 ≤ k → k < min (y2 + 2 * y1) n → xR m3 t k = o3 k) → xH (r' y0 y1 (y2 + 2 * y1) m3) (fun v m' => v = 0 ∧ ∃ o, sfo m m' ∧ (∃ s t, twA s t ∧ m' 536 73 = s ∧ m' 536 74 = t ∧ ∀ k, 0 ≤ k → k < n → xR m' s k = o k) ∧ srt κ N.toNat o n) (fun _ _ => False) := by
          intro m3 o3 F3 G3 P3 V3
          refine ih' _ _ _ _ ⟨rfl, rfl, d3, by omega, by omega, fun a ha => by rw [F3 a ha]; exact F2 a ha, fun k => if k < y2 then o' k else o3 k, fun k h1 h2 h3 => ?_, fun f h1 h2 h3 => ?_⟩ (by omega)
          · dsimp only
            by_cases e : k < y2
            · rw [if_pos e]
              have : xR m3 t k = xR m2 t k := by unfold xR; rw [G3 k (Or.inl e)]
              rw [this]
              exact V2 k h1 h2 e
            · rw [if_neg e]
              exact V3 k (by omega) (by omega)
          · by_cases e : f < y2
            · have hfe : f + 2 * y1 ≤ y2 := by
                obtain ⟨j1, rfl⟩ := h1
                obtain ⟨j2, rfl⟩ := b2
                have hj : (j1 : Int) < j2 := by
                  refine Classical.byContradiction (fun hc => ?_)
                  have : 2 * y1 * (j2 : Int) ≤ 2 * y1 * (j1 : Int) := Int.mul_le_mul_of_nonneg_left (by omega) (by omega)
                  omega
                have : 2 * y1 * ((j1 : Int) + 1) ≤ 2 * y1 * (j2 : Int) := Int.mul_le_mul_of_nonneg_left (by omega) (by omega)
                rw [Int.mul_add, Int.mul_one] at this
                omega
              exact BP_cg (P2 f h1 h2 e) (fun k h4 h5 => if_pos (by omega))
            · have hfe : f = y2 := by
                obtain ⟨j1, rfl⟩ := h1
                obtain ⟨j2, rfl⟩ := b2
                have hj : (j1 : Int) < (j2 : Int) + 1 := by
                  refine Classical.byContradiction (fun hc => ?_)
                  have : 2 * y1 * ((j2 : Int) + 1) ≤ 2 * y1 * (j1 : Int) := Int.mul_le_mul_of_nonneg_left (by omega) (by omega)
                  rw [Int.mul_add, Int.mul_one] at this
                  omega
                have hj2 : ¬ (j1 : Int) < j2 := by
                  intro hc
                  have : 2 * y1 * ((j1 : Int) + 1) ≤ 2 * y1 * (j2 : Int) := Int.mul_le_mul_of_nonneg_left (by omega) (by omega)
                  rw [Int.mul_add, Int.mul_one] at this
                  omega
                rw [show (j1 : Int) = j2 from by omega]
              subst hfe
              exact BP_cg P3 (fun k h4 h5 => if_neg (by omega))
        generalize hmd : min (y2 + y1) n = md at *
        generalize hee : min (y2 + 2 * y1) n = e at *
        have mdb : y2 ≤ md ∧ md ≤ e ∧ e ≤ n ∧ e ≤ y2 + 2 * y1 := by omega
        clear hmd hee d1 d2 d3 b2
        refine xl8_rule (F := yl298_79 B r r') (fun z1 z2 z3 z4 z5 x3 x4 x5 m' => z1 = y0 ∧ z2 = y1 ∧ z3 = y2 ∧ z4 = md ∧ z5 = e ∧ y2 ≤ x3 ∧ x3 ≤ md ∧ md ≤ x4 ∧ x4 ≤ e ∧ x3 - y2 + (x4 - md) = x5 - y2 ∧ (∀ a, a ≠ t → m' a = m2 a) ∧ (∀ k, k < y2 ∨ e ≤ k → m' t k = m2 t k) ∧ ∃ o', (∀ q, y2 ≤ q → q < x5 → xR m' t q = o' q) ∧ (∀ q, y2 ≤ q → q < x5 → (∃ a, (y2 ≤ a ∧ a < x3) ∧ o' q = o a) ∨ (∃ b, (md ≤ b ∧ b < x4) ∧ o' q = o b)) ∧ (∀ q q', y2 ≤ q → q < q' → q' < x5 → kl κ N.toNat 0 (o' q) (o' q')) ∧ (∀ q, y2 ≤ q → q < x5 → (∀ a, x3 ≤ a → a < md → kl κ N.toNat 0 (o' q) (o a)) ∧ ∀ b, x4 ≤ b → b < e → kl κ N.toNat 0 (o' q) (o b))) (fun _ _ _ _ _ _ _ x5 _ => (e - x5).toNat) ?_ 1000000 y0 y1 y2 md e y2 md y2 m2 ⟨rfl, rfl, rfl, rfl, rfl, by omega, by omega, by omega, by omega, by omega, fun _ _ => rfl, fun _ _ => rfl, o, fun q h1 h2 => by omega, fun q h1 h2 => by omega, fun q q' h1 h2 h3 => by omega, fun q h1 h2 => by omega⟩ (by omega)
        intro r8 z1 z2 z3 z4 z5 x3 x4 x5 m4 ⟨c1, c2, c3, c4, c5, a3, a4, a5, a6, a7, F4, G4, o4, V, S, K, L⟩ ih8
        subst c1 c2 c3 c4 c5
        have m59 : m4 536 73 = s := by rw [F4 536 (by omega)]; exact q59
        have m60 : m4 536 74 = t := by rw [F4 536 (by omega)]; exact q60
        have rS4 : xR m4 s = xR m2 s := xR_cg (F4 s (fun q => hts q.symm))
        have S4 : sfo m m4 := sfo_tr S2 ⟨fun a b1 b2 b3 => F4 a (by omega), fun k _ _ => by rw [F4 536 (by omega)]⟩
        have step : ∀ (c nx3 nx4 : Int), (z3 ≤ c ∧ c < z5) → x5 < z5 → (nx3 = x3 + 1 ∧ nx4 = x4 ∧ c = x3 ∧ x3 < z4 ∨ nx3 = x3 ∧ nx4 = x4 + 1 ∧ c = x4 ∧ x4 < z5) → (∀ a, nx3 ≤ a → a < z4 → kl κ N.toNat 0 (o c) (o a)) → (∀ b, nx4 ≤ b → b < z5 → kl κ N.toNat 0 (o c) (o b)) → xH (r8 z1 z2 z3 z4 z5 nx3 nx4 (x5 + 1) (xw_u m4 t x5 (xR m4 s c))) (fun v m' => v = 0 ∧ ∃ o, sfo m m' ∧ (∃ s t, twA s t ∧ m' 536 73 = s ∧ m' 536 74 = t ∧ ∀ k, 0 ≤ k → k < n → xR m' s k = o k) ∧ srt κ N.toNat o n) (fun _ _ => False) := by
          intro c nx3 nx4 hc hx5 hcase hA hB
          have hoc : 0 ≤ o c ∧ o c < n := by
            rcases hcase with ⟨_, _, q1, q2⟩ | ⟨_, _, q1, q2⟩
            · have := hb1.1 c (by omega) (by omega); omega
            · have := hb2.1 c (by omega) (by omega); omega
          refine ih8 _ _ _ _ _ _ _ _ _ ⟨rfl, rfl, rfl, rfl, rfl, by omega, by omega, by omega, by omega, by omega, fun a ha => by rw [xu_c ha]; exact F4 a ha, fun k hk2 => ?_, fun q => if q = x5 then o c else o4 q, fun q h1 h2 => ?_, fun q h1 h2 => ?_, fun q q' h1 h2 h3 => ?_, fun q h1 h2 => ?_⟩ (by omega)
          · unfold xw_u
            rw [if_neg (by omega)]
            exact G4 k hk2
          · rw [xR_u]
            by_cases e1 : q = x5
            · rw [if_pos ⟨rfl, e1⟩, rS4, hv' c hc.1 hc.2, w32_id (by omega) (by omega)]
              show o c = (if q = x5 then o c else o4 q)
              rw [if_pos e1]
            · rw [if_neg (fun h => e1 h.2)]
              show _ = (if q = x5 then o c else o4 q)
              rw [if_neg e1]
              exact V q h1 (by omega)
          · dsimp only
            by_cases e1 : q = x5
            · rw [if_pos e1]
              rcases hcase with ⟨q1, q2, q3, q4⟩ | ⟨q1, q2, q3, q4⟩
              · exact Or.inl ⟨c, ⟨hc.1, by omega⟩, rfl⟩
              · exact Or.inr ⟨c, ⟨by omega, by omega⟩, rfl⟩
            · rw [if_neg e1]
              rcases S q h1 (by omega) with ⟨a, h3, h4⟩ | ⟨b, h3, h4⟩
              · exact Or.inl ⟨a, ⟨h3.1, by omega⟩, h4⟩
              · exact Or.inr ⟨b, ⟨h3.1, by omega⟩, h4⟩
          · dsimp only
            rw [if_neg (show ¬ q = x5 by omega)]
            by_cases e1 : q' = x5
            · rw [if_pos e1]
              rcases hcase with ⟨_, _, q3, q4⟩ | ⟨_, _, q3, q4⟩
              · rw [q3]; exact (L q h1 (by omega)).1 x3 (by omega) q4
              · rw [q3]; exact (L q h1 (by omega)).2 x4 (by omega) q4
            · rw [if_neg e1]
              exact K q q' h1 h2 (by omega)
          · dsimp only
            by_cases e1 : q = x5
            · rw [if_pos e1]
              exact ⟨hA, hB⟩
            · rw [if_neg e1]
              obtain ⟨l1, l2⟩ := L q h1 (by omega)
              exact ⟨fun a h3 h4 => l1 a (by omega) h4, fun b h3 h4 => l2 b (by omega) h4⟩
        have left : x3 < z4 → x5 < z5 → (∀ b, x4 ≤ b → b < z5 → kl κ N.toNat 0 (o x3) (o b)) → xH (yk298_125 B r r' r8 z1 z2 z3 z4 z5 x3 x4 x5 m4) (fun v m' => v = 0 ∧ ∃ o, sfo m m' ∧ (∃ s t, twA s t ∧ m' 536 73 = s ∧ m' 536 74 = t ∧ ∀ k, 0 ≤ k → k < n → xR m' s k = o k) ∧ srt κ N.toNat o n) (fun _ _ => False) := by
          intro h1 h2 h3
          unfold yk298_125
          rw [m59, m60, t3, t4, if_pos ⟨by omega, by omega⟩, if_pos t1, if_pos ⟨by omega, by omega⟩, if_pos t2, w32_id (x := x3 + 1) (by omega) (by omega), w32_id (x := x4 + 0) (by omega) (by omega), w32_id (x := x5 + 1) (by omega) (by omega), Int.add_zero]
          exact step x3 (x3 + 1) x4 ⟨a3, by omega⟩ h2 (Or.inl ⟨rfl, rfl, rfl, h1⟩) (fun a q1 q2 => hb1.2 x3 a a3 (by omega) q2) h3
        have right : x4 < z5 → x5 < z5 → (∀ a, x3 ≤ a → a < z4 → kl κ N.toNat 0 (o x4) (o a)) → xH (yk298_129 B r r' r8 z1 z2 z3 z4 z5 x3 x4 x5 m4) (fun v m' => v = 0 ∧ ∃ o, sfo m m' ∧ (∃ s t, twA s t ∧ m' 536 73 = s ∧ m' 536 74 = t ∧ ∀ k, 0 ≤ k → k < n → xR m' s k = o k) ∧ srt κ N.toNat o n) (fun _ _ => False) := by
          intro h1 h2 h3
          unfold yk298_129
          rw [m59, m60, t3, t4, if_pos ⟨by omega, by omega⟩, if_pos t1, if_pos ⟨by omega, by omega⟩, if_pos t2, w32_id (x := x3 + 0) (by omega) (by omega), w32_id (x := x4 + 1) (by omega) (by omega), w32_id (x := x5 + 1) (by omega) (by omega), Int.add_zero]
          exact step x4 x3 (x4 + 1) ⟨by omega, h1⟩ h2 (Or.inr ⟨rfl, rfl, rfl, h1⟩) h3 (fun b q1 q2 => hb2.2 x4 b a5 (by omega) q2)
        unfold yl298_79
        by_cases hx5 : x5 < z5
        · rw [if_pos hx5]
          by_cases h6 : x4 = z5
          · rw [if_pos h6]
            exact left (by omega) hx5 (fun b q1 q2 => by omega)
          · rw [if_neg h6]
            by_cases h5 : x3 < z4
            · have ha := hb1.1 x3 a3 h5
              have hb := hb2.1 x4 a5 (by omega)
              obtain ⟨v, ev, v1, v2⟩ := hk m4 S4 (o x3) (o x4) (by omega) (by omega) (by omega) (by omega)
              have xq4 : xR m4 z1 4 = N := by rw [xR_cg (S4.1 z1 (by omega) (by omega) (by omega))]; exact h4
              rw [if_pos h5, m59, t3, if_pos ⟨by omega, by omega⟩, if_pos t1, if_pos ⟨by omega, by omega⟩, if_pos o13, rS4, hv' x3 a3 (by omega), hv' x4 (by omega) (by omega), xq4, ev, xB_ret]
              by_cases hv0 : 0 < v
              · rw [if_pos hv0]
                refine right (by omega) hx5 (fun a q1 q2 => ?_)
                have := v2 hv0
                by_cases ea : a = x3
                · rw [ea]; exact this
                · exact kl_trans this (hb1.2 x3 a a3 (by omega) q2)
              · rw [if_neg hv0]
                refine left h5 hx5 (fun b q1 q2 => ?_)
                have := v1 (by omega) (by omega)
                by_cases eb : b = x4
                · rw [eb]; exact this
                · exact kl_trans this (hb2.2 x4 b a5 (by omega) q2)
            · rw [if_neg h5]
              exact right (by omega) hx5 (fun a q1 q2 => by omega)
        · rw [if_neg hx5, w32_id (x := z3 + 2 * z2) (by omega) (by omega)]
          have e5 : x5 = z5 := by omega
          subst e5
          refine after m4 o4 F4 G4 ⟨fun k h1 h2 => ?_, K⟩ V
          rcases S k h1 h2 with ⟨a, h3, h4⟩ | ⟨b, h3, h4⟩
          · rw [h4]
            have := hb1.1 a h3.1 (by omega)
            omega
          · rw [h4]
            have := hb2.1 b h3.1 (by omega)
            omega
      · rw [if_neg hy, w32_id (x := y1 * 2) (by omega) (by omega), q59, q60]
        refine ih _ _ _ ⟨rfl, by omega, by omega, ⟨fun a b1 b2 b3 => by rw [xu_c b1, xu_c b1]; exact S2.1 a b1 b2 b3, fun k k1 k2 => by rw [xu_ne (by omega), xu_ne (by omega)]; exact S2.2 k k1 k2⟩, o', ⟨t, s, ?_, ?_, ?_, fun k h1 h2 => ?_⟩, fun f h1 h2 => ?_⟩ (by omega)
        · rcases hst with q | q
          · exact Or.inr ⟨q.2, q.1⟩
          · exact Or.inl ⟨q.2, q.1⟩
        · unfold xw_u
          rw [if_neg (by omega), if_pos ⟨rfl, rfl⟩]
        · unfold xw_u
          rw [if_pos ⟨rfl, rfl⟩]
        · rw [xR_cg (xu_c (by omega)), xR_cg (xu_c (by omega))]
          exact V2 k h1 h2 (by omega)
        · rw [show y1 * 2 = 2 * y1 from by omega] at h1 ⊢
          exact P2 f h1 h2 (by omega)
    · rw [if_neg hx, xH_ret]
      have hb : BP κ N.toNat o 0 n := by
        by_cases h0 : 0 < n
        · have := P1 0 ⟨0, by simp⟩ h0
          rw [show min (0 + x1) n = n from by omega] at this
          exact this
        · exact ⟨fun k h1 h2 => by omega, fun q q' h1 h2 h3 => by omega⟩
      have hsrt : srt κ N.toNat o n := by
        refine ⟨⟨fun i h1 h2 => hb.1 i h1 h2, fun i j h1 h2 h3 h4 e => ?_⟩, fun q q' h1 h2 h3 => hb.2 q q' h1 h2 h3⟩
        rcases Int.lt_trichotomy i j with h | h | h
        · have := hb.2 i j h1 h h4
          rw [e] at this
          exact (kl_anti this this).elim
        · exact h
        · have := hb.2 j i h3 h h2
          rw [e] at this
          exact (kl_anti this this).elim
      exact ⟨rfl, o, S1, O1, hsrt⟩
end ARR
