/-! THE REFERENCE'S SORT: the passes, and where its rows begin -/
def Bnd (w f : Int) : Prop := ∃ j : Nat, f = w * j
theorem Bnd_half {w f : Int} (h : Bnd (2 * w) f) : Bnd w f ∧ Bnd w (f + w) ∧ Bnd (2 * w) (f + 2 * w) := by
  obtain ⟨j, rfl⟩ := h
  refine ⟨⟨2 * j, ?_⟩, ⟨2 * j + 1, ?_⟩, ⟨j + 1, ?_⟩⟩
  · rw [Int.natCast_mul, ← Int.mul_assoc, Int.mul_comm w]
    rfl
  · rw [Int.natCast_add, Int.natCast_mul, Int.mul_add, ← Int.mul_assoc, Int.mul_comm w]
    show _ = 2 * w * (j : Int) + w * 1
    omega
  · rw [Int.natCast_add, Int.mul_add]
    show _ = _ + 2 * w * 1
    omega
/-- whether a place of the order goes with the one before -/
def eqv (tb : Int) (N : Int) (κ : Int → Int → Int) (o : Int → Int) (a b : Int) : Prop := tb ≠ -1 ∧ ∀ i, 0 ≤ i → i < N → κ i (o a) = κ i (o b)
/-- the rows: R of them, where each begins -/
def SR (tb N : Int) (κ : Int → Int → Int) (o st : Int → Int) (n R : Int) : Prop := 0 ≤ R ∧ R ≤ n ∧ (0 < n → 0 < R ∧ st 0 = 0) ∧ st R = n ∧ ∀ j, 0 ≤ j → j < R → st j < st (j + 1) ∧ (∀ q, st j < q → q < st (j + 1) → eqv tb N κ o (q - 1) q) ∧ (0 < j → ¬ eqv tb N κ o (st j - 1) (st j))
/-- the order as it lies -/
def ORD (m : xw_M) (g o : Int → Int) (n : Int) : Prop := ∃ s t, two s t ∧ m 536 59 = s ∧ m 536 60 = t ∧ ∀ k, 0 ≤ k → k < n → xR m s k = g (o k)
section RSORT
variable {B : Nat} {m : xw_M} {tb N n : Int} {κ : Int → Int → Int} {g : Int → Int}
theorem starts_ok {m1 : xw_M} {o : Int → Int} (hN : 0 ≤ N ∧ N ≤ 8) (hk : kspec B m tb N κ g n) (hs : sfr m m1) (hn : 0 ≤ n ∧ n ≤ 20000) (h58 : xR m 536 58 = n) (hO : ORD m1 g o n) (hp : prm o n) : ∃ m', xl2 (yl290_121 B) 1000000 tb 0 (xw_u m1 536 61 0) = some (.inl 0, m') ∧ sfr m m' ∧ ORD m' g o n ∧ SR tb N κ o (xR m' 592) n (xR m' 536 61) := by
  obtain ⟨s, t, hst, h59, h60, hv⟩ := hO
  obtain ⟨t1, t2, t3, t4⟩ := two_f B hst
  have hs0 : s ≠ 536 ∧ s ≠ 592 := by rcases hst with q | q <;> omega
  -- a state of the loop: x rows begun before k
  have goal := xH_ex (Q := fun v m' => v = 0 ∧ sfr m m' ∧ ORD m' g o n ∧ SR tb N κ o (xR m' 592) n (xR m' 536 61)) (xl2_rule (F := yl290_121 B) (fun x0 x1 m' => x0 = tb ∧ 0 ≤ x1 ∧ x1 ≤ n ∧ sfr m m' ∧ m' 536 59 = s ∧ m' 536 60 = t ∧ (∀ k, 0 ≤ k → k < n → xR m' s k = g (o k)) ∧ ∃ R, xR m' 536 61 = R ∧ 0 ≤ R ∧ R ≤ x1 ∧ (0 < x1 → 0 < R ∧ xR m' 592 0 = 0 ∧ xR m' 592 (R - 1) < x1) ∧ (∀ j, 0 ≤ j → j + 1 < R → xR m' 592 j < xR m' 592 (j + 1)) ∧ ∀ j, 0 ≤ j → j < R → (∀ q, xR m' 592 j < q → q < (if j + 1 < R then xR m' 592 (j + 1) else x1) → eqv tb N κ o (q - 1) q) ∧ (0 < j → ¬ eqv tb N κ o (xR m' 592 j - 1) (xR m' 592 j))) (fun _ x1 _ => (n - x1).toNat) ?_ 1000000 tb 0 (xw_u m1 536 61 0) ⟨rfl, by omega, by omega, sfr_f hs (by omega), by unfold xw_u; rw [if_neg (by omega)]; exact h59, by unfold xw_u; rw [if_neg (by omega)]; exact h60, fun k h1 h2 => by rw [xR_cg (xu_c hs0.1)]; exact hv k h1 h2, 0, by rw [xR_u, if_pos ⟨rfl, rfl⟩]; rfl, by omega, by omega, fun h => by omega, fun j h1 h2 => by omega, fun j h1 h2 => by omega⟩ (by omega))
  · obtain ⟨v, m', e1, rfl, h⟩ := goal
    exact ⟨m', e1, h⟩
  · intro r x0 x1 m2 ⟨a0, a1, a2, S2, b59, b60, V2, R, c1, c2, c3, c4, c5, c6⟩ ih
    subst a0
    have r58 : xR m2 536 58 = n := by unfold xR; rw [S2.2 58 (by decide) (by decide) (by decide)]; exact h58
    -- a new row at x1
    have put : x1 < n → (0 < x1 → ¬ eqv x0 N κ o (x1 - 1) x1) → xH (yk290_160 B r x0 x1 m2) (fun v m' => v = 0 ∧ sfr m m' ∧ ORD m' g o n ∧ SR x0 N κ o (xR m' 592) n (xR m' 536 61)) (fun _ _ => False) := by
      intro hx hne
      unfold yk290_160
      rw [c1, if_pos ⟨c2, by omega⟩, w32_id (by omega) (by omega)]
      have q1 : ∀ j, xR (xw_u (xw_u m2 592 R x1) 536 61 (R + 1)) 592 j = if j = R then x1 else xR m2 592 j := by
        intro j
        rw [xR_cg (xu_c (by decide)), xR_u]
        by_cases e : j = R
        · rw [if_pos ⟨rfl, e⟩, if_pos e, w32_id (by omega) (by omega)]
        · rw [if_neg (fun h => e h.2), if_neg e]
      refine ih _ _ _ ⟨rfl, by omega, by omega, sfr_f (sfr_u S2 (by omega)) (by omega), ?_, ?_, ?_, R + 1, ?_, by omega, by omega, fun _ => ⟨by omega, ?_, ?_⟩, fun j h1 h2 => ?_, fun j h1 h2 => ⟨fun q h3 h4 => ?_, fun h3 => ?_⟩⟩ (by omega)
      · unfold xw_u
        rw [if_neg (by omega), if_neg (by omega)]
        exact b59
      · unfold xw_u
        rw [if_neg (by omega), if_neg (by omega)]
        exact b60
      · intro k h1 h2
        rw [xR_cg (xu_c hs0.1), xR_cg (xu_c hs0.2)]
        exact V2 k h1 h2
      · rw [xR_u, if_pos ⟨rfl, rfl⟩, w32_id (by omega) (by omega)]
      · rw [q1]
        by_cases e : (0 : Int) = R
        · rw [if_pos e]
          have : ¬ 0 < x1 := fun h => by have := (c4 h).1; omega
          omega
        · rw [if_neg e]
          have : 0 < x1 := by omega
          exact (c4 this).2.1
      · rw [q1, if_pos (by omega)]
        omega
      · rw [q1, q1, if_neg (by omega)]
        by_cases e : j + 1 = R
        · rw [if_pos e]
          have h5 := (c4 (by omega)).2.2
          rw [show j = R - 1 from by omega]
          exact h5
        · rw [if_neg e]
          exact c5 j h1 (by omega)
      · rw [q1] at h3
        by_cases e : j = R
        · rw [if_pos e] at h3
          rw [if_neg (by omega)] at h4
          omega
        · rw [if_neg e] at h3
          rw [if_pos (by omega), q1] at h4
          by_cases e2 : j + 1 = R
          · rw [if_pos e2] at h4
            exact (c6 j h1 (by omega)).1 q h3 (by rw [if_neg (by omega)]; exact h4)
          · rw [if_neg e2] at h4
            exact (c6 j h1 (by omega)).1 q h3 (by rw [if_pos (by omega)]; exact h4)
      · rw [q1]
        by_cases e : j = R
        · rw [if_pos e]
          exact hne (by omega)
        · rw [if_neg e]
          exact (c6 j h1 (by omega)).2 h3
    unfold yl290_121
    rw [r58]
    by_cases hx : x1 < n
    · rw [if_pos hx]
      by_cases h0 : x1 = 0
      · rw [if_pos h0]
        exact put hx (fun h => by omega)
      · rw [if_neg h0]
        by_cases ht : x0 = -1
        · rw [if_pos ht]
          exact put hx (fun _ h => h.1 ht)
        · have p1 := hp.1 (x1 - 1) (by omega) (by omega)
          have p2 := hp.1 x1 a1 hx
          obtain ⟨v, ev, _, _, v3⟩ := against_ok (x := o (x1 - 1)) (y := o x1) hN hk S2 p1 p2
          rw [if_neg ht, b59, t3, if_pos ⟨by omega, by omega⟩, if_pos t1, if_pos ⟨a1, by omega⟩, V2 (x1 - 1) (by omega) (by omega), V2 x1 a1 hx, ev, xB_ret]
          by_cases hv0 : v = 0
          · rw [if_pos hv0, w32_id (by omega) (by omega)]
            have hR := c4 (by omega)
            refine ih _ _ _ ⟨rfl, by omega, by omega, S2, b59, b60, V2, R, c1, c2, by omega, fun _ => ⟨hR.1, hR.2.1, by omega⟩, c5, fun j h1 h2 => ⟨fun q h3 h4 => ?_, (c6 j h1 h2).2⟩⟩ (by omega)
            by_cases e : j + 1 < R
            · rw [if_pos e] at h4
              exact (c6 j h1 h2).1 q h3 (by rw [if_pos e]; exact h4)
            · rw [if_neg e] at h4
              by_cases e2 : q = x1
              · rw [e2]
                exact ⟨ht, v3.mp hv0⟩
              · exact (c6 j h1 h2).1 q h3 (by rw [if_neg e]; omega)
          · rw [if_neg hv0]
            exact put hx (fun _ h => hv0 (v3.mpr h.2))
    · have ex : x1 = n := by omega
      subst ex
      rw [if_neg hx, c1, if_pos ⟨c2, by omega⟩, xH_ret]
      have q1 : ∀ j, xR (xw_u m2 592 R x1) 592 j = if j = R then x1 else xR m2 592 j := by
        intro j
        rw [xR_u]
        by_cases e : j = R
        · rw [if_pos ⟨rfl, e⟩, if_pos e, w32_id (by omega) (by omega)]
        · rw [if_neg (fun h => e h.2), if_neg e]
      have q2 : xR (xw_u m2 592 R x1) 536 61 = R := by
        rw [xR_cg (xu_c (by decide))]
        exact c1
      refine ⟨rfl, sfr_u S2 (by omega), ⟨s, t, hst, ?_, ?_, ?_⟩, ?_⟩
      · rw [xu_c (by decide)]
        exact b59
      · rw [xu_c (by decide)]
        exact b60
      · intro k h1 h2
        rw [xR_cg (xu_c hs0.2)]
        exact V2 k h1 h2
      · rw [q2]
        refine ⟨c2, by omega, fun h => ⟨(c4 h).1, ?_⟩, by rw [q1, if_pos rfl], fun j h1 h2 => ⟨?_, fun q h3 h4 => ?_, fun h3 => ?_⟩⟩
        · rw [q1, if_neg (by have := (c4 h).1; omega)]
          exact (c4 h).2.1
        · rw [q1, q1, if_neg (by omega)]
          by_cases e : j + 1 = R
          · rw [if_pos e, show j = R - 1 from by omega]
            exact (c4 (by omega)).2.2
          · rw [if_neg e]
            exact c5 j h1 (by omega)
        · rw [q1, if_neg (by omega)] at h3
          rw [q1] at h4
          by_cases e : j + 1 = R
          · rw [if_pos e] at h4
            exact (c6 j h1 h2).1 q h3 (by rw [if_neg (by omega)]; exact h4)
          · rw [if_neg e] at h4
            exact (c6 j h1 h2).1 q h3 (by rw [if_pos (by omega)]; exact h4)
        · rw [q1, if_neg (by omega)]
          exact (c6 j h1 h2).2 h3
/-- the passes -/
theorem passes_ok (hN : 0 ≤ N ∧ N ≤ 8) (hk : kspec B m tb N κ g n) (hn : 0 ≤ n ∧ n ≤ 20000) (h58 : xR m 536 58 = n) (hg : ∀ x, 0 ≤ x → x < n → xw_rg (g x)) (hO : ORD m g (fun k => k) n) : ∃ m' o, xl2 (yl290_34 B) 1000000 tb 1 m = some (.inl 0, m') ∧ sfr m m' ∧ ORD m' g o n ∧ srt κ N.toNat o n ∧ SR tb N κ o (xR m' 592) n (xR m' 536 61) := by
  have goal := xH_ex (Q := fun v m' => v = 0 ∧ ∃ o, sfr m m' ∧ ORD m' g o n ∧ srt κ N.toNat o n ∧ SR tb N κ o (xR m' 592) n (xR m' 536 61)) (xl2_rule (F := yl290_34 B) (fun x0 x1 m' => x0 = tb ∧ 1 ≤ x1 ∧ x1 ≤ 40000 ∧ sfr m m' ∧ ∃ o, ORD m' g o n ∧ ∀ f, Bnd x1 f → f < n → BP κ N.toNat o f (min (f + x1) n)) (fun _ x1 _ => (40000 - x1).toNat) ?_ 1000000 tb 1 m ⟨rfl, by omega, by omega, sfr_refl m, fun k => k, hO, fun f _ h2 => ⟨fun k h3 h4 => ⟨h3, h4⟩, fun q q' h3 h4 h5 => by omega⟩⟩ (by omega))
  · obtain ⟨v, m', e1, rfl, o, h⟩ := goal
    exact ⟨m', o, e1, h⟩
  · intro r x0 x1 m1 ⟨a0, a1, a2, S1, o, O1, P1⟩ ih
    subst a0
    have r58 : xR m1 536 58 = n := by unfold xR; rw [S1.2 58 (by decide) (by decide) (by decide)]; exact h58
    unfold yl290_34
    rw [r58]
    by_cases hx : x1 < n
    · rw [if_pos hx]
      obtain ⟨s, t, hst, h59, h60, hv⟩ := O1
      have hts : t ≠ s := by rcases hst with q | q <;> omega
      have ht : t = 590 ∨ t = 591 := by rcases hst with q | q <;> omega
      have hs : s = 590 ∨ s = 591 := by rcases hst with q | q <;> omega
      refine xl3_rule (F := yl290_44 B r) (fun y0 y1 y2 m' => y0 = x0 ∧ y1 = x1 ∧ Bnd (2 * x1) y2 ∧ 0 ≤ y2 ∧ y2 < n + 2 * x1 ∧ (∀ a, a ≠ t → m' a = m1 a) ∧ ∃ o', (∀ k, 0 ≤ k → k < n → k < y2 → xR m' t k = g (o' k)) ∧ ∀ f, Bnd (2 * x1) f → f < n → f < y2 → BP κ N.toNat o' f (min (f + 2 * x1) n)) (fun _ _ y2 _ => (n + 2 * x1 - y2).toNat) ?_ 1000000 x0 x1 0 m1 ⟨rfl, rfl, ⟨0, by simp⟩, by omega, by omega, fun _ _ => rfl, o, fun k h1 h2 h3 => by omega, fun f ⟨j, hj⟩ _ h => by
        have : 0 ≤ 2 * x1 * (j : Int) := Int.mul_nonneg (by omega) (by omega)
        omega⟩ (by omega)
      intro r' y0 y1 y2 m2 ⟨b0, b1, b2, b3, b4, F2, o', V2, P2⟩ ih'
      subst b0 b1
      have S2 : sfr m m2 := sfr_trans S1 ⟨fun a b1 b2 b3 b4 => F2 a (by omega), fun k _ _ _ => by rw [F2 536 (by omega)]⟩
      have q58 : xR m2 536 58 = n := by unfold xR; rw [S2.2 58 (by decide) (by decide) (by decide)]; exact h58
      have q59 : m2 536 59 = s := by rw [F2 536 (by omega)]; exact h59
      have q60 : m2 536 60 = t := by rw [F2 536 (by omega)]; exact h60
      have rS : xR m2 s = xR m1 s := xR_cg (F2 s (fun q => hts q.symm))
      unfold yl290_44
      rw [q58]
      obtain ⟨d1, d2, d3⟩ := Bnd_half b2
      by_cases hy : y2 < n
      · rw [if_pos hy, w32_id (x := y2 + y1) (by omega) (by omega), w32_id (x := y2 + 2 * y1) (by omega) (by omega)]
        have hm1 := P1 y2 d1 hy
        have hm2 : BP κ N.toNat o (min (y2 + y1) n) (min (y2 + 2 * y1) n) := by
          by_cases hq : y2 + y1 < n
          · have := P1 (y2 + y1) d2 hq
            rw [show min (y2 + y1) n = y2 + y1 from by omega, show min (y2 + 2 * y1) n = min (y2 + y1 + y1) n from by omega]
            exact this
          · exact ⟨fun k h1 h2 => by omega, fun q q' h1 h2 h3 => by omega⟩
        obtain ⟨m3, e3, F3, G3, o3, P3, V3⟩ := merge_ok (m := m) (m1 := m2) hN hk S2 hst q59 q60 hn.2 hg b3 (show y2 ≤ min (y2 + y1) n by omega) (show min (y2 + y1) n ≤ min (y2 + 2 * y1) n by omega) (by omega) (fun k h1 h2 => by rw [rS]; exact hv k (by omega) (by omega)) hm1 hm2
        rw [e3, xB_ret]
        refine ih' _ _ _ _ ⟨rfl, rfl, d3, by omega, by omega, fun a ha => by rw [F3 a ha]; exact F2 a ha, fun k => if k < y2 then o' k else o3 k, fun k h1 h2 h3 => ?_, fun f h1 h2 h3 => ?_⟩ (by omega)
        · dsimp only
          by_cases e : k < y2
          · rw [if_pos e]
            have : xR m3 t k = xR m2 t k := by unfold xR; rw [G3 k (Or.inl e)]
            rw [this]
            exact V2 k h1 h2 e
          · rw [if_neg e]
            exact V3 k (by omega) (by omega)
        · by_cases e : f < y2
          · have hfe : f + 2 * y1 ≤ y2 := by
              obtain ⟨j1, rfl⟩ := h1
              obtain ⟨j2, rfl⟩ := b2
              have hj : (j1 : Int) < j2 := by
                refine Classical.byContradiction (fun hc => ?_)
                have : 2 * y1 * (j2 : Int) ≤ 2 * y1 * (j1 : Int) := Int.mul_le_mul_of_nonneg_left (by omega) (by omega)
                omega
              have : 2 * y1 * ((j1 : Int) + 1) ≤ 2 * y1 * (j2 : Int) := Int.mul_le_mul_of_nonneg_left (by omega) (by omega)
              rw [Int.mul_add, Int.mul_one] at this
              omega
            exact BP_cg (P2 f h1 h2 e) (fun k h4 h5 => if_pos (by omega))
          · have hfe : f = y2 := by
              obtain ⟨j1, rfl⟩ := h1
              obtain ⟨j2, rfl⟩ := b2
              have hj : (j1 : Int) < (j2 : Int) + 1 := by
                refine Classical.byContradiction (fun hc => ?_)
                have : 2 * y1 * ((j2 : Int) + 1) ≤ 2 * y1 * (j1 : Int) := Int.mul_le_mul_of_nonneg_left (by omega) (by omega)
                rw [Int.mul_add, Int.mul_one] at this
                omega
              have hj2 : ¬ (j1 : Int) < j2 := by
                intro hc
                have : 2 * y1 * ((j1 : Int) + 1) ≤ 2 * y1 * (j2 : Int) := Int.mul_le_mul_of_nonneg_left (by omega) (by omega)
                rw [Int.mul_add, Int.mul_one] at this
                omega
              rw [show (j1 : Int) = j2 from by omega]
            subst hfe
            exact BP_cg P3 (fun k h4 h5 => if_neg (by omega))
      · rw [if_neg hy, w32_id (x := y1 * 2) (by omega) (by omega), q59, q60]
        refine ih _ _ _ ⟨rfl, by omega, by omega, sfr_f (sfr_f S2 (by omega)) (by omega), o', ⟨t, s, ?_, ?_, ?_, fun k h1 h2 => ?_⟩, fun f h1 h2 => ?_⟩ (by omega)
        · rcases hst with q | q
          · exact Or.inr ⟨q.2, q.1⟩
          · exact Or.inl ⟨q.2, q.1⟩
        · unfold xw_u
          rw [if_neg (by omega), if_pos ⟨rfl, rfl⟩]
        · unfold xw_u
          rw [if_pos ⟨rfl, rfl⟩]
        · rw [xR_cg (xu_c (by omega)), xR_cg (xu_c (by omega))]
          exact V2 k h1 h2 (by omega)
        · rw [show y1 * 2 = 2 * y1 from by omega] at h1 ⊢
          exact P2 f h1 h2 (by omega)
    · rw [if_neg hx]
      have hb : BP κ N.toNat o 0 n := by
        by_cases h0 : 0 < n
        · have := P1 0 ⟨0, by simp⟩ h0
          rw [show min (0 + x1) n = n from by omega] at this
          exact this
        · exact ⟨fun k h1 h2 => by omega, fun q q' h1 h2 h3 => by omega⟩
      have hsrt : srt κ N.toNat o n := by
        refine ⟨⟨fun i h1 h2 => hb.1 i h1 h2, fun i j h1 h2 h3 h4 e => ?_⟩, fun q q' h1 h2 h3 => hb.2 q q' h1 h2 h3⟩
        rcases Int.lt_trichotomy i j with h | h | h
        · have := hb.2 i j h1 h h4
          rw [e] at this
          exact (kl_anti this this).elim
        · exact h
        · have := hb.2 j i h3 h h2
          rw [e] at this
          exact (kl_anti this this).elim
      obtain ⟨m3, e3, s3, o3, r3⟩ := starts_ok hN hk S1 hn h58 O1 hsrt.1
      rw [e3, xH_ret]
      exact ⟨rfl, o, s3, o3, hsrt, r3⟩
end RSORT
