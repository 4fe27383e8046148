/-! A DIMENSION IS ARRANGED: the insertion sort (Dimension.sortBy), ranks -/
/-- in order by values, each place once -/
def vsrt (V o : Int → Int) (n : Int) : Prop := prm o n ∧ ∀ i j, 0 ≤ i → i < j → j < n → V (o i) ≤ V (o j)
def insf (o : Int → Int) (t i : Int) : Int → Int := fun k => if k < t then o k else if k = t then i else o (k - 1)
theorem ins_srt {V o : Int → Int} {i t : Int} (h : vsrt V o i) (hi : 0 ≤ i) (h0 : 0 ≤ t) (h1 : t ≤ i) (hl : 0 < t → V (o (t - 1)) ≤ V i) (hg : ∀ k, t ≤ k → k < i → V i < V (o k)) : vsrt V (insf o t i) (i + 1) := by
  obtain ⟨⟨p1, p2⟩, s⟩ := h
  have sle : ∀ a b, 0 ≤ a → a ≤ b → b < i → V (o a) ≤ V (o b) := fun a b q0 q1 q2 => by
    by_cases e : a = b
    · rw [e]; exact Int.le_refl _
    · exact s a b q0 (by omega) q2
  refine ⟨⟨fun k k0 k1 => ?_, fun a b a0 a1 b0 b1 e => ?_⟩, fun a b a0 ab b1 => ?_⟩
  · unfold insf
    split
    · have := p1 k k0 (by omega); omega
    · split
      · omega
      · have := p1 (k - 1) (by omega) (by omega); omega
  · unfold insf at e
    by_cases x1 : a < t
    · rw [if_pos x1] at e
      have q := p1 a a0 (by omega)
      by_cases y1 : b < t
      · rw [if_pos y1] at e
        exact p2 a b a0 (by omega) b0 (by omega) e
      · rw [if_neg y1] at e
        by_cases y2 : b = t
        · rw [if_pos y2] at e; omega
        · rw [if_neg y2] at e
          have := p2 a (b - 1) a0 (by omega) (by omega) (by omega) e
          omega
    · rw [if_neg x1] at e
      by_cases x2 : a = t
      · rw [if_pos x2] at e
        by_cases y1 : b < t
        · rw [if_pos y1] at e
          have q := p1 b b0 (by omega); omega
        · rw [if_neg y1] at e
          by_cases y2 : b = t
          · omega
          · rw [if_neg y2] at e
            have q := p1 (b - 1) (by omega) (by omega); omega
      · rw [if_neg x2] at e
        have q := p1 (a - 1) (by omega) (by omega)
        by_cases y1 : b < t
        · rw [if_pos y1] at e
          have := p2 (a - 1) b (by omega) (by omega) b0 (by omega) e
          omega
        · rw [if_neg y1] at e
          by_cases y2 : b = t
          · rw [if_pos y2] at e; omega
          · rw [if_neg y2] at e
            have := p2 (a - 1) (b - 1) (by omega) (by omega) (by omega) (by omega) e
            omega
  · unfold insf
    by_cases x1 : a < t
    · rw [if_pos x1]
      by_cases y1 : b < t
      · rw [if_pos y1]
        exact s a b a0 ab (by omega)
      · rw [if_neg y1]
        by_cases y2 : b = t
        · rw [if_pos y2]
          have q1 := sle a (t - 1) a0 (by omega) (by omega)
          have q2 := hl (by omega)
          omega
        · rw [if_neg y2]
          exact sle a (b - 1) a0 (by omega) (by omega)
    · rw [if_neg x1]
      by_cases x2 : a = t
      · rw [if_pos x2, if_neg (by omega), if_neg (by omega)]
        have := hg (b - 1) (by omega) (by omega)
        omega
      · rw [if_neg x2, if_neg (by omega), if_neg (by omega)]
        exact sle (a - 1) (b - 1) (by omega) (by omega) (by omega)
section ISORT
variable {B : Nat} {m : xw_M} {d n p : Int}
theorem isort_ok (hd : 0 ≤ d ∧ d < 8) (hn : 0 ≤ n ∧ n ≤ 1000) (h11 : xR m (15 + 26 * d) 11 = n) (hpo : xw_obb 16 p = true) (hpl : xw_le B p = 1000) (hp1 : p ≠ 15 + 26 * d + 24) : ∃ m', yf28 B (15 + 26 * d) p m = some (.inl 0, m') ∧ vsrt (xR m p) (xR m' (15 + 26 * d + 24)) n ∧ ∀ a, a ≠ 15 + 26 * d + 24 → m' a = m a := by
  obtain ⟨g1, ⟨_, _, _, _, _, _, _, g2, _⟩, ⟨_, _, _, _, _, _, _, g3, _⟩, ⟨_, _, _, _, _, _, _, g4, _⟩⟩ := dm_f B hd.1 hd.2
  generalize hod : 15 + 26 * d + 24 = od at *
  generalize ha : 15 + 26 * d = a at *
  have hao : a ≠ od := by omega
  unfold yf28
  have goal := xH_ex (Q := fun v m' => v = 0 ∧ vsrt (xR m p) (xR m' od) n ∧ ∀ b, b ≠ od → m' b = m b) (xl3_rule (F := yl28_2 B) (fun x0 x1 x2 m' => x0 = a ∧ x1 = p ∧ 0 ≤ x2 ∧ x2 ≤ n ∧ vsrt (xR m p) (xR m' od) x2 ∧ ∀ b, b ≠ od → m' b = m b) (fun _ _ x2 _ => (n - x2).toNat) ?_ 1000000 a p 0 m ⟨rfl, rfl, by omega, by omega, ⟨⟨fun i h0 h1 => by omega, fun i j h0 h1 => by omega⟩, fun i j h0 h1 h2 => by omega⟩, fun _ _ => rfl⟩ (by omega))
  · obtain ⟨v, m', e, rfl, h⟩ := goal
    exact ⟨m', e, h⟩
  · intro r x0 x1 x2 m1 ⟨a0, a1, a2, a3, S, F⟩ ih
    subst a0 a1
    have q11 : xR m1 x0 11 = n := by rw [xR_cg (F x0 hao)]; exact h11
    unfold yl28_2
    rw [if_pos g1, q11]
    by_cases hx : x2 < n
    · rw [if_pos hx]
      generalize ho : xR m1 od = o at S
      refine xl4_rule (F := yl28_12 B r) (fun y0 y1 y2 y3 m' => y0 = x0 ∧ y1 = x1 ∧ y2 = x2 ∧ 0 ≤ y3 ∧ y3 ≤ x2 ∧ (∀ b, b ≠ od → m' b = m b) ∧ (∀ k, 0 ≤ k → k < y3 → xR m' od k = o k) ∧ (∀ k, y3 < k → k ≤ x2 → xR m' od k = o (k - 1)) ∧ ∀ k, y3 ≤ k → k < x2 → xR m x1 x2 < xR m x1 (o k)) (fun _ _ _ y3 _ => y3.toNat) ?_ 1000000 x0 x1 x2 x2 m1 ⟨rfl, rfl, rfl, a2, by omega, F, fun k k0 k1 => by rw [ho], fun k k0 k1 => by omega, fun k k0 k1 => by omega⟩ (by omega)
      intro r' y0 y1 y2 y3 m2 ⟨b0, b1, b2, b3, b4, F2, L2, U2, G2⟩ ih'
      subst b0 b1 b2
      have rV : xR m2 y1 = xR m y1 := xR_cg (F2 y1 hp1)
      -- the place is found
      have put : (0 < y3 → xR m y1 (o (y3 - 1)) ≤ xR m y1 y2) → xH (yk28_52 B r y0 y1 y2 y3 m2) (fun v m' => v = 0 ∧ vsrt (xR m y1) (xR m' od) n ∧ ∀ b, b ≠ od → m' b = m b) (fun _ _ => False) := by
        intro hl
        unfold yk28_52
        rw [if_pos g1, g2, g4, if_pos ⟨b3, by omega⟩, if_pos g3, w32_id (by omega) (by omega)]
        refine ih _ _ _ _ ⟨rfl, rfl, by omega, by omega, ?_, fun b hb => by rw [xu_c hb]; exact F2 b hb⟩ (by omega)
        have hi := ins_srt S a2 b3 b4 hl G2
        have ev : ∀ k, 0 ≤ k → k < y2 + 1 → xR (xw_u m2 od y3 y2) od k = insf o y3 y2 k := by
          intro k k0 k1
          rw [xR_u]
          unfold insf
          by_cases e1 : k < y3
          · rw [if_neg (fun h => by omega), if_pos e1]
            exact L2 k k0 e1
          · by_cases e2 : k = y3
            · rw [if_pos ⟨rfl, e2⟩, if_neg e1, if_pos e2]
              exact w32_id (by omega) (by omega)
            · rw [if_neg (fun h => e2 h.2), if_neg e1, if_neg e2]
              exact U2 k (by omega) (by omega)
        refine ⟨⟨fun i h0 h1 => by rw [ev i h0 h1]; exact hi.1.1 i h0 h1, fun i j h0 h1 h2 h3 e => by rw [ev i h0 h1, ev j h2 h3] at e; exact hi.1.2 i j h0 h1 h2 h3 e⟩, fun i j h0 h1 h2 => by rw [ev i h0 (by omega), ev j (by omega) h2]; exact hi.2 i j h0 h1 h2⟩
      unfold yl28_12
      by_cases h3 : 0 < y3
      · have hoo := S.1.1 (y3 - 1) (by omega) (by omega)
        rw [if_pos h3, if_pos g1, g2, g4, if_pos ⟨by omega, by omega⟩, if_pos g3, L2 (y3 - 1) (by omega) (by omega), hpl, if_pos ⟨hoo.1, by omega⟩, if_pos hpo, if_pos ⟨a2, by omega⟩, rV]
        by_cases hc : xR m y1 y2 < xR m y1 (o (y3 - 1))
        · rw [if_pos hc, if_pos ⟨b3, by omega⟩, w32_id (by omega) (by omega)]
          refine ih' _ _ _ _ _ ⟨rfl, rfl, rfl, by omega, by omega, fun b hb => by rw [xu_c hb]; exact F2 b hb, fun k k0 k1 => ?_, fun k k0 k1 => ?_, fun k k0 k1 => ?_⟩ (by omega)
          · rw [xR_u, if_neg (fun h => by omega)]
            exact L2 k k0 (by omega)
          · rw [xR_u]
            by_cases e : k = y3
            · rw [if_pos ⟨rfl, e⟩, e, w32_id (by omega) (by omega)]
            · rw [if_neg (fun h => e h.2)]
              exact U2 k (by omega) k1
          · by_cases e : k = y3 - 1
            · rw [e]; exact hc
            · exact G2 k (by omega) k1
        · rw [if_neg hc]
          exact put (fun _ => by omega)
      · rw [if_neg h3]
        exact put (fun h => absurd h h3)
    · rw [if_neg hx, xH_ret]
      have ex : x2 = n := by omega
      subst ex
      exact ⟨rfl, S, F⟩
end ISORT
/-- ranks: K values u, from the least on; the place of each member's value, a member for each value -/
def RK (V : Int → Int) (n K : Int) (u rk : Int → Int) : Prop := (0 ≤ K ∧ K ≤ n) ∧ (∀ a b, 0 ≤ a → a < b → b < K → u a < u b) ∧ (∀ i, 0 ≤ i → i < n → (0 ≤ rk i ∧ rk i < K) ∧ u (rk i) = V i) ∧ ∀ a, 0 ≤ a → a < K → ∃ i, (0 ≤ i ∧ i < n) ∧ V i = u a
theorem RK_uniq {V V' : Int → Int} {n K K' : Int} {u u' rk rk' : Int → Int} (h : RK V n K u rk) (h' : RK V' n K' u' rk') (hV : ∀ i, 0 ≤ i → i < n → V i = V' i) : K = K' ∧ ∀ i, 0 ≤ i → i < n → rk i = rk' i := by
  obtain ⟨h1, h2, h3, h4⟩ := h
  obtain ⟨k1, k2, k3, k4⟩ := h'
  have nd : ∀ {u : Int → Int} {K : Int}, 0 ≤ K → (∀ a b, 0 ≤ a → a < b → b < K → u a < u b) → (lst u K.toNat).Nodup := fun {u K} hK hu => lst_nodup (fun i j hi hj e => by
    rcases Nat.lt_trichotomy i j with q | q | q
    · have := hu i j (by omega) (by omega) (by omega); omega
    · exact q
    · have := hu j i (by omega) (by omega) (by omega); omega)
  have mem : ∀ x, x ∈ lst u K.toNat ↔ x ∈ lst u' K'.toNat := by
    intro x
    rw [lst_mem, lst_mem]
    constructor
    · rintro ⟨a, ha, e⟩
      obtain ⟨i, hi, ei⟩ := h4 a (by omega) (by omega)
      have q := k3 i hi.1 hi.2
      exact ⟨(rk' i).toNat, by omega, by rw [Int.toNat_of_nonneg q.1.1, q.2, ← hV i hi.1 hi.2, ei, e]⟩
    · rintro ⟨a, ha, e⟩
      obtain ⟨i, hi, ei⟩ := k4 a (by omega) (by omega)
      have q := h3 i hi.1 hi.2
      exact ⟨(rk i).toNat, by omega, by rw [Int.toNat_of_nonneg q.1.1, q.2, hV i hi.1 hi.2, ei, e]⟩
  have pm := (List.perm_ext_iff_of_nodup (nd h1.1 h2) (nd k1.1 k2)).mpr mem
  have hKK : K = K' := by
    have := pm.length_eq
    rw [lst_len, lst_len] at this
    omega
  subst hKK
  have eL : lst u K.toNat = lst u' K.toNat := List.Perm.eq_of_pairwise (le := fun a b => a < b) (fun a b _ _ q1 q2 => by omega) (lst_pair (fun i j q1 q2 => h2 i j (by omega) (by omega) (by omega))) (lst_pair (fun i j q1 q2 => k2 i j (by omega) (by omega) (by omega))) pm
  refine ⟨rfl, fun i i0 i1 => ?_⟩
  have q := h3 i i0 i1
  have q' := k3 i i0 i1
  have e1 := lst_get eL (rk' i).toNat (by omega)
  rw [Int.toNat_of_nonneg q'.1.1, q'.2, ← hV i i0 i1, ← q.2] at e1
  rcases Int.lt_trichotomy (rk i) (rk' i) with c | c | c
  · have := h2 (rk i) (rk' i) q.1.1 c q'.1.2; omega
  · exact c
  · have := h2 (rk' i) (rk i) q'.1.1 c q.1.2; omega
