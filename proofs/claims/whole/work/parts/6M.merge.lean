/-! THE REFERENCE'S SORT: comparing, merging -/
theorem kl_trans {κ : Int → Int → Int} {j : Nat} {d a b c : Int} (h1 : kl κ j d a b) (h2 : kl κ j d b c) : kl κ j d a c := by
  induction j generalizing d with
  | zero =>
    have h1 : a < b := h1
    have h2 : b < c := h2
    show a < c
    omega
  | succ j ih =>
    rcases h1 with h1 | ⟨h1, h3⟩
    · rcases h2 with h2 | ⟨h2, _⟩
      · exact Or.inl (by omega)
      · exact Or.inl (by omega)
    · rcases h2 with h2 | ⟨h2, h4⟩
      · exact Or.inl (by omega)
      · exact Or.inr ⟨by omega, ih h3 h4⟩
/-- only what the sort makes is another -/
def sfr (m m' : xw_M) : Prop := (∀ a, a ≠ 536 → a ≠ 590 → a ≠ 591 → a ≠ 592 → m' a = m a) ∧ (∀ k, k ≠ 59 → k ≠ 60 → k ≠ 61 → m' 536 k = m 536 k)
theorem sfr_refl (m : xw_M) : sfr m m := ⟨fun _ _ _ _ _ => rfl, fun _ _ _ _ => rfl⟩
theorem sfr_trans {m m1 m2 : xw_M} (h : sfr m m1) (h2 : sfr m1 m2) : sfr m m2 := ⟨fun a a1 a2 a3 a4 => (h2.1 a a1 a2 a3 a4).trans (h.1 a a1 a2 a3 a4), fun k k1 k2 k3 => (h2.2 k k1 k2 k3).trans (h.2 k k1 k2 k3)⟩
theorem sfr_u {m m1 : xw_M} {a i v : Int} (h : sfr m m1) (ha : a = 590 ∨ a = 591 ∨ a = 592) : sfr m (xw_u m1 a i v) := ⟨fun b b1 b2 b3 b4 => by rw [xu_c (by omega)]; exact h.1 b b1 b2 b3 b4, fun k k1 k2 k3 => by rw [xu_c (by omega)]; exact h.2 k k1 k2 k3⟩
theorem sfr_f {m m1 : xw_M} {i v : Int} (h : sfr m m1) (hi : i = 59 ∨ i = 60 ∨ i = 61) : sfr m (xw_u m1 536 i v) := ⟨fun b b1 b2 b3 b4 => by rw [xu_c b1]; exact h.1 b b1 b2 b3 b4, fun k k1 k2 k3 => by
  unfold xw_u
  rw [if_neg (by omega)]
  exact h.2 k k1 k2 k3⟩
/-- what the comparisons of a table find: N keys, of the facts g -/
def kspec (B : Nat) (m : xw_M) (tb N : Int) (κ : Int → Int → Int) (g : Int → Int) (n : Int) : Prop := ∀ m', sfr m m' → ((tb < -1 → xw_obb 13 (m' 536 23) = true ∧ xR m' (m' 536 23) 4 = N) ∧ (-1 ≤ tb → xR m' 536 14 = N)) ∧ ∀ i, 0 ≤ i → i < N → (yf294 B tb i m' = some (.inl 0, m') ∧ ∀ x, κ i x = 0) ∨ (yf294 B tb i m' = some (.inl 1, m') ∧ ∀ x, 0 ≤ x → x < n → yf295 B (g x) tb i m' = some (.inl (κ i x), m'))
theorem against_ok {B : Nat} {m m' : xw_M} {tb N n x y : Int} {κ : Int → Int → Int} {g : Int → Int} (hN : 0 ≤ N ∧ N ≤ 8) (hk : kspec B m tb N κ g n) (hs : sfr m m') (hx : 0 ≤ x ∧ x < n) (hy : 0 ≤ y ∧ y < n) :
    ∃ v, yf293 B (g x) (g y) tb m' = some (.inl v, m') ∧ (v ≤ 0 → x < y → kl κ N.toNat 0 x y) ∧ (0 < v → kl κ N.toNat 0 y x) ∧ (v = 0 ↔ ∀ i, 0 ≤ i → i < N → κ i x = κ i y) := by
  obtain ⟨⟨c1, c2⟩, ks⟩ := hk m' hs
  have loop : ∃ v, xl5 (yl293_24 B) 1000000 (g x) (g y) tb N 0 m' = some (.inl v, m') ∧ (v ≤ 0 → x < y → kl κ N.toNat 0 x y) ∧ (0 < v → kl κ N.toNat 0 y x) ∧ (v = 0 ↔ ∀ i, 0 ≤ i → i < N → κ i x = κ i y) := by
    have goal := xH_ex (Q := fun v m2 => m2 = m' ∧ ((v ≤ 0 → x < y → kl κ N.toNat 0 x y) ∧ (0 < v → kl κ N.toNat 0 y x) ∧ (v = 0 ↔ ∀ i, 0 ≤ i → i < N → κ i x = κ i y))) (xl5_rule (F := yl293_24 B) (fun x0 x1 x2 x3 x4 m2 => x0 = g x ∧ x1 = g y ∧ x2 = tb ∧ x3 = N ∧ 0 ≤ x4 ∧ x4 ≤ N ∧ m2 = m' ∧ (∀ i, 0 ≤ i → i < x4 → κ i x = κ i y)) (fun _ _ _ _ x4 _ => (N - x4).toNat) ?_ 1000000 (g x) (g y) tb N 0 m' ⟨rfl, rfl, rfl, rfl, by omega, by omega, rfl, fun i h1 h2 => by omega⟩ (by omega))
    · obtain ⟨v, m2, e, rfl, h⟩ := goal
      exact ⟨v, e, h⟩
    · intro r x0 x1 x2 x3 x4 m2 ⟨a0, a1, a2, a3, a4, a5, a6, E⟩ ih
      subst a0 a1 a2 a3 a6
      -- the keys before x4 are alike
      have up : ∀ (a b : Int), (∀ i, 0 ≤ i → i < x4 → κ i a = κ i b) → kl κ (x3 - x4).toNat x4 a b → kl κ x3.toNat 0 a b := by
        intro a b hab h
        have : ∀ k : Nat, (k : Int) ≤ x4 → kl κ (x3.toNat - (x4.toNat - k)) (x4 - k) a b := by
          intro k
          induction k with
          | zero =>
            intro _
            rw [show x4 - ((0 : Nat) : Int) = x4 from by omega, show x3.toNat - (x4.toNat - 0) = (x3 - x4).toNat from by omega]
            exact h
          | succ k ihk =>
            intro hk2
            have q := ihk (by omega)
            rw [show x3.toNat - (x4.toNat - (k + 1)) = x3.toNat - (x4.toNat - k) + 1 from by omega]
            refine Or.inr ⟨hab _ (by omega) (by omega), ?_⟩
            rw [show x4 - ((k + 1 : Nat) : Int) + 1 = x4 - (k : Int) from by omega]
            exact q
        have q := this x4.toNat (by omega)
        rw [show x4 - ((x4.toNat : Nat) : Int) = 0 from by omega, show x3.toNat - (x4.toNat - x4.toNat) = x3.toNat from by omega] at q
        exact q
      unfold yl293_24
      by_cases hi : x4 < x3
      · rw [if_pos hi]
        rcases ks x4 a4 hi with ⟨k1, k2⟩ | ⟨k1, k2⟩
        · rw [k1, xB_ret, if_pos rfl, w32_id (by omega) (by omega)]
          refine ih _ _ _ _ _ _ ⟨rfl, rfl, rfl, rfl, by omega, by omega, rfl, fun i h1 h2 => ?_⟩ (by omega)
          by_cases e : i = x4
          · rw [e, k2, k2]
          · exact E i h1 (by omega)
        · rw [k1, xB_ret, if_neg (by decide), k2 x hx.1 hx.2, xB_ret, k2 y hy.1 hy.2, xB_ret]
          have es : (x3 - x4).toNat = (x3 - x4 - 1).toNat + 1 := by omega
          by_cases e : κ x4 x = κ x4 y
          · rw [if_pos e, w32_id (by omega) (by omega)]
            refine ih _ _ _ _ _ _ ⟨rfl, rfl, rfl, rfl, by omega, by omega, rfl, fun i h1 h2 => ?_⟩ (by omega)
            by_cases e2 : i = x4
            · rw [e2, e]
            · exact E i h1 (by omega)
          · rw [if_neg e]
            by_cases l : κ x4 x < κ x4 y
            · rw [if_pos l, xH_ret]
              refine ⟨rfl, fun _ _ => up x y E (by rw [es]; exact Or.inl l), fun h => by omega, ⟨fun h => by omega, fun h => absurd (h x4 a4 hi) e⟩⟩
            · rw [if_neg l, xH_ret]
              refine ⟨rfl, fun h _ => by omega, fun _ => up y x (fun i h1 h2 => (E i h1 h2).symm) (by rw [es]; exact Or.inl (by omega)), ⟨fun h => by omega, fun h => absurd (h x4 a4 hi) e⟩⟩
      · rw [if_neg hi, xH_ret]
        have ei : x4 = x3 := by omega
        subst ei
        refine ⟨rfl, fun _ h => up x y E (by rw [show (x4 - x4).toNat = 0 from by omega]; exact h), fun h => by omega, ⟨fun _ => E, fun _ => rfl⟩⟩
  unfold yf293
  by_cases ht : tb < -1
  · obtain ⟨q1, q2⟩ := c1 ht
    rw [if_pos ht, if_pos q1, q2]
    exact loop
  · rw [if_neg ht, c2 (by omega)]
    exact loop
/-- a block of the order: its own places, in order -/
def BP (κ : Int → Int → Int) (N : Nat) (o : Int → Int) (f e : Int) : Prop := (∀ k, f ≤ k → k < e → f ≤ o k ∧ o k < e) ∧ ∀ q q', f ≤ q → q < q' → q' < e → kl κ N 0 (o q) (o q')
theorem BP_cg {κ : Int → Int → Int} {N : Nat} {o o' : Int → Int} {f e : Int} (h : BP κ N o f e) (c : ∀ k, f ≤ k → k < e → o' k = o k) : BP κ N o' f e := ⟨fun k h1 h2 => by rw [c k h1 h2]; exact h.1 k h1 h2, fun q q' h1 h2 h3 => by rw [c q h1 (by omega), c q' (by omega) h3]; exact h.2 q q' h1 h2 h3⟩
/-- the two rows that the sort uses in turn -/
def two (s t : Int) : Prop := (s = 590 ∧ t = 591) ∨ (s = 591 ∧ t = 590)
theorem two_f (B : Nat) {s t : Int} (h : two s t) : xw_obb 16 s = true ∧ xw_obb 16 t = true ∧ xw_le B s = 20000 ∧ xw_le B t = 20000 := by
  rcases h with ⟨rfl, rfl⟩ | ⟨rfl, rfl⟩
  · exact ⟨by decide, by decide, rfl, rfl⟩
  · exact ⟨by decide, by decide, rfl, rfl⟩
theorem merge_ok {B : Nat} {m m1 : xw_M} {tb N n s t f md e : Int} {κ : Int → Int → Int} {g o : Int → Int} (hN : 0 ≤ N ∧ N ≤ 8) (hk : kspec B m tb N κ g n) (hs : sfr m m1) (hst : two s t) (h59 : m1 536 59 = s) (h60 : m1 536 60 = t) (hn : n ≤ 20000) (hg : ∀ x, 0 ≤ x → x < n → xw_rg (g x)) (hf : 0 ≤ f) (hfm : f ≤ md) (hme : md ≤ e) (hen : e ≤ n)
    (hv : ∀ k, f ≤ k → k < e → xR m1 s k = g (o k)) (hb1 : BP κ N.toNat o f md) (hb2 : BP κ N.toNat o md e) :
    ∃ m', yf292 B f md e tb m1 = some (.inl 0, m') ∧ (∀ a, a ≠ t → m' a = m1 a) ∧ (∀ k, k < f ∨ e ≤ k → m' t k = m1 t k) ∧ ∃ o', BP κ N.toNat o' f e ∧ ∀ k, f ≤ k → k < e → xR m' t k = g (o' k) := by
  obtain ⟨t1, t2, t3, t4⟩ := two_f B hst
  have hts : t ≠ s := by rcases hst with q | q <;> omega
  have ht : t = 590 ∨ t = 591 := by rcases hst with q | q <;> omega
  unfold yf292
  have goal := xH_ex (Q := fun v m' => v = 0 ∧ (∀ a, a ≠ t → m' a = m1 a) ∧ (∀ k, k < f ∨ e ≤ k → m' t k = m1 t k) ∧ ∃ o', BP κ N.toNat o' f e ∧ ∀ k, f ≤ k → k < e → xR m' t k = g (o' k)) (xl6_rule (F := yl292_9 B) (fun x0 x1 x2 x3 x4 x5 m' => x0 = md ∧ x1 = e ∧ x2 = tb ∧ f ≤ x3 ∧ x3 ≤ md ∧ md ≤ x4 ∧ x4 ≤ e ∧ x3 - f + (x4 - md) = x5 - f ∧ (∀ a, a ≠ t → m' a = m1 a) ∧ (∀ k, k < f ∨ e ≤ k → m' t k = m1 t k) ∧ ∃ o', (∀ q, f ≤ q → q < x5 → xR m' t q = g (o' q)) ∧ (∀ q, f ≤ q → q < x5 → (∃ a, (f ≤ a ∧ a < x3) ∧ o' q = o a) ∨ (∃ b, (md ≤ b ∧ b < x4) ∧ o' q = o b)) ∧ (∀ q q', f ≤ q → q < q' → q' < x5 → kl κ N.toNat 0 (o' q) (o' q')) ∧ (∀ q, f ≤ q → q < x5 → (∀ a, x3 ≤ a → a < md → kl κ N.toNat 0 (o' q) (o a)) ∧ ∀ b, x4 ≤ b → b < e → kl κ N.toNat 0 (o' q) (o b))) (fun _ _ _ _ _ x5 _ => (e - x5).toNat) ?_ 1000000 md e tb f md f m1 ⟨rfl, rfl, rfl, by omega, by omega, by omega, by omega, by omega, fun _ _ => rfl, fun _ _ => rfl, o, fun q h1 h2 => by omega, fun q h1 h2 => by omega, fun q q' h1 h2 h3 => by omega, fun q h1 h2 => by omega⟩ (by omega))
  · obtain ⟨v, m', e1, rfl, h⟩ := goal
    exact ⟨m', e1, h⟩
  · intro r x0 x1 x2 x3 x4 x5 m2 ⟨a0, a1, a2, a3, a4, a5, a6, a7, F2, G2, o', V, S, K, L⟩ ih
    subst a0 a1 a2
    have m59 : m2 536 59 = s := by rw [F2 536 (by omega)]; exact h59
    have m60 : m2 536 60 = t := by rw [F2 536 (by omega)]; exact h60
    have rS : xR m2 s = xR m1 s := xR_cg (F2 s (fun q => hts q.symm))
    have hs2 : sfr m m2 := sfr_trans hs ⟨fun a b1 b2 b3 b4 => F2 a (by omega), fun k _ _ _ => by rw [F2 536 (by omega)]⟩
    -- taking the left one, the right one
    have step : ∀ (c nx3 nx4 : Int), (f ≤ c ∧ c < x1) → x5 < x1 → (nx3 = x3 + 1 ∧ nx4 = x4 ∧ c = x3 ∧ x3 < x0 ∨ nx3 = x3 ∧ nx4 = x4 + 1 ∧ c = x4 ∧ x4 < x1) → (∀ a, nx3 ≤ a → a < x0 → kl κ N.toNat 0 (o c) (o a)) → (∀ b, nx4 ≤ b → b < x1 → kl κ N.toNat 0 (o c) (o b)) → xH (r x0 x1 x2 nx3 nx4 (x5 + 1) (xw_u m2 t x5 (xR m2 s c))) (fun v m' => v = 0 ∧ (∀ a, a ≠ t → m' a = m1 a) ∧ (∀ k, k < f ∨ x1 ≤ k → m' t k = m1 t k) ∧ ∃ o', BP κ N.toNat o' f x1 ∧ ∀ k, f ≤ k → k < x1 → xR m' t k = g (o' k)) (fun _ _ => False) := by
      intro c nx3 nx4 hc hx5 hcase hA hB
      have hoc : 0 ≤ o c ∧ o c < n := by
        rcases hcase with ⟨_, _, q1, q2⟩ | ⟨_, _, q1, q2⟩
        · have := hb1.1 c (by omega) (by omega); omega
        · have := hb2.1 c (by omega) (by omega); omega
      refine ih _ _ _ _ _ _ _ ⟨rfl, rfl, rfl, by omega, by omega, by omega, by omega, by omega, fun a ha => by rw [xu_c ha]; exact F2 a ha, fun k hk2 => ?_, fun q => if q = x5 then o c else o' q, fun q h1 h2 => ?_, fun q h1 h2 => ?_, fun q q' h1 h2 h3 => ?_, fun q h1 h2 => ?_⟩ (by omega)
      · unfold xw_u
        rw [if_neg (by omega)]
        exact G2 k hk2
      · rw [xR_u]
        by_cases e1 : q = x5
        · rw [if_pos ⟨rfl, e1⟩, rS, hv c hc.1 hc.2, w32_of (hg _ hoc.1 hoc.2)]
          show _ = g (if q = x5 then o c else o' q)
          rw [if_pos e1]
        · rw [if_neg (fun h => e1 h.2)]
          show _ = g (if q = x5 then o c else o' q)
          rw [if_neg e1]
          exact V q h1 (by omega)
      · dsimp only
        by_cases e1 : q = x5
        · rw [if_pos e1]
          rcases hcase with ⟨q1, q2, q3, q4⟩ | ⟨q1, q2, q3, q4⟩
          · exact Or.inl ⟨c, ⟨hc.1, by omega⟩, rfl⟩
          · exact Or.inr ⟨c, ⟨by omega, by omega⟩, rfl⟩
        · rw [if_neg e1]
          rcases S q h1 (by omega) with ⟨a, h3, h4⟩ | ⟨b, h3, h4⟩
          · exact Or.inl ⟨a, ⟨h3.1, by omega⟩, h4⟩
          · exact Or.inr ⟨b, ⟨h3.1, by omega⟩, h4⟩
      · dsimp only
        rw [if_neg (show ¬ q = x5 by omega)]
        by_cases e1 : q' = x5
        · rw [if_pos e1]
          rcases hcase with ⟨_, _, q3, q4⟩ | ⟨_, _, q3, q4⟩
          · rw [q3]; exact (L q h1 (by omega)).1 x3 (by omega) q4
          · rw [q3]; exact (L q h1 (by omega)).2 x4 (by omega) q4
        · rw [if_neg e1]
          exact K q q' h1 h2 (by omega)
      · dsimp only
        by_cases e1 : q = x5
        · rw [if_pos e1]
          exact ⟨hA, hB⟩
        · rw [if_neg e1]
          obtain ⟨l1, l2⟩ := L q h1 (by omega)
          exact ⟨fun a h3 h4 => l1 a (by omega) h4, fun b h3 h4 => l2 b (by omega) h4⟩
    have left : x3 < x0 → x5 < x1 → (∀ b, x4 ≤ b → b < x1 → kl κ N.toNat 0 (o x3) (o b)) → xH (yk292_50 B r x0 x1 x2 x3 x4 x5 m2) (fun v m' => v = 0 ∧ (∀ a, a ≠ t → m' a = m1 a) ∧ (∀ k, k < f ∨ x1 ≤ k → m' t k = m1 t k) ∧ ∃ o', BP κ N.toNat o' f x1 ∧ ∀ k, f ≤ k → k < x1 → xR m' t k = g (o' k)) (fun _ _ => False) := by
      intro h1 h2 h3
      unfold yk292_50
      rw [m59, m60, t3, t4, if_pos ⟨by omega, by omega⟩, if_pos t1, if_pos ⟨by omega, by omega⟩, if_pos t2, w32_id (x := x3 + 1) (by omega) (by omega), w32_id (x := x4 + 0) (by omega) (by omega), w32_id (x := x5 + 1) (by omega) (by omega), Int.add_zero]
      exact step x3 (x3 + 1) x4 ⟨a3, by omega⟩ h2 (Or.inl ⟨rfl, rfl, rfl, h1⟩) (fun a q1 q2 => hb1.2 x3 a a3 (by omega) q2) h3
    have right : x4 < x1 → x5 < x1 → (∀ a, x3 ≤ a → a < x0 → kl κ N.toNat 0 (o x4) (o a)) → xH (yk292_54 B r x0 x1 x2 x3 x4 x5 m2) (fun v m' => v = 0 ∧ (∀ a, a ≠ t → m' a = m1 a) ∧ (∀ k, k < f ∨ x1 ≤ k → m' t k = m1 t k) ∧ ∃ o', BP κ N.toNat o' f x1 ∧ ∀ k, f ≤ k → k < x1 → xR m' t k = g (o' k)) (fun _ _ => False) := by
      intro h1 h2 h3
      unfold yk292_54
      rw [m59, m60, t3, t4, if_pos ⟨by omega, by omega⟩, if_pos t1, if_pos ⟨by omega, by omega⟩, if_pos t2, w32_id (x := x3 + 0) (by omega) (by omega), w32_id (x := x4 + 1) (by omega) (by omega), w32_id (x := x5 + 1) (by omega) (by omega), Int.add_zero]
      exact step x4 x3 (x4 + 1) ⟨by omega, h1⟩ h2 (Or.inr ⟨rfl, rfl, rfl, h1⟩) h3 (fun b q1 q2 => hb2.2 x4 b a5 (by omega) q2)
    unfold yl292_9
    by_cases hx5 : x5 < x1
    · rw [if_pos hx5]
      by_cases h6 : x4 = x1
      · rw [if_pos h6]
        exact left (by omega) hx5 (fun b q1 q2 => by omega)
      · rw [if_neg h6]
        by_cases h5 : x3 < x0
        · have ha := hb1.1 x3 a3 h5
          have hb := hb2.1 x4 a5 (by omega)
          obtain ⟨v, ev, v1, v2, _⟩ := against_ok (x := o x3) (y := o x4) hN hk hs2 ⟨by omega, by omega⟩ ⟨by omega, by omega⟩
          rw [if_pos h5, m59, t3, if_pos ⟨by omega, by omega⟩, if_pos t1, if_pos ⟨by omega, by omega⟩, rS, hv x3 a3 (by omega), hv x4 (by omega) (by omega), ev, xB_ret]
          by_cases hv0 : 0 < v
          · rw [if_pos hv0]
            refine right (by omega) hx5 (fun a q1 q2 => ?_)
            have := v2 hv0
            by_cases ea : a = x3
            · rw [ea]; exact this
            · exact kl_trans this (hb1.2 x3 a a3 (by omega) q2)
          · rw [if_neg hv0]
            refine left h5 hx5 (fun b q1 q2 => ?_)
            have := v1 (by omega) (by omega)
            by_cases eb : b = x4
            · rw [eb]; exact this
            · exact kl_trans this (hb2.2 x4 b a5 (by omega) q2)
        · rw [if_neg h5]
          exact right (by omega) hx5 (fun a q1 q2 => by omega)
    · rw [if_neg hx5, xH_ret]
      have e5 : x5 = x1 := by omega
      subst e5
      refine ⟨rfl, F2, G2, o', ⟨fun k h1 h2 => ?_, K⟩, V⟩
      rcases S k h1 h2 with ⟨a, h3, h4⟩ | ⟨b, h3, h4⟩
      · rw [h4]
        have := hb1.1 a h3.1 (by omega)
        omega
      · rw [h4]
        have := hb2.1 b h3.1 (by omega)
        omega
