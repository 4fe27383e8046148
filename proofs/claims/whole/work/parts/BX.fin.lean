/-! THE ANSWER, by the class: finish, whole: the rows in order -/
section FIX
variable {B : Nat} {t : Int}
theorem fsrt_l {m0 : xw_M} {p n G : Int} (h : t = 420 ∨ t = 464) (hn : xR m0 (t + 1) 5 = n) (n0 : 0 ≤ n) (n4 : n ≤ 4000) (hg : xR m0 223 6 = G) (G0 : 0 ≤ G) (G8 : G ≤ 8) (ls : ∀ g, 0 ≤ g → g < G → 0 ≤ xR m0 (t + 43) g ∧ xR m0 (t + 43) g ≤ 1000) (ks : ∀ g i, 0 ≤ g → g < G → 0 ≤ i → i < n → 0 ≤ xR m0 (t + 4 + g) i ∧ xR m0 (t + 4 + g) i ≤ xR m0 (t + 43) g) :
    ∃ m', (xB (yf130 B (t + 1) m0) fun _ m1 => xl3 (yl128_66 B) 1000000 t p (w32 ((xR m1 223 6) - 1)) m1) = some (.inl 0, m') ∧ srt (fun g i => xR m0 (t + 4 + g) i) G.toNat (xR m' (t + 37)) n ∧ (∀ a, a ≠ t → a ≠ t + 2 → a ≠ t + 37 → a ≠ t + 38 → m' a = m0 a) ∧ (∀ j, j ≠ 7 → j ≠ 9 → m' t j = m0 t j) ∧ m' t 9 = p ∧ m' t 7 = 1 := by
  have AF := fun _ : Unit => an_f B h
  have hr : rwo (t + 1) 24 4000 := by unfold rwo; omega
  obtain ⟨m1, e1, V1, F1⟩ := arrange_ok (B := B) hr n0 n4 hn
  rw [show t + 1 + 12 + 24 = t + 37 from by omega] at V1 F1
  rw [e1, xB_ret, xR_cg (F1 223 (by omega)), hg, w32_id (by omega) (by omega)]
  generalize hN : (1000000 : Nat) = N
  have goal := xH_ex (Q := fun v m' => v = 0 ∧ srt (fun g i => xR m0 (t + 4 + g) i) G.toNat (xR m' (t + 37)) n ∧ (∀ a, a ≠ t → a ≠ t + 2 → a ≠ t + 37 → a ≠ t + 38 → m' a = m0 a) ∧ (∀ j, j ≠ 7 → j ≠ 9 → m' t j = m0 t j) ∧ m' t 9 = p ∧ m' t 7 = 1) (xl3_rule (F := yl128_66 B) (fun x0 x2 x1 m' => x0 = t ∧ x2 = p ∧ -1 ≤ x1 ∧ x1 < G ∧ (∀ a, a ≠ t + 2 → a ≠ t + 37 → a ≠ t + 38 → m' a = m0 a) ∧ prm (xR m' (t + 37)) n ∧ ∀ q q', 0 ≤ q → q < q' → q' < n → kl (fun g i => xR m0 (t + 4 + g) i) (G - 1 - x1).toNat (x1 + 1) (xR m' (t + 37) q) (xR m' (t + 37) q')) (fun _ _ x1 _ => (x1 + 1).toNat) ?_ N t p (G - 1) m1 ⟨rfl, rfl, by omega, by omega, fun a _ h3 _ => F1 a h3, ⟨fun i h0 h1 => by rw [V1 i h0 h1]; exact ⟨h0, h1⟩, fun i j h0 h1 h2 h3 e => by rw [V1 i h0 h1, V1 j h2 h3] at e; exact e⟩, fun q q' h0 h1 h2 => by
    rw [show (G - 1 - (G - 1)).toNat = 0 from by omega, V1 q h0 (by omega), V1 q' (by omega) h2]
    exact h1⟩ (by omega))
  · obtain ⟨v, m', e, rfl, hh⟩ := goal
    exact ⟨m', e, hh⟩
  · intro q x0 x2 x1 m2 ⟨a0, ap, a1, a2, F2, P2, K2⟩ ih
    subst a0 ap
    unfold yl128_66
    by_cases hx : x1 < 0
    · rw [if_pos hx, if_pos (AF ()).1, xH_ret]
      have ex : x1 = -1 := by omega
      subst ex
      have x37 : ∀ a, a ≠ x0 → xw_u (xw_u m2 x0 9 x2) x0 7 1 a = m2 a := fun a ha => by rw [xu_c ha, xu_c ha]
      refine ⟨rfl, ⟨?_, fun q q' h0 h1 h2 => ?_⟩, fun a b1 b2 b3 b4 => by rw [x37 a b1]; exact F2 a b2 b3 b4, fun j j7 j9 => ?_, ?_, ?_⟩
      · rw [xR_cg (x37 (x0 + 37) (by omega))]; exact P2
      · rw [xR_cg (x37 (x0 + 37) (by omega))]
        have := K2 q q' h0 h1 h2
        rw [show (G - 1 - -1).toNat = G.toNat from by omega] at this
        exact this
      · unfold xw_u
        rw [if_neg (fun z => j7 z.2), if_neg (fun z => j9 z.2), F2 x0 (by omega) (by omega) (by omega)]
      · unfold xw_u
        rw [if_neg (fun z => by omega), if_pos ⟨rfl, rfl⟩]
      · unfold xw_u
        rw [if_pos ⟨rfl, rfl⟩]
    · obtain ⟨l0, l1⟩ := ls x1 (by omega) a2
      have r43 : xR m2 (x0 + 43) = xR m0 (x0 + 43) := xR_cg (F2 _ (by omega) (by omega) (by omega))
      have rP : xR m2 (x0 + 4 + x1) = xR m0 (x0 + 4 + x1) := xR_cg (F2 _ (by omega) (by omega) (by omega))
      have r5 : xR m2 (x0 + 1) 5 = n := by rw [xR_cg (F2 (x0 + 1) (by omega) (by omega) (by omega))]; exact hn
      rw [if_neg hx, if_pos (AF ()).1, (AF ()).2.1.2.2.2.2.2, (AF ()).2.1.1, (AF ()).2.2.2.1.2.2.2.2, if_pos ⟨by omega, by omega⟩, if_pos (AF ()).2.2.1.2.2.2.2.2, if_pos (AF ()).2.2.1.1, r43, w32_id (by omega) (by omega), w32_id (by omega) (by omega)]
      have es : x0 + 1 + 3 + x1 = x0 + 4 + x1 := by omega
      have es2 : x0 + 1 + 12 + 24 = x0 + 37 := by omega
      have es3 : x0 + 1 + 1 = x0 + 2 := by omega
      have es4 : x0 + 1 + 13 + 24 = x0 + 38 := by omega
      obtain ⟨m3, e3, S3, F3⟩ := sort131n (B := B) (m := m2) (K := xR m0 (x0 + 43) x1 + 1) (d := x1) hr ⟨by omega, by omega⟩ (by omega) (by omega) n0 n4 r5 (fun i h0 h1 => by
        rw [es, rP]
        have := ks x1 i (by omega) a2 h0 h1
        omega) (by rw [es2]; exact P2)
      rw [es2, es] at S3
      rw [es2, es3, es4] at F3
      rw [e3, xB_ret]
      refine ih _ _ _ _ ⟨rfl, rfl, by omega, by omega, fun a h1 h2 h3 => by rw [F3 a h1 h3 h2]; exact F2 a h1 h2 h3, S3.1, fun q q' h0 h1 h2 => ?_⟩ (by omega)
      rw [show (G - 1 - (x1 + -1)).toNat = (G - 1 - x1).toNat + 1 from by omega, show x1 + -1 + 1 = x1 from by omega]
      obtain ⟨i, i', hi, hi', w1, w2, w3⟩ := S3.2 q q' h0 h1 h2
      dsimp only at w3
      rw [rP] at w3
      rw [w1, w2]
      rcases w3 with w3 | ⟨w3, w4⟩
      · exact Or.inl w3
      · exact Or.inr ⟨w3, K2 i i' hi.1 w4 hi'.2⟩
/-- the frame of finish -/
def fFh (t : Int) (m m' : xw_M) : Prop := (∀ a, ¬ (t + 13 ≤ a ∧ a ≤ t + 36) → a ≠ t → a ≠ t + 2 → a ≠ t + 37 → a ≠ t + 38 → a ≠ t + 40 → m' a = m a) ∧ ∀ j, j ≠ 7 → j ≠ 9 → m' t j = m t j
/-- finish -/
theorem finish_ok {m0 : xw_M} {p n G it : Int} (h : t = 420 ∨ t = 464) (hi : xR m0 t 6 = it) (it0 : 0 ≤ it) (it24 : it ≤ 24) (hn : xR m0 (t + 1) 5 = n) (n0 : 0 ≤ n) (n4 : n ≤ 4000) (F : ∀ r i, 0 ≤ r → r < n → 0 ≤ i → i < it → FOK m0 t r i) (hg : xR m0 223 6 = G) (G0 : 0 ≤ G) (G8 : G ≤ 8) (ls : ∀ g, 0 ≤ g → g < G → 0 ≤ xR m0 (t + 43) g ∧ xR m0 (t + 43) g ≤ 1000) (ks : ∀ g i, 0 ≤ g → g < G → 0 ≤ i → i < n → 0 ≤ xR m0 (t + 4 + g) i ∧ xR m0 (t + 4 + g) i ≤ xR m0 (t + 43) g) :
    ∃ m', yf128 B t p m0 = some (.inl 0, m') ∧ fFh t m0 m' ∧ srt (fun g i => xR m0 (t + 4 + g) i) G.toNat (xR m' (t + 37)) n ∧ m' t 9 = p ∧ m' t 7 = 1 ∧ ∀ j, 0 ≤ j → j < n → FND m0 m' t it j := by
  unfold yf128
  obtain ⟨N, hN⟩ : ∃ N : Nat, (1000000 : Nat) = N := ⟨_, rfl⟩
  obtain ⟨m1, e1, f1, d1⟩ := finr_l (B := B) (p := p) h hi it0 it24 hn n4 F N 0 m0 (Int.le_refl _) n0 (by omega) (fun _ _ _ => rfl) (fun _ _ _ _ => rfl) (fun j j0 j1 => absurd j1 (Int.not_lt.mpr j0))
  rw [← hN] at e1
  rw [e1]
  have e4 : ∀ g, 0 ≤ g → g < 8 → xR m1 (t + 4 + g) = xR m0 (t + 4 + g) := fun g _ _ => xR_cg (f1 _ (by omega) (by omega))
  have e43 := xR_cg (f1 (t + 43) (by omega) (by omega))
  obtain ⟨m2, e2, s2, f2, k2, k3, k4⟩ := fsrt_l (B := B) (p := p) (G := G) (n := n) h (by rw [xR_cg (f1 (t + 1) (by omega) (by omega))]; exact hn) n0 n4 (by rw [xR_cg (f1 223 (by omega) (by omega))]; exact hg) G0 G8 (by rw [e43]; exact ls) (fun g i g0 g1 => by rw [e4 g g0 (by omega), e43]; exact ks g i g0 g1)
  refine ⟨m2, e2, ⟨fun a a1 a2 a3 a4 a5 a6 => by rw [f2 a a2 a3 a4 a5, f1 a a1 a6], fun j j7 j9 => by rw [k2 j j7 j9, f1 t (by omega) (by omega)]⟩, ⟨s2.1, fun q q' q0 q1 q2 => ?_⟩, k3, k4, fun j j0 j1 => ?_⟩
  · refine kl_cg (fun e he0 he1 => ?_) (fun z => z) (s2.2 q q' q0 q1 q2)
    rw [e4 e he0 (by omega)]
    exact ⟨rfl, rfl⟩
  · obtain ⟨z1, z2⟩ := d1 j j0 j1
    refine ⟨fun i i0 i1 => ?_, ?_⟩
    · rw [← z1 i i0 i1]; unfold xJ; rw [f2 _ (by omega) (by omega) (by omega) (by omega)]
    · rw [← z2]; unfold xR; rw [f2 _ (by omega) (by omega) (by omega) (by omega)]
end FIX
