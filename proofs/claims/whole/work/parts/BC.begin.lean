/-! THE ANSWER, by the class: it begins (begin): the rows of the whole -/
theorem k0m {g : Int} (g0 : 0 ≤ g) (g1 : g < 8) : xw_iandf (xw_ishrf 0 g) 1 = 0 := by
  have h : ∀ n : Nat, n < 8 → xw_iandf (xw_ishrf 0 (n : Int)) 1 = 0 := by decide +kernel
  have := h g.toNat (by omega)
  rw [Int.toNat_of_nonneg g0] at this
  exact this
section BEG
variable {B : Nat} {t k it S : Int} {mk ls K : Int → Int} {hl : Nat → Bool} {rk : Nat → Int → Int} {cf : Nat → Int} {mo : Nat → Int → Int}
def fBg (t : Int) (m m' : xw_M) : Prop := (∀ a, a ≠ t + 1 → ¬ (t + 4 ≤ a ∧ a ≤ t + 11) → ¬ (t + 13 ≤ a ∧ a ≤ t + 36) → a ≠ t + 39 → a ≠ t + 41 → m' a = m a)
theorem bg86 {m0 : xw_M} (F : FX m0 t k it S mk ls K) : ∀ (N : Nat) (s n : Int) (m : xw_M), 0 ≤ s → s ≤ S → (S - s).toNat < N → fBg t m0 m → n ≤ 1 → AS m t k it n s mk ls K hl rk cf mo 0 → ∃ m' n', xl2 (yl98_86 B) N t s m = some (.inl 0, m') ∧ fBg t m0 m' ∧ AS m' t k it n' S mk ls K hl rk cf mo 0 := by
  have O9 : Unit → xw_obb 9 t = true := fun _ => (an_f B F.1).1
  obtain ⟨f0, ⟨f1, k0, k8⟩, ⟨f2, it0, it24⟩, ⟨f3, S0, S32⟩, f4, f5, f6⟩ := F
  intro N
  induction N with
  | zero => intro s n m _ _ h; omega
  | succ N ih =>
    intro s n m s0 s1 hN f n1 A
    show ∃ m' n', yl98_86 B (xl2 (yl98_86 B) N) t s m = _ ∧ _
    have IH := ih (s + 1)
    clear ih
    generalize xl2 (yl98_86 B) N = G at IH ⊢
    unfold yl98_86
    have x223 := xR_cg (f 223 (by omega) (by omega) (by omega) (by omega) (by omega))
    have x228 := xR_cg (f 228 (by omega) (by omega) (by omega) (by omega) (by omega))
    have xt := xR_cg (f t (by omega) (by omega) (by omega) (by omega) (by omega))
    have x43 := xR_cg (f (t + 43) (by omega) (by omega) (by omega) (by omega) (by omega))
    rw [x223, f3, x228, f4]
    by_cases c : s < S
    · have ws : w32 (s + 1) = s + 1 := w32_id (by omega) (by omega)
      rw [if_pos c, if_pos (by omega), if_pos (O9 ()), ws]
      obtain ⟨a1, a2, a3, a4⟩ := A
      have key : ∀ r, 0 ≤ r → r < n → ∀ g, 0 ≤ g → g < k → xR m (t + 4 + g) r = ls g := fun r r0 r1 => by
        rcases a3 r r0 r1 with ⟨j, j1, _⟩ | ⟨_, _, _, h⟩
        · exact absurd j1 (Nat.not_lt_zero j)
        · exact h
      have up : ∀ κ, KV s k mk ls hl rk 0 κ → KV (s + 1) k mk ls hl rk 0 κ := fun κ V => by
        rcases V with ⟨j, j1, _⟩ | ⟨s', q, h⟩
        · exact absurd j1 (Nat.not_lt_zero j)
        · exact Or.inr ⟨s', by omega, h⟩
      by_cases d : mk s = 0
      · have ky : ∀ g, 0 ≤ g → g < k → kyf m t 0 g = ls g := fun g g0 g1 => by
          unfold kyf; rw [if_pos (k0m g0 (by omega)), x43]; exact f5 g g0 g1
        have low : ∀ κ, KV (s + 1) k mk ls hl rk 0 κ → KV s k mk ls hl rk 0 κ ∨ ∀ g, 0 ≤ g → g < k → κ g = ls g := fun κ V => by
          rcases V with ⟨j, j1, _⟩ | ⟨s', q, h1, h2⟩
          · exact absurd j1 (Nat.not_lt_zero j)
          · exact Or.inr h2
        rw [if_pos d]
        rcases row_ok (B := B) (m := m) (t := t) (mask := 0) (k := k) (n := n) (it := it) f0 (by rw [x223]; exact f1) k0 k8 (by rw [xt]; exact f2) it0 it24 a1 with ⟨j, jb, je, e⟩ | ⟨no, ⟨n4, e⟩ | ⟨n4, m2, e, R2, ⟨g1, g2, g3⟩, z1, z2, z3⟩⟩
        · rw [e, xB_ret]
          refine IH n m (by omega) (by omega) (by omega) f n1 ⟨a1, fun r r0 r1 => a2 r r0 r1, fun r r0 r1 => up _ (a3 r r0 r1), fun κ V => ?_⟩
          rcases low κ V with h | h
          · exact a4 κ h
          · exact ⟨j, jb, fun g g0 g1 => by rw [je g g0 g1, ky g g0 g1, h g g0 g1]⟩
        · omega
        · have nz : n = 0 := by
            have := a1.2.1.1
            by_cases h : n = 0
            · exact h
            · exact absurd (fun g g0 g1 => by rw [ky g g0 g1]; exact key 0 (by omega) (by omega) g g0 g1) (no 0 (by omega) (by omega))
          rw [nz] at e R2 z1 z2 z3
          rw [e, xB_ret]
          refine IH (0 + 1) m2 (by omega) (by omega) (by omega) (fun a b1 b2 b3 b4 b5 => by rw [g1 a b1 b2 b3 b4 b5, f a b1 b2 b3 b4 b5]) (by omega) ⟨R2, fun r r0 r1 => ?_, fun r r0 r1 => ?_, fun κ V => ?_⟩
          · have r00 : r = 0 := by omega
            rw [r00]
            exact ⟨z3, fun i i0 i1 => z2 i i0 i1⟩
          · have r00 : r = 0 := by omega
            rw [r00]
            exact Or.inr ⟨s, by omega, d, fun g g0 g1 => (z1 g g0 g1).trans (ky g g0 g1)⟩
          · refine ⟨0, by omega, fun g g0 g1 => ?_⟩
            rw [z1 g g0 g1, ky g g0 g1]
            rcases low κ V with h | h
            · rcases h with ⟨j, j1, _⟩ | ⟨_, _, _, h⟩
              · exact absurd j1 (Nat.not_lt_zero j)
              · exact (h g g0 g1).symm
            · exact (h g g0 g1).symm
      · rw [if_neg d]
        refine IH n m (by omega) (by omega) (by omega) f n1 ⟨a1, fun r r0 r1 => a2 r r0 r1, fun r r0 r1 => up _ (a3 r r0 r1), fun κ V => a4 κ ?_⟩
        rcases V with ⟨j, j1, _⟩ | ⟨s', q, h1, h2⟩
        · exact absurd j1 (Nat.not_lt_zero j)
        · by_cases e : s' = s
          · rw [e] at h1; exact absurd h1 d
          · exact Or.inr ⟨s', by omega, h1, h2⟩
    · rw [if_neg c]
      have e : s = S := by omega
      rw [e] at A
      exact ⟨m, n, rfl, f, A⟩
/-- the ranks that stand for "all" -/
theorem bg36 {m0 : xw_M} (h : t = 420 ∨ t = 464) (h6 : xR m0 223 6 = k) (k8 : k ≤ 8) (W : ∀ g, 0 ≤ g → g < k → ∃ d l, xR m0 227 g = 4 * d + l ∧ (0 ≤ d ∧ d < 8) ∧ (0 ≤ l ∧ l < 4) ∧ xR m0 (15 + 26 * d + 23) l = ls g) : ∀ (N : Nat) (g : Int) (m : xw_M), 0 ≤ g → g ≤ k → (k - g).toNat < N → (∀ a, a ≠ t + 43 → m a = m0 a) → (∀ j, 0 ≤ j → j < g → xR m (t + 43) j = ls j) → ∃ m', xl2 (yl98_36 B) N t g m = xl2 (yl98_86 B) 1000000 t 0 m' ∧ (∀ a, a ≠ t + 43 → m' a = m0 a) ∧ ∀ j, 0 ≤ j → j < k → xR m' (t + 43) j = ls j := by
  have w43 : ∀ (g : Int) (_ : 0 ≤ g) (_ : g < 8) (X : xP), (if (0 : Int) ≤ g ∧ g < (xw_le B (xw_rf t 5)) then if xw_obb 16 (xw_rf t 5) = true then X else none else none) = X := fun g g0 g1 X => by
    obtain ⟨o, ⟨_, _, _, _, _, f5⟩, ⟨_, _, _, _, _, o5⟩, ⟨_, _, _, _, l5⟩, _⟩ := an_f B h
    rw [f5, l5, if_pos ⟨g0, g1⟩, if_pos o5]
  have e43 : Unit → xw_rf t 5 = t + 43 := fun _ => (an_f B h).2.1.2.2.2.2.2
  have O9 : Unit → xw_obb 9 t = true := fun _ => (an_f B h).1
  intro N
  induction N with
  | zero => intro g m _ _ hN; omega
  | succ N ih =>
    intro g m g0 g1 hN f e
    show ∃ m', yl98_36 B (xl2 (yl98_36 B) N) t g m = _ ∧ _
    have IH := ih (g + 1)
    clear ih
    generalize xl2 (yl98_36 B) N = R at IH ⊢
    unfold yl98_36
    have x6 : xR m 223 6 = k := by rw [xR_cg (f 223 (by omega))]; exact h6
    rw [x6]
    by_cases q : g < k
    · obtain ⟨d, l, c1, c2, c3, c4⟩ := W g g0 q
      have x27 : xR m 227 g = 4 * d + l := by rw [xR_cg (f 227 (by omega))]; exact c1
      have gb : 0 ≤ g ∧ g < 8 := ⟨g0, by omega⟩
      have wg : w32 (g + 1) = g + 1 := w32_id (by omega) (by omega)
      have dv : (4 * d + l) / 4 = d := by omega
      have md : (4 * d + l) % 4 = l := by omega
      have nn : 0 ≤ 4 * d + l := by omega
      have v : xR m (15 + 26 * d + 23) l = ls g := by rw [xR_cg (f _ (by omega))]; exact c4
      have IH2 := IH (xw_u m (t + 43) g (ls g)) (by omega) (by omega) (by omega) (fun a ha => by rw [← f a ha]; funext k'; exact if_neg (fun h => ha h.1)) (fun j j0 j1 => by
        rw [xR_u]
        by_cases jg : j = g
        · rw [if_pos ⟨rfl, jg⟩, jg, ← v]; exact w32_xR _ _ _
        · rw [if_neg (fun h => jg h.2)]; exact e j j0 (by omega))
      have red : ∀ X : Int → xP, (if (0 : Int) ≤ d ∧ d < 8 then if xw_obb 3 (15 + (26 * d)) = true then if (0 : Int) ≤ l ∧ l < (xw_le B (xw_rf (15 + (26 * d)) 6)) then if xw_obb 16 (xw_rf (15 + (26 * d)) 6) = true then X (xw_rf (15 + (26 * d)) 6) else none else none else none else none) = X (15 + 26 * d + 23) := fun X => by
        obtain ⟨o0, ⟨_, _, _, _, _, _, r6, _⟩, ⟨_, _, _, _, _, _, o6, _⟩, ⟨_, _, _, _, _, _, l6, _⟩⟩ := dm_f B c2.1 c2.2
        rw [if_pos c2, if_pos o0, r6, l6, if_pos c3, if_pos o6]
      rw [if_pos q, if_pos (O9 ()), if_pos gb, x27, if_pos nn, dv, md, red (fun y => if (0 : Int) ≤ g ∧ g < (xw_le B (xw_rf t 5)) then if xw_obb 16 (xw_rf t 5) = true then (R t (w32 (g + 1)) (xw_u m (xw_rf t 5) g (xR m y l))) else none else none), w43 g g0 gb.2, wg, v, e43 ()]
      exact IH2
    · rw [if_neg q]
      exact ⟨m, rfl, f, fun j j0 j1 => e j j0 (by omega)⟩
/-- begin -/
theorem begin_a {m : xw_M} (h : t = 420 ∨ t = 464) (h6 : xR m 223 6 = k) (k0 : 0 ≤ k) (k8 : k ≤ 8) (hi : xR m 223 2 = it) (it0 : 0 ≤ it) (it24 : it ≤ 24) (hS : xR m 223 8 = S) (S0 : 0 ≤ S) (S32 : S ≤ 32) (hmk : ∀ s, xR m 228 s = mk s) (hK : ∀ i, 0 ≤ i → i < it → xR m 224 i = K i ∧ (K i = 1 ∨ (209 ≤ K i ∧ K i ≤ 213))) (W : ∀ g, 0 ≤ g → g < k → ∃ d l, xR m 227 g = 4 * d + l ∧ (0 ≤ d ∧ d < 8) ∧ (0 ≤ l ∧ l < 4) ∧ xR m (15 + 26 * d + 23) l = ls g) : ∃ m', yf98 B t m = some (.inl 0, m') ∧ (∀ a, a < t ∨ t + 43 < a → m' a = m a) ∧ (∀ j, j ≠ 6 → j ≠ 7 → j ≠ 8 → m' t j = m t j) ∧ xR m' t 7 = 0 ∧ FX m' t k it S mk ls K ∧ ST m' t k it S mk ls K hl rk cf mo 0 := by
  have AF := fun _ : Unit => an_f B h
  have fl : ∀ mm : xw_M, yf31 B (t + 41) (-1) mm = some (.inl 0, xfill mm (t + 41) 0 8192 (-1)) := fun mm => by
    obtain ⟨_, _, ⟨_, _, _, o3, _⟩, ⟨_, _, l3, _⟩, _⟩ := an_f B h
    have := fill31 (B := B) (a := t + 41) (v := -1) (m := mm) o3 (by rw [l3]; decide) (by rw [l3]; decide)
    rw [l3] at this
    exact this
  unfold yf98
  rw [(AF ()).2.1.1, (AF ()).2.1.2.2.2.1, if_pos (AF ()).1, if_pos (AF ()).2.2.1.1, fl, xB_ret]
  generalize e1 : xfill (xw_u (xw_u (xw_u (xw_u m t 7 0) t 8 0) t 6 (xR m 223 2)) (t + 1) 5 0) (t + 41) 0 8192 (-1) = m1
  have a1 : ∀ a, a ≠ t → a ≠ t + 1 → a ≠ t + 41 → m1 a = m a := fun a b1 b2 b3 => by
    rw [← e1, xfill_ne b3]; funext j
    unfold xw_u
    rw [if_neg (fun h => b2 h.1), if_neg (fun h => b1 h.1), if_neg (fun h => b1 h.1), if_neg (fun h => b1 h.1)]
  have a2 : ∀ j, j ≠ 6 → j ≠ 7 → j ≠ 8 → m1 t j = m t j := fun j b1 b2 b3 => by
    rw [← e1, xfill_ne (by omega)]
    unfold xw_u
    rw [if_neg (by omega), if_neg (by omega), if_neg (by omega), if_neg (by omega)]
  have a3 : xR m1 t 6 = it ∧ xR m1 t 7 = 0 ∧ xR m1 t 8 = 0 ∧ xR m1 (t + 1) 5 = 0 := by
    have y : m1 t = (xw_u (xw_u (xw_u (xw_u m t 7 0) t 8 0) t 6 (xR m 223 2)) (t + 1) 5 0) t := by rw [← e1, xfill_ne (by omega)]
    have y2 : m1 (t + 1) = (xw_u (xw_u (xw_u (xw_u m t 7 0) t 8 0) t 6 (xR m 223 2)) (t + 1) 5 0) (t + 1) := by rw [← e1, xfill_ne (by omega)]
    rw [xR_cg y, xR_cg y2]
    refine ⟨?_, ?_, ?_, ?_⟩
    · rw [xR_u, if_neg (by omega), xR_u, if_pos ⟨rfl, rfl⟩, w32_xR]; exact hi
    · rw [xR_u, if_neg (by omega), xR_u, if_neg (by omega), xR_u, if_neg (by omega), xR_u, if_pos ⟨rfl, rfl⟩]; rfl
    · rw [xR_u, if_neg (by omega), xR_u, if_neg (by omega), xR_u, if_pos ⟨rfl, rfl⟩]; rfl
    · rw [xR_u, if_pos ⟨rfl, rfl⟩]; rfl
  have a4 : ∀ s, 0 ≤ s → s < 8192 → xR m1 (t + 41) s = -1 := fun s s0 s1 => by
    unfold xR; rw [← e1, xfill_at s0 s1]; rfl
  clear e1
  generalize hN : (1000000 : Nat) = N
  obtain ⟨m2, e2, b1, b2⟩ := bg36 (B := B) (m0 := m1) (ls := ls) h (by rw [xR_cg (a1 223 (by omega) (by omega) (by omega))]; exact h6) k8 (fun g g0 g1 => by
    obtain ⟨d, l, c1, c2, c3, c4⟩ := W g g0 g1
    exact ⟨d, l, by rw [xR_cg (a1 227 (by omega) (by omega) (by omega))]; exact c1, c2, c3, by rw [xR_cg (a1 _ (by omega) (by omega) (by omega))]; exact c4⟩) N 0 m1 (by omega) k0 (by omega) (fun _ _ => rfl) (fun j j0 j1 => absurd j1 (Int.not_lt.mpr j0))
  rw [hN] at e2
  have q : ∀ a, a ≠ t → a ≠ t + 1 → a ≠ t + 41 → a ≠ t + 43 → m2 a = m a := fun a c1 c2 c3 c4 => by rw [b1 a c4, a1 a c1 c2 c3]
  have F2 : FX m2 t k it S mk ls K := by
    have y1 := xR_cg (q 223 (by omega) (by omega) (by omega) (by omega))
    have y2 := xR_cg (q 224 (by omega) (by omega) (by omega) (by omega))
    have y3 := xR_cg (q 228 (by omega) (by omega) (by omega) (by omega))
    refine ⟨h, ⟨by rw [y1]; exact h6, k0, k8⟩, ⟨?_, it0, it24⟩, ⟨by rw [y1]; exact hS, S0, S32⟩, by rw [y3]; exact hmk, b2, by rw [y2]; exact hK⟩
    rw [xR_cg (b1 t (by omega))]; exact a3.1
  have x41 := xR_cg (b1 (t + 41) (by omega))
  have x1 := xR_cg (b1 (t + 1) (by omega))
  have A2 : AS m2 t k it 0 0 mk ls K hl rk cf mo 0 := by
    refine ⟨⟨by rw [x1]; exact a3.2.2.2, by omega, HT_0 (fun s s0 s1 => by rw [x41]; exact a4 s s0 s1), fun i j i0 i1 => by omega⟩, fun r r0 r1 => by omega, fun r r0 r1 => by omega, fun κ V => ?_⟩
    rcases V with ⟨j, j1, _⟩ | ⟨s', q', _⟩
    · exact absurd j1 (Nat.not_lt_zero j)
    · omega
  obtain ⟨m3, n3, e3, f3, A3⟩ := bg86 (B := B) (hl := hl) (rk := rk) (cf := cf) (mo := mo) F2 N 0 0 m2 (by omega) S0 (by omega) (fun _ _ _ _ _ _ => rfl) (by omega) A2
  have t3 : m3 t = m1 t := by rw [f3 t (by omega) (by omega) (by omega) (by omega) (by omega), b1 t (by omega)]
  refine ⟨m3, by rw [e2, e3], fun a ha => by rw [f3 a (by omega) (by omega) (by omega) (by omega) (by omega)]; exact q a (by omega) (by omega) (by omega) (by omega), fun j j1 j2 j3 => by rw [t3]; exact a2 j j1 j2 j3, by rw [xR_cg t3]; exact a3.2.1, FX_fr F2 (fun a ha => f3 a (by omega) (by omega) (by omega) (by omega) (by omega)) (by rw [f3 t (by omega) (by omega) (by omega) (by omega) (by omega)]) (f3 _ (by omega) (by omega) (by omega) (by omega) (by omega)), Or.inl ⟨by rw [xR_cg t3]; exact a3.2.2.1, n3, A3⟩⟩
end BEG
