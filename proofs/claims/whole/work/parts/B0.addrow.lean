/-! THE ANSWER, by the class: a row of a table comes in (addRow) -/
/-- the places of a source row's members, as they are asked for by the groups -/
def RKs (B : Nat) (m : xw_M) (row k : Int) (rk : Int → Int) : Prop := ∀ g, 0 ≤ g → g < k → ∃ d l p, xR m 227 g = 4 * d + l ∧ (0 ≤ d ∧ d < 8) ∧ (0 ≤ l ∧ l < 4) ∧ (∀ m' : xw_M, (∀ a, a < 420 → m' a = m a) → yf124 B d row m' = some (.inl p, m')) ∧ (0 ≤ p ∧ p < 1000) ∧ xR m (15 + 26 * d + 14 + l) p = rk g
section ADR
variable {B : Nat}
theorem rks_l {m0 : xw_M} {t row k : Int} {rk : Int → Int} (h : t = 420 ∨ t = 464) (h6 : xR m0 223 6 = k) (k8 : k ≤ 8) (W : RKs B m0 row k rk) : ∀ (N : Nat) (g : Int) (m : xw_M), 0 ≤ g → g ≤ k → (k - g).toNat < N → (∀ a, a ≠ t + 42 → m a = m0 a) → (∀ j, 0 ≤ j → j < g → xR m (t + 42) j = rk j) → ∃ m', xl3 (yl125_3 B) N t row g m = xl3 (yl125_70 B) 1000000 t row 0 m' ∧ (∀ a, a ≠ t + 42 → m' a = m0 a) ∧ ∀ j, 0 ≤ j → j < k → xR m' (t + 42) j = rk j := by
  have w42 : ∀ g, 0 ≤ g → g < 8 → ∀ X : xw_M → xP, ∀ (m : xw_M) (v : Int), (if (0 : Int) ≤ g ∧ g < (xw_le B (xw_rf t 4)) then if xw_obb 16 (xw_rf t 4) = true then X (xw_u m (xw_rf t 4) g v) else none else none) = X (xw_u m (t + 42) g v) := fun g g0 g1 X m v => by
    have gb : 0 ≤ g ∧ g < 8 := ⟨g0, g1⟩
    obtain ⟨o, ⟨_, _, _, _, f4, _⟩, ⟨_, _, _, _, o4, _⟩, ⟨_, _, _, l4, _⟩, _⟩ := an_f B h
    rw [f4, l4, if_pos gb, if_pos o4]
  have o9 := (an_f B h).1
  intro N
  induction N with
  | zero => intro g m _ _ hN; omega
  | succ N ih =>
    intro g m g0 g1 hN f e
    show ∃ m', yl125_3 B (xl3 (yl125_3 B) N) t row g m = _ ∧ _
    have IH := ih (g + 1)
    generalize xl3 (yl125_3 B) N = R at IH ⊢
    unfold yl125_3
    have x6 : xR m 223 6 = k := by rw [xR_cg (f 223 (by omega))]; exact h6
    rw [x6]
    by_cases q : g < k
    · obtain ⟨d, l, p, c1, c2, c3, c4, c5, c6⟩ := W g g0 q
      have x27 : xR m 227 g = 4 * d + l := by rw [xR_cg (f 227 (by omega))]; exact c1
      have gb : 0 ≤ g ∧ g < 8 := ⟨g0, by omega⟩
      have wg : w32 (g + 1) = g + 1 := w32_id (by omega) (by omega)
      have dv : (4 * d + l) / 4 = d := by omega
      have md : (4 * d + l) % 4 = l := by omega
      have nn : 0 ≤ 4 * d + l := by omega
      have lb : 0 ≤ l ∧ l < 4 := c3
      have pb : 0 ≤ p ∧ p < 1000 := c5
      have y := c4 m (fun a ha => f a (by omega))
      have red : ∀ x : Int → xw_M → xP, (if (0 : Int) ≤ d ∧ d < 8 then if xw_obb 3 (15 + (26 * d)) = true then if (0 : Int) ≤ l ∧ l < (xw_le B (xw_rf (15 + (26 * d)) 4)) then if 5 ≤ xw_kd (xw_rf (15 + (26 * d)) 4) l then if xw_obb 20 (xw_rf (15 + (26 * d)) 4) = true then xB (yf124 B d row m) fun v1 m1 => if (0 : Int) ≤ v1 ∧ v1 < (xw_le B (xw_rf (xw_rf (15 + (26 * d)) 4) l)) then if xw_obb 16 (xw_rf (xw_rf (15 + (26 * d)) 4) l) = true then x (xR m1 (xw_rf (xw_rf (15 + (26 * d)) 4) l) v1) m1 else none else none else none else none else none else none else none) = x (xR m (15 + 26 * d + 14 + l) p) m := fun x => by
        obtain ⟨o0, ⟨_, _, _, _, r4, _⟩, ⟨_, _, _, _, o4, _⟩, ⟨_, _, _, _, l4, _⟩⟩ := dm_f B c2.1 c2.2
        obtain ⟨_, ⟨kd, rf, ob, le⟩, _⟩ := dm_l B c2.1 c2.2 lb.1 lb.2
        rw [if_pos c2, if_pos o0, r4, l4, if_pos lb, if_pos kd, if_pos o4, y, xB_ret, rf, le, if_pos pb, if_pos ob]
      rw [if_pos q, if_pos gb, x27, if_pos nn, if_pos o9, dv, md, red (fun v m1 => if (0 : Int) ≤ g ∧ g < (xw_le B (xw_rf t 4)) then if xw_obb 16 (xw_rf t 4) = true then R t row (w32 (g + 1)) (xw_u m1 (xw_rf t 4) g v) else none else none), w42 g g0 gb.2 (fun m => R t row (w32 (g + 1)) m), wg]
      clear red w42
      have v : xR m (15 + 26 * d + 14 + l) p = rk g := by rw [xR_cg (f _ (by omega))]; exact c6
      rw [v]
      have wr : w32 (rk g) = rk g := by rw [← c6]; exact w32_xR _ _ _
      refine IH (xw_u m (t + 42) g (rk g)) (by omega) (by omega) (by omega) (fun a ha => by rw [xu_c ha, f a ha]) (fun j j0 j1 => ?_)
      by_cases w : j = g
      · subst w; exact xR_at wr
      · rw [xR_ne (by omega)]; exact e j j0 (by omega)
    · rw [if_neg q]
      exact ⟨m, rfl, f, fun j j0 j1 => e j j0 (by omega)⟩
/-- the key of a source row in a set -/
def skey (rk ls : Int → Int) (mask g : Int) : Int := if xw_iandf (xw_ishrf mask g) 1 = 0 then ls g else rk g
/-- a source row belongs to a key -/
noncomputable def mtc2 (S k : Int) (mk ls rk κ : Int → Int) : Bool := @decide (∃ s, 0 ≤ s ∧ s < S ∧ ∀ g, 0 ≤ g → g < k → κ g = skey rk ls (mk s) g) (Classical.propDecidable _)
theorem mtc2_t {S k : Int} {mk ls rk κ : Int → Int} : mtc2 S k mk ls rk κ = true ↔ ∃ s, 0 ≤ s ∧ s < S ∧ ∀ g, 0 ≤ g → g < k → κ g = skey rk ls (mk s) g := by
  unfold mtc2
  exact @decide_eq_true_iff _ (Classical.propDecidable _)
/-- the answer's rows amid the sets of one source row: those of the sets before s have it -/
def AM (m0 m : xw_M) (t k it n0 n s : Int) (cf : Int) (mo rk ls mk : Int → Int) : Prop := RT m t k n ∧ n0 ≤ n ∧ (∀ j, 0 ≤ j → j < n0 → ∀ g, 0 ≤ g → g < k → xR m (t + 4 + g) j = xR m0 (t + 4 + g) j) ∧ (∀ j, 0 ≤ j → j < n → (if mtc2 s k mk ls rk (fun g => xR m (t + 4 + g) j) = true then (if j < n0 then (xJ m (t + 39) j = w64 (xJ m0 (t + 39) j + cf) ∧ ∀ i, 0 ≤ i → i < it → xJ m (t + 13 + i) j = aup (xR m0 224 i) (xJ m0 (t + 39) j) (xJ m0 (t + 13 + i) j) (mo i)) else (xJ m (t + 39) j = w64 (0 + cf) ∧ ∀ i, 0 ≤ i → i < it → xJ m (t + 13 + i) j = aup (xR m0 224 i) 0 0 (mo i))) else (j < n0 ∧ xJ m (t + 39) j = xJ m0 (t + 39) j ∧ ∀ i, 0 ≤ i → i < it → xJ m (t + 13 + i) j = xJ m0 (t + 13 + i) j))) ∧ ∀ s', 0 ≤ s' → s' < s → ∃ j, (0 ≤ j ∧ j < n) ∧ ∀ g, 0 ≤ g → g < k → xR m (t + 4 + g) j = skey rk ls (mk s') g
def fAm (t : Int) (m m' : xw_M) : Prop := (∀ a, a ≠ t + 1 → ¬ (t + 4 ≤ a ∧ a ≤ t + 11) → ¬ (t + 13 ≤ a ∧ a ≤ t + 36) → a ≠ t + 39 → a ≠ t + 41 → m' a = m a) ∧ ∀ k, k ≠ 5 → m' (t + 1) k = m (t + 1) k
theorem fAm_tr {t : Int} {a b c : xw_M} (h : fAm t a b) (k : fAm t b c) : fAm t a c := ⟨fun x x1 x2 x3 x4 x5 => by rw [k.1 x x1 x2 x3 x4 x5, h.1 x x1 x2 x3 x4 x5], fun x hx => by rw [k.2 x hx, h.2 x hx]⟩
end ADR
