/-! THE REFERENCE: how many different cells (differentOf), how many digits (bits) -/
theorem dst_list (f : Int → Int) : ∀ n : Nat, ∃ l : Nat → Int, (∀ j j', j < dst f n → j' < dst f n → l j = l j' → j = j') ∧ (∀ j, j < dst f n → ∃ i : Nat, i < n ∧ f i = l j) ∧ (∀ i : Nat, i < n → ∃ j, j < dst f n ∧ l j = f i) := by
  intro n
  induction n with
  | zero => exact ⟨fun _ => 0, fun j j' h => by unfold dst at h; omega, fun j h => by unfold dst at h; omega, fun i h => by omega⟩
  | succ n ih =>
    obtain ⟨l, h1, h2, h3⟩ := ih
    by_cases hc : ∃ j : Nat, j < n ∧ f j = f n
    · have e : dst f (n + 1) = dst f n := by
        show dst f n + _ = _
        rw [if_pos (by rw [dst_any]; exact hc)]
        rfl
      rw [e]
      refine ⟨l, h1, fun j hj => ?_, fun i hi => ?_⟩
      · obtain ⟨i, q1, q2⟩ := h2 j hj
        exact ⟨i, by omega, q2⟩
      · by_cases hin : i = n
        · obtain ⟨j0, q1, q2⟩ := hc
          obtain ⟨j, q3, q4⟩ := h3 j0 q1
          exact ⟨j, q3, by rw [hin, q4, q2]⟩
        · exact h3 i (by omega)
    · have e : dst f (n + 1) = dst f n + 1 := by
        show dst f n + _ = _
        rw [if_neg (by rw [dst_any]; exact hc)]
      rw [e]
      refine ⟨fun j => if j = dst f n then f n else l j, fun j j' hj hj' q => ?_, fun j hj => ?_, fun i hi => ?_⟩
      · have q : (if j = dst f n then f n else l j) = (if j' = dst f n then f n else l j') := q
        by_cases e1 : j = dst f n
        · by_cases e2 : j' = dst f n
          · omega
          · rw [if_pos e1, if_neg e2] at q
            obtain ⟨i, q1, q2⟩ := h2 j' (by omega)
            exact absurd ⟨i, q1, by rw [q2, q]⟩ hc
        · by_cases e2 : j' = dst f n
          · rw [if_pos e2, if_neg e1] at q
            obtain ⟨i, q1, q2⟩ := h2 j (by omega)
            exact absurd ⟨i, q1, by rw [q2, q]⟩ hc
          · rw [if_neg e1, if_neg e2] at q
            exact h1 j j' (by omega) (by omega) q
      · by_cases e1 : j = dst f n
        · exact ⟨n, by omega, (if_pos e1).symm⟩
        · obtain ⟨i, q1, q2⟩ := h2 j (by omega)
          exact ⟨i, by omega, by show f i = (if j = dst f n then f n else l j); rw [if_neg e1, q2]⟩
      · by_cases hin : i = n
        · exact ⟨dst f n, by omega, by rw [hin]; exact if_pos rfl⟩
        · obtain ⟨j, q3, q4⟩ := h3 i (by omega)
          exact ⟨j, by omega, by show (if j = dst f n then f n else l j) = f i; rw [if_neg (by omega), q4]⟩
/-- only the set of the values counts -/
theorem dst_set {f g : Int → Int} {n : Nat} (h : ∀ i : Nat, i < n → ∃ k : Nat, k < n ∧ g k = f i) : dst f n ≤ dst g n := by
  obtain ⟨l, h1, h2, h3⟩ := dst_list f n
  obtain ⟨l', k1, k2, k3⟩ := dst_list g n
  have key : ∀ j : Nat, ∃ j' : Nat, j < dst f n → j' < dst g n ∧ l' j' = l j := by
    intro j
    by_cases hj : j < dst f n
    · obtain ⟨i, q1, q2⟩ := h2 j hj
      obtain ⟨k, q3, q4⟩ := h i q1
      obtain ⟨j', q5, q6⟩ := k3 k q3
      exact ⟨j', fun _ => ⟨q5, by rw [q6, q4, q2]⟩⟩
    · exact ⟨0, fun h => absurd h hj⟩
  refine pig (dst g n) (dst f n) (fun j => Classical.choose (key j)) (fun j hj => (Classical.choose_spec (key j) hj).1) (fun i j hi hj e => ?_)
  have e : Classical.choose (key i) = Classical.choose (key j) := e
  have q1 := (Classical.choose_spec (key i) hi).2
  have q2 := (Classical.choose_spec (key j) hj).2
  rw [e] at q1
  exact h1 i j hi hj (by rw [← q1, q2])
theorem dst_cg {f g : Int → Int} {n : Nat} (h : ∀ i : Nat, i < n → f i = g i) : dst f n = dst g n := Nat.le_antisymm (dst_set (fun i hi => ⟨i, hi, (h i hi).symm⟩)) (dst_set (fun i hi => ⟨i, hi, h i hi⟩))
/-- the same values on 0 .. n - 1 -/
def same (f g : Int → Int) (n : Int) : Prop := (∀ i, 0 ≤ i → i < n → ∃ k, (0 ≤ k ∧ k < n) ∧ g k = f i) ∧ (∀ k, 0 ≤ k → k < n → ∃ i, (0 ≤ i ∧ i < n) ∧ f i = g k)
theorem same_dst {f g : Int → Int} {n : Int} (h : same f g n) : dst f n.toNat = dst g n.toNat := by
  refine Nat.le_antisymm (dst_set (fun i hi => ?_)) (dst_set (fun i hi => ?_))
  · obtain ⟨k, q1, q2⟩ := h.1 i (by omega) (by omega)
    exact ⟨k.toNat, by omega, by rw [Int.toNat_of_nonneg q1.1]; exact q2⟩
  · obtain ⟨k, q1, q2⟩ := h.2 i (by omega) (by omega)
    exact ⟨k.toNat, by omega, by rw [Int.toNat_of_nonneg q1.1]; exact q2⟩
def up (g : Int → Int) (i v : Int) : Int → Int := fun k => if k = i then v else g k
/-- a shift by one place of the hole -/
theorem same_shift {f g : Int → Int} {n i j v : Int} (h : same f (up g i v) n) (hi : 0 ≤ i ∧ i < n) (hj : 0 ≤ j ∧ j < n) (hij : j ≠ i) : same f (up (up g i (g j)) j v) n := by
  refine ⟨fun x h1 h2 => ?_, fun k h1 h2 => ?_⟩
  · obtain ⟨k, q1, q2⟩ := h.1 x h1 h2
    unfold up at q2 ⊢
    by_cases ki : k = i
    · rw [if_pos ki] at q2
      exact ⟨j, hj, by rw [if_pos rfl, q2]⟩
    · rw [if_neg ki] at q2
      by_cases kj : k = j
      · exact ⟨i, hi, by rw [if_neg (fun e => hij e.symm), if_pos rfl, ← kj, q2]⟩
      · exact ⟨k, q1, by rw [if_neg kj, if_neg ki, q2]⟩
  · unfold up
    by_cases kj : k = j
    · obtain ⟨x, q1, q2⟩ := h.2 i hi.1 hi.2
      refine ⟨x, q1, ?_⟩
      rw [if_pos kj, q2]
      unfold up
      rw [if_pos rfl]
    · rw [if_neg kj]
      by_cases ki : k = i
      · obtain ⟨x, q1, q2⟩ := h.2 j hj.1 hj.2
        refine ⟨x, q1, ?_⟩
        rw [if_pos ki, q2]
        unfold up
        rw [if_neg hij]
      · obtain ⟨x, q1, q2⟩ := h.2 k h1 h2
        refine ⟨x, q1, ?_⟩
        rw [if_neg ki, q2]
        unfold up
        rw [if_neg ki]
theorem same_cg {f g g' : Int → Int} {n : Int} (h : same f g n) (e : ∀ k, 0 ≤ k → k < n → g' k = g k) : same f g' n := by
  refine ⟨fun i h1 h2 => ?_, fun k h1 h2 => ?_⟩
  · obtain ⟨k, q1, q2⟩ := h.1 i h1 h2
    exact ⟨k, q1, by rw [e k q1.1 q1.2, q2]⟩
  · rw [e k h1 h2]
    exact h.2 k h1 h2
def srtd (g : Int → Int) (n : Int) : Prop := ∀ a b : Int, 0 ≤ a → a ≤ b → b < n → g a ≤ g b
theorem up_xJ {m : xw_M} {i v : Int} (hv : w64 v = v) : xJ (xw_u m 594 i v) 594 = up (xJ m 594) i v := by
  funext k
  rw [xJ_u]
  unfold up
  by_cases h : k = i
  · rw [if_pos ⟨rfl, h⟩, if_pos h, hv]
  · rw [if_neg (fun e => h e.2), if_neg h]
/-- changes in a sorted row -/
def chg (g : Int → Int) : Nat → Int
  | 0 => 1
  | k + 1 => chg g k + (if g ((k : Nat) + 1) = g k then 0 else 1)
theorem chg_b (g : Int → Int) (k : Nat) : 1 ≤ chg g k ∧ chg g k ≤ k + 1 := by
  induction k with
  | zero => exact ⟨Int.le_refl 1, Int.le_refl 1⟩
  | succ k ih => unfold chg; split <;> omega
theorem chg_dst {g : Int → Int} (k : Nat) (h : srtd g (k + 1 : Nat)) : chg g k = (dst g (k + 1) : Nat) := by
  induction k with
  | zero =>
    show (1 : Int) = ((dst g 0 + _ : Nat) : Int)
    rw [if_neg (by rw [dst_any]; rintro ⟨j, hj, _⟩; exact absurd hj (Nat.not_lt_zero _))]
    rfl
  | succ k ih =>
    have ih := ih (fun a b h1 h2 h3 => h a b h1 h2 (by omega))
    show chg g k + _ = ((dst g (k + 1) + _ : Nat) : Int)
    rw [ih, Int.natCast_add]
    congr 1
    by_cases e : g ((k : Nat) + 1) = g k
    · rw [if_pos e, if_pos]
      · rfl
      · rw [dst_any]
        exact ⟨k, by omega, by rw [show ((k + 1 : Nat) : Int) = (k : Int) + 1 from by omega, e]⟩
    · rw [if_neg e, if_neg]
      · rfl
      · rw [dst_any]
        rintro ⟨j, hj, hq⟩
        have q1 := h j k (by omega) (by omega) (by omega)
        have q2 := h k (k + 1 : Nat) (by omega) (by omega) (by omega)
        rw [hq] at q1
        rw [show ((k + 1 : Nat) : Int) = (k : Int) + 1 from by omega] at q1 q2
        omega
section DIFF
variable {B : Nat} {m : xw_M} {n : Int}
/-- only the row 594 is another -/
def f594 (m m' : xw_M) : Prop := ∀ a, a ≠ 594 → m' a = m a
theorem f594_u {m m' : xw_M} {i v : Int} (h : f594 m m') : f594 m (xw_u m' 594 i v) := fun a ha => by rw [xu_c ha]; exact h a ha
theorem count_ok {m1 : xw_M} {f : Int → Int} (hn : 1 ≤ n) (hn2 : n ≤ 1024) (hs : srtd (xJ m1 594) n) (hf : same f (xJ m1 594) n) : xl3 (yl327_123 B) 1000000 n 1 1 m1 = some (.inl (dst f n.toNat : Nat), m1) := by
  have h := xl3_eq (F := yl327_123 B) (fun _ _ _ _ => some (.inl (chg (xJ m1 594) (n - 1).toNat), m1)) (fun x0 x1 x2 m' => x0 = n ∧ m' = m1 ∧ 1 ≤ x2 ∧ x2 ≤ n ∧ x1 = chg (xJ m1 594) (x2 - 1).toNat) (fun _ _ x2 _ => (n - x2).toNat) ?_ 1000000 n 1 1 m1 ⟨rfl, rfl, by omega, by omega, rfl⟩ (by omega)
  · rw [h, same_dst hf]
    have e := chg_dst (g := xJ m1 594) (n - 1).toNat (by rw [show (((n - 1).toNat + 1 : Nat) : Int) = n from by omega]; exact hs)
    rw [e, show (n - 1).toNat + 1 = n.toNat from by omega]
  · intro r x0 x1 x2 m' ⟨a0, a1, a2, a3, a4⟩ ih
    subst a0 a1 a4
    unfold yl327_123
    by_cases hx : x2 < x0
    · have hb := chg_b (xJ m' 594) (x2 - 1).toNat
      have e1 : (x2 + 1 - 1).toNat = (x2 - 1).toNat + 1 := by omega
      have e2 : (((x2 - 1).toNat : Nat) : Int) + 1 = x2 := by omega
      have e3 : (((x2 - 1).toNat : Nat) : Int) = x2 - 1 := by omega
      have e4 : chg (xJ m' 594) (x2 + 1 - 1).toNat = chg (xJ m' 594) (x2 - 1).toNat + (if xJ m' 594 x2 = xJ m' 594 (x2 - 1) then 0 else 1) := by
        rw [e1]
        show chg (xJ m' 594) (x2 - 1).toNat + (if xJ m' 594 ((((x2 - 1).toNat : Nat) : Int) + 1) = xJ m' 594 (((x2 - 1).toNat : Nat) : Int) then 0 else 1) = _
        rw [e2, e3]
      rw [if_pos hx, if_pos ⟨by omega, by omega⟩, if_pos ⟨by omega, by omega⟩, w32_id (x := x2 + 1) (by omega) (by omega)]
      by_cases hq : xJ m' 594 x2 = xJ m' 594 (x2 - 1)
      · rw [if_pos hq, ih _ _ _ _ ⟨rfl, rfl, by omega, by omega, ?_⟩ (by omega)]
        rw [e4, if_pos hq, w32_id (by omega) (by omega)]
      · rw [if_neg hq, ih _ _ _ _ ⟨rfl, rfl, by omega, by omega, ?_⟩ (by omega)]
        rw [e4, if_neg hq, w32_id (by omega) (by omega)]
    · rw [if_neg hx, show x2 = x0 from by omega]
theorem diff_ok (hn : 1 ≤ n) (hn2 : n ≤ 1024) : ∃ m', yf327 B n m = some (.inl (dst (xJ m 593) n.toNat : Nat), m') ∧ f594 m m' := by
  have goal := xH_ex (Q := fun v m' => v = (dst (xJ m 593) n.toNat : Nat) ∧ f594 m m') (xl2_rule (F := yl327_2 B) (fun x0 x1 m' => x0 = n ∧ 0 ≤ x1 ∧ x1 ≤ n ∧ f594 m m' ∧ ∀ k, 0 ≤ k → k < x1 → xJ m' 594 k = xJ m 593 k) (fun _ x1 _ => (n - x1).toNat) ?_ 1000000 n 0 m ⟨rfl, by omega, by omega, fun _ _ => rfl, fun k h1 h2 => by omega⟩ (by omega))
  · obtain ⟨v, m', e, rfl, h⟩ := goal
    exact ⟨m', e, h⟩
  · intro r x0 x1 m1 ⟨a0, a1, a2, F, V⟩ ih
    subst a0
    unfold yl327_2
    by_cases hx : x1 < x0
    · rw [if_pos hx, if_pos ⟨a1, by omega⟩, w32_id (by omega) (by omega)]
      refine ih _ _ _ ⟨rfl, by omega, by omega, f594_u F, fun k h1 h2 => ?_⟩ (by omega)
      rw [xJ_u]
      by_cases hk : k = x1
      · rw [if_pos ⟨rfl, hk⟩, w64_xJ, xJ_cg (F 593 (by decide)), hk]
      · rw [if_neg (fun e => hk e.2)]
        exact V k h1 (by omega)
    · rw [if_neg hx, if_pos (by omega)]
      have ex : x1 = x0 := by omega
      subst ex
      have S0 : same (xJ m 593) (xJ m1 594) x1 := same_cg ⟨fun i h1 h2 => ⟨i, ⟨h1, h2⟩, rfl⟩, fun i h1 h2 => ⟨i, ⟨h1, h2⟩, rfl⟩⟩ V
      -- the gaps
      refine xl2_rule (F := yl327_29 B) (fun y0 y1 m' => y0 = x1 ∧ 0 ≤ y1 ∧ y1 ≤ 1024 ∧ y1 ≤ x1 ∧ f594 m m' ∧ same (xJ m 593) (xJ m' 594) x1 ∧ (y1 = 0 → srtd (xJ m' 594) x1)) (fun _ y1 _ => y1.toNat) ?_ 1000000 x1 (x1 / 2) m1 ⟨rfl, by omega, by omega, by omega, F, S0, fun h => ?_⟩ (by omega)
      · intro r29 y0 y1 m2 ⟨b0, b1, b2, b3, F2, S2, Z2⟩ ih29
        subst b0
        unfold yl327_29
        by_cases hy : 0 < y1
        · rw [if_pos hy]
          refine xl3_rule (F := yl327_35 B r29) (fun z0 z1 z2 m' => z0 = y0 ∧ z1 = y1 ∧ y1 ≤ z2 ∧ z2 ≤ y0 ∧ f594 m m' ∧ same (xJ m 593) (xJ m' 594) y0 ∧ (y1 = 1 → srtd (xJ m' 594) z2)) (fun _ _ z2 _ => (y0 - z2).toNat) ?_ 1000000 y0 y1 y1 m2 ⟨rfl, rfl, by omega, b3, F2, S2, fun h a b h1 h2 h3 => ?_⟩ (by omega)
          · intro r35 z0 z1 z2 m3 ⟨c0, c1, c2, c3, F3, S3, Z3⟩ ih35
            subst c0 c1
            unfold yl327_35
            by_cases hz : z2 < z0
            · rw [if_pos hz, if_pos ⟨by omega, by omega⟩]
              have start : same (xJ m 593) (up (xJ m3 594) z2 (xJ m3 594 z2)) z0 := same_cg S3 (fun k h1 h2 => by
                unfold up
                split
                · next e => rw [e]
                · rfl)
              generalize hv : xJ m3 594 z2 = v at *
              have hvw : w64 v = v := by rw [← hv]; exact w64_xJ _ _ _
              refine xl5_rule (F := yl327_51 B r29 r35) (fun w0 w1 w2 w3 w4 m' => w0 = z0 ∧ w1 = z1 ∧ w2 = z2 ∧ w3 = v ∧ 0 ≤ w4 ∧ w4 ≤ z2 ∧ f594 m m' ∧ same (xJ m 593) (up (xJ m' 594) w4 v) z0 ∧ (z1 = 1 → (∀ a b : Int, 0 ≤ a → a ≤ b → b ≤ z2 → a ≠ w4 → b ≠ w4 → xJ m' 594 a ≤ xJ m' 594 b) ∧ ∀ b : Int, w4 < b → b ≤ z2 → v ≤ xJ m' 594 b)) (fun _ _ _ _ w4 _ => w4.toNat) ?_ 1000000 z0 z1 z2 v z2 m3 ⟨rfl, rfl, rfl, rfl, by omega, by omega, F3, start, fun h => ⟨fun a b h1 h2 h3 h4 h5 => Z3 h a b h1 h2 (by omega), fun b h1 h2 => by omega⟩⟩ (by omega)
              intro r51 w0 w1 w2 w3 w4 m4 ⟨d0, d1, d2, d3, d4, d5, F4, S4, Z4⟩ ih51
              subst d0 d1 d2 d3
              have put : (w4 < w1 ∨ xJ m4 594 (w4 - w1) ≤ w3) → xH (yk327_97 B r29 r35 w0 w1 w2 w3 w4 m4) (fun v m' => v = (dst (xJ m 593) w0.toNat : Nat) ∧ f594 m m') (fun _ _ => False) := by
                intro hcase
                unfold yk327_97
                rw [if_pos ⟨d4, by omega⟩, w32_id (by omega) (by omega)]
                refine ih35 _ _ _ _ ⟨rfl, rfl, by omega, by omega, f594_u F4, by rw [up_xJ hvw]; exact S4, fun h => ?_⟩ (by omega)
                obtain ⟨q1, q2⟩ := Z4 h
                rw [up_xJ hvw]
                intro a b h1 h2 h3
                unfold up
                by_cases ea : a = w4
                · by_cases eb : b = w4
                  · rw [if_pos ea, if_pos eb]
                    exact Int.le_refl _
                  · rw [if_pos ea, if_neg eb]
                    exact q2 b (by omega) (by omega)
                · by_cases eb : b = w4
                  · rw [if_neg ea, if_pos eb]
                    rcases hcase with hcase | hcase
                    · omega
                    · have := q1 a (w4 - w1) h1 (by omega) (by omega) ea (by omega)
                      omega
                  · rw [if_neg ea, if_neg eb]
                    exact q1 a b h1 h2 (by omega) ea eb
              unfold yl327_51
              by_cases hw : w4 < w1
              · rw [if_pos hw]
                exact put (Or.inl hw)
              · rw [if_neg hw, if_pos ⟨by omega, by omega⟩]
                by_cases hg : w3 < xJ m4 594 (w4 - w1)
                · rw [if_pos hg, if_pos ⟨d4, by omega⟩, w32_id (by omega) (by omega)]
                  have hjw : w64 (xJ m4 594 (w4 - w1)) = xJ m4 594 (w4 - w1) := w64_xJ _ _ _
                  refine ih51 _ _ _ _ _ _ ⟨rfl, rfl, rfl, rfl, by omega, by omega, f594_u F4, by rw [up_xJ hjw]; exact same_shift S4 ⟨d4, by omega⟩ ⟨by omega, by omega⟩ (by omega), fun h => ?_⟩ (by omega)
                  obtain ⟨q1, q2⟩ := Z4 h
                  rw [up_xJ hjw]
                  refine ⟨fun a b h1 h2 h3 h4 h5 => ?_, fun b h1 h2 => ?_⟩
                  · unfold up
                    by_cases ea : a = w4
                    · by_cases eb : b = w4
                      · rw [if_pos ea, if_pos eb]
                        exact Int.le_refl _
                      · rw [if_pos ea, if_neg eb]
                        exact q1 (w4 - w1) b (by omega) (by omega) h3 (by omega) eb
                    · by_cases eb : b = w4
                      · rw [if_neg ea, if_pos eb]
                        exact q1 a (w4 - w1) h1 (by omega) (by omega) ea (by omega)
                      · rw [if_neg ea, if_neg eb]
                        exact q1 a b h1 h2 h3 ea eb
                  · unfold up
                    by_cases eb : b = w4
                    · rw [if_pos eb]
                      omega
                    · rw [if_neg eb]
                      exact q2 b (by omega) h2
                · rw [if_neg hg]
                  exact put (Or.inr (by omega))
            · rw [if_neg hz, if_pos (by omega)]
              have ez : z2 = z0 := by omega
              subst ez
              exact ih29 _ _ _ ⟨rfl, by omega, by omega, by omega, F3, S3, fun h => Z3 (by omega)⟩ (by omega)
          · have : a = b := by omega
            rw [this]
            exact Int.le_refl _
        · rw [if_neg hy, count_ok hn hn2 (Z2 (by omega)) S2, xH_ret]
          exact ⟨rfl, F2⟩
      · intro a b h1 h2 h3
        have : a = b := by omega
        rw [this]
        exact Int.le_refl _
theorem lushr1 (x : Int) : xw_lushrf x 1 = (x % 18446744073709551616) / 2 := lushr_d x (s := 1) (by decide) (by decide)
/-- bits -/
theorem bits_ok {x : Int} (hx : w64 x = x) : yf328 B x m = some (.inl (nb (x % 18446744073709551616)), m) := by
  unfold yf328
  have hr := w64_cg hx
  unfold xw_rJ at hr
  have h := xl2_eq (F := yl328_4 B) (fun _ _ _ => some (.inl (nb (x % 18446744073709551616)), m)) (fun x0 x1 m' => m' = m ∧ w64 x1 = x1 ∧ 0 ≤ x0 ∧ nb (x % 18446744073709551616) = x0 + nb (x1 % 18446744073709551616)) (fun _ x1 _ => (nb (x1 % 18446744073709551616)).toNat) ?_ 1000000 0 x m ⟨rfl, hx, by omega, by omega⟩ ?_
  · exact h
  · intro r x0 x1 m' ⟨a0, a1, a2, a3⟩ ih
    subst a0
    have hr1 := w64_cg a1
    unfold xw_rJ at hr1
    unfold yl328_4
    by_cases hz : x1 = 0
    · rw [if_pos hz, a3, hz, show nb (0 % 18446744073709551616) = 0 from rfl, Int.add_zero]
    · have hu : 0 < x1 % 18446744073709551616 := by omega
      have h64 := nb_le64 (u := x % 18446744073709551616) (by omega) (by omega)
      have hnn := nb_nn (x1 % 18446744073709551616)
      have e1 : nb (x1 % 18446744073709551616) = nb (x1 % 18446744073709551616 / 2) + 1 := by
        by_cases h1 : x1 % 18446744073709551616 = 1
        · rw [h1]
          rfl
        · have := isnb_div (k := 1) (x := x1 % 18446744073709551616) (isnb_nb (u := x1 % 18446744073709551616 / ((2 ^ 1 : Nat) : Int)) (by show 0 ≤ x1 % 18446744073709551616 / 2; omega)) (by show 0 < x1 % 18446744073709551616 / 2; omega)
          exact (nb_eq (by omega) this).symm
      have e2 : xw_lushrf x1 1 % 18446744073709551616 = x1 % 18446744073709551616 / 2 := by
        rw [lushr1]
        omega
      have hnn2 := nb_nn (x1 % 18446744073709551616 / 2)
      rw [if_neg hz, w32_id (by omega) (by omega), ih _ _ _ ⟨rfl, by rw [lushr_w], by omega, by rw [e2]; omega⟩ (by rw [e2]; omega)]
  · have h64 := nb_le64 (u := x % 18446744073709551616) (by omega) (by omega)
    omega
end DIFF
