/-! THE REFERENCE'S LOOPS OVER THE VIEWS (load, choose, settle): weights and rows -/
theorem partB_hi {T : Int → Int → Int} (hT : cwd T) {R : Int} (hR : R ≤ 20000) {k : Nat} (hk : k ≤ 33) : partB T R k ≤ 7000000 := by
  have : ∀ s : Nat, 1024 * (s : Int) < R + 1024 → ssum T R k s ≤ 300002 * s := by
    intro s
    induction s with
    | zero => intro _; show (0 : Int) ≤ _; omega
    | succ s ih =>
      intro h
      have a := ih (by omega)
      have b := (ssum_step hT (R := R) (k := k) hk (s := s) (by omega)).2
      omega
  unfold partB nseg
  by_cases h : 0 ≤ R
  · have := this ((R + 1023) / 1024).toNat (by omega)
    omega
  · have e : ((R + 1023) / 1024).toNat = 0 := by omega
    rw [e]
    show 4 + (0 : Int) ≤ _
    omega
theorem vbt_b {m : xw_M} {D M v f n R b : Int} (hD : 0 ≤ D ∧ D ≤ 8) (hM : 0 ≤ M ∧ M ≤ 8) (hn : n ≤ 20000) (h : vbt m D M v f n R b) : 4 ≤ b ∧ b ≤ 7000000 ∧ 0 ≤ R ∧ R ≤ n := by
  obtain ⟨o, st, V, E⟩ := h
  have pb := rP_b m hD.1 v
  have w := rV_w m D v f V.2.2 (o := o)
  have h1 := V.2.1.1
  have h2 := V.2.1.2.1
  rw [E]
  exact ⟨partB_4 w (by omega), partB_hi w (by omega) (by omega), h1, h2⟩
theorem fbt_b {m : xw_M} {D M f n b : Int} (hD : 0 ≤ D ∧ D ≤ 8) (hM : 0 ≤ M ∧ M ≤ 8) (hn : n ≤ 20000) (h : fbt m D M f n b) : 4 ≤ b ∧ b ≤ 7000000 := by
  obtain ⟨o, S, E⟩ := h
  rw [E]
  exact ⟨partB_4 (rT_w _ _ _ _) (by omega), partB_hi (rT_w _ _ _ _) hn (by omega)⟩
theorem rsum_b {b : Int → Int} {lo hi : Int} : ∀ n : Nat, (∀ i : Int, 0 ≤ i → i < n → lo ≤ b i ∧ b i ≤ hi) → lo * n ≤ rsum b n ∧ rsum b n ≤ hi * n := by
  intro n
  induction n with
  | zero => intro _; show lo * (0 : Int) ≤ 0 ∧ (0 : Int) ≤ hi * 0; omega
  | succ n ih =>
    intro h
    have a := ih (fun i i0 i1 => h i i0 (by omega))
    have c := h n (by omega) (by omega)
    show lo * ((n + 1 : Nat) : Int) ≤ rsum b n + b n ∧ rsum b n + b n ≤ hi * ((n + 1 : Nat) : Int)
    rw [show ((n + 1 : Nat) : Int) = (n : Int) + 1 by omega, Int.mul_add, Int.mul_add]
    omega
/-- what weighing and noting rows changes -/
def pfw (m m' : xw_M) : Prop := (∀ a, a ≠ 536 → a ≠ 603 → a ≠ 582 → (a < 590 ∨ 594 < a) → m' a = m a) ∧ (∀ k, k ≠ 58 → k ≠ 59 → k ≠ 60 → k ≠ 61 → m' 536 k = m 536 k)
theorem pfw_refl (m : xw_M) : pfw m m := ⟨fun _ _ _ _ _ => rfl, fun _ _ _ _ _ => rfl⟩
theorem pf_pfw {m m1 m2 : xw_M} (h : pfw m m1) (p : pf m1 m2) : pfw m m2 := ⟨fun a a1 a2 a3 a4 => (p.1 a a1 a2 a4).trans (h.1 a a1 a2 a3 a4), fun k k1 k2 k3 k4 => (p.2 k k1 k2 k3 k4).trans (h.2 k k1 k2 k3 k4)⟩
theorem pfw_u {m m1 : xw_M} {i v : Int} (h : pfw m m1) : pfw m (xw_u m1 582 i v) := ⟨fun a a1 a2 a3 a4 => by rw [xu_c a3]; exact h.1 a a1 a2 a3 a4, fun k k1 k2 k3 k4 => by rw [xu_c (by omega)]; exact h.2 k k1 k2 k3 k4⟩
theorem pfw_rsm {m m1 : xw_M} (h : pfw m m1) (N : Int) : rsm m1 m N := ⟨(h.1 538 (by omega) (by omega) (by omega) (by omega)).symm, (h.1 539 (by omega) (by omega) (by omega) (by omega)).symm, (h.1 573 (by omega) (by omega) (by omega) (by omega)).symm, fun i _ _ => ⟨by rw [h.1 575 (by omega) (by omega) (by omega) (by omega)], by rw [h.1 576 (by omega) (by omega) (by omega) (by omega)]⟩⟩
section RLP
variable {B : Nat} {m : xw_M} {D M n f k w0 : Int}
theorem lvstep {m' : xw_M} {v : Int} (h : rca m D M f n) (p : pfw m m') (t : ∃ s t, two s t ∧ m' 536 59 = s ∧ m' 536 60 = t) (hv : 0 ≤ v ∧ v < 2147483648) : ∃ m1 b, yf324 B f (f + n) v m' = some (.inl b, m1) ∧ pfw m m1 ∧ (∃ s t, two s t ∧ m1 536 59 = s ∧ m1 536 60 = t) ∧ vbt m D M v f n (xR m1 536 61) b ∧ m1 582 = m' 582 := by
  obtain ⟨h1, h2, h3, h4, h5, h6, h7, h8⟩ := h
  have rc : rca m' D M f n := ⟨h1, h2, by rw [xR_fld (p.2 14 (by omega) (by omega) (by omega) (by omega))]; exact h3, by rw [xR_fld (p.2 19 (by omega) (by omega) (by omega) (by omega))]; exact h4, by rw [xR_cg (p.1 538 (by omega) (by omega) (by omega) (by omega))]; exact h5, h6, by rw [xR_cg (p.1 575 (by omega) (by omega) (by omega) (by omega))]; exact h7, t⟩
  obtain ⟨m1, b, e, q, O, V⟩ := rwV (B := B) rc hv
  exact ⟨m1, b, e, pf_pfw p q, O, vbt_m (pfw_rsm p (f + n)) h1 h2 h6.1 (Int.le_refl _) V, q.1 582 (by omega) (by omega) (by omega)⟩
/-- what a loop over the views has found of the first x of them -/
def lvI (m : xw_M) (D M f n w0 : Int) (vs : Int → Int) (x1 x2 : Int) (m' : xw_M) : Prop := ∃ b, x1 = w0 + rsum b x2.toNat ∧ pfw m m' ∧ (∃ s t, two s t ∧ m' 536 59 = s ∧ m' 536 60 = t) ∧ ∀ i, 0 ≤ i → i < x2 → vbt m D M (vs i) f n (xR m' 582 i) (b i)
theorem lvI_step {m' : xw_M} {x1 x2 : Int} {vs : Int → Int} (h : rca m D M f n) (hv : 0 ≤ vs x2 ∧ vs x2 < 2147483648) (w00 : 0 ≤ w0) (w01 : w0 ≤ 10000000) (x0 : 0 ≤ x2) (x16 : x2 < 16) (L : lvI m D M f n w0 vs x1 x2 m') : ∃ m1 b, yf324 B f (f + n) (vs x2) m' = some (.inl b, m1) ∧ w32 (x1 + b) = x1 + b ∧ lvI m D M f n w0 vs (x1 + b) (x2 + 1) (xw_u m1 582 x2 (xR m1 536 61)) := by
  obtain ⟨b, e1, p, t, V⟩ := L
  obtain ⟨m1, c, e, p1, t1, V1, c1⟩ := lvstep (B := B) h p t hv
  have hD := h.1
  have hM := h.2.1
  have hn := h.2.2.2.2.2.1
  have rb := rsum_b (b := b) (lo := 4) (hi := 7000000) x2.toNat (fun i i0 i1 => by have := vbt_b hD hM (by omega) (V i i0 (by omega)); omega)
  have cb := vbt_b hD hM (by omega) V1
  refine ⟨m1, c, e, w32_id (by omega) (by omega), fun i => if i = x2 then c else b i, ?_, pfw_u p1, ?_, fun i i0 i1 => ?_⟩
  · rw [show (x2 + 1).toNat = x2.toNat + 1 by omega]
    show x1 + c = w0 + (rsum _ x2.toNat + (if ((x2.toNat : Nat) : Int) = x2 then c else _))
    rw [if_pos (by omega), rsum_cg (b' := b) x2.toNat (fun i i0 i1 => by show (if i = x2 then c else b i) = b i; rw [if_neg (by omega)])]
    omega
  · obtain ⟨s, u, q1, q2, q3⟩ := t1
    exact ⟨s, u, q1, by rw [xu_c (by omega)]; exact q2, by rw [xu_c (by omega)]; exact q3⟩
  · show vbt m D M (vs i) f n (xR (xw_u m1 582 x2 (xR m1 536 61)) 582 i) (if i = x2 then c else b i)
    rw [xR_u]
    by_cases ei : i = x2
    · rw [if_pos ⟨rfl, ei⟩, if_pos ei, w32_xR, ei]; exact V1
    · rw [if_neg (by omega), if_neg ei, xR_cg c1]; exact V i i0 (by omega)
theorem lvI_0 (h : rca m D M f n) {vs : Int → Int} : lvI m D M f n w0 vs w0 0 m := ⟨fun _ => 0, by show w0 = w0 + 0; omega, pfw_refl m, h.2.2.2.2.2.2.2, fun i i0 i1 => absurd i1 (Int.not_lt.mpr i0)⟩
/-- load's loop -/
theorem lv323 {Q : Int → xw_M → Prop} {X : Nat → xw_M → Prop} (h : rca m D M f n) (h31 : xR m 536 31 = f) (h32 : xR m 536 32 = n) (h40 : xR m 536 40 = k) (hk : 0 ≤ k ∧ k ≤ 16) (hv : ∀ i, 0 ≤ i → i < k → 0 ≤ xR m 579 i) (w00 : 0 ≤ w0) (w01 : w0 ≤ 10000000) (fin : ∀ m' x1, lvI m D M f n w0 (xR m 579) x1 k m' → xH (xB (yf305 B x1 1 0 0 m') fun v2 m2 => if v2 = (-2) then (some (.inl (-2), m2)) else (if (xR m2 536 57) = 0 then (yk323_185 B v2 m2) else (xl2 (yl323_156 B) 1000000 v2 0 (xw_u (xw_u m2 536 31 ((xR m2 536 31) + (xR m2 536 32))) 536 38 ((xR m2 536 38) + 1))))) Q X) : xH (xl2 (yl323_56 B) 1000000 w0 0 m) Q X := by
  have hn := h.2.2.2.2.2.1
  have gen : ∀ N : Nat, 100 < N → xH (xl2 (yl323_56 B) N w0 0 m) Q X := by
    intro N hN
    refine xl2_rule (F := yl323_56 B) (fun x1 x2 m' => (0 ≤ x2 ∧ x2 ≤ k) ∧ lvI m D M f n w0 (xR m 579) x1 x2 m') (fun _ x2 _ => (k - x2).toNat) ?_ N w0 0 m ⟨⟨Int.le_refl _, hk.1⟩, lvI_0 h⟩ (by omega)
    intro r x1 x2 m' ⟨hx, L⟩ ih
    obtain ⟨b, e1, p, t, V⟩ := id L
    have f4 : xR m' 536 40 = k := by rw [xR_fld (p.2 40 (by omega) (by omega) (by omega) (by omega))]; exact h40
    unfold yl323_56
    rw [f4]
    by_cases hlt : x2 < k
    · rw [if_pos hlt, if_pos ⟨hx.1, by omega⟩, xR_fld (p.2 31 (by omega) (by omega) (by omega) (by omega)), xR_fld (p.2 32 (by omega) (by omega) (by omega) (by omega)), h31, h32, w32_id (by omega) (by omega), xR_cg (p.1 579 (by omega) (by omega) (by omega) (by omega))]
      obtain ⟨m1, c, e, ew, L1⟩ := lvI_step (B := B) h ⟨hv x2 hx.1 hlt, (w32_rng _).2⟩ w00 w01 hx.1 (by omega) L
      rw [e, xB_ret, ew, w32_id (by omega) (by omega)]
      exact ih _ _ _ ⟨⟨by omega, by omega⟩, L1⟩ (by omega)
    · rw [if_neg hlt]
      have ex : x2 = k := by omega
      subst ex
      exact fin m' x1 L
  exact gen 1000000 (by decide)
/-- choose's loop -/
theorem lv330 {Q : Int → xw_M → Prop} {X : Nat → xw_M → Prop} (h : rca m D M 0 n) (h31 : xR m 536 31 = n) (h43 : xR m 536 43 = k) (hk : 0 ≤ k ∧ k ≤ 16) (hv : ∀ i, 0 ≤ i → i < k → 0 ≤ xR m 581 i) (w00 : 0 ≤ w0) (w01 : w0 ≤ 10000000) (fin : ∀ m' x1, lvI m D M 0 n w0 (xR m 581) x1 k m' → xH (xB (yf305 B x1 2 0 1 m') fun v2 m2 => if v2 = (-2) then (some (.inl (-2), m2)) else (if (xR m2 536 57) = 0 then (yk330_210 B v2 (xw_u m2 536 39 ((xR m2 536 39) + 1))) else (xl2 (yl330_167 B) 1000000 v2 0 (xw_u (xw_u m2 536 39 ((xR m2 536 39) + 1)) 536 40 (xR m2 536 43))))) Q X) : xH (xl2 (yl330_79 B) 1000000 w0 0 m) Q X := by
  have hn := h.2.2.2.2.2.1
  have gen : ∀ N : Nat, 100 < N → xH (xl2 (yl330_79 B) N w0 0 m) Q X := by
    intro N hN
    refine xl2_rule (F := yl330_79 B) (fun x1 x2 m' => (0 ≤ x2 ∧ x2 ≤ k) ∧ lvI m D M 0 n w0 (xR m 581) x1 x2 m') (fun _ x2 _ => (k - x2).toNat) ?_ N w0 0 m ⟨⟨Int.le_refl _, hk.1⟩, lvI_0 h⟩ (by omega)
    intro r x1 x2 m' ⟨hx, L⟩ ih
    obtain ⟨b, e1, p, t, V⟩ := id L
    have f4 : xR m' 536 43 = k := by rw [xR_fld (p.2 43 (by omega) (by omega) (by omega) (by omega))]; exact h43
    unfold yl330_79
    rw [f4]
    by_cases hlt : x2 < k
    · rw [if_pos hlt, if_pos ⟨hx.1, by omega⟩, xR_fld (p.2 31 (by omega) (by omega) (by omega) (by omega)), h31, xR_cg (p.1 581 (by omega) (by omega) (by omega) (by omega))]
      obtain ⟨m1, c, e, ew, L1⟩ := lvI_step (B := B) h ⟨hv x2 hx.1 hlt, (w32_rng _).2⟩ w00 w01 hx.1 (by omega) L
      rw [Int.zero_add] at e
      rw [e, xB_ret, ew, w32_id (by omega) (by omega)]
      exact ih _ _ _ ⟨⟨by omega, by omega⟩, L1⟩ (by omega)
    · rw [if_neg hlt]
      have ex : x2 = k := by omega
      subst ex
      exact fin m' x1 L
  exact gen 1000000 (by decide)
/-- settle's loop -/
theorem lv336 {Q : Int → xw_M → Prop} {X : Nat → xw_M → Prop} (h : rca m D M 0 n) (h31 : xR m 536 31 = n) (h40 : xR m 536 40 = k) (hk : 0 ≤ k ∧ k ≤ 16) (hv : ∀ i, 0 ≤ i → i < k → 0 ≤ xR m 579 i) (w00 : 0 ≤ w0) (w01 : w0 ≤ 10000000) (fin : ∀ m' x1, lvI m D M 0 n w0 (xR m 579) x1 k m' → xH (xB (yf305 B x1 1 1 1 m') fun v2 m2 => if v2 = (-2) then (some (.inl (-2), m2)) else (xl2 (yl336_122 B) 1000000 v2 0 (xw_u m2 536 39 ((xR m2 536 39) + 1)))) Q X) : xH (xl2 (yl336_50 B) 1000000 w0 0 m) Q X := by
  have hn := h.2.2.2.2.2.1
  have gen : ∀ N : Nat, 100 < N → xH (xl2 (yl336_50 B) N w0 0 m) Q X := by
    intro N hN
    refine xl2_rule (F := yl336_50 B) (fun x1 x2 m' => (0 ≤ x2 ∧ x2 ≤ k) ∧ lvI m D M 0 n w0 (xR m 579) x1 x2 m') (fun _ x2 _ => (k - x2).toNat) ?_ N w0 0 m ⟨⟨Int.le_refl _, hk.1⟩, lvI_0 h⟩ (by omega)
    intro r x1 x2 m' ⟨hx, L⟩ ih
    obtain ⟨b, e1, p, t, V⟩ := id L
    have f4 : xR m' 536 40 = k := by rw [xR_fld (p.2 40 (by omega) (by omega) (by omega) (by omega))]; exact h40
    unfold yl336_50
    rw [f4]
    by_cases hlt : x2 < k
    · rw [if_pos hlt, if_pos ⟨hx.1, by omega⟩, xR_fld (p.2 31 (by omega) (by omega) (by omega) (by omega)), h31, xR_cg (p.1 579 (by omega) (by omega) (by omega) (by omega))]
      obtain ⟨m1, c, e, ew, L1⟩ := lvI_step (B := B) h ⟨hv x2 hx.1 hlt, (w32_rng _).2⟩ w00 w01 hx.1 (by omega) L
      rw [Int.zero_add] at e
      rw [e, xB_ret, ew, w32_id (by omega) (by omega)]
      exact ih _ _ _ ⟨⟨by omega, by omega⟩, L1⟩ (by omega)
    · rw [if_neg hlt]
      have ex : x2 = k := by omega
      subst ex
      exact fin m' x1 L
  exact gen 1000000 (by decide)
end RLP
