/-! THE DISK'S LEDGER: free blocks, dropChoice, the choice's place -/
theorem cnt_sub {P Q : Int → Bool} {n : Nat} (h : ∀ i : Nat, i < n → Q i = true → P i = true) : cnt (fun x => P x && !Q x) n + cnt Q n = cnt P n := by
  induction n with
  | zero => rfl
  | succ n ih =>
    have q := ih (fun i hi => h i (by omega))
    have hn := h n (by omega)
    show (cnt (fun x => P x && !Q x) n + (if (P n && !Q n) = true then 1 else 0)) + (cnt Q n + (if Q n = true then 1 else 0)) = cnt P n + (if P n = true then 1 else 0)
    cases hq : Q n <;> cases hp : P n
    · simp; omega
    · simp; omega
    · rw [hq, hp] at hn
      exact absurd (hn rfl) (by decide)
    · simp; omega
theorem cnt_int {s l : Int} (h0 : 0 ≤ s) (hl : 0 ≤ l) : ∀ n : Nat, cnt (fun x => decide (s ≤ x ∧ x < s + l)) n = min l (max 0 ((n : Int) - s)) := by
  intro n
  induction n with
  | zero =>
    show (0 : Int) = _
    omega
  | succ n ih =>
    show cnt (fun x => decide (s ≤ x ∧ x < s + l)) n + (if decide (s ≤ (n : Int) ∧ (n : Int) < s + l) = true then 1 else 0) = _
    rw [ih]
    by_cases h : s ≤ (n : Int) ∧ (n : Int) < s + l
    · rw [decide_eq_true h, if_pos rfl]
      omega
    · rw [decide_eq_false h, if_neg (by decide)]
      omega
/-- free with respect to the first n extents -/
def fre (S Ln : Int → Int) : Nat → Int → Bool
  | 0 => fun x => decide (2 ≤ x)
  | n + 1 => fun x => fre S Ln n x && !decide (S n ≤ x ∧ x < S n + Ln n)
def sumL (Ln : Int → Int) : Nat → Int
  | 0 => 0
  | n + 1 => sumL Ln n + Ln n
theorem fre_iff {S Ln : Int → Int} {x : Int} : ∀ n : Nat, fre S Ln n x = true ↔ 2 ≤ x ∧ ∀ e, 0 ≤ e → e < (n : Int) → ¬ (S e ≤ x ∧ x < S e + Ln e) := by
  intro n
  induction n with
  | zero => exact ⟨fun h => ⟨of_decide_eq_true h, fun e h0 h1 => absurd h1 (by omega)⟩, fun h => decide_eq_true h.1⟩
  | succ n ih =>
    show (fre S Ln n x && !decide (S n ≤ x ∧ x < S n + Ln n)) = true ↔ _
    rw [Bool.and_eq_true, ih]
    constructor
    · rintro ⟨⟨h1, h2⟩, h3⟩
      refine ⟨h1, fun e e0 e1 => ?_⟩
      by_cases h : e = n
      · rw [h]
        intro hc
        rw [decide_eq_true hc] at h3
        exact absurd h3 (by decide)
      · exact h2 e e0 (by omega)
    · rintro ⟨h1, h2⟩
      refine ⟨⟨h1, fun e e0 e1 => h2 e e0 (by omega)⟩, ?_⟩
      rw [decide_eq_false (h2 n (by omega) (by omega))]
      rfl
theorem free_sum {S Ln : Int → Int} {E : Int} {b : Nat} (hx : exts S Ln E b) (hb : 2 ≤ b) : ∀ n : Nat, (n : Int) ≤ E → cnt (fre S Ln n) b + sumL Ln n = b - 2 := by
  intro n
  induction n with
  | zero =>
    intro _
    have h := cnt_int (s := 2) (l := b) (by decide) (by omega) b
    have : cnt (fre S Ln 0) b = cnt (fun x => decide (2 ≤ x ∧ x < 2 + (b : Int))) b := cnt_cg b (fun i hi => by
      show decide ((2 : Int) ≤ i) = decide _
      congr 1
      simp
      omega)
    show cnt (fre S Ln 0) b + 0 = _
    rw [this, h]
    omega
  | succ n ih =>
    intro hn
    have q := ih (by omega)
    obtain ⟨k1, k2, k3⟩ := hx.2.1 n (by omega) (by omega)
    have h := cnt_sub (P := fre S Ln n) (Q := fun x => decide (S n ≤ x ∧ x < S n + Ln n)) (n := b) (fun i hi hq => by
      have hq' := of_decide_eq_true hq
      refine (fre_iff n).mpr ⟨by omega, fun e e0 e1 => ?_⟩
      have := hx.2.2 e n e0 (by omega) (by omega) (by omega) (by omega)
      have := (hx.2.1 e e0 (by omega))
      omega)
    have h2 := cnt_int (s := S n) (l := Ln n) (by omega) k2 b
    rw [h2] at h
    show cnt (fun x => fre S Ln n x && !decide (S n ≤ x ∧ x < S n + Ln n)) b + (sumL Ln n + Ln n) = _
    omega
section DSK
variable {B : Nat} {m : xw_M}
theorem freeBlocks_ok {E : Int} (hb : xR m 508 0 = (B : Int)) (hB2 : 2 ≤ B) (hB : B ≤ 512) (hE : xR m 508 14 = E) (hx : exts (xR m 514) (xR m 515) E B) : yf221 B m = some (.inl (cnt (fre (xR m 514) (xR m 515) E.toNat) B), m) := by
  have E0 := hx.1.1
  have E1 := hx.1.2
  have hs := free_sum hx hB2
  unfold yf221
  rw [hb, w32_id (by omega) (by omega)]
  generalize hN : (1000000 : Nat) = N
  have goal := xH_ex (Q := fun v m' => m' = m ∧ v = cnt (fre (xR m 514) (xR m 515) E.toNat) B) (xl2_rule (F := yl221_9 B) (fun x1 x2 m' => m' = m ∧ 0 ≤ x2 ∧ x2 ≤ E ∧ x1 = cnt (fre (xR m 514) (xR m 515) x2.toNat) B) (fun _ x2 _ => (E - x2).toNat) ?_ N ((B : Int) - 2) 0 m ⟨rfl, by omega, by omega, ?_⟩ (by omega))
  · obtain ⟨v, m', e, rfl, h⟩ := goal
    rw [e, h]
  · intro r x1 x2 m' ⟨a0, a1, a2, a3⟩ ih
    subst a0
    unfold yl221_9
    rw [hE]
    by_cases h : x2 < E
    · obtain ⟨k1, k2, k3⟩ := hx.2.1 x2 a1 h
      have s0 := hs x2.toNat (by omega)
      have s1 := hs (x2.toNat + 1) (by omega)
      have eq2 : sumL (xR m' 515) (x2.toNat + 1) = sumL (xR m' 515) x2.toNat + xR m' 515 x2 := by
        show _ + xR m' 515 (x2.toNat : Int) = _
        rw [Int.toNat_of_nonneg a1]
      have c0 := cnt_b (fre (xR m' 514) (xR m' 515) x2.toNat) B
      have c1 := cnt_b (fre (xR m' 514) (xR m' 515) (x2.toNat + 1)) B
      rw [if_pos h, if_pos ⟨a1, by omega⟩, w32_id (x := x1 - xR m' 515 x2) (by omega) (by omega), w32_id (by omega) (by omega)]
      refine ih _ _ _ ⟨rfl, by omega, by omega, ?_⟩ (by omega)
      rw [show (x2 + 1).toNat = x2.toNat + 1 from by omega]
      omega
    · have e2 : x2 = E := by omega
      rw [if_neg h, xH_ret]
      exact ⟨rfl, by rw [a3, e2]⟩
  · have := hs 0 (by omega)
    have e0 : sumL (xR m 515) 0 = 0 := rfl
    rw [show (0 : Int).toNat = 0 from rfl]
    omega
/-- count(4) by the reference, behind mark -/
theorem rfree_ok {E : Int} {b : Nat} (hb : xR m 536 49 = (b : Int)) (hB : b ≤ 512) (hE : xR m 536 52 = E) (hx : exts (xR m 587) (xR m 588) E b) : ∃ m', (xB (yf308 B m) fun _ m1 => xl2 (yl339_108 B) 1000000 0 0 m1) = some (.inl (cnt (fre (xR m 587) (xR m 588) E.toNat) b), m') ∧ ∀ a, a ≠ 589 → m' a = m a := by
  obtain ⟨m1, e1, F1, V1⟩ := mark_ok (B := B) (m := m) (b := b) (by omega) hE hx
  have hE0 := hx.1.1
  rw [e1, xB_ret]
  have q49 : xR m1 536 49 = b := by rw [xR_cg (F1 536 (by decide))]; exact hb
  generalize hN : (1000000 : Nat) = N
  have goal := xH_ex (Q := fun v m' => m' = m1 ∧ v = cnt (fre (xR m 587) (xR m 588) E.toNat) b) (xl2_rule (F := yl339_108 B) (fun x2 x3 m' => m' = m1 ∧ 0 ≤ x3 ∧ x3 ≤ b ∧ x2 = cnt (fre (xR m 587) (xR m 588) E.toNat) x3.toNat) (fun _ x3 _ => (b - x3).toNat) ?_ N 0 0 m1 ⟨rfl, by omega, by omega, rfl⟩ (by omega))
  · obtain ⟨v, m', e, rfl, h⟩ := goal
    exact ⟨m', by rw [e, h], F1⟩
  · intro r x2 x3 m' ⟨a0, a1, a2, a3⟩ ih
    subst a0
    unfold yl339_108
    rw [q49]
    by_cases h : x3 < b
    · have hv := (V1 x3 a1 (by omega)).2
      have hc := cnt_b (fre (xR m 587) (xR m 588) E.toNat) x3.toNat
      have hs : cnt (fre (xR m 587) (xR m 588) E.toNat) (x3 + 1).toNat = cnt (fre (xR m 587) (xR m 588) E.toNat) x3.toNat + (if fre (xR m 587) (xR m 588) E.toNat x3 = true then 1 else 0) := by
        rw [show (x3 + 1).toNat = x3.toNat + 1 from by omega]
        show _ + (if fre _ _ _ (x3.toNat : Int) = true then 1 else 0) = _
        rw [Int.toNat_of_nonneg a1]
      have hi := fre_iff (S := xR m 587) (Ln := xR m 588) (x := x3) E.toNat
      rw [Int.toNat_of_nonneg hE0] at hi
      rw [if_pos h, if_pos ⟨a1, by omega⟩, w32_id (x := x3 + 1) (by omega) (by omega)]
      by_cases hu : xR m' 589 x3 = 0
      · rw [if_pos hu, w32_id (by omega) (by omega)]
        refine ih _ _ _ ⟨rfl, by omega, by omega, ?_⟩ (by omega)
        rw [hs, if_pos (hi.mpr (hv.mp hu)), a3]
      · rw [if_neg hu, w32_id (by omega) (by omega)]
        refine ih _ _ _ ⟨rfl, by omega, by omega, ?_⟩ (by omega)
        rw [hs, if_neg (fun h' => hu (hv.mpr (hi.mp h'))), a3]
    · have e2 : x3 = b := by omega
      rw [if_neg h, xH_ret]
      exact ⟨rfl, by rw [a3, e2]; rfl⟩
/-- the ledger behind a drop: of the extents those that stay -/
theorem drop_ok {E : Int} {K S L : Int → Int} (hE : xR m 508 14 = E) (E0 : 0 ≤ E) (E1 : E ≤ 200) (hK : xR m 513 = K) (hS : xR m 514 = S) (hL : xR m 515 = L) : ∃ m', yf212 B m = some (.inl 0, m') ∧ (∀ a, a ≠ 508 → a ≠ 513 → a ≠ 514 → a ≠ 515 → m' a = m a) ∧ (∀ k, k ≠ 14 → m' 508 k = m 508 k) ∧ xR m' 508 14 = cnt (fun e => decide (K e ≠ 3)) E.toNat ∧ ∀ e, 0 ≤ e → e < E → K e ≠ 3 → xR m' 513 (cnt (fun e => decide (K e ≠ 3)) e.toNat) = K e ∧ xR m' 514 (cnt (fun e => decide (K e ≠ 3)) e.toNat) = S e ∧ xR m' 515 (cnt (fun e => decide (K e ≠ 3)) e.toNat) = L e := by
  generalize hP : (fun e => decide (K e ≠ 3)) = P
  have kw : ∀ e, w32 (K e) = K e ∧ w32 (S e) = S e ∧ w32 (L e) = L e := fun e => by
    rw [← hK, ← hS, ← hL]
    exact ⟨w32_id (w32_rng _).1 (w32_rng _).2, w32_id (w32_rng _).1 (w32_rng _).2, w32_id (w32_rng _).1 (w32_rng _).2⟩
  unfold yf212
  generalize hN : (1000000 : Nat) = N
  have goal := xH_ex (Q := fun v m' => v = 0 ∧ (∀ a, a ≠ 508 → a ≠ 513 → a ≠ 514 → a ≠ 515 → m' a = m a) ∧ (∀ k, k ≠ 14 → m' 508 k = m 508 k) ∧ xR m' 508 14 = cnt P E.toNat ∧ ∀ e, 0 ≤ e → e < E → K e ≠ 3 → xR m' 513 (cnt P e.toNat) = K e ∧ xR m' 514 (cnt P e.toNat) = S e ∧ xR m' 515 (cnt P e.toNat) = L e) (xl2_rule (F := yl212_4 B) (fun x1 x2 m' => 0 ≤ x2 ∧ x2 ≤ E ∧ x1 = cnt P x2.toNat ∧ (∀ a, a ≠ 513 → a ≠ 514 → a ≠ 515 → m' a = m a) ∧ (∀ e, x2 ≤ e → xR m' 513 e = K e ∧ xR m' 514 e = S e ∧ xR m' 515 e = L e) ∧ ∀ e, 0 ≤ e → e < x2 → K e ≠ 3 → xR m' 513 (cnt P e.toNat) = K e ∧ xR m' 514 (cnt P e.toNat) = S e ∧ xR m' 515 (cnt P e.toNat) = L e) (fun _ x2 _ => (E - x2).toNat) ?_ N 0 0 m ⟨by omega, E0, rfl, fun _ _ _ _ => rfl, fun e _ => ⟨by rw [hK], by rw [hS], by rw [hL]⟩, fun e h0 h1 => absurd h1 (Int.not_lt.mpr h0)⟩ (by omega))
  · obtain ⟨v, m', e, rfl, h⟩ := goal
    exact ⟨m', e, h⟩
  · intro r x1 x2 m1 ⟨a0, a1, a2, F, U, V⟩ ih
    have q14 : xR m1 508 14 = E := by rw [xR_cg (F 508 (by decide) (by decide) (by decide))]; exact hE
    unfold yl212_4
    rw [q14]
    have hc := cnt_b P x2.toNat
    by_cases h : x2 < E
    · obtain ⟨u1, u2, u3⟩ := U x2 (Int.le_refl _)
      have hs : cnt P (x2 + 1).toNat = cnt P x2.toNat + (if P x2 = true then 1 else 0) := by
        rw [show (x2 + 1).toNat = x2.toNat + 1 from by omega]
        show _ + (if P (x2.toNat : Int) = true then 1 else 0) = _
        rw [Int.toNat_of_nonneg a0]
      rw [if_pos h, if_pos ⟨a0, by omega⟩, u1, w32_id (x := x2 + 1) (by omega) (by omega)]
      by_cases h3 : K x2 = 3
      · have hp : P x2 = false := by rw [← hP]; exact decide_eq_false (fun h' => h' h3)
        rw [if_pos h3]
        refine ih _ _ _ ⟨by omega, by omega, ?_, F, fun e h' => U e (by omega), fun e e0 e1 e2 => ?_⟩ (by omega)
        · rw [hs, hp, if_neg (by decide), a2]
          omega
        · have : e ≠ x2 := fun h' => e2 (by rw [h']; exact h3)
          exact V e e0 (by omega) e2
      · have hp : P x2 = true := by rw [← hP]; exact decide_eq_true h3
        rw [if_neg h3, if_pos ⟨by omega, by omega⟩, w32_id (by omega) (by omega), u2, u3]
        have z3 : ∀ e, xR (xw_u (xw_u (xw_u m1 513 x1 (K x2)) 514 x1 (S x2)) 515 x1 (L x2)) 513 e = if e = x1 then K x2 else xR m1 513 e := by
          intro e
          rw [xR_cg (xu_c (show (513 : Int) ≠ 515 by decide)), xR_cg (xu_c (show (513 : Int) ≠ 514 by decide)), xR_u]
          by_cases h' : e = x1
          · rw [if_pos ⟨rfl, h'⟩, if_pos h', (kw x2).1]
          · rw [if_neg (fun h'' => h' h''.2), if_neg h']
        have z4 : ∀ e, xR (xw_u (xw_u (xw_u m1 513 x1 (K x2)) 514 x1 (S x2)) 515 x1 (L x2)) 514 e = if e = x1 then S x2 else xR m1 514 e := by
          intro e
          rw [xR_cg (xu_c (show (514 : Int) ≠ 515 by decide)), xR_u, xR_cg (xu_c (show (514 : Int) ≠ 513 by decide))]
          by_cases h' : e = x1
          · rw [if_pos ⟨rfl, h'⟩, if_pos h', (kw x2).2.1]
          · rw [if_neg (fun h'' => h' h''.2), if_neg h']
        have z5 : ∀ e, xR (xw_u (xw_u (xw_u m1 513 x1 (K x2)) 514 x1 (S x2)) 515 x1 (L x2)) 515 e = if e = x1 then L x2 else xR m1 515 e := by
          intro e
          rw [xR_u, xR_cg (xu_c (show (515 : Int) ≠ 514 by decide)), xR_cg (xu_c (show (515 : Int) ≠ 513 by decide))]
          by_cases h' : e = x1
          · rw [if_pos ⟨rfl, h'⟩, if_pos h', (kw x2).2.2]
          · rw [if_neg (fun h'' => h' h''.2), if_neg h']
        have e514 : xR (xw_u m1 513 x1 (K x2)) 514 x2 = S x2 := by rw [xR_cg (xu_c (by decide))]; exact u2
        have e515 : xR (xw_u (xw_u m1 513 x1 (K x2)) 514 x1 (S x2)) 515 x2 = L x2 := by rw [xR_cg (xu_c (by decide)), xR_cg (xu_c (by decide))]; exact u3
        try rw [e514]
        try rw [e515]
        refine ih _ _ _ ⟨by omega, by omega, ?_, fun a h1 h2 h3 => by rw [xu_c h3, xu_c h2, xu_c h1]; exact F a h1 h2 h3, fun e h' => ?_, fun e e0 e1 e2 => ?_⟩ (by omega)
        · rw [hs, hp, if_pos rfl, a2]
        · rw [z3, z4, z5, if_neg (by omega), if_neg (by omega), if_neg (by omega)]
          exact U e (by omega)
        · rw [z3, z4, z5]
          by_cases ee : e = x2
          · subst ee
            rw [if_pos a2.symm, if_pos a2.symm, if_pos a2.symm]
            exact ⟨rfl, rfl, rfl⟩
          · have hpe : P ((e.toNat : Nat) : Int) = true := by rw [← hP, Int.toNat_of_nonneg e0]; exact decide_eq_true e2
            have hl := cnt_lt (P := P) (i := e.toNat) (n := x2.toNat) (by omega) hpe
            rw [if_neg (by omega), if_neg (by omega), if_neg (by omega)]
            exact V e e0 (by omega) e2
    · have e2 : x2 = E := by omega
      subst e2
      rw [if_neg h, xH_ret]
      refine ⟨rfl, fun a h1 h2 h3 h4 => by rw [xu_c h1]; exact F a h2 h3 h4, fun k hk => ?_, ?_, fun e e0 e1 e2 => ?_⟩
      · unfold xw_u
        rw [if_neg (fun h' => hk h'.2), F 508 (by decide) (by decide) (by decide)]
      · rw [xR_u, if_pos ⟨rfl, rfl⟩, w32_id (by omega) (by omega), a2]
      · rw [xR_cg (xu_c (by decide)), xR_cg (xu_c (by decide)), xR_cg (xu_c (by decide))]
        exact V e e0 e1 e2
end DSK
