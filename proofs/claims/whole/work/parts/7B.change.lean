/-! THE REFERENCE'S change -/
/-- whether an extent goes -/
def gz (f v k : Int) : Bool := decide ((k = 1 ∧ f ≠ 0) ∨ (k = 2 ∧ v ≠ 0))
/-- the ledger behind a change -/
def led (K S L : Int → Int) (E : Int) (P : Int → Bool) (n kd fi : Int) (K' S' L' : Int → Int) (E' : Int) : Prop := E' = cnt P E.toNat + (if 0 < n then 1 else 0) ∧ (∀ e, 0 ≤ e → e < E → P e = true → K' (cnt P e.toNat) = K e ∧ S' (cnt P e.toNat) = S e ∧ L' (cnt P e.toNat) = L e) ∧ (0 < n → K' (cnt P E.toNat) = kd ∧ S' (cnt P E.toNat) = fi ∧ L' (cnt P E.toNat) = n)
section CHANGE
variable {B : Nat} {m : xw_M}
theorem goes_ok {k f v : Int} : yf306 B k f v m = some (.inl (if gz f v k = true then 1 else 0), m) := by
  unfold yf306 yk306_9 gz
  by_cases h1 : k = 1
  · rw [if_pos h1]
    by_cases hf : f = 0
    · rw [if_pos hf, if_neg (by omega), decide_eq_false (by omega), if_neg (by decide)]
    · rw [if_neg hf, decide_eq_true (by omega), if_pos rfl]
  · rw [if_neg h1]
    by_cases h2 : k = 2
    · rw [if_pos h2]
      by_cases hv : v = 0
      · rw [if_pos hv, decide_eq_false (by omega), if_neg (by decide)]
      · rw [if_neg hv, decide_eq_true (by omega), if_pos rfl]
    · rw [if_neg h2, decide_eq_false (by omega), if_neg (by decide)]
theorem end_ok {n x8 : Int} (n0 : 0 ≤ n) (n1 : n ≤ 1000000) (h8 : x8 = 0 ∨ x8 = 1) : yk305_337 B n x8 m = some (.inl (if x8 = 1 then -3 else n + 1), xw_u m 536 3 x8) := by
  unfold yk305_337
  rw [if_pos h8, w32_id (by omega) (by omega)]
  rcases h8 with h | h
  · rw [if_pos h, if_neg (by omega)]
  · rw [if_neg (by omega), if_pos h]
theorem ledger_ok {E kd f v n fi x8 : Int} {K S L : Int → Int} (hE : xR m 536 52 = E) (E0 : 0 ≤ E) (E1 : E ≤ 200) (hK : xR m 586 = K) (hS : xR m 587 = S) (hL : xR m 588 = L) (n0 : 0 ≤ n) (n1 : n ≤ 1000000) (h8 : x8 = 0 ∨ x8 = 1) (hst : cnt (fun e => !gz f v (K e)) E.toNat < 200 ∨ n = 0) (hkd : w32 kd = kd) (hfi : w32 fi = fi) : ∃ m', xl8 (yl305_208 B) 1000000 kd f v n fi x8 0 0 m = some (.inl (if x8 = 1 then -3 else n + 1), m') ∧ (∀ a, a ≠ 536 → a ≠ 586 → a ≠ 587 → a ≠ 588 → m' a = m a) ∧ (∀ k, k ≠ 3 → k ≠ 52 → m' 536 k = m 536 k) ∧ xR m' 536 3 = x8 ∧ led K S L E (fun e => !gz f v (K e)) n kd fi (xR m' 586) (xR m' 587) (xR m' 588) (xR m' 536 52) := by
  generalize hP : (fun e => !gz f v (K e)) = P at *
  have hPe : ∀ e, P e = !gz f v (K e) := fun e => by rw [← hP]
  have kw : ∀ e, w32 (K e) = K e ∧ w32 (S e) = S e ∧ w32 (L e) = L e := fun e => by
    rw [← hK, ← hS, ← hL]
    exact ⟨w32_id (w32_rng _).1 (w32_rng _).2, w32_id (w32_rng _).1 (w32_rng _).2, w32_id (w32_rng _).1 (w32_rng _).2⟩
  generalize hN : (1000000 : Nat) = N
  have goal := xH_ex (Q := fun w m' => w = (if x8 = 1 then -3 else n + 1) ∧ (∀ a, a ≠ 536 → a ≠ 586 → a ≠ 587 → a ≠ 588 → m' a = m a) ∧ (∀ k, k ≠ 3 → k ≠ 52 → m' 536 k = m 536 k) ∧ xR m' 536 3 = x8 ∧ led K S L E P n kd fi (xR m' 586) (xR m' 587) (xR m' 588) (xR m' 536 52)) (xl8_rule (F := yl305_208 B) (fun y2 y3 y4 y5 y7 y8 x1 x2 m' => (y2 = kd ∧ y3 = f ∧ y4 = v ∧ y5 = n ∧ y7 = fi ∧ y8 = x8) ∧ 0 ≤ x2 ∧ x2 ≤ E ∧ x1 = cnt P x2.toNat ∧ (∀ a, a ≠ 586 → a ≠ 587 → a ≠ 588 → m' a = m a) ∧ (∀ e, x2 ≤ e → xR m' 586 e = K e ∧ xR m' 587 e = S e ∧ xR m' 588 e = L e) ∧ ∀ e, 0 ≤ e → e < x2 → P e = true → xR m' 586 (cnt P e.toNat) = K e ∧ xR m' 587 (cnt P e.toNat) = S e ∧ xR m' 588 (cnt P e.toNat) = L e) (fun _ _ _ _ _ _ _ x2 _ => (E - x2).toNat) ?_ N kd f v n fi x8 0 0 m ⟨⟨rfl, rfl, rfl, rfl, rfl, rfl⟩, by omega, E0, rfl, fun _ _ _ _ => rfl, fun e _ => ⟨by rw [hK], by rw [hS], by rw [hL]⟩, fun e h0 h1 => absurd h1 (Int.not_lt.mpr h0)⟩ (by omega))
  · obtain ⟨w, m', e, rfl, h⟩ := goal
    exact ⟨m', e, h⟩
  · intro r y2 y3 y4 y5 y7 y8 x1 x2 m1 ⟨⟨b1, b2, b3, b4, b5, b6⟩, a0, a1, a2, F, U, V⟩ ih
    subst b1 b2 b3 b4 b5 b6
    have q52 : xR m1 536 52 = E := by rw [xR_cg (F 536 (by decide) (by decide) (by decide))]; exact hE
    unfold yl305_208
    rw [q52]
    have hc := cnt_b P x2.toNat
    by_cases h : x2 < E
    · obtain ⟨u1, u2, u3⟩ := U x2 (Int.le_refl _)
      have hs : cnt P (x2 + 1).toNat = cnt P x2.toNat + (if P x2 = true then 1 else 0) := by
        rw [show (x2 + 1).toNat = x2.toNat + 1 from by omega]
        show _ + (if P (x2.toNat : Int) = true then 1 else 0) = _
        rw [Int.toNat_of_nonneg a0]
      rw [if_pos h, if_pos ⟨a0, by omega⟩, u1, goes_ok, xB_ret, w32_id (x := x2 + 1) (by omega) (by omega)]
      cases h3 : gz y3 y4 (K x2)
      · have hp : P x2 = true := by rw [hPe, h3]; rfl
        rw [if_neg (show ¬ false = true by decide), if_pos rfl, if_pos ⟨by omega, by omega⟩, w32_id (by omega) (by omega), u1, u2, u3]
        have z3 : ∀ e, xR (xw_u (xw_u (xw_u m1 586 x1 (K x2)) 587 x1 (S x2)) 588 x1 (L x2)) 586 e = if e = x1 then K x2 else xR m1 586 e := by
          intro e
          rw [xR_cg (xu_c (show (586 : Int) ≠ 588 by decide)), xR_cg (xu_c (show (586 : Int) ≠ 587 by decide)), xR_u]
          by_cases h' : e = x1
          · rw [if_pos ⟨rfl, h'⟩, if_pos h', (kw x2).1]
          · rw [if_neg (fun h'' => h' h''.2), if_neg h']
        have z4 : ∀ e, xR (xw_u (xw_u (xw_u m1 586 x1 (K x2)) 587 x1 (S x2)) 588 x1 (L x2)) 587 e = if e = x1 then S x2 else xR m1 587 e := by
          intro e
          rw [xR_cg (xu_c (show (587 : Int) ≠ 588 by decide)), xR_u, xR_cg (xu_c (show (587 : Int) ≠ 586 by decide))]
          by_cases h' : e = x1
          · rw [if_pos ⟨rfl, h'⟩, if_pos h', (kw x2).2.1]
          · rw [if_neg (fun h'' => h' h''.2), if_neg h']
        have z5 : ∀ e, xR (xw_u (xw_u (xw_u m1 586 x1 (K x2)) 587 x1 (S x2)) 588 x1 (L x2)) 588 e = if e = x1 then L x2 else xR m1 588 e := by
          intro e
          rw [xR_u, xR_cg (xu_c (show (588 : Int) ≠ 587 by decide)), xR_cg (xu_c (show (588 : Int) ≠ 586 by decide))]
          by_cases h' : e = x1
          · rw [if_pos ⟨rfl, h'⟩, if_pos h', (kw x2).2.2]
          · rw [if_neg (fun h'' => h' h''.2), if_neg h']
        refine ih _ _ _ _ _ _ _ _ _ ⟨⟨rfl, rfl, rfl, rfl, rfl, rfl⟩, by omega, by omega, ?_, fun a h1 h2 h3 => by rw [xu_c h3, xu_c h2, xu_c h1]; exact F a h1 h2 h3, fun e h' => ?_, fun e e0 e1 e2 => ?_⟩ (by omega)
        · rw [hs, hp, if_pos rfl, a2]
        · rw [z3, z4, z5, if_neg (by omega), if_neg (by omega), if_neg (by omega)]
          exact U e (by omega)
        · rw [z3, z4, z5]
          by_cases ee : e = x2
          · subst ee
            rw [if_pos a2.symm, if_pos a2.symm, if_pos a2.symm]
            exact ⟨rfl, rfl, rfl⟩
          · have hl := cnt_lt (P := P) (i := e.toNat) (n := x2.toNat) (by omega) (by rw [Int.toNat_of_nonneg e0]; exact e2)
            rw [if_neg (by omega), if_neg (by omega), if_neg (by omega)]
            exact V e e0 (by omega) e2
      · have hp : P x2 = false := by rw [hPe, h3]; rfl
        rw [if_pos rfl, if_neg (by decide)]
        refine ih _ _ _ _ _ _ _ _ _ ⟨⟨rfl, rfl, rfl, rfl, rfl, rfl⟩, by omega, by omega, ?_, F, fun e h' => U e (by omega), fun e e0 e1 e2 => ?_⟩ (by omega)
        · rw [hs, hp, if_neg (by decide), a2]
          omega
        · have : e ≠ x2 := fun h' => by rw [h', hp] at e2; exact absurd e2 (by decide)
          exact V e e0 (by omega) e2
    · have e2 : x2 = E := by omega
      subst e2
      rw [if_neg h]
      by_cases hn : 0 < y5
      · have hst' : x1 < 200 := by
          rw [a2]
          exact hst.resolve_right (by omega)
        rw [if_pos hn, if_pos ⟨by omega, hst'⟩, end_ok n0 n1 h8, xH_ret]
        refine ⟨rfl, fun a h1 h2 h3 h4 => by rw [xu_c h1, xu_c h1, xu_c h4, xu_c h3, xu_c h2, xu_c h1]; exact F a h2 h3 h4, fun k k1 k2 => ?_, ?_, ?_, ?_, ?_⟩
        · have g1 : ∀ (ma : xw_M) (j w : Int), k ≠ j → (xw_u ma 536 j w) 536 k = ma 536 k := fun ma j w hj => if_neg (fun h' => hj h'.2)
          rw [g1 _ _ _ k1, g1 _ _ _ k2, xu_c (by decide), xu_c (by decide), xu_c (by decide), g1 _ _ _ k2, F 536 (by decide) (by decide) (by decide)]
        · rw [xR_u, if_pos ⟨rfl, rfl⟩, w32_id (by omega) (by omega)]
        · rw [xR_u, if_neg (fun h' => absurd h'.2 (by decide)), xR_u, if_pos ⟨rfl, rfl⟩, if_pos hn, w32_id (by omega) (by omega), a2]
        · intro e e0 e1 e2
          have hl := cnt_lt (P := P) (i := e.toNat) (n := x2.toNat) (by omega) (by rw [Int.toNat_of_nonneg e0]; exact e2)
          have ne : cnt P e.toNat ≠ x1 := by omega
          refine ⟨?_, ?_, ?_⟩
          · rw [xR_cg (xu_c (by decide)), xR_cg (xu_c (by decide)), xR_cg (xu_c (by decide)), xR_cg (xu_c (by decide)), xR_u, if_neg (fun h' => ne h'.2), xR_cg (xu_c (by decide))]
            exact (V e e0 e1 e2).1
          · rw [xR_cg (xu_c (by decide)), xR_cg (xu_c (by decide)), xR_cg (xu_c (by decide)), xR_u, if_neg (fun h' => ne h'.2), xR_cg (xu_c (by decide)), xR_cg (xu_c (by decide))]
            exact (V e e0 e1 e2).2.1
          · rw [xR_cg (xu_c (by decide)), xR_cg (xu_c (by decide)), xR_u, if_neg (fun h' => ne h'.2), xR_cg (xu_c (by decide)), xR_cg (xu_c (by decide)), xR_cg (xu_c (by decide))]
            exact (V e e0 e1 e2).2.2
        · intro _
          refine ⟨?_, ?_, ?_⟩
          · rw [xR_cg (xu_c (by decide)), xR_cg (xu_c (by decide)), xR_cg (xu_c (by decide)), xR_cg (xu_c (by decide)), xR_u, if_pos ⟨rfl, a2.symm⟩]
            exact hkd
          · rw [xR_cg (xu_c (by decide)), xR_cg (xu_c (by decide)), xR_cg (xu_c (by decide)), xR_u, if_pos ⟨rfl, a2.symm⟩]
            exact hfi
          · rw [xR_cg (xu_c (by decide)), xR_cg (xu_c (by decide)), xR_u, if_pos ⟨rfl, a2.symm⟩]
            exact w32_id (by omega) (by omega)
      · rw [if_neg hn, end_ok n0 n1 h8, xH_ret]
        refine ⟨rfl, fun a h1 h2 h3 h4 => by rw [xu_c h1, xu_c h1]; exact F a h2 h3 h4, fun k k1 k2 => ?_, ?_, ?_, ?_, ?_⟩
        · have g1 : ∀ (ma : xw_M) (j w : Int), k ≠ j → (xw_u ma 536 j w) 536 k = ma 536 k := fun ma j w hj => if_neg (fun h' => hj h'.2)
          rw [g1 _ _ _ k1, g1 _ _ _ k2, F 536 (by decide) (by decide) (by decide)]
        · rw [xR_u, if_pos ⟨rfl, rfl⟩, w32_id (by omega) (by omega)]
        · rw [xR_u, if_neg (fun h' => absurd h'.2 (by decide)), xR_u, if_pos ⟨rfl, rfl⟩, if_neg hn, w32_id (by omega) (by omega), a2]
          omega
        · intro e e0 e1 e2
          rw [xR_cg (xu_c (by decide)), xR_cg (xu_c (by decide)), xR_cg (xu_c (by decide)), xR_cg (xu_c (by decide)), xR_cg (xu_c (by decide)), xR_cg (xu_c (by decide))]
          exact V e e0 e1 e2
        · intro h'
          exact absurd h' hn
end CHANGE
