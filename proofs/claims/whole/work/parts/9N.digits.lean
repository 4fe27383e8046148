/-! THE LEXER: the digits of a number, on either side -/
theorem nvl_go {cap : Int} {T : Int → Int} {p n x : Int} (h : p < n) (hd : ldg (T p) = true) : nvl cap T p (n - p).toNat x = nvl cap T (p + 1) (n - (p + 1)).toNat (if cap < x then x else 10 * x + T p - 48) := by
  rw [show (n - p).toNat = (n - (p + 1)).toNat + 1 by omega]
  show (if ldg (T p) = true then _ else _) = _
  rw [if_pos hd]
theorem nvl_no {cap : Int} {T : Int → Int} {p n x : Int} (hd : ldg (T p) ≠ true) : nvl cap T p (n - p).toNat x = x := by
  generalize (n - p).toNat = k
  cases k with
  | zero => rfl
  | succ k =>
    show (if ldg (T p) = true then _ else _) = _
    rw [if_neg hd]
theorem nvl_end {cap : Int} {T : Int → Int} {p n x : Int} (h : n ≤ p) : nvl cap T p (n - p).toNat x = x := by
  rw [show (n - p).toNat = 0 by omega]; rfl
section DIG
variable {B : Nat} {m : xw_M}
theorem dig_cl {n p sg : Int} (h1 : xR m 1 1 = n) (n1 : n ≤ 65536) (h2 : xR m 1 2 = p) (p0 : 0 ≤ p) (p1 : p ≤ 65536) {Q : Int → xw_M → Prop} {X : Nat → xw_M → Prop} (fin : ∀ m', (∀ a, a ≠ 1 → m' a = m a) → (∀ k, k ≠ 2 → m' 1 k = m 1 k) → xR m' 1 2 = skp ldg (xR m 2) p (n - p).toNat → xH (yk53_117 B sg (nvl 4294967296 (xR m 2) p (n - p).toNat 0) m') Q X) : xH (xl2 (yl53_36 B) 1000000 sg 0 m) Q X := by
  have gen : ∀ N : Nat, 70000 < N → xH (xl2 (yl53_36 B) N sg 0 m) Q X := by
    intro N hN
    refine xl2_rule (F := yl53_36 B) (fun y1 y2 m' => y1 = sg ∧ (∀ a, a ≠ 1 → m' a = m a) ∧ (∀ k, k ≠ 2 → m' 1 k = m 1 k) ∧ (p ≤ xR m' 1 2 ∧ xR m' 1 2 ≤ 65536) ∧ (0 ≤ y2 ∧ y2 ≤ 42949672969) ∧ skp ldg (xR m 2) (xR m' 1 2) (n - xR m' 1 2).toNat = skp ldg (xR m 2) p (n - p).toNat ∧ nvl 4294967296 (xR m 2) (xR m' 1 2) (n - xR m' 1 2).toNat y2 = nvl 4294967296 (xR m 2) p (n - p).toNat 0) (fun _ _ m' => (65536 - xR m' 1 2).toNat) ?_ N sg 0 m ⟨rfl, fun _ _ => rfl, fun _ _ => rfl, by omega, by omega, by rw [h2], by rw [h2]⟩ (by omega)
    intro r y1 y2 m' ⟨e0, f1, f2, f3, f5, f4, f6⟩ ih
    subst e0
    unfold yl53_36 yk53_104
    rw [xR_fld (f2 1 (by omega)), h1]
    by_cases h : xR m' 1 2 < n
    · rw [if_pos h, if_pos ⟨by omega, by omega⟩, xR_cg (f1 2 (by omega))]
      by_cases hs : ldg (xR m 2 (xR m' 1 2)) = true
      · have hs' := hs
        unfold ldg at hs'
        have d := of_decide_eq_true hs'
        have z : xR (xw_u m' 1 2 (xR m' 1 2 + 1)) 1 2 = xR m' 1 2 + 1 := xR_at (w32_id (by omega) (by omega))
        have g := nvl_go (cap := 4294967296) (x := y2) h hs
        rw [if_neg (by omega), if_neg (by omega)]
        by_cases hc : 4294967296 < y2
        · rw [if_pos hc] at g ⊢
          exact ih _ _ _ ⟨rfl, fun a ha => by rw [xu_c ha]; exact f1 a ha, fun k hk => by rw [xu_ne (by omega)]; exact f2 k hk, by rw [z]; omega, f5, by rw [z, ← skp_go h hs]; exact f4, by rw [z, ← g]; exact f6⟩ (by rw [z]; omega)
        · rw [if_neg hc] at g ⊢
          rw [w64_id (by omega) (by omega), show y2 * 10 + xR m 2 (xR m' 1 2) - 48 = 10 * y2 + xR m 2 (xR m' 1 2) - 48 by omega]
          exact ih _ _ _ ⟨rfl, fun a ha => by rw [xu_c ha]; exact f1 a ha, fun k hk => by rw [xu_ne (by omega)]; exact f2 k hk, by rw [z]; omega, by omega, by rw [z, ← skp_go h hs]; exact f4, by rw [z, ← g]; exact f6⟩ (by rw [z]; omega)
      · have e := fin m' f1 f2 (by rw [← f4, skp_no hs])
        rw [← f6, nvl_no hs] at e
        unfold ldg at hs
        rw [decide_eq_true_eq] at hs
        by_cases c1 : xR m 2 (xR m' 1 2) < 48
        · rw [if_pos c1]; exact e
        · rw [if_neg c1, if_pos (by omega)]; exact e
    · rw [if_neg h]
      have e := fin m' f1 f2 (by rw [← f4, skp_end (by omega)])
      rw [← f6, nvl_end (by omega)] at e
      exact e
  exact gen 1000000 (by decide)
theorem dig_rf {n p sg : Int} (h5 : xR m 536 5 = n) (n1 : n ≤ 65536) (h8 : xR m 536 8 = p) (p0 : 0 ≤ p) (p1 : p ≤ 65536) (hb : ∀ i, 0 ≤ i → i < n → w8 (xR m 537 i) = xR m 537 i) {Q : Int → xw_M → Prop} {X : Nat → xw_M → Prop} (fin : ∀ m', (∀ a, a ≠ 536 → m' a = m a) → (∀ k, k ≠ 8 → m' 536 k = m 536 k) → xR m' 536 8 = skp ldg (fun q => ub (xR m 537 q)) p (n - p).toNat → xH (yk253_95 B sg (nvl 3000000000 (fun q => ub (xR m 537 q)) p (n - p).toNat 0) m') Q X) : xH (xl2 (yl253_25 B) 1000000 sg 0 m) Q X := by
  have gen : ∀ N : Nat, 70000 < N → xH (xl2 (yl253_25 B) N sg 0 m) Q X := by
    intro N hN
    refine xl2_rule (F := yl253_25 B) (fun y1 y2 m' => y1 = sg ∧ (∀ a, a ≠ 536 → m' a = m a) ∧ (∀ k, k ≠ 8 → m' 536 k = m 536 k) ∧ (p ≤ xR m' 536 8 ∧ xR m' 536 8 ≤ 65536) ∧ (0 ≤ y2 ∧ y2 ≤ 30000000009) ∧ skp ldg (fun q => ub (xR m 537 q)) (xR m' 536 8) (n - xR m' 536 8).toNat = skp ldg (fun q => ub (xR m 537 q)) p (n - p).toNat ∧ nvl 3000000000 (fun q => ub (xR m 537 q)) (xR m' 536 8) (n - xR m' 536 8).toNat y2 = nvl 3000000000 (fun q => ub (xR m 537 q)) p (n - p).toNat 0) (fun _ _ m' => (65536 - xR m' 536 8).toNat) ?_ N sg 0 m ⟨rfl, fun _ _ => rfl, fun _ _ => rfl, by omega, by omega, by rw [h8], by rw [h8]⟩ (by omega)
    intro r y1 y2 m' ⟨e0, f1, f2, f3, f5, f4, f6⟩ ih
    subst e0
    have e5 : xR m' 536 5 = n := by rw [xR_fld (f2 5 (by omega))]; exact h5
    unfold yl253_25
    rw [e5]
    by_cases h : xR m' 536 8 < n
    · have ch := rch_ok (B := B) (m := m') (p := xR m' 536 8) e5 n1 (by omega) (fun hp => by rw [xR_cg (f1 537 (by omega))]; exact hb _ (by omega) hp)
      rw [if_pos h, xR_cg (f1 537 (by omega))] at ch
      rw [if_pos h, ch, xB_ret, rdg_ok, xB_ret]
      by_cases hs : ldg (ub (xR m 537 (xR m' 536 8))) = true
      · have hs' := hs
        unfold ldg at hs'
        have d := of_decide_eq_true hs'
        have z : xR (xw_u m' 536 8 (xR m' 536 8 + 1)) 536 8 = xR m' 536 8 + 1 := xR_at (w32_id (by omega) (by omega))
        have g := nvl_go (cap := 3000000000) (T := fun q => ub (xR m 537 q)) (x := y2) h hs
        rw [if_pos hs, if_neg (by decide)]
        by_cases hc : 3000000000 < y2
        · rw [if_pos hc] at g ⊢
          exact ih _ _ _ ⟨rfl, fun a ha => by rw [xu_c ha]; exact f1 a ha, fun k hk => by rw [xu_ne (by omega)]; exact f2 k hk, by rw [z]; omega, f5, by rw [z, ← skp_go (P := ldg) (T := fun q => ub (xR m 537 q)) h hs]; exact f4, by rw [z, ← g]; exact f6⟩ (by rw [z]; omega)
        · rw [if_neg hc] at g ⊢
          rw [ch, xB_ret, w64_id (by omega) (by omega)]
          exact ih _ _ _ ⟨rfl, fun a ha => by rw [xu_c ha]; exact f1 a ha, fun k hk => by rw [xu_ne (by omega)]; exact f2 k hk, by rw [z]; omega, by omega, by rw [z, ← skp_go (P := ldg) (T := fun q => ub (xR m 537 q)) h hs]; exact f4, by rw [z, ← g]; exact f6⟩ (by rw [z]; omega)
      · rw [if_neg hs, if_pos rfl]
        have e := fin m' f1 f2 (by rw [← f4, skp_no (P := ldg) (T := fun q => ub (xR m 537 q)) hs])
        rw [← f6, nvl_no (T := fun q => ub (xR m 537 q)) hs] at e
        exact e
    · rw [if_neg h]
      have e := fin m' f1 f2 (by rw [← f4, skp_end (by omega)])
      rw [← f6, nvl_end (by omega)] at e
      exact e
  exact gen 1000000 (by decide)
end DIG
