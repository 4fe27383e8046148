/-! THE LEXER: spaces and words, by the reference; both go equally far -/
section LXR
variable {B : Nat} {m : xw_M}
/-- spaces, by the reference -/
theorem skip_rf {n p : Int} (h5 : xR m 536 5 = n) (n1 : n ≤ 65536) (h8 : xR m 536 8 = p) (p0 : 0 ≤ p) (p1 : p ≤ 65536) (hb : ∀ i, 0 ≤ i → i < n → w8 (xR m 537 i) = xR m 537 i) {Q : Int → xw_M → Prop} {X : Nat → xw_M → Prop} (fin : ∀ m', (∀ a, a ≠ 536 → m' a = m a) → (∀ k, k ≠ 8 → m' 536 k = m 536 k) → xR m' 536 8 = skp lsp (fun q => ub (xR m 537 q)) p (n - p).toNat → xH (yk248_84 B m') Q X) : xH (xl0 (yl248_8 B) 1000000 m) Q X := by
  have gen : ∀ N : Nat, 70000 < N → xH (xl0 (yl248_8 B) N m) Q X := by
    intro N hN
    refine xl0_rule (F := yl248_8 B) (fun m' => (∀ a, a ≠ 536 → m' a = m a) ∧ (∀ k, k ≠ 8 → m' 536 k = m 536 k) ∧ (p ≤ xR m' 536 8 ∧ xR m' 536 8 ≤ 65536) ∧ skp lsp (fun q => ub (xR m 537 q)) (xR m' 536 8) (n - xR m' 536 8).toNat = skp lsp (fun q => ub (xR m 537 q)) p (n - p).toNat) (fun m' => (65536 - xR m' 536 8).toNat) ?_ N m ⟨fun _ _ => rfl, fun _ _ => rfl, by omega, by rw [h8]⟩ (by omega)
    intro r m' ⟨f1, f2, f3, f4⟩ ih
    have e5 : xR m' 536 5 = n := by rw [xR_fld (f2 5 (by omega))]; exact h5
    unfold yl248_8
    by_cases h : xR m' 536 8 < n
    · have ch := rch_ok (B := B) (m := m') (p := xR m' 536 8) e5 n1 (by omega) (fun hp => by rw [xR_cg (f1 537 (by omega))]; exact hb _ (by omega) hp)
      rw [if_pos h, xR_cg (f1 537 (by omega))] at ch
      have z : xR (xw_u m' 536 8 (xR m' 536 8 + 1)) 536 8 = xR m' 536 8 + 1 := xR_at (w32_id (by omega) (by omega))
      have go : lsp (ub (xR m 537 (xR m' 536 8))) = true → xH (yk248_71 B r m') Q X := fun hs => by
        unfold yk248_71
        refine ih _ ⟨fun a ha => by rw [xu_c ha]; exact f1 a ha, fun k hk => by rw [xu_ne (by omega)]; exact f2 k hk, by rw [z]; omega, by rw [z, ← skp_go (P := lsp) (T := fun q => ub (xR m 537 q)) h hs]; exact f4⟩ (by rw [z]; omega)
      rw [e5, if_pos h, ch, xB_ret]
      by_cases c1 : ub (xR m 537 (xR m' 536 8)) = 32
      · rw [if_pos c1]; exact go (by unfold lsp; exact decide_eq_true (Or.inl c1))
      · rw [if_neg c1, ch, xB_ret]
        by_cases c2 : ub (xR m 537 (xR m' 536 8)) = 9
        · rw [if_pos c2]; exact go (by unfold lsp; exact decide_eq_true (Or.inr (Or.inl c2)))
        · rw [if_neg c2, ch, xB_ret]
          by_cases c3 : ub (xR m 537 (xR m' 536 8)) = 10
          · rw [if_pos c3]; exact go (by unfold lsp; exact decide_eq_true (Or.inr (Or.inr (Or.inl c3))))
          · rw [if_neg c3, ch, xB_ret]
            by_cases c4 : ub (xR m 537 (xR m' 536 8)) = 13
            · rw [if_pos c4]; exact go (by unfold lsp; exact decide_eq_true (Or.inr (Or.inr (Or.inr c4))))
            · rw [if_neg c4]
              have hs : lsp ((fun q => ub (xR m 537 q)) (xR m' 536 8)) ≠ true := by
                show lsp (ub (xR m 537 (xR m' 536 8))) ≠ true
                unfold lsp
                rw [decide_eq_false (by omega)]
                decide
              exact fin m' f1 f2 (by rw [← f4, skp_no (P := lsp) (T := fun q => ub (xR m 537 q)) hs])
    · rw [e5, if_neg h]
      exact fin m' f1 f2 (by rw [← f4, skp_end (by omega)])
  exact gen 1000000 (by decide)
/-- a word's end, by the reference -/
theorem word_rf {n p : Int} (h5 : xR m 536 5 = n) (n1 : n ≤ 65536) (h8 : xR m 536 8 = p) (p0 : 0 ≤ p) (p1 : p ≤ 65536) (hb : ∀ i, 0 ≤ i → i < n → w8 (xR m 537 i) = xR m 537 i) {Q : Int → xw_M → Prop} {X : Nat → xw_M → Prop} (fin : ∀ m', (∀ a, a ≠ 536 → m' a = m a) → (∀ k, k ≠ 8 → m' 536 k = m 536 k) → xR m' 536 8 = skp lwd (fun q => ub (xR m 537 q)) p (n - p).toNat → xH (yk248_202 B m') Q X) : xH (xl0 (yl248_137 B) 1000000 m) Q X := by
  have gen : ∀ N : Nat, 70000 < N → xH (xl0 (yl248_137 B) N m) Q X := by
    intro N hN
    refine xl0_rule (F := yl248_137 B) (fun m' => (∀ a, a ≠ 536 → m' a = m a) ∧ (∀ k, k ≠ 8 → m' 536 k = m 536 k) ∧ (p ≤ xR m' 536 8 ∧ xR m' 536 8 ≤ 65536) ∧ skp lwd (fun q => ub (xR m 537 q)) (xR m' 536 8) (n - xR m' 536 8).toNat = skp lwd (fun q => ub (xR m 537 q)) p (n - p).toNat) (fun m' => (65536 - xR m' 536 8).toNat) ?_ N m ⟨fun _ _ => rfl, fun _ _ => rfl, by omega, by rw [h8]⟩ (by omega)
    intro r m' ⟨f1, f2, f3, f4⟩ ih
    have e5 : xR m' 536 5 = n := by rw [xR_fld (f2 5 (by omega))]; exact h5
    unfold yl248_137
    by_cases h : xR m' 536 8 < n
    · have ch := rch_ok (B := B) (m := m') (p := xR m' 536 8) e5 n1 (by omega) (fun hp => by rw [xR_cg (f1 537 (by omega))]; exact hb _ (by omega) hp)
      rw [if_pos h, xR_cg (f1 537 (by omega))] at ch
      have z : xR (xw_u m' 536 8 (xR m' 536 8 + 1)) 536 8 = xR m' 536 8 + 1 := xR_at (w32_id (by omega) (by omega))
      have go : lwd (ub (xR m 537 (xR m' 536 8))) = true → xH (yk248_189 B r m') Q X := fun hs => by
        unfold yk248_189
        refine ih _ ⟨fun a ha => by rw [xu_c ha]; exact f1 a ha, fun k hk => by rw [xu_ne (by omega)]; exact f2 k hk, by rw [z]; omega, by rw [z, ← skp_go (P := lwd) (T := fun q => ub (xR m 537 q)) h hs]; exact f4⟩ (by rw [z]; omega)
      rw [e5, if_pos h, ch, xB_ret, rlt_ok, xB_ret]
      by_cases c1 : llt (ub (xR m 537 (xR m' 536 8))) = true
      · rw [if_pos c1, if_neg (by decide)]
        unfold llt at c1
        exact go (by unfold lwd; exact decide_eq_true (Or.inl (of_decide_eq_true c1)))
      · rw [if_neg c1, if_pos rfl, ch, xB_ret, rdg_ok, xB_ret]
        by_cases c2 : ldg (ub (xR m 537 (xR m' 536 8))) = true
        · rw [if_pos c2, if_neg (by decide)]
          unfold ldg at c2
          exact go (by unfold lwd; exact decide_eq_true (Or.inr (Or.inl (of_decide_eq_true c2))))
        · rw [if_neg c2, if_pos rfl, ch, xB_ret]
          by_cases c3 : ub (xR m 537 (xR m' 536 8)) = 95
          · rw [if_pos c3]; exact go (by unfold lwd; exact decide_eq_true (Or.inr (Or.inr c3)))
          · rw [if_neg c3]
            have hs : lwd ((fun q => ub (xR m 537 q)) (xR m' 536 8)) ≠ true := by
              show lwd (ub (xR m 537 (xR m' 536 8))) ≠ true
              unfold llt at c1
              unfold ldg at c2
              rw [decide_eq_true_eq] at c1 c2
              unfold lwd
              rw [decide_eq_false (by omega)]
              decide
            exact fin m' f1 f2 (by rw [← f4, skp_no (P := lwd) (T := fun q => ub (xR m 537 q)) hs])
    · rw [e5, if_neg h]
      exact fin m' f1 f2 (by rw [← f4, skp_end (by omega)])
  exact gen 1000000 (by decide)
/-- signed or not: the same classes of characters -/
theorem ub_sp {x : Int} (h : w8 x = x) : lsp (ub x) = lsp x := by
  unfold lsp
  have a := ub_eq (y := 32) h (by omega) (by omega)
  have b := ub_eq (y := 9) h (by omega) (by omega)
  have c := ub_eq (y := 10) h (by omega) (by omega)
  have d := ub_eq (y := 13) h (by omega) (by omega)
  rw [decide_eq_decide, a, b, c, d]
theorem ub_lt {x : Int} (h : w8 x = x) : llt (ub x) = llt x := by
  unfold llt
  rw [decide_eq_decide, ub_rg (lo := 97) (hi := 122) h (by omega) (by omega), ub_rg (lo := 65) (hi := 90) h (by omega) (by omega)]
theorem ub_dg {x : Int} (h : w8 x = x) : ldg (ub x) = ldg x := by
  unfold ldg
  rw [decide_eq_decide, ub_rg (lo := 48) (hi := 57) h (by omega) (by omega)]
theorem ub_wd {x : Int} (h : w8 x = x) : lwd (ub x) = lwd x := by
  unfold lwd
  rw [decide_eq_decide, ub_rg (lo := 97) (hi := 122) h (by omega) (by omega), ub_rg (lo := 65) (hi := 90) h (by omega) (by omega), ub_rg (lo := 48) (hi := 57) h (by omega) (by omega), ub_eq (y := 95) h (by omega) (by omega)]
/-- both texts are the same: both sides go equally far -/
theorem skp_same {P : Int → Bool} {T T' : Int → Int} {n p : Int} (hP : ∀ x, w8 x = x → P (ub x) = P x) (p0 : 0 ≤ p) (e : ∀ i, 0 ≤ i → i < n → T i = T' i) (hb : ∀ i, 0 ≤ i → i < n → w8 (T i) = T i) : skp P (fun q => ub (T' q)) p (n - p).toNat = skp P T p (n - p).toNat := by
  refine skp_cg _ _ (fun q h1 h2 => ?_)
  show P (ub (T' q)) = P (T q)
  rw [← e q (by omega) (by omega), hP _ (hb q (by omega) (by omega))]
end LXR
