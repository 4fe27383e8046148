/-! THE LEXER: next, by the reference: a sign, or what is none -/
section NXY
variable {B : Nat} {m : xw_M}
theorem rnext_s {n p q y : Int} (h6 : xR m 536 6 = 0) (h5 : xR m 536 5 = n) (n1 : n ≤ 65536) (h8 : xR m 536 8 = p) (p0 : 0 ≤ p) (pn : p ≤ n) (hb : ∀ i, 0 ≤ i → i < n → w8 (xR m 537 i) = xR m 537 i) (hq : skp lsp (fun q => ub (xR m 537 q)) p (n - p).toNat = q) {Q : Int → xw_M → Prop} {X : Nat → xw_M → Prop} (qn : q < n) (hl : llt (ub (xR m 537 q)) ≠ true) (hd : ldg (ub (xR m 537 q)) ≠ true) (hy : y = if q + 1 < n then ub (xR m 537 (q + 1)) else 0) (hm : ub (xR m 537 q) = 45 → ldg y ≠ true) (hS : ∀ m2 : xw_M, (∀ a, a ≠ 536 → m2 a = m a) → (∀ k, (k < 8 ∨ 13 < k) → m2 536 k = m 536 k) → xR m2 536 8 = q → xR m2 536 9 = q → xR m2 536 10 = 3 → Q 0 (if sg2 (ub (xR m 537 q)) y = true then xw_u (xw_u m2 536 13 (256 * ub (xR m 537 q) + y)) 536 8 (q + 2) else if sg1 (ub (xR m 537 q)) = true then xw_u (xw_u m2 536 13 (ub (xR m 537 q))) 536 8 (q + 1) else xw_u (xw_u m2 536 6 1) 536 7 q)) : xH (yf248 B m) Q X := by
  have qb := skp_b (P := lsp) (T := fun q => ub (xR m 537 q)) (n - p).toNat p
  rw [hq] at qb
  unfold yf248
  rw [if_neg (by omega)]
  refine skip_rf h5 n1 h8 p0 (by omega) hb (fun m1 f1 f2 e2 => ?_)
  rw [hq] at e2
  unfold yk248_84
  rw [e2]
  generalize hm2 : xw_u (xw_u (xw_u m1 536 9 q) 536 11 (-1)) 536 13 0 = m2
  have k1 : ∀ a, a ≠ 536 → m2 a = m a := fun a ha => by rw [← hm2, xu_c ha, xu_c ha, xu_c ha, f1 a ha]
  have k2 : ∀ k, (k < 8 ∨ 13 < k) → m2 536 k = m 536 k := fun k hk => by rw [← hm2, xu_ne (by omega), xu_ne (by omega), xu_ne (by omega), f2 k (by omega)]
  have g5 : xR m2 536 5 = n := by rw [xR_fld (k2 5 (by omega))]; exact h5
  have g8 : xR m2 536 8 = q := by rw [← hm2, xR_ne (by omega), xR_ne (by omega), xR_ne (by omega)]; exact e2
  have g9 : xR m2 536 9 = q := by rw [← hm2, xR_ne (by omega), xR_ne (by omega)]; exact xR_at (w32_id (by omega) (by omega))
  have t : xR m2 537 = xR m 537 := xR_cg (k1 537 (by omega))
  have hb2 : ∀ i, 0 ≤ i → i < n → w8 (xR m2 537 i) = xR m2 537 i := by rw [t]; exact hb
  have S : xH (yk248_265 B (ub (xR m 537 q)) m2) Q X := by
    unfold yk248_265
    have t4 : xR (xw_u m2 536 10 3) 537 = xR m 537 := by rw [xR_cg (xu_c (by omega)), t]
    have w := sign_rf (B := B) (m := xw_u m2 536 10 3) (n := n) (p := q) (x := ub (xR m 537 q)) (y := y) (by rw [xR_ne (by omega)]; exact g5) n1 (by rw [xR_ne (by omega)]; exact g8) (by omega) qn (by rw [xR_ne (by omega), xR_fld (k2 6 (by omega))]; exact h6) (by rw [t4]; exact hb) (by rw [t4]; exact hy)
    have z9 : xR (xw_u m2 536 10 3) 536 9 = q := by rw [xR_ne (by omega)]; exact g9
    rw [z9] at w
    rw [w, xB_ret, xH_ret]
    exact hS _ (fun a ha => by rw [xu_c ha, k1 a ha]) (fun k hk => by rw [xu_ne (by omega), k2 k hk]) (by rw [xR_ne (by omega)]; exact g8) z9 (xR_at (by decide))
  rw [rch_ok (B := B) (p := q) g5 n1 (by omega) (fun hp => hb2 _ (by omega) hp), xB_ret, if_pos qn, g8, g5, if_neg (by omega), t, rlt_ok, xB_ret, if_neg hl, if_pos rfl, rdg_ok, xB_ret, if_neg hd, if_pos rfl]
  by_cases h45 : ub (xR m 537 q) = 45
  · rw [if_pos h45, g8, w32_id (by omega) (by omega), rch_ok (B := B) (p := q + 1) g5 n1 (by omega) (fun hp => hb2 _ (by omega) hp), xB_ret, t, ← hy, rdg_ok, xB_ret, if_neg (hm h45), if_pos rfl]
    exact S
  · rw [if_neg h45]
    exact S
end NXY
