/-! THE LEXER: next, by the class: signs -/
section NXS
variable {B : Nat} {m : xw_M}
theorem sgk_b {x y : Int} : sgk x y = -1 ∨ (0 ≤ sgk x y ∧ sgk x y < 103) := by
  unfold sgk sg1
  by_cases a : x = 60 ∧ y = 61
  · rw [if_pos a]; omega
  · rw [if_neg a]
    by_cases b : x = 62 ∧ y = 61
    · rw [if_pos b]; omega
    · rw [if_neg b]
      by_cases c : x = 60 ∧ y = 62
      · rw [if_pos c]; omega
      · rw [if_neg c]
        by_cases d : x = 40 ∨ x = 41 ∨ x = 44 ∨ x = 59 ∨ x = 46 ∨ x = 42 ∨ x = 61 ∨ x = 60 ∨ x = 62
        · rw [if_pos (decide_eq_true d)]; omega
        · rw [decide_eq_false d, if_neg (show ¬ ((false : Bool) = true) by decide)]; omega
/-- a sign comes, or what is none -/
theorem next_s {n p q k : Int} (h1 : xR m 1 1 = n) (n1 : n ≤ 65536) (h2 : xR m 1 2 = p) (p0 : 0 ≤ p) (pn : p ≤ n) (hq : skp lsp (xR m 2) p (n - p).toNat = q) {Q : Int → xw_M → Prop} {X : Nat → xw_M → Prop} (qn : q < n) (hl : llt (xR m 2 q) ≠ true) (hb : lnb (xR m 2) n q ≠ true) (hk : sgk (xR m 2 q) (if q + 1 < n then xR m 2 (q + 1) else 0) = k) (hS : k ≠ -1 → ∀ m', fTx m m' → xR m' 1 2 = (if k < 100 then q + 1 else q + 2) → xR m' 1 4 = q → xR m' 1 3 = k → Q 0 m') (hF : k = -1 → ∀ m', (∀ a, a ≠ 1 → m' a = m a) → (∀ k, (k < 2 ∨ 7 < k) → m' 1 k = m 1 k) → xR m' 1 6 = 1 → xR m' 1 7 = q → X 14 m') : xH (yf47 B m) Q X := by
  have qb := skp_b (P := lsp) (T := xR m 2) (n - p).toNat p
  rw [hq] at qb
  have kb := sgk_b (x := xR m 2 q) (y := if q + 1 < n then xR m 2 (q + 1) else 0)
  rw [hk] at kb
  refine skip_cl h1 n1 h2 p0 (by omega) (fun m1 f1 f2 e2 => ?_)
  rw [hq] at e2
  have e1 : xR m1 1 1 = n := by rw [xR_fld (f2 1 (by omega))]; exact h1
  have g1 : xR (xw_u m1 1 4 q) 1 1 = n := by rw [xR_ne (by omega)]; exact e1
  have g2 : xR (xw_u m1 1 4 q) 1 2 = q := by rw [xR_ne (by omega)]; exact e2
  have t2 : xR (xw_u m1 1 4 q) 2 = xR m 2 := by rw [xR_cg (xu_c (by omega)), xR_cg (f1 2 (by omega))]
  have e4 : xR (xw_u m1 1 4 q) 1 4 = q := xR_at (w32_id (by omega) (by omega))
  have bn := bnum_cl (B := B) (m := xw_u m1 1 4 q) g1 n1 g2 (by omega) qn
  rw [t2, if_neg hb] at bn
  have sn := sign_cl (B := B) (m := xw_u m1 1 4 q) g1 n1 g2 (by omega) qn
  rw [t2, hk] at sn
  unfold yk47_39
  rw [e2, e1, if_pos qn, if_pos ⟨by omega, by omega⟩, lt_ok, xB_ret, xR_cg (f1 2 (by omega)), if_neg hl, if_pos rfl, bn, xB_ret, if_pos rfl, sn, xB_ret]
  by_cases h : k = -1
  · rw [if_pos h]
    refine hF h _ (fun a ha => by rw [xu_c ha, xu_c ha, xu_c ha, xu_c ha, f1 a ha]) (fun j hj => by rw [xu_ne (by omega), xu_ne (by omega), xu_ne (by omega), xu_ne (by omega), f2 j (by omega)]) ?_ ?_
    · rw [xR_ne (by omega)]; exact xR_at (by decide)
    · rw [xR_at (w32_xR _ _ _)]; exact e4
  · rw [if_neg h]
    unfold yk47_187
    have z3 : xR (xw_u (xw_u m1 1 4 q) 1 3 k) 1 3 = k := xR_at (w32_id (by omega) (by omega))
    have z2 : xR (xw_u (xw_u m1 1 4 q) 1 3 k) 1 2 = q := by rw [xR_ne (by omega)]; exact g2
    have z4 : xR (xw_u (xw_u m1 1 4 q) 1 3 k) 1 4 = q := by rw [xR_ne (by omega)]; exact e4
    rw [z3, z2]
    have go : ∀ d : Int, 1 ≤ d → d ≤ 2 → (if k < 100 then q + 1 else q + 2) = q + d → Q 0 (xw_u (xw_u (xw_u m1 1 4 q) 1 3 k) 1 2 (q + d)) := fun d d0 d1 ed => by
      refine hS h _ ⟨fun a ha => by rw [xu_c ha, xu_c ha, xu_c ha, f1 a ha], fun j hj => by rw [xu_ne (by omega), xu_ne (by omega), xu_ne (by omega), f2 j (by omega)]⟩ ?_ ?_ ?_
      · rw [ed]; exact xR_at (w32_id (by omega) (by omega))
      · rw [xR_ne (by omega)]; exact z4
      · rw [xR_ne (by omega)]; exact z3
    by_cases c : k < 100
    · rw [if_pos c, xH_ret]; exact go 1 (by omega) (by omega) (by rw [if_pos c])
    · rw [if_neg c, xH_ret]; exact go 2 (by omega) (by omega) (by rw [if_neg c])
end NXS
