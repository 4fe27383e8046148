/-! THE LEXER: next, by the class: a number comes -/
section NXM
variable {B : Nat} {m : xw_M}
theorem next_n {n p q b x e : Int} (h1 : xR m 1 1 = n) (n1 : n ≤ 65536) (h2 : xR m 1 2 = p) (p0 : 0 ≤ p) (pn : p ≤ n) (hq : skp lsp (xR m 2) p (n - p).toNat = q) {Q : Int → xw_M → Prop} {X : Nat → xw_M → Prop} (qn : q < n) (hl : llt (xR m 2 q) ≠ true) (hb : lnb (xR m 2) n q = true) (hbeg : b = if xR m 2 q = 45 then q + 1 else q) (hx : x = (if xR m 2 q = 45 then -nvl 4294967296 (xR m 2) b (n - b).toNat 0 else nvl 4294967296 (xR m 2) b (n - b).toNat 0)) (he : e = skp ldg (xR m 2) b (n - b).toNat) (hN : -2147483648 ≤ x ∧ x ≤ 2147483647 → ∀ m', fTx m m' → xR m' 1 2 = e → xR m' 1 4 = q → xR m' 1 3 = 3 → xR m' 1 5 = x → Q 0 m') (hF : ¬ (-2147483648 ≤ x ∧ x ≤ 2147483647) → ∀ m', (∀ a, a ≠ 1 → m' a = m a) → (∀ k, (k < 2 ∨ 7 < k) → m' 1 k = m 1 k) → xR m' 1 6 = 2 → xR m' 1 7 = q → X 14 m') : xH (yf47 B m) Q X := by
  have qb := skp_b (P := lsp) (T := xR m 2) (n - p).toNat p
  rw [hq] at qb
  refine skip_cl h1 n1 h2 p0 (by omega) (fun m1 f1 f2 e2 => ?_)
  rw [hq] at e2
  have e1 : xR m1 1 1 = n := by rw [xR_fld (f2 1 (by omega))]; exact h1
  have g1 : xR (xw_u m1 1 4 q) 1 1 = n := by rw [xR_ne (by omega)]; exact e1
  have g2 : xR (xw_u m1 1 4 q) 1 2 = q := by rw [xR_ne (by omega)]; exact e2
  have t2 : xR (xw_u m1 1 4 q) 2 = xR m 2 := by rw [xR_cg (xu_c (by omega)), xR_cg (f1 2 (by omega))]
  have e4 : xR (xw_u m1 1 4 q) 1 4 = q := xR_at (w32_id (by omega) (by omega))
  have bn := bnum_cl (B := B) (m := xw_u m1 1 4 q) g1 n1 g2 (by omega) qn
  rw [t2, if_pos hb] at bn
  have t3 : xR (xw_u (xw_u m1 1 4 q) 1 3 3) 2 = xR m 2 := by rw [xR_cg (xu_c (by omega)), t2]
  obtain ⟨m5, z5, c1, c2, c3, c4⟩ := num_cl (B := B) (m := xw_u (xw_u m1 1 4 q) 1 3 3) (n := n) (q := q) (b := b) (x := x) (e := e) (by rw [xR_ne (by omega)]; exact g1) n1 (by rw [xR_ne (by omega)]; exact g2) (by omega) qn (by rw [t3]; exact hbeg) (by rw [t3]; exact hx) (by rw [t3]; exact he)
  have d4 : xR m5 1 4 = q := by rw [xR_fld (c2 4 (by omega) (by omega)), xR_ne (by omega)]; exact e4
  have d3 : xR m5 1 3 = 3 := by rw [xR_fld (c2 3 (by omega) (by omega))]; exact xR_at (by decide)
  unfold yk47_39
  rw [e2, e1, if_pos qn, if_pos ⟨by omega, by omega⟩, lt_ok, xB_ret, xR_cg (f1 2 (by omega)), if_neg hl, if_pos rfl, bn, xB_ret, if_neg (show ¬ (1 : Int) = 0 by decide), z5, xB_ret]
  by_cases h : -2147483648 ≤ x ∧ x ≤ 2147483647
  · rw [if_pos h, if_neg (show ¬ (1 : Int) = 0 by decide), xH_ret]
    exact hN h _ ⟨fun a ha => by rw [c1 a ha, xu_c ha, xu_c ha, f1 a ha], fun j hj => by rw [c2 j (by omega) (by omega), xu_ne (by omega), xu_ne (by omega), f2 j (by omega)]⟩ c3 d4 d3 (c4 h)
  · rw [if_neg h, if_pos (show (0 : Int) = 0 from rfl)]
    refine hF h _ (fun a ha => by rw [xu_c ha, xu_c ha, c1 a ha, xu_c ha, xu_c ha, f1 a ha]) (fun j hj => by rw [xu_ne (by omega), xu_ne (by omega), c2 j (by omega) (by omega), xu_ne (by omega), xu_ne (by omega), f2 j (by omega)]) ?_ ?_
    · rw [xR_ne (by omega)]; exact xR_at (by decide)
    · rw [xR_at (w32_xR _ _ _)]; exact d4
end NXM
