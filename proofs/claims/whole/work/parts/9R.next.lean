/-! THE LEXER: next, by the class -/
/-- only the text's place, token and number -/
def fTx (m m' : xw_M) : Prop := (∀ a, a ≠ 1 → m' a = m a) ∧ ∀ k, (k < 2 ∨ 5 < k) → m' 1 k = m 1 k
section NXC
variable {B : Nat} {m : xw_M}
/-- a word comes -/
theorem next_w {n p q : Int} (h1 : xR m 1 1 = n) (n1 : n ≤ 65536) (h2 : xR m 1 2 = p) (p0 : 0 ≤ p) (pn : p ≤ n) (hq : skp lsp (xR m 2) p (n - p).toNat = q) {Q : Int → xw_M → Prop} {X : Nat → xw_M → Prop} (qn : q < n) (hl : llt (xR m 2 q) = true) (hW : ∀ m', fTx m m' → xR m' 1 2 = skp lwd (xR m 2) q (n - q).toNat → xR m' 1 4 = q → xR m' 1 3 = wkn (skp lwd (xR m 2) q (n - q).toNat - q) (fun i => xR m 2 (q + i)) → Q 0 m') : xH (yf47 B m) Q X := by
  have qb := skp_b (P := lsp) (T := xR m 2) (n - p).toNat p
  rw [hq] at qb
  refine skip_cl h1 n1 h2 p0 (by omega) (fun m1 f1 f2 e2 => ?_)
  rw [hq] at e2
  have e1 : xR m1 1 1 = n := by rw [xR_fld (f2 1 (by omega))]; exact h1
  unfold yk47_39
  rw [e2, e1, if_pos qn, if_pos ⟨by omega, by omega⟩, lt_ok, xB_ret, xR_cg (f1 2 (by omega)), if_pos hl, if_neg (by decide)]
  have g2 : xR (xw_u m1 1 4 q) 1 2 = q := by rw [xR_ne (by omega)]; exact e2
  refine word_cl (n := n) (p := q) (by rw [xR_ne (by omega)]; exact e1) n1 g2 (by omega) (by omega) (fun m2 k1 k2 e3 => ?_)
  have t2 : xR (xw_u m1 1 4 q) 2 = xR m 2 := by rw [xR_cg (xu_c (by omega)), xR_cg (f1 2 (by omega))]
  rw [t2] at e3
  have wb := skp_b (P := lwd) (T := xR m 2) (n - q).toNat q
  have e4 : xR m2 1 4 = q := by rw [xR_fld (k2 4 (by omega)), xR_at (w32_id (by omega) (by omega))]
  have t3 : xR m2 2 = xR m 2 := by rw [xR_cg (k1 2 (by omega)), t2]
  unfold yk47_120
  rw [wkind_cl e4 e3 (by omega) (by omega) (by omega), xB_ret, xH_ret, t3]
  have kb : 0 ≤ wkn (skp lwd (xR m 2) q (n - q).toNat - q) (fun i => xR m 2 (q + i)) ∧ wkn (skp lwd (xR m 2) q (n - q).toNat - q) (fun i => xR m 2 (q + i)) < 300 := by
    have fb := fwd_b (L := skp lwd (xR m 2) q (n - q).toNat - q) (T := fun i => xR m 2 (q + i)) rsv 0
    have l : ((rsv.length : Nat) : Int) = 19 := by decide
    unfold wkn
    split
    · omega
    · split <;> omega
  refine hW _ ⟨fun a ha => by rw [xu_c ha, k1 a ha, xu_c ha, f1 a ha], fun k hk => by rw [xu_ne (by omega), k2 k (by omega), xu_ne (by omega), f2 k (by omega)]⟩ ?_ ?_ ?_
  · rw [xR_ne (by omega)]; exact e3
  · rw [xR_ne (by omega)]; exact e4
  · exact xR_at (w32_id (by omega) (by omega))
/-- the end comes -/
theorem next_e {n p q : Int} (h1 : xR m 1 1 = n) (n1 : n ≤ 65536) (h2 : xR m 1 2 = p) (p0 : 0 ≤ p) (pn : p ≤ n) (hq : skp lsp (xR m 2) p (n - p).toNat = q) {Q : Int → xw_M → Prop} {X : Nat → xw_M → Prop} (qn : n ≤ q) (hE : ∀ m', fTx m m' → xR m' 1 2 = q → xR m' 1 4 = q → xR m' 1 3 = 0 → Q 0 m') : xH (yf47 B m) Q X := by
  have qb := skp_b (P := lsp) (T := xR m 2) (n - p).toNat p
  rw [hq] at qb
  refine skip_cl h1 n1 h2 p0 (by omega) (fun m1 f1 f2 e2 => ?_)
  rw [hq] at e2
  have e1 : xR m1 1 1 = n := by rw [xR_fld (f2 1 (by omega))]; exact h1
  unfold yk47_39
  rw [e2, e1, if_neg (by omega), xH_ret]
  refine hE _ ⟨fun a ha => by rw [xu_c ha, xu_c ha, f1 a ha], fun k hk => by rw [xu_ne (by omega), xu_ne (by omega), f2 k (by omega)]⟩ ?_ ?_ ?_
  · rw [xR_ne (by omega), xR_ne (by omega)]; exact e2
  · rw [xR_ne (by omega)]; exact xR_at (w32_id (by omega) (by omega))
  · exact xR_at (by decide)
end NXC
