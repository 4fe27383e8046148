/-! THE LEXER: next, by the reference: the end, a word -/
/-- only the reference's place and token -/
def fRx (m m' : xw_M) : Prop := (∀ a, a ≠ 536 → m' a = m a) ∧ ∀ k, (k < 8 ∨ 13 < k) → m' 536 k = m 536 k
section NXR
variable {B : Nat} {m : xw_M}
theorem rnext_e {n p q : Int} (h6 : xR m 536 6 = 0) (h5 : xR m 536 5 = n) (n1 : n ≤ 65536) (h8 : xR m 536 8 = p) (p0 : 0 ≤ p) (pn : p ≤ n) (hb : ∀ i, 0 ≤ i → i < n → w8 (xR m 537 i) = xR m 537 i) (hq : skp lsp (fun q => ub (xR m 537 q)) p (n - p).toNat = q) {Q : Int → xw_M → Prop} {X : Nat → xw_M → Prop} (qn : n ≤ q) (hE : ∀ m', fRx m m' → xR m' 536 8 = q → xR m' 536 9 = q → xR m' 536 10 = 0 → Q 0 m') : xH (yf248 B m) Q X := by
  have qb := skp_b (P := lsp) (T := fun q => ub (xR m 537 q)) (n - p).toNat p
  rw [hq] at qb
  unfold yf248
  rw [if_neg (by omega)]
  refine skip_rf h5 n1 h8 p0 (by omega) hb (fun m1 f1 f2 e2 => ?_)
  rw [hq] at e2
  have e5 : xR m1 536 5 = n := by rw [xR_fld (f2 5 (by omega))]; exact h5
  have g5 : xR (xw_u (xw_u (xw_u m1 536 9 q) 536 11 (-1)) 536 13 0) 536 5 = n := by rw [xR_ne (by omega), xR_ne (by omega), xR_ne (by omega)]; exact e5
  have g8 : xR (xw_u (xw_u (xw_u m1 536 9 q) 536 11 (-1)) 536 13 0) 536 8 = q := by rw [xR_ne (by omega), xR_ne (by omega), xR_ne (by omega)]; exact e2
  unfold yk248_84
  rw [e2, rch_ok (B := B) (p := q) g5 n1 (by omega) (fun hp => by omega), xB_ret, g8, g5, if_pos (by omega), xH_ret]
  refine hE _ ⟨fun a ha => by rw [xu_c ha, xu_c ha, xu_c ha, xu_c ha, f1 a ha], fun k hk => by rw [xu_ne (by omega), xu_ne (by omega), xu_ne (by omega), xu_ne (by omega), f2 k (by omega)]⟩ ?_ ?_ ?_
  · rw [xR_ne (by omega)]; exact g8
  · rw [xR_ne (by omega), xR_ne (by omega), xR_ne (by omega)]; exact xR_at (w32_id (by omega) (by omega))
  · exact xR_at (by decide)
end NXR
