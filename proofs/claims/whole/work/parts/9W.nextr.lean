/-! THE LEXER: next, by the reference: a word -/
section NXW
variable {B : Nat} {m : xw_M}
/-- below its end a word has word characters only -/
theorem skp_in {P : Int → Bool} {T : Int → Int} : ∀ (k : Nat) (p i : Int), p ≤ i → i < skp P T p k → P (T i) = true := by
  intro k
  induction k with
  | zero => intro p i h1 h2; exact absurd h2 (Int.not_lt.mpr h1)
  | succ k ih =>
    intro p i h1 h2
    have e : skp P T p (k + 1) = if P (T p) = true then skp P T (p + 1) k else p := rfl
    rw [e] at h2
    by_cases h : P (T p) = true
    · rw [if_pos h] at h2
      by_cases ei : i = p
      · rw [ei]; exact h
      · exact ih (p + 1) i (by omega) h2
    · rw [if_neg h] at h2; omega
theorem rnext_w {n p q e : Int} (h6 : xR m 536 6 = 0) (h5 : xR m 536 5 = n) (n1 : n ≤ 65536) (h8 : xR m 536 8 = p) (p0 : 0 ≤ p) (pn : p ≤ n) (hb : ∀ i, 0 ≤ i → i < n → w8 (xR m 537 i) = xR m 537 i) (hq : skp lsp (fun q => ub (xR m 537 q)) p (n - p).toNat = q) {Q : Int → xw_M → Prop} {X : Nat → xw_M → Prop} (qn : q < n) (hl : llt (ub (xR m 537 q)) = true) (he : skp lwd (fun q => ub (xR m 537 q)) q (n - q).toNat = e) (hW : ∀ m', fRx m m' → xR m' 536 8 = e → xR m' 536 9 = q → xR m' 536 10 = 1 → xR m' 536 11 = fwd (e - q) (fun i => ub (xR m 537 (q + i))) rsv 0 → Q 0 m') : xH (yf248 B m) Q X := by
  have qb := skp_b (P := lsp) (T := fun q => ub (xR m 537 q)) (n - p).toNat p
  rw [hq] at qb
  have eb := skp_b (P := lwd) (T := fun q => ub (xR m 537 q)) (n - q).toNat q
  rw [he] at eb
  unfold yf248
  rw [if_neg (by omega)]
  refine skip_rf h5 n1 h8 p0 (by omega) hb (fun m1 f1 f2 e2 => ?_)
  rw [hq] at e2
  have e5 : xR m1 536 5 = n := by rw [xR_fld (f2 5 (by omega))]; exact h5
  unfold yk248_84
  rw [e2]
  generalize hm2 : xw_u (xw_u (xw_u m1 536 9 q) 536 11 (-1)) 536 13 0 = m2
  have k1 : ∀ a, a ≠ 536 → m2 a = m a := fun a ha => by rw [← hm2, xu_c ha, xu_c ha, xu_c ha, f1 a ha]
  have k2 : ∀ k, (k < 8 ∨ 13 < k) → m2 536 k = m 536 k := fun k hk => by rw [← hm2, xu_ne (by omega), xu_ne (by omega), xu_ne (by omega), f2 k (by omega)]
  have g5 : xR m2 536 5 = n := by rw [xR_fld (k2 5 (by omega))]; exact h5
  have g8 : xR m2 536 8 = q := by rw [← hm2, xR_ne (by omega), xR_ne (by omega), xR_ne (by omega)]; exact e2
  have g9 : xR m2 536 9 = q := by rw [← hm2, xR_ne (by omega), xR_ne (by omega)]; exact xR_at (w32_id (by omega) (by omega))
  have t : xR m2 537 = xR m 537 := xR_cg (k1 537 (by omega))
  have hb2 : ∀ i, 0 ≤ i → i < n → w8 (xR m2 537 i) = xR m2 537 i := by rw [t]; exact hb
  rw [rch_ok (B := B) (p := q) g5 n1 (by omega) (fun hp => hb2 _ (by omega) hp), xB_ret, if_pos qn, g8, g5, if_neg (by omega), t, rlt_ok, xB_ret, if_pos hl, if_neg (show ¬ (1 : Int) = 0 by decide)]
  refine word_rf g5 n1 g8 (by omega) (by omega) hb2 (fun m3 c1 c2 e3 => ?_)
  rw [t, he] at e3
  unfold yk248_202
  have t4 : xR (xw_u m3 536 10 1) 537 = xR m 537 := by rw [xR_cg (xu_c (by omega)), xR_cg (c1 537 (by omega)), t]
  have w := word_no (B := B) (m := xw_u m3 536 10 1) (n := n) (s := q) (e := e) (by rw [xR_ne (by omega), xR_fld (c2 5 (by omega))]; exact g5) n1 (by rw [xR_ne (by omega), xR_fld (c2 9 (by omega))]; exact g9) (by rw [xR_ne (by omega)]; exact e3) (by omega) (by omega) (by omega) (by rw [t4]; exact hb) (by
    rw [t4]
    intro i i0 i1 h32
    have q' : lwd (ub (xR m 537 (q + i))) = true := skp_in (P := lwd) (T := fun q => ub (xR m 537 q)) (n - q).toNat q (q + i) (by omega) (by rw [he]; omega)
    rw [h32] at q'
    exact absurd q' (by decide))
  rw [t4] at w
  have fb := fwd_b (L := e - q) (T := fun i => ub (xR m 537 (q + i))) rsv 0
  have l : ((rsv.length : Nat) : Int) = 19 := by decide
  rw [w, xB_ret, xH_ret]
  refine hW _ ⟨fun a ha => by rw [xu_c ha, xu_c ha, c1 a ha, k1 a ha], fun k hk => by rw [xu_ne (by omega), xu_ne (by omega), c2 k (by omega), k2 k hk]⟩ ?_ ?_ ?_ ?_
  · rw [xR_ne (by omega), xR_ne (by omega)]; exact e3
  · rw [xR_ne (by omega), xR_ne (by omega), xR_fld (c2 9 (by omega))]; exact g9
  · rw [xR_ne (by omega)]; exact xR_at (by decide)
  · exact xR_at (w32_id (by omega) (by omega))
end NXW
