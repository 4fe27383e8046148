/-! THE LEXER: next, by the reference: a number comes -/
section NXZ
variable {B : Nat} {m : xw_M}
theorem rnum_rf {n q b x e : Int} (h6 : xR m 536 6 = 0) (h5 : xR m 536 5 = n) (n1 : n ≤ 65536) (h8 : xR m 536 8 = q) (q0 : 0 ≤ q) (qn : q < n) (hb : ∀ i, 0 ≤ i → i < n → w8 (xR m 537 i) = xR m 537 i) (hbeg : b = if ub (xR m 537 q) = 45 then q + 1 else q) (hx : x = (if ub (xR m 537 q) = 45 then -nvl 3000000000 (fun q => ub (xR m 537 q)) b (n - b).toNat 0 else nvl 3000000000 (fun q => ub (xR m 537 q)) b (n - b).toNat 0)) (he : e = skp ldg (fun q => ub (xR m 537 q)) b (n - b).toNat) : ∃ m1, yk248_247 B (ub (xR m 537 q)) m = some (.inl 0, if -2147483648 ≤ x ∧ x ≤ 2147483647 then xw_u m1 536 12 x else xw_u (xw_u m1 536 6 2) 536 7 (xR m 536 9)) ∧ (∀ a, a ≠ 536 → m1 a = m a) ∧ (∀ k, k ≠ 8 → k ≠ 10 → m1 536 k = m 536 k) ∧ xR m1 536 8 = e ∧ xR m1 536 10 = 2 := by
  have nb := nvl_b (cap := 3000000000) (T := fun q => ub (xR m 537 q)) (by omega) (n - b).toNat b 0 (by omega) (by omega)
  have fin : ∀ (sg : Int) (mB : xw_M), (if sg = 0 then nvl 3000000000 (fun q => ub (xR m 537 q)) b (n - b).toNat 0 else -nvl 3000000000 (fun q => ub (xR m 537 q)) b (n - b).toNat 0) = x → xR mB 536 8 = b → (∀ a, a ≠ 536 → mB a = m a) → (∀ k, k ≠ 8 → k ≠ 10 → mB 536 k = m 536 k) → xR mB 536 10 = 2 → 0 ≤ b → b ≤ 65536 → ∃ v m', xl2 (yl253_25 B) 1000000 sg 0 mB = some (.inl v, m') ∧ v = 0 ∧ ∃ m1, m' = (if -2147483648 ≤ x ∧ x ≤ 2147483647 then xw_u m1 536 12 x else xw_u (xw_u m1 536 6 2) 536 7 (xR m 536 9)) ∧ (∀ a, a ≠ 536 → m1 a = m a) ∧ (∀ k, k ≠ 8 → k ≠ 10 → m1 536 k = m 536 k) ∧ xR m1 536 8 = e ∧ xR m1 536 10 = 2 := fun sg mB ex g8 c1 c2 g10 b0 b1 => by
    have t : xR mB 537 = xR m 537 := xR_cg (c1 537 (by omega))
    have g5 : xR mB 536 5 = n := by rw [xR_fld (c2 5 (by omega) (by omega))]; exact h5
    refine xH_ex (dig_rf (B := B) (m := mB) (sg := sg) (n := n) (p := b) g5 n1 g8 b0 b1 (by rw [t]; exact hb) (fun m' f1 f2 e2 => ?_))
    rw [t] at e2 ⊢
    have k6 : xR m' 536 6 = 0 := by rw [xR_fld (f2 6 (by omega)), xR_fld (c2 6 (by omega) (by omega))]; exact h6
    have k9 : xR m' 536 9 = xR m 536 9 := by rw [xR_fld (f2 9 (by omega)), xR_fld (c2 9 (by omega) (by omega))]
    rw [nval_rf k6 nb.1 (by omega), xH_ret, ex, k9]
    refine ⟨rfl, m', rfl, fun a ha => by rw [f1 a ha, c1 a ha], fun k k8 k10 => by rw [f2 k k8, c2 k k8 k10], by rw [he]; exact e2, by rw [xR_fld (f2 10 (by omega))]; exact g10⟩
  unfold yk248_247
  by_cases a : ub (xR m 537 q) = 45
  · rw [if_pos a] at hbeg hx ⊢
    have F := fin 1 (xw_u (xw_u m 536 10 2) 536 8 (q + 1)) (by rw [if_neg (by decide)]; exact hx.symm) (by rw [hbeg]; exact xR_at (w32_id (by omega) (by omega))) (fun a ha => by rw [xu_c ha, xu_c ha]) (fun k k8 k10 => by rw [xu_ne (by omega), xu_ne (by omega)]) (by rw [xR_ne (by omega)]; exact xR_at (by decide)) (by omega) (by omega)
    obtain ⟨v, m', z, ev, m1, em, r⟩ := F
    refine ⟨m1, ?_, r⟩
    unfold yf253
    rw [if_neg (by decide), h8, z, xB_ret, em]
  · rw [if_neg a] at hbeg hx ⊢
    have F := fin 0 (xw_u (xw_u m 536 10 2) 536 8 (q + 0)) (by rw [if_pos rfl]; exact hx.symm) (by rw [hbeg, show q + 0 = q by omega]; exact xR_at (w32_id (by omega) (by omega))) (fun a ha => by rw [xu_c ha, xu_c ha]) (fun k k8 k10 => by rw [xu_ne (by omega), xu_ne (by omega)]) (by rw [xR_ne (by omega)]; exact xR_at (by decide)) (by omega) (by omega)
    obtain ⟨v, m', z, ev, m1, em, r⟩ := F
    refine ⟨m1, ?_, r⟩
    unfold yf253
    rw [if_pos rfl, h8, z, xB_ret, em]
theorem rnext_n {n p q b x e : Int} (h6 : xR m 536 6 = 0) (h5 : xR m 536 5 = n) (n1 : n ≤ 65536) (h8 : xR m 536 8 = p) (p0 : 0 ≤ p) (pn : p ≤ n) (hb : ∀ i, 0 ≤ i → i < n → w8 (xR m 537 i) = xR m 537 i) (hq : skp lsp (fun q => ub (xR m 537 q)) p (n - p).toNat = q) {Q : Int → xw_M → Prop} {X : Nat → xw_M → Prop} (qn : q < n) (hl : llt (ub (xR m 537 q)) ≠ true) (hd : ldg (ub (xR m 537 q)) = true ∨ (ub (xR m 537 q) = 45 ∧ q + 1 < n ∧ ldg (ub (xR m 537 (q + 1))) = true)) (hbeg : b = if ub (xR m 537 q) = 45 then q + 1 else q) (hx : x = (if ub (xR m 537 q) = 45 then -nvl 3000000000 (fun q => ub (xR m 537 q)) b (n - b).toNat 0 else nvl 3000000000 (fun q => ub (xR m 537 q)) b (n - b).toNat 0)) (he : e = skp ldg (fun q => ub (xR m 537 q)) b (n - b).toNat) (hN : -2147483648 ≤ x ∧ x ≤ 2147483647 → ∀ m', fRx m m' → xR m' 536 8 = e → xR m' 536 9 = q → xR m' 536 10 = 2 → xR m' 536 12 = x → Q 0 m') (hF : ¬ (-2147483648 ≤ x ∧ x ≤ 2147483647) → ∀ m', (∀ a, a ≠ 536 → m' a = m a) → (∀ k, (k < 6 ∨ 13 < k) → m' 536 k = m 536 k) → xR m' 536 6 = 2 → xR m' 536 7 = q → Q 0 m') : xH (yf248 B m) Q X := by
  have qb := skp_b (P := lsp) (T := fun q => ub (xR m 537 q)) (n - p).toNat p
  rw [hq] at qb
  unfold yf248
  rw [if_neg (by omega)]
  refine skip_rf h5 n1 h8 p0 (by omega) hb (fun m1 f1 f2 e2 => ?_)
  rw [hq] at e2
  unfold yk248_84
  rw [e2]
  generalize hm2 : xw_u (xw_u (xw_u m1 536 9 q) 536 11 (-1)) 536 13 0 = m2
  have k1 : ∀ a, a ≠ 536 → m2 a = m a := fun a ha => by rw [← hm2, xu_c ha, xu_c ha, xu_c ha, f1 a ha]
  have k2 : ∀ k, (k < 8 ∨ 13 < k) → m2 536 k = m 536 k := fun k hk => by rw [← hm2, xu_ne (by omega), xu_ne (by omega), xu_ne (by omega), f2 k (by omega)]
  have g5 : xR m2 536 5 = n := by rw [xR_fld (k2 5 (by omega))]; exact h5
  have g6 : xR m2 536 6 = 0 := by rw [xR_fld (k2 6 (by omega))]; exact h6
  have g8 : xR m2 536 8 = q := by rw [← hm2, xR_ne (by omega), xR_ne (by omega), xR_ne (by omega)]; exact e2
  have g9 : xR m2 536 9 = q := by rw [← hm2, xR_ne (by omega), xR_ne (by omega)]; exact xR_at (w32_id (by omega) (by omega))
  have t : xR m2 537 = xR m 537 := xR_cg (k1 537 (by omega))
  have hb2 : ∀ i, 0 ≤ i → i < n → w8 (xR m2 537 i) = xR m2 537 i := by rw [t]; exact hb
  have S : xH (yk248_247 B (ub (xR m 537 q)) m2) Q X := by
    obtain ⟨m3, z, r1, r2, r3, r4⟩ := rnum_rf (B := B) (m := m2) (n := n) (q := q) (b := b) (x := x) (e := e) g6 g5 n1 g8 (by omega) qn hb2 (by rw [t]; exact hbeg) (by rw [t]; exact hx) (by rw [t]; exact he)
    rw [t, g9] at z
    rw [z, xH_ret]
    by_cases hv : -2147483648 ≤ x ∧ x ≤ 2147483647
    · rw [if_pos hv]
      exact hN hv _ ⟨fun a ha => by rw [xu_c ha, r1 a ha, k1 a ha], fun k hk => by rw [xu_ne (by omega), r2 k (by omega) (by omega), k2 k hk]⟩ (by rw [xR_ne (by omega)]; exact r3) (by rw [xR_ne (by omega), xR_fld (r2 9 (by omega) (by omega))]; exact g9) (by rw [xR_ne (by omega)]; exact r4) (xR_at (w32_id (by omega) (by omega)))
    · rw [if_neg hv]
      exact hF hv _ (fun a ha => by rw [xu_c ha, xu_c ha, r1 a ha, k1 a ha]) (fun k hk => by rw [xu_ne (by omega), xu_ne (by omega), r2 k (by omega) (by omega), k2 k (by omega)]) (by rw [xR_ne (by omega)]; exact xR_at (by decide)) (xR_at (w32_id (by omega) (by omega)))
  rw [rch_ok (B := B) (p := q) g5 n1 (by omega) (fun hp => hb2 _ (by omega) hp), xB_ret, if_pos qn, g8, g5, if_neg (by omega), t, rlt_ok, xB_ret, if_neg hl, if_pos rfl, rdg_ok, xB_ret]
  by_cases hd1 : ldg (ub (xR m 537 q)) = true
  · rw [if_pos hd1, if_neg (by decide)]
    exact S
  · rcases hd with hd | ⟨h45, q1, hd2⟩
    · exact absurd hd hd1
    · rw [if_neg hd1, if_pos rfl, if_pos h45, g8, w32_id (by omega) (by omega), rch_ok (B := B) (p := q + 1) g5 n1 (by omega) (fun hp => hb2 _ (by omega) hp), xB_ret, t, if_pos q1, rdg_ok, xB_ret, if_pos hd2, if_neg (by decide)]
      exact S
end NXZ
