/-! THE LEXER: next, by the class: numbers -/
section NXN
variable {B : Nat} {m : xw_M}
/-- readNumber from q on: the value and whether it fits -/
theorem num_cl {n q b x e : Int} (h1 : xR m 1 1 = n) (n1 : n ≤ 65536) (h2 : xR m 1 2 = q) (q0 : 0 ≤ q) (qn : q < n) (hbeg : b = if xR m 2 q = 45 then q + 1 else q) (hx : x = (if xR m 2 q = 45 then -nvl 4294967296 (xR m 2) b (n - b).toNat 0 else nvl 4294967296 (xR m 2) b (n - b).toNat 0)) (he : e = skp ldg (xR m 2) b (n - b).toNat) : ∃ m', yf53 B m = some (.inl (if -2147483648 ≤ x ∧ x ≤ 2147483647 then 1 else 0), m') ∧ (∀ a, a ≠ 1 → m' a = m a) ∧ (∀ k, k ≠ 2 → k ≠ 5 → m' 1 k = m 1 k) ∧ xR m' 1 2 = e ∧ (-2147483648 ≤ x ∧ x ≤ 2147483647 → xR m' 1 5 = x) := by
  have nb := nvl_b (cap := 4294967296) (T := xR m 2) (by omega) (n - b).toNat b 0 (by omega) (by omega)
  have fin : ∀ (sg : Int) (mB : xw_M), (if sg = 0 then nvl 4294967296 (xR m 2) b (n - b).toNat 0 else -nvl 4294967296 (xR m 2) b (n - b).toNat 0) = x → xR mB 1 1 = n → xR mB 1 2 = b → (∀ a, a ≠ 1 → mB a = m a) → (∀ k, k ≠ 2 → k ≠ 5 → mB 1 k = m 1 k) → 0 ≤ b → b ≤ 65536 → ∃ v m', xl2 (yl53_36 B) 1000000 sg 0 mB = some (.inl v, m') ∧ v = (if -2147483648 ≤ x ∧ x ≤ 2147483647 then 1 else 0) ∧ (∀ a, a ≠ 1 → m' a = m a) ∧ (∀ k, k ≠ 2 → k ≠ 5 → m' 1 k = m 1 k) ∧ xR m' 1 2 = e ∧ (-2147483648 ≤ x ∧ x ≤ 2147483647 → xR m' 1 5 = x) := fun sg mB ex g1 g2 c1 c2 b0 b1 => by
    have t : xR mB 2 = xR m 2 := xR_cg (c1 2 (by omega))
    refine xH_ex (dig_cl (B := B) (m := mB) (sg := sg) (n := n) (p := b) g1 n1 g2 b0 b1 (fun m' f1 f2 e2 => ?_))
    rw [t] at e2 ⊢
    rw [nval_cl nb.1 (by omega), xH_ret, ex]
    refine ⟨rfl, fun a ha => by rw [xu_c ha, f1 a ha, c1 a ha], fun k k2 k5 => by rw [xu_ne (by omega), f2 k k2, c2 k k2 k5], by rw [xR_ne (by omega), he]; exact e2, fun hf => xR_at (w32_id (by omega) (by omega))⟩
  unfold yf53
  rw [h2, if_pos ⟨q0, by omega⟩]
  by_cases a : xR m 2 q = 45
  · rw [if_pos a] at hbeg hx ⊢
    obtain ⟨v, m', z, ev, r⟩ := fin 1 (xw_u m 1 2 (q + 1)) (by rw [if_neg (by decide)]; exact hx.symm) (by rw [xR_ne (by omega)]; exact h1) (by rw [hbeg]; exact xR_at (w32_id (by omega) (by omega))) (fun a ha => xu_c ha) (fun k k2 _ => xu_ne (by omega)) (by omega) (by omega)
    exact ⟨m', by rw [z, ev], r⟩
  · rw [if_neg a] at hbeg hx ⊢
    obtain ⟨v, m', z, ev, r⟩ := fin 0 m (by rw [if_pos rfl]; exact hx.symm) h1 (by rw [hbeg]; exact h2) (fun _ _ => rfl) (fun _ _ _ => rfl) (by omega) (by omega)
    exact ⟨m', by rw [z, ev], r⟩
end NXN
