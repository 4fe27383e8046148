/-! FORGETTING: the class's forgetAll, the reference's forget; crash -/
def fgC (m m' : xw_M) : Prop := (∀ a, a ≠ 1 → a ≠ 3 → a ≠ m 0 12 → a ≠ 373 → a ≠ 508 → m' a = m a) ∧ (xR m' 1 1 = 0 ∧ xR m' 1 6 = 0 ∧ xR m' 1 7 = -1) ∧ (xR m' 3 1 = 0 ∧ xR m' 3 2 = 0) ∧ (xR m' (m 0 12) 7 = 0 ∧ ∀ k, k ≠ 7 → m' (m 0 12) k = m (m 0 12) k) ∧ (xR m' 373 5 = 0 ∧ ∀ k, k ≠ 5 → m' 373 k = m 373 k) ∧ (xR m' 508 8 = 0 ∧ xR m' 508 9 = 0 ∧ xR m' 508 10 = 0 ∧ xR m' 508 11 = 0 ∧ xR m' 508 14 = 0) ∧ ∀ k, k ≠ 8 → k ≠ 9 → k ≠ 10 → k ≠ 11 → k ≠ 14 → m' 508 k = m 508 k
def fgR (m m' : xw_M) : Prop := (∀ a, a ≠ 536 → a ≠ 577 → a ≠ 578 → m' a = m a) ∧ (xR m' 536 51 = -1 ∧ xR m' 536 5 = 0 ∧ xR m' 536 6 = 0 ∧ xR m' 536 7 = -1 ∧ xR m' 536 32 = 0 ∧ xR m' 536 24 = 0) ∧ (∀ k, k ≠ 51 → k ≠ 5 → k ≠ 6 → k ≠ 7 → k ≠ 32 → k ≠ 24 → m' 536 k = m 536 k) ∧ ∀ k, 0 ≤ k → k < 8 → xR m' 577 k = 0 ∧ xJ m' 578 k = 0
section FGT
variable {B : Nat} {m : xw_M} {c : Int}
theorem ans_ob (h : ptr m) : xw_obb 9 (m 0 12) = true ∧ (m 0 12 = 420 ∨ m 0 12 = 464) := by
  rcases h.2.1 with q | q
  · rw [q.1]; exact ⟨by decide, Or.inl rfl⟩
  · rw [q.1]; exact ⟨by decide, Or.inr rfl⟩
theorem forget_cl (h : ptr m) : ∃ m', yf13 B m = some (.inl 0, m') ∧ fgC m m' := by
  obtain ⟨o, q⟩ := ans_ob h
  unfold yf13 yf14 yf15
  rw [xB_ret, xB_ret]
  have e : ∀ k, (xw_u (xw_u (xw_u (xw_u (xw_u (xw_u (xw_u (xw_u m 1 1 0) 1 2 0) 1 3 0) 1 4 0) 1 6 0) 1 7 (-1)) 3 1 0) 3 2 0) 0 k = m 0 k := fun k => by
    rw [xu_ne (by omega), xu_ne (by omega), xu_ne (by omega), xu_ne (by omega), xu_ne (by omega), xu_ne (by omega), xu_ne (by omega), xu_ne (by omega)]
  rw [e 12, if_pos o]
  unfold yf16
  rw [if_pos o, xB_ret]
  unfold yf17
  rw [xB_ret]
  generalize hA : m 0 12 = A at *
  refine ⟨_, rfl, fun a a1 a2 a3 a4 a5 => ?_, ⟨?_, ?_, ?_⟩, ⟨?_, ?_⟩, ⟨?_, fun k hk => ?_⟩, ⟨?_, fun k hk => ?_⟩, ⟨?_, ?_, ?_, ?_, ?_⟩, fun k k1 k2 k3 k4 k5 => ?_⟩
  · rw [hA] at a3
    repeat rw [xu_c (by omega)]
  · repeat rw [xR_ne (by omega)]
    exact xR_at (by decide)
  · repeat rw [xR_ne (by omega)]
    exact xR_at (by decide)
  · repeat rw [xR_ne (by omega)]
    exact xR_at (by decide)
  · repeat rw [xR_ne (by omega)]
    exact xR_at (by decide)
  · repeat rw [xR_ne (by omega)]
    exact xR_at (by decide)
  · rw [hA]
    repeat rw [xR_ne (by omega)]
    exact xR_at (by decide)
  · rw [hA]
    repeat rw [xu_ne (by omega)]
  · repeat rw [xR_ne (by omega)]
    exact xR_at (by decide)
  · repeat rw [xu_ne (by omega)]
  · repeat rw [xR_ne (by omega)]
    exact xR_at (by decide)
  · repeat rw [xR_ne (by omega)]
    exact xR_at (by decide)
  · repeat rw [xR_ne (by omega)]
    exact xR_at (by decide)
  · repeat rw [xR_ne (by omega)]
    exact xR_at (by decide)
  · exact xR_at (by decide)
  · repeat rw [xu_ne (by omega)]
theorem forget_rf : ∃ m', yf313 B m = some (.inl 0, m') ∧ fgR m m' := by
  unfold yf313
  generalize hN : (1000000 : Nat) = N
  generalize hm : xw_u (xw_u (xw_u (xw_u (xw_u (xw_u m 536 51 (-1)) 536 5 0) 536 6 0) 536 7 (-1)) 536 32 0) 536 24 0 = mz
  have goal := xH_ex (Q := fun v m' => v = 0 ∧ (∀ a, a ≠ 577 → a ≠ 578 → m' a = mz a) ∧ ∀ k, 0 ≤ k → k < 8 → xR m' 577 k = 0 ∧ xJ m' 578 k = 0) (xl1_rule (F := yl313_32 B) (fun x m' => 0 ≤ x ∧ x ≤ 8 ∧ (∀ a, a ≠ 577 → a ≠ 578 → m' a = mz a) ∧ ∀ k, 0 ≤ k → k < x → xR m' 577 k = 0 ∧ xJ m' 578 k = 0) (fun x _ => (8 - x).toNat) ?_ N 0 mz ⟨by omega, by omega, fun _ _ _ => rfl, fun p p0 p1 => absurd p1 (Int.not_lt.mpr p0)⟩ (by omega))
  · obtain ⟨v, m', e, rfl, h1, h2⟩ := goal
    have h5 : m' 536 = mz 536 := h1 536 (by omega) (by omega)
    refine ⟨m', e, fun a a1 a2 a3 => ?_, ?_, fun k k1 k2 k3 k4 k5 k6 => ?_, h2⟩
    · rw [h1 a a2 a3, ← hm]
      repeat rw [xu_c a1]
    · rw [xR_cg h5, ← hm]
      refine ⟨?_, ?_, ?_, ?_, ?_, ?_⟩
      · repeat rw [xR_ne (by omega)]
        exact xR_at (by decide)
      · repeat rw [xR_ne (by omega)]
        exact xR_at (by decide)
      · repeat rw [xR_ne (by omega)]
        exact xR_at (by decide)
      · repeat rw [xR_ne (by omega)]
        exact xR_at (by decide)
      · repeat rw [xR_ne (by omega)]
        exact xR_at (by decide)
      · exact xR_at (by decide)
    · rw [h5, ← hm]
      repeat rw [xu_ne (by omega)]
  · intro r x m' ⟨x0, x1, h1, h2⟩ ih
    unfold yl313_32
    by_cases hx : x < 8
    · rw [if_pos hx, if_pos ⟨x0, hx⟩, w32_id (by omega) (by omega)]
      refine ih _ _ ⟨by omega, by omega, fun a a1 a2 => by rw [xu_c a2, xu_c a1]; exact h1 a a1 a2, fun k k0 k1 => ?_⟩ (by omega)
      rw [xR_cg (xu_c (by omega)), xR_u, xJ_u]
      by_cases e : k = x
      · rw [if_pos ⟨rfl, e⟩, if_pos ⟨rfl, e⟩]; exact ⟨rfl, rfl⟩
      · rw [if_neg (by omega), if_neg (by omega), xJ_cg (xu_c (by omega))]; exact h2 k k0 (by omega)
    · rw [if_neg hx, xH_ret]
      have e : x = 8 := by omega
      subst e
      exact ⟨rfl, h1, h2⟩
/-- both sides forget: m of the class's last state, m1 behind forgetAll and state := DOWN, m2 before the reference's forget, m3 behind it -/
theorem Inw_dn {m1 m1' m2 m3 : xw_M} (hb : 16 ≤ B ∧ B ≤ 512) (hc : 0 ≤ c ∧ c ≤ 600) (pt : ptr m) (tp : tps B m) (t8 : ∀ i, w8 (xR m 2 i) = xR m 2 i) (C : fgC m m1) (e1 : ∀ a, a ≠ 604 → m1' a = xw_u m1 0 14 2 a) (e2 : ∀ a, a < 536 → m2 a = m1' a) (R : fgR m2 m3) (pr : ∀ k, k = 22 ∨ k = 23 ∨ k = 73 ∨ k = 74 ∨ k = 49 → m2 536 k = m 536 k) (tw : ∃ s t, two s t ∧ m2 536 59 = s ∧ m2 536 60 = t) (h3 : xR m2 536 3 = 1) (h2 : xR m2 536 2 = 0 ∨ xR m2 536 2 = 1) (sg : xR m 0 15 = xR m2 536 33 ∧ 0 ≤ xR m2 536 33 ∧ xR m2 536 33 ≤ 20000) (ch : xR m 0 16 = xR m2 536 39 ∧ 0 ≤ xR m2 536 39 ∧ xR m2 536 39 ≤ 100) (wr : xR m 508 19 = xR m2 536 50 ∧ 0 ≤ xR m2 536 50 ∧ xR m2 536 50 ≤ 600 * c) (fb : 0 ≤ xR m2 536 31 ∧ xR m2 536 31 ≤ xR m2 536 33) (lo : 0 ≤ xR m2 536 38 ∧ xR m2 536 38 ≤ c) (nw : xR m2 536 2 = 0 → tk (m 516) 0 32 = 0 ∧ tk (m 516) 32768 32 = 0 ∧ xR m2 536 31 = 0 ∧ xR m2 536 38 = 0 ∧ xR m2 536 40 = 0 ∧ xR m2 536 52 = 0 ∧ 0 ≤ xR m2 536 14 ∧ xR m2 536 14 ≤ 8) (op : xR m2 536 2 = 1 → ∃ D M tu K Rf Rv, dsk B m2 D M tu K Rf Rv ∧ tu ≤ c) : Inw B c m3 ∧ anN m3 := by
  obtain ⟨c1, c2, c3, c4, c5, c6, c7⟩ := C
  obtain ⟨r1, r2, r3, r4⟩ := R
  obtain ⟨ob, oq⟩ := ans_ob pt
  have E : ∀ a, a < 536 → m3 a = xw_u m1 0 14 2 a := fun a ha => by rw [r1 a (by omega) (by omega) (by omega), e2 a ha, e1 a (by omega)]
  have E0 : ∀ a, a ≠ 0 → a < 536 → m3 a = m1 a := fun a h0 ha => by rw [E a ha, xu_c h0]
  have f : ∀ k, k ≠ 51 → k ≠ 5 → k ≠ 6 → k ≠ 7 → k ≠ 32 → k ≠ 24 → xR m3 536 k = xR m2 536 k := fun k k1 k2 k3 k4 k5 k6 => xR_fld (r3 k k1 k2 k3 k4 k5 k6)
  have z0 : ∀ k, k ≠ 14 → m3 0 k = m 0 k := fun k hk => by rw [E 0 (by omega), xu_ne (by omega), c1 0 (by omega) (by omega) (by omega) (by omega) (by omega)]
  have p3 : ptr m3 := by
    have q : ∀ k, k = 22 ∨ k = 23 ∨ k = 73 ∨ k = 74 → m3 536 k = m 536 k := fun k hk => by rw [r3 k (by omega) (by omega) (by omega) (by omega) (by omega) (by omega)]; exact pr k (by omega)
    obtain ⟨s, t, a, b, d⟩ := tw
    refine ⟨⟨s, t, a, by rw [r3 59 (by omega) (by omega) (by omega) (by omega) (by omega) (by omega)]; exact b, by rw [r3 60 (by omega) (by omega) (by omega) (by omega) (by omega) (by omega)]; exact d⟩, ?_, ?_, ?_⟩
    · rw [z0 12 (by omega), z0 13 (by omega)]; exact pt.2.1
    · rw [q 22 (by omega), q 23 (by omega)]; exact pt.2.2.1
    · rw [q 73 (by omega), q 74 (by omega)]; exact pt.2.2.2
  have same : ∀ a, a ≠ 0 → a ≠ 1 → a ≠ 3 → a ≠ 420 → a ≠ 464 → a ≠ 373 → a ≠ 508 → a < 536 → m3 a = m a := fun a a0 a1 a2 a3 a4 a5 a6 a7 => by rw [E0 a a0 a7, c1 a a1 a2 (by omega) a5 a6]
  have d508 : ∀ k, k ≠ 8 → k ≠ 9 → k ≠ 10 → k ≠ 11 → k ≠ 14 → m3 508 k = m 508 k := fun k k1 k2 k3 k4 k5 => by rw [E0 508 (by omega) (by omega)]; exact c7 k k1 k2 k3 k4 k5
  have w516 : m3 516 = m 516 := same 516 (by omega) (by omega) (by omega) (by omega) (by omega) (by omega) (by omega) (by omega)
  refine ⟨⟨hb, hc, p3, tps_fr tp (d508 0 (by omega) (by omega) (by omega) (by omega) (by omega)) (by rw [r3 49 (by omega) (by omega) (by omega) (by omega) (by omega) (by omega)]; exact pr 49 (by omega)) (fun a ha => same a (by omega) (by omega) (by omega) (by omega) (by omega) (by omega) (by omega) (by omega)) (by
      obtain ⟨p, hp⟩ := tp.2.2.2.2
      exact ⟨p, rs_fr hp (same 530 (by omega) (by omega) (by omega) (by omega) (by omega) (by omega) (by omega) (by omega))⟩), ?_, ?_, ?_, ?_, fun h => ?_, fun h => ?_⟩, ?_, r2.2.2.2.2.2⟩
  · refine ⟨?_, ?_, ?_⟩
    · rw [f 2 (by omega) (by omega) (by omega) (by omega) (by omega) (by omega)]; exact h2
    · rw [f 3 (by omega) (by omega) (by omega) (by omega) (by omega) (by omega), h3]; exact Or.inr rfl
    · rw [f 3 (by omega) (by omega) (by omega) (by omega) (by omega) (by omega), h3, if_pos rfl, xR_cg (E 0 (by omega))]; exact xR_at (by decide)
  · unfold txt
    rw [xR_cg (E0 1 (by omega) (by omega)), c2.1, c2.2.1, c2.2.2, r2.2.1, r2.2.2.1, r2.2.2.2.1, xR_cg (same 2 (by omega) (by omega) (by omega) (by omega) (by omega) (by omega) (by omega) (by omega))]
    exact ⟨⟨rfl, by omega, by omega⟩, fun i i0 i1 => by omega, t8, rfl, rfl⟩
  · unfold cnr
    rw [xR_fld (z0 15 (by omega)), xR_fld (z0 16 (by omega)), f 33 (by omega) (by omega) (by omega) (by omega) (by omega) (by omega), f 39 (by omega) (by omega) (by omega) (by omega) (by omega) (by omega), f 50 (by omega) (by omega) (by omega) (by omega) (by omega) (by omega), f 31 (by omega) (by omega) (by omega) (by omega) (by omega) (by omega), f 38 (by omega) (by omega) (by omega) (by omega) (by omega) (by omega), f 3 (by omega) (by omega) (by omega) (by omega) (by omega) (by omega), r2.2.2.2.2.1, xR_fld (d508 19 (by omega) (by omega) (by omega) (by omega) (by omega)), xR_cg (E0 373 (by omega) (by omega)), c5.1]
    exact ⟨sg, ch, wr, ⟨rfl, by omega, by omega⟩, ⟨fb.1, by omega⟩, lo, fun h => by omega, fun _ => rfl⟩
  · refine ⟨fun _ => r4, fun _ h => ?_⟩
    rw [f 3 (by omega) (by omega) (by omega) (by omega) (by omega) (by omega)] at h
    omega
  · rw [f 2 (by omega) (by omega) (by omega) (by omega) (by omega) (by omega)] at h
    obtain ⟨n1, n2, n3, n4, n5, n6, n7⟩ := nw h
    refine ⟨by rw [w516]; exact n1, by rw [w516]; exact n2, ?_, ?_, fun _ => ?_, fun h' => ?_⟩
    · rw [f 31 (by omega) (by omega) (by omega) (by omega) (by omega) (by omega), f 38 (by omega) (by omega) (by omega) (by omega) (by omega) (by omega), f 40 (by omega) (by omega) (by omega) (by omega) (by omega) (by omega), f 52 (by omega) (by omega) (by omega) (by omega) (by omega) (by omega), r2.2.2.2.2.1]
      exact ⟨n3, n4, n5, n6, rfl⟩
    · rw [xR_cg (E0 508 (by omega) (by omega))]; exact c6
    · rw [xR_cg (E0 3 (by omega) (by omega)), f 14 (by omega) (by omega) (by omega) (by omega) (by omega) (by omega)]; exact ⟨c3, n7⟩
    · rw [f 3 (by omega) (by omega) (by omega) (by omega) (by omega) (by omega)] at h'
      omega
  · rw [f 2 (by omega) (by omega) (by omega) (by omega) (by omega) (by omega)] at h
    obtain ⟨D, M, tu, K, Rf, Rv, F, ht⟩ := op h
    refine ⟨D, M, tu, K, Rf, Rv, dsk_fr F ⟨r1 538 (by omega) (by omega) (by omega), r1 539 (by omega) (by omega) (by omega), r1 573 (by omega) (by omega) (by omega), fun i _ _ => ⟨by rw [r1 575 (by omega) (by omega) (by omega)], by rw [r1 576 (by omega) (by omega) (by omega)]⟩⟩ (fun a ha => r1 a (by omega) (by omega) (by omega)) (fun k hk => r3 k (by omega) (by omega) (by omega) (by omega) (by omega) (by omega)) (fun x _ _ => by rw [r1 516 (by omega) (by omega) (by omega)]), ht, fun h' => ?_, fun _ => ?_⟩
    · rw [f 3 (by omega) (by omega) (by omega) (by omega) (by omega) (by omega)] at h'
      omega
    · rw [xR_cg (E0 3 (by omega) (by omega)), xR_cg (E0 508 (by omega) (by omega))]
      exact ⟨c3.1, c3.2, c6.2.2.2.1⟩
  · rw [z0 12 (by omega)]
    have : m3 (m 0 12) = m1 (m 0 12) := E0 (m 0 12) (by omega) (by omega)
    rw [xR_cg this]
    exact c4.1
end FGT
