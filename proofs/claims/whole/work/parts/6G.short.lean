/-! THE REFERENCE: a column's shortest form (shortest) -/
theorem whole_ok {B : Nat} {m : xw_M} {x : Int} (h0 : 0 ≤ x) (h1 : x ≤ 1000000) : yf329 B x m = some (.inl ((x + 7) / 8), m) := by
  unfold yf329
  rw [w32_id (by omega) (by omega), if_pos (by omega)]
theorem shortest_ok {B : Nat} {m : xw_M} {n : Int} (hn : 1 ≤ n) (hn2 : n ≤ 1024) : ∃ m', yf326 B n m = some (.inl (colB (xJ m 593) n), m') ∧ f594 m m' := by
  have hfw : ∀ i, w64 (xJ m 593 i) = xJ m 593 i := fun i => w64_w _
  have loop : ∀ s1 s2, s1 = (if 1 < n then stL (xJ m 593) 0 else 0) → s2 = (if 1 < n then stH (xJ m 593) 0 else 0) → ∃ m', xl7 (yl326_49 B) 1000000 n (xJ m 593 0) (xJ m 593 0) s1 s2 1 1 m = some (.inl (colB (xJ m 593) n), m') ∧ f594 m m' := by
    intro s1 s2 hs1 hs2
    have goal := xH_ex (Q := fun v m' => v = colB (xJ m 593) n ∧ f594 m m') (xl7_rule (F := yl326_49 B) (fun x0 x1 x2 x3 x4 x5 x6 m' => x0 = n ∧ m' = m ∧ 1 ≤ x6 ∧ x6 ≤ n ∧ x1 = svL (xJ m 593) (x6 - 1).toNat ∧ x2 = svH (xJ m 593) (x6 - 1).toNat ∧ x3 = (if 1 < n then stL (xJ m 593) (x6 - 1).toNat else 0) ∧ x4 = (if 1 < n then stH (xJ m 593) (x6 - 1).toNat else 0) ∧ x5 = svR (xJ m 593) (x6 - 1).toNat) (fun _ _ _ _ _ _ x6 _ => (n - x6).toNat) ?_ 1000000 n (xJ m 593 0) (xJ m 593 0) s1 s2 1 1 m ⟨rfl, rfl, by omega, by omega, rfl, rfl, hs1, hs2, rfl⟩ (by omega))
    · obtain ⟨v, m', e, rfl, h⟩ := goal
      exact ⟨m', e, h⟩
    · intro r x0 x1 x2 x3 x4 x5 x6 m' ⟨a0, a1, a2, a3, a4, a5, a6, a7, a8⟩ ih
      subst a0 a1
      have hr := svR_b (xJ m' 593) (x6 - 1).toNat
      unfold yl326_49
      by_cases hx : x6 < x0
      · have ek : (x6 + 1 - 1).toNat = (x6 - 1).toNat + 1 := by omega
        have ei : (((x6 - 1).toNat : Nat) : Int) + 1 = x6 := by omega
        have q1 : svL (xJ m' 593) (x6 + 1 - 1).toNat = min x1 (xJ m' 593 x6) := by
          rw [ek, a4]
          show min _ (xJ m' 593 ((((x6 - 1).toNat : Nat) : Int) + 1)) = _
          rw [ei]
        have q2 : svH (xJ m' 593) (x6 + 1 - 1).toNat = max x2 (xJ m' 593 x6) := by
          rw [ek, a5]
          show max _ (xJ m' 593 ((((x6 - 1).toNat : Nat) : Int) + 1)) = _
          rw [ei]
        have q3 : (if 1 < x0 then stL (xJ m' 593) (x6 + 1 - 1).toNat else 0) = min x3 (stp (xJ m' 593) x6) := by
          rw [ek, a6, if_pos (by omega), if_pos (by omega)]
          show min _ (stp (xJ m' 593) ((((x6 - 1).toNat : Nat) : Int) + 1)) = _
          rw [ei]
        have q4 : (if 1 < x0 then stH (xJ m' 593) (x6 + 1 - 1).toNat else 0) = max x4 (stp (xJ m' 593) x6) := by
          rw [ek, a7, if_pos (by omega), if_pos (by omega)]
          show max _ (stp (xJ m' 593) ((((x6 - 1).toNat : Nat) : Int) + 1)) = _
          rw [ei]
        have q5 : svR (xJ m' 593) (x6 + 1 - 1).toNat = x5 + (if stp (xJ m' 593) x6 = 0 then 0 else 1) := by
          rw [ek, a8]
          show _ + (if stp (xJ m' 593) ((((x6 - 1).toNat : Nat) : Int) + 1) = 0 then 0 else 1) = _
          rw [ei]
        rw [if_pos hx, if_pos ⟨by omega, by omega⟩, if_pos ⟨by omega, by omega⟩, w32_id (x := x6 + 1) (by omega) (by omega)]
        by_cases hz : w64 (xJ m' 593 x6 - xJ m' 593 (x6 - 1)) = 0
        · rw [if_pos hz]
          have hz2 : stp (xJ m' 593) x6 = 0 := hz
          refine ih _ _ _ _ _ _ _ _ ⟨rfl, rfl, by omega, by omega, q1.symm, q2.symm, q3.symm, q4.symm, ?_⟩ (by omega)
          rw [q5, if_pos hz2, w32_id (by omega) (by omega)]
        · rw [if_neg hz]
          have hz2 : ¬ stp (xJ m' 593) x6 = 0 := hz
          refine ih _ _ _ _ _ _ _ _ ⟨rfl, rfl, by omega, by omega, q1.symm, q2.symm, q3.symm, q4.symm, ?_⟩ (by omega)
          rw [q5, if_neg hz2, w32_id (by omega) (by omega)]
      · have ex : x6 = x0 := by omega
        subst ex
        obtain ⟨m1, e1, F1⟩ := diff_ok (B := B) (m := m') hn hn2
        have hd1 := dst_pos (xJ m' 593) (k := x6.toNat) (by omega)
        have hd2 := dst_le (xJ m' 593) x6.toNat
        have bs := spn_b hfw x6
        have bt' := sps_b (xJ m' 593) x6
        have c1 : w64 (x2 - x1) % 18446744073709551616 = spn (xJ m' 593) x6 := by
          rw [a4, a5]
          show w64 (spn (xJ m' 593) x6) % _ = _
          unfold w64
          omega
        have c2 : w64 (x4 - x3) % 18446744073709551616 = sps (xJ m' 593) x6 := by
          have : x4 - x3 = sps (xJ m' 593) x6 := by
            rw [a6, a7]
            unfold sps
            split <;> omega
          rw [this]
          unfold w64
          omega
        rw [if_neg hx, e1, xB_ret, bits_ok (w64_w _), xB_ret, c1]
        have n1 := nb_nn (spn (xJ m' 593) x6)
        have n2 := nb_le64 bs.1 bs.2
        have n3 := nb_nn (sps (xJ m' 593) x6)
        have n4 := nb_le64 bt'.1 bt'.2
        have l1 := mulb (n := x6) (b := nb (spn (xJ m' 593) x6)) (by omega) hn2 n1 n2
        have l2 := mulb (n := x6 - 1) (b := nb (sps (xJ m' 593) x6)) (by omega) (by omega) n3 n4
        have n5 := nb_nn (((dst (xJ m' 593) x6.toNat : Nat) : Int) - 1)
        have n6 := nb_le64 (u := ((dst (xJ m' 593) x6.toNat : Nat) : Int) - 1) (by omega) (by omega)
        have l3 := mulb (n := x6) (b := nb (((dst (xJ m' 593) x6.toNat : Nat) : Int) - 1)) (by omega) hn2 n5 n6
        rw [w32_id (x := x6 * nb (spn (xJ m' 593) x6)) (by omega) (by omega), whole_ok l1.1 (by omega), xB_ret, w32_id (x := ((dst (xJ m' 593) x6.toNat : Nat) : Int) - 1) (by omega) (by omega), bits_ok (w64_id (by omega) (by omega)), xB_ret, Int.emod_eq_of_lt (a := ((dst (xJ m' 593) x6.toNat : Nat) : Int) - 1) (by omega) (by omega), w32_id (x := x6 * nb (((dst (xJ m' 593) x6.toNat : Nat) : Int) - 1)) (by omega) (by omega), whole_ok l3.1 (by omega), xB_ret, bits_ok (w64_w _), xB_ret, c2, w32_id (x := (x6 - 1) * nb (sps (xJ m' 593) x6)) (by omega) (by omega), whole_ok l2.1 (by omega), xB_ret, xH_ret]
        refine ⟨?_, F1⟩
        unfold colB wgP wgL wgR wgS
        rw [w32_id (x := 8 * x6) (by omega) (by omega), w32_id (x := 9 + (x6 * nb (spn (xJ m' 593) x6) + 7) / 8) (by omega) (by omega), w32_id (x := 2 + 8 * ((dst (xJ m' 593) x6.toNat : Nat) : Int) + (x6 * nb (((dst (xJ m' 593) x6.toNat : Nat) : Int) - 1) + 7) / 8) (by omega) (by omega), a8, w32_id (x := 2 + 10 * svR (xJ m' 593) (x6 - 1).toNat) (by omega) (by omega), w32_id (x := 17 + ((x6 - 1) * nb (sps (xJ m' 593) x6) + 7) / 8) (by omega) (by omega)]
  unfold yf326
  by_cases h : 1 < n
  · rw [if_pos h]
    exact loop _ _ (by rw [if_pos h]; rfl) (by rw [if_pos h]; rfl)
  · rw [if_neg h]
    exact loop _ _ (by rw [if_neg h]) (by rw [if_neg h])
/-- a column's weight is that of its cells -/
theorem svL_cg {f g : Int → Int} (k : Nat) (h : ∀ i : Nat, i ≤ k → f i = g i) : svL f k = svL g k := by
  induction k with
  | zero => exact h 0 (by omega)
  | succ k ih =>
    show min (svL f k) (f ((k : Int) + 1)) = min (svL g k) (g ((k : Int) + 1))
    rw [ih (fun i hi => h i (by omega)), show (k : Int) + 1 = ((k + 1 : Nat) : Int) from by omega, h (k + 1) (by omega)]
theorem svH_cg {f g : Int → Int} (k : Nat) (h : ∀ i : Nat, i ≤ k → f i = g i) : svH f k = svH g k := by
  induction k with
  | zero => exact h 0 (by omega)
  | succ k ih =>
    show max (svH f k) (f ((k : Int) + 1)) = max (svH g k) (g ((k : Int) + 1))
    rw [ih (fun i hi => h i (by omega)), show (k : Int) + 1 = ((k + 1 : Nat) : Int) from by omega, h (k + 1) (by omega)]
theorem stp_cg {f g : Int → Int} {k : Nat} (h : ∀ i : Nat, i ≤ k + 1 → f i = g i) : stp f ((k : Int) + 1) = stp g ((k : Int) + 1) := by
  unfold stp
  rw [show (k : Int) + 1 - 1 = ((k : Nat) : Int) from by omega, h k (by omega), show (k : Int) + 1 = ((k + 1 : Nat) : Int) from by omega, h (k + 1) (by omega)]
theorem stL_cg {f g : Int → Int} (k : Nat) (h1 : 1 ≤ k) (h : ∀ i : Nat, i ≤ k → f i = g i) : stL f k = stL g k := by
  induction k with
  | zero => omega
  | succ k ih =>
    show min (stL f k) (stp f ((k : Int) + 1)) = min (stL g k) (stp g ((k : Int) + 1))
    rw [stp_cg h]
    rcases k with _ | k
    · show min (stp f 1) _ = min (stp g 1) _
      rw [show stp f 1 = stp g 1 from stp_cg (k := 0) h]
    · rw [ih (by omega) (fun i hi => h i (by omega))]
theorem stH_cg {f g : Int → Int} (k : Nat) (h1 : 1 ≤ k) (h : ∀ i : Nat, i ≤ k → f i = g i) : stH f k = stH g k := by
  induction k with
  | zero => omega
  | succ k ih =>
    show max (stH f k) (stp f ((k : Int) + 1)) = max (stH g k) (stp g ((k : Int) + 1))
    rw [stp_cg h]
    rcases k with _ | k
    · show max (stp f 1) _ = max (stp g 1) _
      rw [show stp f 1 = stp g 1 from stp_cg (k := 0) h]
    · rw [ih (by omega) (fun i hi => h i (by omega))]
theorem svR_cg {f g : Int → Int} (k : Nat) (h : ∀ i : Nat, i ≤ k → f i = g i) : svR f k = svR g k := by
  induction k with
  | zero => rfl
  | succ k ih =>
    show svR f k + (if stp f ((k : Int) + 1) = 0 then 0 else 1) = svR g k + (if stp g ((k : Int) + 1) = 0 then 0 else 1)
    rw [ih (fun i hi => h i (by omega)), stp_cg h]
theorem colB_cg {f g : Int → Int} {n : Int} (hn : 1 ≤ n) (h : ∀ i : Int, 0 ≤ i → i < n → f i = g i) : colB f n = colB g n := by
  have hk : ∀ i : Nat, i ≤ (n - 1).toNat → f i = g i := fun i hi => h i (by omega) (by omega)
  have e1 : spn f n = spn g n := by
    unfold spn
    rw [svL_cg _ hk, svH_cg _ hk]
  have e2 : sps f n = sps g n := by
    unfold sps
    by_cases h1 : 1 < n
    · rw [if_pos h1, if_pos h1, stL_cg _ (by omega) hk, stH_cg _ (by omega) hk]
    · rw [if_neg h1, if_neg h1]
  have e3 : dst f n.toNat = dst g n.toNat := dst_cg (fun i hi => h i (by omega) (by omega))
  unfold colB wgP wgL wgR wgS
  rw [e1, e2, e3, svR_cg _ hk]
theorem colB_b {f : Int → Int} (hf : ∀ i, w64 (f i) = f i) {n : Int} (hn : 1 ≤ n) (hn2 : n ≤ 1024) : 0 ≤ colB f n ∧ colB f n ≤ 8 * n := by
  have hr := svR_b f (n - 1).toNat
  have bs := spn_b hf n
  have bt' := sps_b f n
  have l1 := mulb (n := n) (b := nb (spn f n)) (by omega) hn2 (nb_nn _) (nb_le64 bs.1 bs.2)
  have l2 := mulb (n := n - 1) (b := nb (sps f n)) (by omega) (by omega) (nb_nn _) (nb_le64 bt'.1 bt'.2)
  have l3 : 0 ≤ n * nb ((dst f n.toNat : Nat) - 1) := Int.mul_nonneg (by omega) (nb_nn _)
  unfold colB wgP wgL wgR wgS
  omega
