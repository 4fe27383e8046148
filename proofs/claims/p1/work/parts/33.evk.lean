/-! the table of comparisons for a stretch of the first int alone -/
def xo_Kl (off n : Nat) : List (List Value × Value) := (List.range n).map (fun c => ([.long (Int64.ofNat (c + off)), .double 0], .float (UInt32.ofNat (c + off + 1000))))
def xo_Ko (off n : Nat) : Instr → List (List Value × Value)
  | .lcmp => ([.double 6, .double 6], .int 0) :: xo_Kl off n
  | i => xo_K i
theorem xo_Kook (xs : Nat → Int32) {off n : Nat} (hn : off + n ≤ 3000) : ∀ i, ∀ q ∈ xo_Ko off n i, xy_e i (q.1.map (xy_v (xo_u xs))) = some (xy_v (xo_u xs) q.2) := by
  intro i q hq
  unfold xo_Ko at hq
  split at hq
  · rcases List.mem_cons.mp hq with rfl | hq
    · exact xo_k_lcmp xs _ List.mem_cons_self
    · obtain ⟨c, hc, rfl⟩ := List.mem_map.mp hq
      rw [List.mem_range] at hc
      have h1 : (UInt32.ofNat (c + off + 1000)).toNat = c + off + 1000 := UInt32.toNat_ofNat_of_lt' (by show c + off + 1000 < 4294967296; omega)
      have h2 : (xo_u xs).1 (c + off + 1000) = lg_cmp ((xs 0 - 2).toInt64) (Int64.ofNat (c + off)) := by
        rw [xo_u1, xy_bf (by omega), xy_bf (by omega), show c + off + 1000 - 1000 = c + off by omega, cond_false, cond_false]
      show some (Value.int (lg_cmp ((xs 0 - 2).toInt64) (Int64.ofNat (c + off)))) = some (Value.int ((xo_u xs).1 (UInt32.ofNat (c + off + 1000)).toNat))
      rw [h1, h2]
  · exact xo_Kok xs i q hq
def xo_runo (off n : Nat) (B : List (Value × Nat × Nat)) (scr : Nat → Value) (L : Nat) (C : xy_Q) : Option (List (xy_Q × xy_O)) := xy_run (xo_Ko off n, B, 0, scr, L) xq_P 20000 (fun _ _ => false) 50 349 (8, ret, [], 0) xo_s0 C
theorem xo_fino {off n L : Nat} {xs : Nat → Int32} {B : List (Value × Nat × Nat)} {scr : Nat → Value} {C : xy_Q} (hn : off + n ≤ 3000) (hl : xo_all (xo_runo off n B scr L C) = true) (hC : xy_ok (xo_u xs) C) (hB : ∀ q ∈ B, xy_isI q.1 = true ∧ ¬ xy_I (xo_u xs) q.1 < 0 ∧ q.2.1 ≤ (xy_I (xo_u xs) q.1).toNatClampNeg ∧ (xy_I (xo_u xs) q.1).toNatClampNeg ≤ q.2.2) (hS : ∀ j, j < L → xy_v (xo_u xs) (scr j) = .int (xs j)) : ∃ (n d : Nat) (h' : xm_H) (ns' : Nat), d ≤ 1000 ∧ xm_run (xm_gg xs L) xt_P n d 349 (8, ret, [], 0) (0, [(0, .retAddr 9)], [], [], 0) = some (.inl (some (.int 1)), h', ns') := by
  unfold xo_all at hl
  split at hl
  · next l he =>
    have hN : xy_Nok (xo_u xs) (xo_Ko off n, B, 0, scr, L) xs L [] := ⟨xo_Kook xs hn, hB, Nat.le_refl _, hS, rfl⟩
    have hA : xy_A (xo_u xs) 0 [] := ⟨fun a b hab => hab, fun k _ => by show k = 0 + (k - 0); omega⟩
    have hH : xy_H (xo_u xs) 0 [] xo_s0.2.2.2.1 [] := ⟨fun k c hk => absurd (xy_hlt hk) (Nat.not_lt_zero k), rfl, Nat.le_refl _, Nat.zero_le _, fun a ha => absurd ha (Nat.not_lt_zero a)⟩
    obtain ⟨q, hq, hq1, hout⟩ := xy_sound (P := xq_P) rfl hN hA _ _ _ _ _ _ _ _ he hC [] 0 hH (Nat.le_refl _)
    have h1 := List.all_eq_true.mp hl q hq
    rw [Bool.or_eq_true] at h1
    rcases h1 with h1 | h1
    · obtain ⟨C', o⟩ := q
      unfold xo_one at h1
      split at h1
      · next x sh n heq =>
        have hx := of_decide_eq_true h1
        rw [heq] at hout
        obtain ⟨h', n', -, -, m, hm⟩ := hout
        rw [xq_Pe, hx] at hm
        exact ⟨m, 50, h', n', by omega, hm⟩
      · cases h1
    · exact absurd h1 (xo_badok hq1)
  · cases hl
