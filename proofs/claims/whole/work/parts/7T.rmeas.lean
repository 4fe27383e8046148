/-! THE MEASURES COME FROM THE DISK -/
section RMEAS
variable {B : Nat} {m : xw_M} {Q0 M : Int} {ms : Int → Int} {mn : Int → Int → Int}
/-- the bytes of the first measures -/
def msB (ms : Int → Int) : Nat → Int
  | 0 => 0
  | k + 1 => msB ms k + (1 + ms k)
theorem msB_mono (hm : ∀ k, 0 ≤ k → k < M → 0 ≤ ms k ∧ ms k ≤ 40) : ∀ (j i : Nat), ((i + j : Nat) : Int) ≤ M → msB ms i + j ≤ msB ms (i + j) := by
  intro j
  induction j with
  | zero => intro i _; rw [Nat.add_zero]; omega
  | succ j ih =>
    intro i hi
    have a1 := ih i (by omega)
    have a2 := hm ((i + j : Nat) : Int) (by omega) (by omega)
    rw [show i + (j + 1) = i + j + 1 from by omega]
    show _ ≤ msB ms (i + j) + (1 + ms ((i + j : Nat) : Int))
    omega
theorem rd_meas (hB : B ≤ 512) (hM : 0 ≤ M ∧ M ≤ 8) (h32 : xR m 3 2 = M) (hm : ∀ k, 0 ≤ k → k < M → 0 ≤ ms k ∧ ms k ≤ 40) (wm : ∀ k i, 0 ≤ k → k < M → 0 ≤ i → i < ms k → w8 (mn k i) = mn k i) (h : rs B m Q0) (hk : ∀ k, 0 ≤ k → k < M → tk (m 516) (Q0 + 8 * msB ms k.toNat) 8 = msk (ms k) 8 ∧ Byt (m 516) (Q0 + 8 * msB ms k.toNat + 8) (ms k) (mn k)) (hf : Q0 + 8 * msB ms M.toNat ≤ 64 * (B * 512 : Nat)) : ∃ m', xl2 (yl23_55 B) 1000000 530 0 m = some (.inl 0, m') ∧ rs B m' (Q0 + 8 * msB ms M.toNat) ∧ (∀ a, a ≠ 530 → (a < 6 ∨ 14 < a) → m' a = m a) ∧ (∀ k, k ≠ 2 → m' 530 k = m 530 k) ∧ ∀ k, 0 ≤ k → k < M → xR m' 14 k = ms k ∧ ∀ i, 0 ≤ i → i < ms k → xR m' (6 + k) i = mn k i := by
  have q0 : 0 ≤ Q0 := h.2.2
  generalize hN : (1000000 : Nat) = N
  have goal := xH_ex (Q := fun v m' => v = 0 ∧ rs B m' (Q0 + 8 * msB ms M.toNat) ∧ (∀ a, a ≠ 530 → (a < 6 ∨ 14 < a) → m' a = m a) ∧ (∀ k, k ≠ 2 → m' 530 k = m 530 k) ∧ ∀ k, 0 ≤ k → k < M → xR m' 14 k = ms k ∧ ∀ i, 0 ≤ i → i < ms k → xR m' (6 + k) i = mn k i) (xl2_rule (F := yl23_55 B) (fun y1 x m' => y1 = 530 ∧ 0 ≤ x ∧ x ≤ M ∧ rs B m' (Q0 + 8 * msB ms x.toNat) ∧ (∀ a, a ≠ 530 → (a < 6 ∨ 14 < a) → m' a = m a) ∧ (∀ k, k ≠ 2 → m' 530 k = m 530 k) ∧ ∀ k, 0 ≤ k → k < x → xR m' 14 k = ms k ∧ ∀ i, 0 ≤ i → i < ms k → xR m' (6 + k) i = mn k i) (fun _ x _ => (M - x).toNat) ?_ N 530 0 m ⟨rfl, by omega, hM.1, by rw [show msB ms (0 : Int).toNat = 0 from rfl, show Q0 + 8 * 0 = Q0 from by omega]; exact h, fun _ _ _ => rfl, fun _ _ => rfl, fun i i0 i1 => absurd i1 (Int.not_lt.mpr i0)⟩ (by omega))
  · obtain ⟨v, m', e, rfl, h⟩ := goal
    exact ⟨m', e, h⟩
  · intro r y1 x mx ⟨b1, x0, x1, R, F, G, P⟩ ih
    subst b1
    have q32 : xR mx 3 2 = M := by rw [xR_cg (F 3 (by decide) (by decide))]; exact h32
    unfold yl23_55
    rw [q32]
    by_cases hx : x < M
    · obtain ⟨l0, l1⟩ := hm x x0 hx
      obtain ⟨ob, le⟩ := mn_f B x0 (show x < 8 by omega)
      obtain ⟨k1, k2⟩ := hk x x0 hx
      have c0 := msB_mono hm x.toNat 0 (by omega)
      rw [Nat.zero_add, show msB ms 0 = 0 from rfl] at c0
      have c1 := msB_mono hm (M.toNat - (x.toNat + 1)) (x.toNat + 1) (by omega)
      rw [show x.toNat + 1 + (M.toNat - (x.toNat + 1)) = M.toNat from by omega] at c1
      have hst : msB ms (x.toNat + 1) = msB ms x.toNat + (1 + ms x) := by
        show msB ms x.toNat + (1 + ms ((x.toNat : Nat) : Int)) = _
        rw [Int.toNat_of_nonneg x0]
      have w5 : mx 516 = m 516 := F 516 (by decide) (by decide)
      obtain ⟨ma, ea, Ra, Ga⟩ := upto_b (b := 8) (c := 40) (v := ms x) hB R (by decide) (by decide) (by omega) (by rw [w5]; exact k1.trans (msk_nn l0 (by omega) (by decide))) l0 l1 (by decide)
      have w6 : (xw_u ma 14 x (ms x)) 516 = m 516 := by rw [xu_c (by decide), Ga.1 516 (by decide)]; exact w5
      obtain ⟨mb, eb, Rb, Gb, Vb⟩ := rd_bytes (B := B) (a := 6 + x) (sz := ms x) (f := mn x) hB ob (by rw [le]; exact l1) l0 l1 (by omega) (by omega) (fun i i0 i1 => wm x i x0 hx i0 i1) (rs_u (c := 14) (i := x) (v := ms x) Ra (by decide)) (by rw [w6]; exact k2) (by omega)
      rw [if_pos hx, if_pos (by decide), ea, xB_ret, if_pos ⟨x0, by omega⟩, eb, xB_ret, w32_id (by omega) (by omega)]
      refine ih _ _ _ ⟨rfl, by omega, by omega, ?_, fun a a1 a2 => ?_, fun k hk' => ?_, fun k k0 k1' => ?_⟩ (by omega)
      · rw [show Q0 + 8 * msB ms (x + 1).toNat = Q0 + 8 * msB ms x.toNat + 8 + 8 * ms x from by rw [show (x + 1).toNat = x.toNat + 1 from by omega, hst]; omega]
        exact Rb
      · rw [Gb.1 a a1 (by omega), xu_c (by omega), Ga.1 a a1]
        exact F a a1 a2
      · rw [Gb.2 k hk', xu_c (by decide), Ga.2 k hk']
        exact G k hk'
      · have e14 : xR mb 14 k = if k = x then ms x else xR mx 14 k := by
          rw [xR_cg (Gb.1 14 (by decide) (by omega)), xR_u]
          by_cases ek : k = x
          · rw [if_pos ⟨rfl, ek⟩, if_pos ek, w32_id (by omega) (by omega)]
          · rw [if_neg (fun h' => ek h'.2), if_neg ek, xR_cg (Ga.1 14 (by decide))]
        rw [e14]
        by_cases ek : k = x
        · rw [if_pos ek, ek]
          exact ⟨rfl, Vb⟩
        · rw [if_neg ek]
          obtain ⟨s1, s2⟩ := P k k0 (by omega)
          refine ⟨s1, fun i i0 i1 => ?_⟩
          rw [xR_cg (Gb.1 (6 + k) (by omega) (by omega)), xR_cg (xu_c (by omega)), xR_cg (Ga.1 (6 + k) (by omega))]
          exact s2 i i0 i1
    · have e : x = M := by omega
      subst e
      rw [if_neg hx, xH_ret]
      exact ⟨rfl, R, F, G, P⟩
end RMEAS
