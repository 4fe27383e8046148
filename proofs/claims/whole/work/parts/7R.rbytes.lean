/-! THE CATALOG COMES FROM THE DISK: bytes -/
theorem w8_id {x : Int} (h : w8 x = x) : w32 x = x := by
  unfold w8 at h
  unfold w32
  omega
section RBYTES
variable {B : Nat} {m : xw_M} {p a sz : Int}
/-- only the reader's place, and cell a below sz -/
def rb (m m' : xw_M) (a : Int) : Prop := (∀ c, c ≠ 530 → c ≠ a → m' c = m c) ∧ ∀ k, k ≠ 2 → m' 530 k = m 530 k
theorem rd_bytes (hB : B ≤ 512) (ha : xw_obb 18 a = true) (hle : sz ≤ xw_le B a) (s0 : 0 ≤ sz) (s1 : sz ≤ 40) (a1 : a ≠ 530) (a2 : a ≠ 516) {f : Int → Int} (hf : ∀ i, 0 ≤ i → i < sz → w8 (f i) = f i) (h : rs B m p) (hb : Byt (m 516) p sz f) (hl : p + 8 * sz ≤ 64 * (B * 512 : Nat)) : ∃ m', yf25 B 530 a sz m = some (.inl 0, m') ∧ rs B m' (p + 8 * sz) ∧ rb m m' a ∧ ∀ i, 0 ≤ i → i < sz → xR m' a i = f i := by
  unfold yf25
  generalize hN : (1000000 : Nat) = N
  have goal := xH_ex (Q := fun v m' => v = 0 ∧ rs B m' (p + 8 * sz) ∧ rb m m' a ∧ ∀ i, 0 ≤ i → i < sz → xR m' a i = f i) (xl4_rule (F := yl25_2 B) (fun y0 y1 y2 x m' => (y0 = 530 ∧ y1 = a ∧ y2 = sz) ∧ 0 ≤ x ∧ x ≤ sz ∧ rs B m' (p + 8 * x) ∧ rb m m' a ∧ ∀ i, 0 ≤ i → i < x → xR m' a i = f i) (fun _ _ _ x _ => (sz - x).toNat) ?_ N 530 a sz 0 m ⟨⟨rfl, rfl, rfl⟩, by omega, s0, by rw [show p + 8 * 0 = p from by omega]; exact h, ⟨fun _ _ _ => rfl, fun _ _ => rfl⟩, fun i i0 i1 => absurd i1 (Int.not_lt.mpr i0)⟩ (by omega))
  · obtain ⟨v, m', e, rfl, h⟩ := goal
    exact ⟨m', e, h⟩
  · intro r y0 y1 y2 x mx ⟨⟨b1, b2, b3⟩, x0, x1, R, F, V⟩ ih
    subst b1 b2 b3
    unfold yl25_2
    by_cases hx : x < y2
    · obtain ⟨m2, e2, R2, G2⟩ := take_b (b := 8) hB R (by decide) (by decide) (by omega)
      have k : tk (mx 516) (p + 8 * x) (Int.toNat 8) = msk (f x) 8 := by
        rw [F.1 516 (by decide) (Ne.symm a2)]
        exact hb x x0 hx
      rw [if_pos hx, if_pos (by decide), e2, xB_ret, if_pos ⟨x0, by omega⟩, if_pos ha, k, msk_8, hf x x0 hx, hf x x0 hx, w32_id (by omega) (by omega)]
      refine ih _ _ _ _ _ ⟨⟨rfl, rfl, rfl⟩, by omega, by omega, ?_, ⟨fun c c1 c2 => by rw [xu_c c2, G2.1 c c1]; exact F.1 c c1 c2, fun j hj => by rw [xu_c (Ne.symm a1), G2.2 j hj]; exact F.2 j hj⟩, fun i i0 i1 => ?_⟩ (by omega)
      · have := rs_u (c := y1) (i := x) (v := f x) R2 a1
        rw [show p + 8 * (x + 1) = p + 8 * x + 8 from by omega]
        exact this
      · rw [xR_u]
        by_cases ei : i = x
        · rw [if_pos ⟨rfl, ei⟩, ei, w8_id (hf x x0 hx)]
        · rw [if_neg (fun h' => ei h'.2), xR_cg (G2.1 y1 a1)]
          exact V i i0 (by omega)
    · have e : x = y2 := by omega
      subst e
      rw [if_neg hx, xH_ret]
      exact ⟨rfl, R, F, V⟩
end RBYTES
