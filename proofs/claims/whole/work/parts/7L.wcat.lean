/-! THE CATALOG GOES TO THE TAPE: bytes, values, a dimension -/
/-- bytes on the tape -/
def Byt (W : Int → Int) (p sz : Int) (f : Int → Int) : Prop := ∀ i, 0 ≤ i → i < sz → tk W (p + 8 * i) 8 = msk (f i) 8
/-- ints on the tape -/
def Vls (W : Int → Int) (p n : Int) (f : Int → Int) : Prop := ∀ i, 0 ≤ i → i < n → tk W (p + 32 * i) 32 = msk (f i) 32
section WCAT
variable {B : Nat} {m : xw_M} {p : Int}
theorem Byt_fw {m1 : xw_M} {q sz pe : Int} {f : Int → Int} (h : Byt (m 517) q sz f) (hf : fw m m1 pe) (q0 : 0 ≤ q) (hq : q + 8 * sz ≤ pe) : Byt (m1 517) q sz f := fun i i0 i1 => (fw_tk hf (by omega) (by omega)).trans (h i i0 i1)
theorem Vls_fw {m1 : xw_M} {q n pe : Int} {f : Int → Int} (h : Vls (m 517) q n f) (hf : fw m m1 pe) (q0 : 0 ≤ q) (hq : q + 32 * n ≤ pe) : Vls (m1 517) q n f := fun i i0 i1 => (fw_tk hf (by omega) (by omega)).trans (h i i0 i1)
theorem tst_0 (h : tst B m p) : 0 ≤ p := by
  rcases h with h | h
  · exact h.1.2.2.2.1
  · have := h.2
    omega
theorem put_tst (hB : B ≤ 512) {v n : Int} (h : tst B m p) (hn : 0 ≤ n) (hn2 : n ≤ 64) : ∃ m', yf152 B 518 v n m = some (.inl 0, m') ∧ tst B m' (p + n) ∧ fw m m' p ∧ (ws B m' (p + n) → ws B m p ∧ tk (m' 517) p n.toNat = msk v n.toNat) := by
  rcases h with ⟨h, hl⟩ | ⟨h, hl⟩
  · by_cases hf : p + n ≤ 64 * (B * 512 : Nat)
    · obtain ⟨m', e, w, f, t⟩ := put_ws hB (v := v) h hn hn2 hf
      exact ⟨m', e, Or.inl ⟨w, hf⟩, fr_fw f, fun _ => ⟨h, t⟩⟩
    · obtain ⟨m', e, o, g⟩ := put_ov (v := v) (n := n) (p := p) hB (m := m) (Or.inr ⟨h, hl, by omega⟩)
      exact ⟨m', e, Or.inr ⟨o, by omega⟩, ⟨fun a ha => g a (by omega), fun q _ _ => by rw [g 517 (by decide)]⟩, fun hw => absurd (hw.2.2.1.symm.trans o.2) (by decide)⟩
  · obtain ⟨m', e, o, g⟩ := put_ov (v := v) (n := n) (p := p) hB (m := m) (Or.inl h)
    exact ⟨m', e, Or.inr ⟨o, by omega⟩, ⟨fun a ha => g a (by omega), fun q _ _ => by rw [g 517 (by decide)]⟩, fun hw => absurd (hw.2.2.1.symm.trans o.2) (by decide)⟩
theorem wr_bytes (hB : B ≤ 512) {a sz : Int} (ha : xw_obb 18 a = true) (hle : sz ≤ xw_le B a) (s0 : 0 ≤ sz) (s1 : sz ≤ 40) (han : a < 517 ∨ 523 < a) (h : tst B m p) : ∃ m', yf155 B 518 a sz m = some (.inl 0, m') ∧ tst B m' (p + 8 * sz) ∧ fw m m' p ∧ (ws B m' (p + 8 * sz) → ws B m p ∧ Byt (m' 517) p sz (xR m a)) := by
  have p0 := tst_0 h
  unfold yf155
  generalize hN : (1000000 : Nat) = N
  have goal := xH_ex (Q := fun v m' => v = 0 ∧ tst B m' (p + 8 * sz) ∧ fw m m' p ∧ (ws B m' (p + 8 * sz) → ws B m p ∧ Byt (m' 517) p sz (xR m a))) (xl4_rule (F := yl155_2 B) (fun y0 y1 y2 x m' => (y0 = 518 ∧ y1 = a ∧ y2 = sz) ∧ 0 ≤ x ∧ x ≤ sz ∧ tst B m' (p + 8 * x) ∧ fw m m' p ∧ (ws B m' (p + 8 * x) → ws B m p ∧ Byt (m' 517) p x (xR m a))) (fun _ _ _ x _ => (sz - x).toNat) ?_ N 518 a sz 0 m ⟨⟨rfl, rfl, rfl⟩, by omega, s0, by rw [show p + 8 * 0 = p from by omega]; exact h, fw_refl m p, fun hw => ⟨by rw [show p + 8 * 0 = p from by omega] at hw; exact hw, fun i i0 i1 => absurd i1 (Int.not_lt.mpr i0)⟩⟩ (by omega))
  · obtain ⟨v, m', e, rfl, h⟩ := goal
    exact ⟨m', e, h⟩
  · intro r y0 y1 y2 x m1 ⟨⟨b1, b2, b3⟩, x0, x1, T, F, V⟩ ih
    subst b1 b2 b3
    unfold yl155_2
    by_cases hx : x < y2
    · obtain ⟨m2, e2, t2, f2, v2⟩ := put_tst hB (v := xR m1 y1 x) (n := 8) T (by decide) (by decide)
      rw [if_pos hx, if_pos ⟨x0, by omega⟩, if_pos ha, if_pos (by decide), e2, xB_ret, w32_id (by omega) (by omega)]
      have ep : p + 8 * (x + 1) = p + 8 * x + 8 := by omega
      refine ih _ _ _ _ _ ⟨⟨rfl, rfl, rfl⟩, by omega, by omega, by rw [ep]; exact t2, fw_trans F f2 (by omega), fun hw => ?_⟩ (by omega)
      rw [ep] at hw
      obtain ⟨w1, k1⟩ := v2 hw
      obtain ⟨w0, k0⟩ := V w1
      refine ⟨w0, fun i i0 i1 => ?_⟩
      by_cases ei : i = x
      · rw [ei]
        have : xR m1 y1 x = xR m y1 x := by rw [xR_cg (F.1 y1 han)]
        rw [← this]
        exact k1
      · exact (fw_tk f2 (by omega) (by omega)).trans (k0 i i0 (by omega))
    · have e : x = y2 := by omega
      subst e
      rw [if_neg hx, xH_ret]
      exact ⟨rfl, T, F, V⟩
/-- the bytes of a dimension's first l levels -/
def lwB (ls : Int → Int) (n : Int) : Nat → Int
  | 0 => 0
  | l + 1 => lwB ls n l + (1 + ls l + 4 * n)
/-- a dimension on the tape -/
def Dmn (W : Int → Int) (p sz L n : Int) (nm ls : Int → Int) (ln vv : Int → Int → Int) : Prop := tk W p 8 = msk sz 8 ∧ tk W (p + 8) 8 = msk L 8 ∧ tk W (p + 16) 16 = msk n 16 ∧ Byt W (p + 32) sz nm ∧ ∀ l : Nat, (l : Int) < L → tk W (p + 32 + 8 * sz + 8 * lwB ls n l) 8 = msk (ls l) 8 ∧ Byt W (p + 40 + 8 * sz + 8 * lwB ls n l) (ls l) (ln l) ∧ Vls W (p + 40 + 8 * sz + 8 * lwB ls n l + 8 * ls l) n (vv l)
end WCAT
