/-! THE ANSWER, by the class: a table's row: memberAt, factsAt, columnOf, columnsFor -/
section TBR
variable {B : Nat} {m : xw_M}
theorem mem_f {d row : Int} (d0 : 0 ≤ d) (d1 : d < 8) (r0 : 0 ≤ row) (r1 : row < 1024) (h7 : xR m 302 7 = 0) (hc : xR m 372 d = d) : yf124 B d row m = some (.inl (w32 (xJ m (304 + d) row)), m) := by
  obtain ⟨o, le⟩ := c304 B d0 (by omega : d < 33)
  unfold yf124
  rw [if_pos ⟨d0, d1⟩, hc, if_neg (by omega), if_pos (by omega), le, if_pos ⟨r0, r1⟩, if_pos o, h7, if_pos rfl]
theorem mem_v {d row c l r : Int} (d0 : 0 ≤ d) (d1 : d < 8) (r0 : 0 ≤ row) (r1 : row < 1024) (h7 : xR m 302 7 = 1) (hc : xR m 372 d = c) (c0 : 0 ≤ c) (c1 : c < 33) (hl : xR m 371 d = l) (l0 : 0 ≤ l) (l1 : l < 4) (hr : w32 (xJ m (304 + c) row) = r) (q0 : 0 ≤ r) (q1 : r < 1000) : yf124 B d row m = some (.inl (xR m (15 + 26 * d + 19 + l) r), m) := by
  obtain ⟨o, le⟩ := c304 B c0 c1
  have e1 : ¬ c = -1 := by omega
  have e2 : ¬ (1 : Int) = 0 := by decide
  have e3 := dm_f B d0 d1
  have e4 := (dm_l B d0 d1 l0 l1).2.2.1
  unfold yf124
  rw [if_pos ⟨d0, d1⟩, hc, if_neg e1, if_pos ⟨c0, c1⟩, le, if_pos ⟨r0, r1⟩, if_pos o, h7, if_neg e2, if_pos e3.1, hl, e3.2.1.2.2.2.2.2.1, e3.2.2.2.2.2.2.2.2.1, if_pos ⟨l0, l1⟩, if_pos e4.1, if_pos e3.2.2.1.2.2.2.2.2.1, hr, e4.2.1, e4.2.2.2, if_pos ⟨q0, q1⟩, if_pos e4.2.2.1]
theorem fac_f {row : Int} (h7 : xR m 302 7 = 0) : yf127 B row m = some (.inl 1, m) := by
  unfold yf127
  rw [h7, if_pos rfl]
theorem fac_v {row P : Int} (h7 : xR m 302 7 = 1) (h5 : xR m 302 5 = P) (p0 : 0 ≤ P) (p1 : P < 33) (r0 : 0 ≤ row) (r1 : row < 1024) : yf127 B row m = some (.inl (xJ m (304 + P) row), m) := by
  obtain ⟨o, le⟩ := c304 B p0 p1
  have e2 : ¬ (1 : Int) = 0 := by decide
  unfold yf127
  rw [h7, if_neg e2, h5, if_pos ⟨p0, p1⟩, le, if_pos ⟨r0, r1⟩, if_pos o]
theorem col_f {K a D : Int} (h7 : xR m 302 7 = 0) (h5 : xR m 302 5 = D) (d0 : 0 ≤ D) (d1 : D ≤ 8) (a0 : 0 ≤ a) (a1 : a < 8) : yf112 B K a m = some (.inl (D + a), m) := by
  unfold yf112
  rw [h7, if_pos rfl, h5, w32_id (by omega) (by omega)]
def vco (P K a : Int) : Int := P + 1 + 3 * a + (if K = 210 then 0 else if K = 212 then 1 else 2)
theorem col_v {K a P : Int} (h7 : xR m 302 7 = 1) (h5 : xR m 302 5 = P) (d0 : 0 ≤ P) (d1 : P ≤ 8) (a0 : 0 ≤ a) (a1 : a < 8) : yf112 B K a m = some (.inl (vco P K a), m) := by
  have e2 : ¬ (1 : Int) = 0 := by decide
  unfold yf112 vco
  rw [h7, if_neg e2, h5]
  by_cases k1 : K = 210
  · rw [if_pos k1, if_pos k1, w32_id (by omega) (by omega)]
  · rw [if_neg k1, if_neg k1]
    by_cases k2 : K = 212
    · rw [if_pos k2, if_pos k2, w32_id (by omega) (by omega)]
    · rw [if_neg k2, if_neg k2, w32_id (by omega) (by omega)]
theorem orb {w c : Int} (c0 : 0 ≤ c) (c1 : c < 64) : bt (xw_lorf w (xw_lshlf 1 c)) c.toNat = true ∧ ∀ i, bt w i = true → bt (xw_lorf w (xw_lshlf 1 c)) i = true := by
  constructor
  · rw [bt_or, bt_shlI 1 c0 c1, decide_eq_true (by omega : c.toNat < 64), decide_eq_true (Nat.le_refl _), Nat.sub_self, bt_e (by decide)]
    simp
  · intro i h
    rw [bt_or, h]; rfl
theorem cfi_l {n : Int} (hn : xR m 223 2 = n) (n1 : n ≤ 24) (hc : ∀ i, 0 ≤ i → i < n → (xR m 224 i = 210 ∨ xR m 224 i = 212 ∨ xR m 224 i = 213) → ∃ cc, yf112 B (xR m 224 i) (xR m 225 i) m = some (.inl cc, m) ∧ 0 ≤ cc ∧ cc < 33) : ∀ (N : Nat) (i w : Int), 0 ≤ i → i ≤ n → (n - i).toNat < N → ∃ w', xl2 (yl111_74 B) N w i m = some (.inl w', m) ∧ (∀ j, bt w j = true → bt w' j = true) ∧ ∀ j, i ≤ j → j < n → (xR m 224 j = 210 ∨ xR m 224 j = 212 ∨ xR m 224 j = 213) → ∀ cc, yf112 B (xR m 224 j) (xR m 225 j) m = some (.inl cc, m) → bt w' cc.toNat = true := by
  intro N
  induction N with
  | zero => intro i w _ _ h; omega
  | succ N ih =>
    intro i w i0 i1 hN
    show ∃ w', yl111_74 B (xl2 (yl111_74 B) N) w i m = _ ∧ _
    have IH := fun w => ih (i + 1) w
    clear ih
    generalize xl2 (yl111_74 B) N = R at IH ⊢
    unfold yl111_74
    rw [hn]
    by_cases q : i < n
    · have ib : 0 ≤ i ∧ i < 24 := by omega
      have wi : w32 (i + 1) = i + 1 := w32_id (by omega) (by omega)
      have IH2 := fun w => IH w (by omega) (by omega) (by omega)
      have G : (xR m 224 i = 210 ∨ xR m 224 i = 212 ∨ xR m 224 i = 213) → ∃ w', yk111_116 B R w i (xR m 224 i) m = some (.inl w', m) ∧ (∀ j, bt w j = true → bt w' j = true) ∧ ∀ j, i ≤ j → j < n → (xR m 224 j = 210 ∨ xR m 224 j = 212 ∨ xR m 224 j = 213) → ∀ cc, yf112 B (xR m 224 j) (xR m 225 j) m = some (.inl cc, m) → bt w' cc.toNat = true := by
        intro hk
        obtain ⟨cc, c1, c2, c3⟩ := hc i i0 q hk
        obtain ⟨b1, b2⟩ := orb (w := w) c2 (by omega : cc < 64)
        unfold yk111_116
        rw [if_pos ib, c1, xB_ret, wi]
        obtain ⟨w', e1, e2, e3⟩ := IH2 (xw_lorf w (xw_lshlf 1 cc))
        refine ⟨w', e1, fun j hj => e2 j (b2 j hj), fun j j0 j1 hj c hc' => ?_⟩
        by_cases ji : j = i
        · rw [ji] at hc'
          have ce : c = cc := by rw [c1] at hc'; injection hc' with h; injection h with h _; injection h with h; exact h.symm
          rw [ce]; exact e2 _ b1
        · exact e3 j (by omega) j1 hj c hc'
      rw [if_pos q, if_pos ib]
      by_cases k1 : xR m 224 i = 210
      · rw [if_pos k1]; exact G (Or.inl k1)
      · rw [if_neg k1]
        by_cases k2 : xR m 224 i = 212
        · rw [if_pos k2]; exact G (Or.inr (Or.inl k2))
        · rw [if_neg k2]
          by_cases k3 : xR m 224 i = 213
          · rw [if_pos k3]; exact G (Or.inr (Or.inr k3))
          · rw [if_neg k3, wi]
            obtain ⟨w', e1, e2, e3⟩ := IH2 w
            refine ⟨w', e1, e2, fun j j0 j1 hj => ?_⟩
            by_cases ji : j = i
            · rw [ji] at hj; omega
            · exact e3 j (by omega) j1 hj
    · rw [if_neg q]
      exact ⟨w, rfl, fun _ h => h, fun j j0 j1 => by omega⟩
end TBR
