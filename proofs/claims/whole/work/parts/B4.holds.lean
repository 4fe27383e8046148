/-! THE ANSWER: whether a row holds, by the class (holds) and by the reference -/
section HLD
variable {B : Nat}
theorem holds_l {m : xw_M} {row n s : Int} {v : Int → Bool} (hs : xR m 223 13 = s) (s1 : s ≤ 240) (n1 : n ≤ 60) (wf : wfC (xR m 291) s.toNat n) (hv : ∀ i, 0 ≤ i → i < n → 0 ≤ xR m 229 i ∧ ∃ p, yf124 B (xR m 229 i / 4) row m = some (.inl p, m) ∧ (0 ≤ p ∧ p < 1000) ∧ xR m (231 + i) p = b01 (v i)) : ∀ (N k : Nat), (k : Int) ≤ s → (s - k).toNat < N → xl3 (yl123_5 B) N row (bV (evC (xR m 291) v k)) k m = some (.inl (b01 (top (evC (xR m 291) v s.toNat))), m) := by
  intro N
  induction N with
  | zero => intro k _ hN; omega
  | succ N ih =>
    intro k k1 hN
    show yl123_5 B (xl3 (yl123_5 B) N) row (bV (evC (xR m 291) v k)) k m = _
    have IH := ih (k + 1)
    clear ih
    generalize xl3 (yl123_5 B) N = R at IH ⊢
    unfold yl123_5
    rw [hs]
    by_cases q : (k : Int) < s
    · have kb : (0 : Int) ≤ k ∧ (k : Int) < 240 := by omega
      have wk : w32 ((k : Int) + 1) = k + 1 := w32_id (by omega) (by omega)
      have IH2 := IH (by omega) (by omega)
      rw [show (((k + 1 : Nat)) : Int) = (k : Int) + 1 from by omega] at IH2
      have ln := evC_ln (v := v) wf k (by omega)
      have l60 := wf.2 k (by omega)
      have e1 : evC (xR m 291) v (k + 1) = opC v (xR m 291 k) (evC (xR m 291) v k) := rfl
      rw [e1] at IH2
      have w := wf.1 k (by omega)
      generalize hl : evC (xR m 291) v k = l at *
      generalize xR m 291 k = x at *
      generalize lenC (xR m 291) k = lc at *
      rw [if_pos q, if_pos kb, wk]
      unfold opC at IH2
      rcases w with ⟨x0, x1, x2⟩ | ⟨x0, x1⟩ | ⟨x0, x1⟩
      · obtain ⟨c0, p, c1, c2, c3⟩ := hv x x0 x1
        obtain ⟨o, le⟩ := hold_f B x0 x2
        have b := bV_60 (l := l) (by omega)
        rw [if_pos x2] at IH2 ⊢
        rw [if_pos ⟨x0, x2⟩, if_pos c0, c1, xB_ret, le, if_pos c2, if_pos o, c3, lpush (by omega) (by omega) (by have := b01_c (v x); omega)]
        exact IH2
      · have n2 : ¬ x < 60 := by omega
        rw [if_neg n2, if_pos x0] at IH2 ⊢
        rw [bV_N (by omega) (by omega)]
        exact IH2
      · have n2 : ¬ x < 60 := by omega
        have n3 : ¬ x = 216 := by omega
        rw [if_neg n2, if_neg n3] at IH2 ⊢
        by_cases h : x = 214
        · rw [if_pos h] at IH2 ⊢
          rw [bV_A (by omega) (by omega)]
          exact IH2
        · rw [if_neg h] at IH2 ⊢
          rw [bV_O (by omega) (by omega)]
          exact IH2
    · rw [if_neg q, bV_t, show s.toNat = k from by omega]
      rcases b01_c (top (evC (xR m 291) v k)) with ⟨_, e⟩ | ⟨_, e⟩
      · rw [e, if_neg (by decide)]
      · rw [e, if_pos rfl]
theorem holds_c {m : xw_M} {row n p : Int} {v : Int → Bool} (S : SB m n p) (n1 : n ≤ 60) (p0 : 0 ≤ p) (hv : ∀ i, 0 ≤ i → i < n → 0 ≤ xR m 229 i ∧ ∃ p, yf124 B (xR m 229 i / 4) row m = some (.inl p, m) ∧ (0 ≤ p ∧ p < 1000) ∧ xR m (231 + i) p = b01 (v i)) : yf123 B row m = some (.inl (b01 (top (SC m v))), m) := by
  unfold yf123
  obtain ⟨⟨s0, s1⟩, _, _, wf⟩ := S
  have h := holds_l (B := B) (m := m) (row := row) (n := n) (v := v) rfl (by omega) n1 wf hv 1000000 0 s0 (by omega)
  exact h
/-- a comparison, by the reference -/
theorem comp_l {m : xw_M} {q i x n : Int} (hq : m 536 23 = q) (q0 : q = 544 ∨ q = 558) (i0 : 0 ≤ i) (i1 : i < 60) (n0 : 0 ≤ n) (n1 : n ≤ 40) (h7 : 7 ≤ xR m (q + 10) i ∧ xR m (q + 10) i ≤ 8) : ∀ (N : Nat) (j b : Int), 0 ≤ j → j ≤ n → (b = 0 ∨ b = 1) → (b = 1 ↔ ∃ k, 0 ≤ k ∧ k < j ∧ xR m (q + 13) (40 * i + k) = x) → (n - j).toNat < N → ∃ c : Bool, xl5 (yl288_207 B) N i x n b j m = some (.inl (b01 c), m) ∧ (c = true ↔ ((xR m (q + 10) i = 7 ∧ ∃ k, 0 ≤ k ∧ k < n ∧ xR m (q + 13) (40 * i + k) = x) ∨ (xR m (q + 10) i = 8 ∧ ¬ ∃ k, 0 ≤ k ∧ k < n ∧ xR m (q + 13) (40 * i + k) = x))) := by
  obtain ⟨oq, ⟨_, _, _, _, _, _, _, _, _, f15, _, _, f18⟩, oj, ⟨_, _, _, _, _, _, _, _, _, l10, _, _, l13⟩⟩ := q_l B q0
  have o13 := oj 13 (by omega) (by omega)
  have o10 := oj 10 (by omega) (by omega)
  intro N
  induction N with
  | zero => intro j b _ _ _ _ hN; omega
  | succ N ih =>
    intro j b j0 j1 b0 hb hN
    show ∃ c : Bool, yl288_207 B (xl5 (yl288_207 B) N) i x n b j m = _ ∧ _
    have IH := ih (j + 1)
    clear ih
    generalize xl5 (yl288_207 B) N = R at IH ⊢
    unfold yl288_207
    rw [hq, f15, f18]
    by_cases c : j < n
    · have wj : w32 (j + 1) = j + 1 := w32_id (by omega) (by omega)
      have k40 : 0 ≤ 40 * i + j ∧ 40 * i + j < 2400 := by omega
      rw [if_pos c, l13, if_pos k40, if_pos o13, if_pos oq, wj]
      by_cases d : b = 0
      · rw [if_pos d]
        by_cases e : xR m (q + 13) (40 * i + j) = x
        · rw [if_pos e]
          exact IH 1 (by omega) (by omega) (Or.inr rfl) ⟨fun _ => ⟨j, j0, by omega, e⟩, fun _ => rfl⟩ (by omega)
        · rw [if_neg e]
          refine IH 0 (by omega) (by omega) (Or.inl rfl) ⟨fun h => by omega, fun ⟨k, k0, k1, k2⟩ => ?_⟩ (by omega)
          by_cases kj : k = j
          · rw [kj] at k2; exact absurd k2 e
          · have := hb.mpr ⟨k, k0, by omega, k2⟩
            omega
      · rw [if_neg d]
        obtain ⟨k, k0, k1, k2⟩ := hb.mp (by omega)
        exact IH 1 (by omega) (by omega) (Or.inr rfl) ⟨fun _ => ⟨k, k0, by omega, k2⟩, fun _ => rfl⟩ (by omega)
    · have jn : j = n := by omega
      rw [jn] at hb
      rw [if_neg c, if_pos oq, l10, if_pos ⟨i0, i1⟩, if_pos o10]
      by_cases e : xR m (q + 10) i = 7
      · rw [if_pos e]
        by_cases d : b = 1
        · rw [if_pos d]; exact ⟨true, rfl, fun _ => Or.inl ⟨e, hb.mp d⟩, fun _ => rfl⟩
        · rw [if_neg d]; exact ⟨false, rfl, fun h => by simp at h, fun h => by rcases h with ⟨_, h⟩ | ⟨h, _⟩; exact absurd (hb.mpr h) d; omega⟩
      · have e8 : xR m (q + 10) i = 8 := by omega
        rw [if_neg e]
        by_cases d : b = 0
        · rw [if_pos d]; exact ⟨true, rfl, fun _ => Or.inr ⟨e8, fun h => by have := hb.mpr h; omega⟩, fun _ => rfl⟩
        · rw [if_neg d]; exact ⟨false, rfl, fun h => by simp at h, fun h => by rcases h with ⟨h, _⟩ | ⟨_, h⟩; omega; exact absurd (hb.mp (by omega)) h⟩
theorem comp_ok {m : xw_M} {q i f d l : Int} (hq : m 536 23 = q) (q0 : q = 544 ∨ q = 558) (i0 : 0 ≤ i) (i1 : i < 60) (hc : xR m (q + 9) i = 4 * d + l) (d0 : 0 ≤ d) (d1 : d < 8) (l0 : 0 ≤ l) (l1 : l < 4) (f0 : 0 ≤ f) (f1 : f < 20000) (p0 : 0 ≤ xR m 575 (8 * f + d)) (p1 : xR m 575 (8 * f + d) < 1000) (h8 : 0 ≤ xR m (q + 10) i ∧ xR m (q + 10) i ≤ 8) (h7 : 7 ≤ xR m (q + 10) i → 0 ≤ xR m (q + 11) i ∧ xR m (q + 11) i ≤ 40) : ∃ c : Bool, yf288 B i f m = some (.inl (b01 c), m) ∧ (c = true ↔ cmv (xR m (q + 10) i) (xR m (q + 11) i) (xR m (q + 12) i) (fun k => xR m (q + 13) (40 * i + k)) (xR m 540 (4000 * d + 4 * xR m 575 (8 * f + d) + l))) := by
  have CL := fun x => @comp_l B m q i x (xR m (q + 11) i) hq q0 i0 i1
  obtain ⟨oq, ⟨_, _, _, _, _, _, _, _, f14, f15, f16, f17, _⟩, oj, ⟨_, _, _, _, _, _, _, _, l9, l10, l11, l12, _⟩⟩ := q_l B q0
  have o9 := oj 9 (by omega) (by omega)
  have o10 := oj 10 (by omega) (by omega)
  have o11 := oj 11 (by omega) (by omega)
  have o12 := oj 12 (by omega) (by omega)
  have ib : 0 ≤ i ∧ i < 60 := ⟨i0, i1⟩
  have e1 : (4 * d + l) / 4 = d := by omega
  have e2 : (4 * d + l) % 4 = l := by omega
  unfold yf288
  rw [hq, f14, if_pos oq, l9, if_pos ib, if_pos o9, hc, e1, e2, if_pos (by omega), if_pos (by omega)]
  unfold yf289
  rw [if_pos (by omega), xB_ret, hq, f15, f16, f17, if_pos oq, l11, if_pos ib, if_pos o11, l10, if_pos ib, if_pos o10, l12, if_pos ib, if_pos o12]
  generalize xR m 540 (4000 * d + 4 * xR m 575 (8 * f + d) + l) = x
  have CX := CL x
  generalize hh : xR m (q + 10) i = h at *
  generalize xR m (q + 11) i = a at *
  generalize xR m (q + 12) i = b at *
  by_cases h6 : h ≤ 6
  · rw [cmv_s h6]
    have T : ∀ P : Prop, (P ↔ ((h = 0 ∧ x = a) ∨ (h = 1 ∧ x ≠ a) ∨ (h = 2 ∧ x < a) ∨ (h = 3 ∧ x ≤ a) ∨ (h = 4 ∧ a < x) ∨ (h = 5 ∧ a ≤ x) ∨ (h = 6 ∧ a ≤ x ∧ x ≤ b))) → P → ∃ c : Bool, (some (Sum.inl 1, m) : xP) = some (.inl (b01 c), m) ∧ (c = true ↔ ((h = 0 ∧ x = a) ∨ (h = 1 ∧ x ≠ a) ∨ (h = 2 ∧ x < a) ∨ (h = 3 ∧ x ≤ a) ∨ (h = 4 ∧ a < x) ∨ (h = 5 ∧ a ≤ x) ∨ (h = 6 ∧ a ≤ x ∧ x ≤ b))) := fun P hP p => ⟨true, rfl, fun _ => hP.mp p, fun _ => rfl⟩
    have F : ∀ P : Prop, (P ↔ ((h = 0 ∧ x = a) ∨ (h = 1 ∧ x ≠ a) ∨ (h = 2 ∧ x < a) ∨ (h = 3 ∧ x ≤ a) ∨ (h = 4 ∧ a < x) ∨ (h = 5 ∧ a ≤ x) ∨ (h = 6 ∧ a ≤ x ∧ x ≤ b))) → ¬ P → ∃ c : Bool, (some (Sum.inl 0, m) : xP) = some (.inl (b01 c), m) ∧ (c = true ↔ ((h = 0 ∧ x = a) ∨ (h = 1 ∧ x ≠ a) ∨ (h = 2 ∧ x < a) ∨ (h = 3 ∧ x ≤ a) ∨ (h = 4 ∧ a < x) ∨ (h = 5 ∧ a ≤ x) ∨ (h = 6 ∧ a ≤ x ∧ x ≤ b))) := fun P hP p => ⟨false, rfl, fun h => by simp at h, fun h => absurd (hP.mpr h) p⟩
    clear CX CL h7
    repeat' split
    all_goals first
      | exact T _ Iff.rfl (by omega)
      | exact F _ Iff.rfl (by omega)
      | omega
  · rw [if_neg (by omega), if_neg (by omega), if_neg (by omega), if_neg (by omega), if_neg (by omega), if_neg (by omega), if_neg (by omega)]
    obtain ⟨a0, a1⟩ := h7 (by omega)
    obtain ⟨c, c1, c2⟩ := CX a0 a1 (by omega) 1000000 0 0 (by omega) a0 (Or.inl rfl) ⟨fun h => by omega, fun ⟨k, k0, k1, _⟩ => by omega⟩ (by omega)
    refine ⟨c, c1, c2.trans ?_⟩
    by_cases e : h = 7
    · rw [e, cmv_7]
      constructor
      · rintro (⟨_, k⟩ | ⟨k, _⟩)
        · exact k
        · omega
      · exact fun k => Or.inl ⟨rfl, k⟩
    · have e8 : h = 8 := by omega
      rw [e8, cmv_8]
      constructor
      · rintro (⟨k, _⟩ | ⟨_, k⟩)
        · omega
        · exact k
      · exact fun k => Or.inr ⟨rfl, k⟩
end HLD
