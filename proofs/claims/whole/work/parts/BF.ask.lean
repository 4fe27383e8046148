/-! THE ANSWER, by the class: what a question that was read asks of rows (ASK), and that its sets give different keys -/
theorem mbit : ∀ a : Fin 256, ∀ g : Fin 8, xw_iandf (xw_ishrf ((a : Nat) : Int) ((g : Nat) : Int)) 1 = (((a : Nat) / 2 ^ (g : Nat) % 2 : Nat) : Int) := by decide +kernel
theorem mbit_i {a g : Int} (a0 : 0 ≤ a) (a1 : a < 256) (g0 : 0 ≤ g) (g1 : g < 8) : xw_iandf (xw_ishrf a g) 1 = ((a.toNat / 2 ^ g.toNat % 2 : Nat) : Int) := by
  have h := mbit ⟨a.toNat, by omega⟩ ⟨g.toNat, by omega⟩
  rw [show (((⟨a.toNat, by omega⟩ : Fin 256) : Nat) : Int) = a from Int.toNat_of_nonneg a0, show (((⟨g.toNat, by omega⟩ : Fin 8) : Nat) : Int) = g from Int.toNat_of_nonneg g0] at h
  exact h
theorem mask_n : ∀ (k a b : Nat), a < 2 ^ k → b < 2 ^ k → (∀ g, g < k → a / 2 ^ g % 2 = b / 2 ^ g % 2) → a = b
  | 0, a, b, ha, hb, _ => by simp at ha hb; omega
  | k + 1, a, b, ha, hb, h => by
    have h0 := h 0 (by omega)
    simp at h0
    have e := mask_n k (a / 2) (b / 2) (by rw [Nat.pow_succ] at ha; omega) (by rw [Nat.pow_succ] at hb; omega) (fun g hg => by
      have := h (g + 1) (by omega)
      rw [Nat.pow_succ, Nat.mul_comm, ← Nat.div_div_eq_div_mul, ← Nat.div_div_eq_div_mul] at this
      exact this)
    omega
theorem dd_ok {c r : xw_M} {q t k S : Int} {rk ls : Int → Int} (k0 : 0 ≤ k) (k8 : k ≤ 8) (G : GP c r q t k S) (ne : ∀ g, 0 ≤ g → g < k → rk g ≠ ls g) : ∀ s s', 0 ≤ s → s < S → 0 ≤ s' → s' < S → (∀ g, 0 ≤ g → g < k → skey rk ls (xR c 228 s) g = skey rk ls (xR c 228 s') g) → s = s' := by
  intro s s' s0 s1 z0 z1 h
  obtain ⟨_, t0, h3, h4, _, _, h7⟩ := G
  have bd : ∀ s, 0 ≤ s → s < S → 0 ≤ xR c 228 s ∧ xR c 228 s < tw2 k := fun s s0 s1 => by
    have := okm_b t.toNat _ (fun p p0 p1 => (h3 p p0 (by omega)).1) (by omega) (h7.1 s s0 s1)
    rw [h4] at this
    exact this
  have b256 := (tw2_b k0 k8).2
  obtain ⟨a0, a1⟩ := bd s s0 s1
  obtain ⟨b0, b1⟩ := bd s' z0 z1
  refine h7.2.1 s s' s0 s1 z0 z1 ?_
  generalize xR c 228 s = a at *
  generalize xR c 228 s' = b at *
  have e := mask_n k.toNat a.toNat b.toNat (by unfold tw2 at a1; omega) (by unfold tw2 at b1; omega) (fun g hg => by
    have hh := h g (by omega) (by omega)
    have x1 := mbit_i (a := a) (g := g) a0 (by omega) (by omega) (by omega)
    have x2 := mbit_i (a := b) (g := g) b0 (by omega) (by omega) (by omega)
    have n := ne g (by omega) (by omega)
    unfold skey at hh
    rw [x1, x2] at hh
    rw [Int.toNat_natCast] at hh
    have y1 : a.toNat / 2 ^ g % 2 < 2 := Nat.mod_lt _ (by omega)
    have y2 : b.toNat / 2 ^ g % 2 < 2 := Nat.mod_lt _ (by omega)
    generalize a.toNat / 2 ^ g % 2 = u at *
    generalize b.toNat / 2 ^ g % 2 = v at *
    by_cases c1 : u = 0
    · by_cases c2 : v = 0
      · omega
      · rw [if_pos (by omega), if_neg (by omega)] at hh; exact absurd hh.symm n
    · by_cases c2 : v = 0
      · rw [if_neg (by omega), if_pos (by omega)] at hh; exact absurd hh n
      · omega)
  omega
theorem ask_ok {c r : xw_M} {q D M k n nc p : Int} (C : cgr c r D M) (I : ∀ j, 0 ≤ j → j < n → rsi c r q M k j) (G : GC c r q D k) (N : CDN c r q D nc k p) : ASK c D M k n nc p := by
  obtain ⟨⟨c1, c2, c3, c4, c5⟩, L, S, _, _, _, pp⟩ := N
  obtain ⟨g1, g2, g3, g4, g5⟩ := G
  have L4 := cgr_L4 C
  refine ⟨C.cn.1, C.cn.2.1, S, c4, by omega, fun d d0 d1 => (C.cn.2.2.2.2.1 d d0 d1).2.2.1.2, fun i i0 i1 => ?_, fun g g0 g1 => ?_, fun i i0 i1 hi => ?_⟩
  · obtain ⟨_, ⟨d, l, e1, d0, d1, l0, l1, e2⟩, _⟩ := c5 i i0 i1
    have l4 := L4 d d0 d1
    refine ⟨d, l, e1, ⟨d0, d1⟩, by omega, ?_, fun z z0 z1 => (e2 z z0 z1).1⟩
    have D8 := C.cn.1.2
    have b := L d d0 (by omega) 4
    by_cases h : xR c 292 d < 4
    · exact h
    · have := (b.mp (by omega)).2.1 i i0 i1 (by rw [e1]; omega)
      rw [e1] at this
      omega
  · obtain ⟨_, d, l, e1, d0, d1, l0, l1⟩ := g4 g g0 (by omega)
    have l4 := L4 d d0 d1
    refine ⟨d, l, e1, ⟨d0, d1⟩, by omega, ?_⟩
    have D8 := C.cn.1.2
    have b := L d d0 (by omega) 4
    by_cases h : xR c 292 d < 4
    · exact h
    · have := (b.mp (by omega)).2.2 g g0 (by omega) (by rw [e1]; omega)
      rw [e1] at this
      omega
  · obtain ⟨_, _, b1, _, b2, b3⟩ := I i i0 i1
    have e := b2 (by omega)
    have := b3 hi
    rw [e]
    omega
