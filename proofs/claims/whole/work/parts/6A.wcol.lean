/-! WRITING A COLUMN, the whole -/
/-- the fresh tape is over -/
def ov (B : Nat) (m : xw_M) : Prop := (xR m 518 1 = 64 * (B * 512 : Nat) ∧ ∃ a, xR m 518 2 = a ∧ 0 ≤ a ∧ a ≤ 64 * (B * 512 : Nat) ∧ ∀ q, a ≤ q → q < 64 * (B * 512 : Nat) → bW (m 517) q = false) ∧ xR m 518 3 = 1
/-- only the fresh tape's own cells are others, and its words from p on -/
def fw (m m' : xw_M) (p : Int) : Prop := (∀ a, a < 517 ∨ 523 < a → m' a = m a) ∧ (∀ q, 0 ≤ q → q < p → bW (m' 517) q = bW (m 517) q)
theorem fw_refl (m : xw_M) (p : Int) : fw m m p := ⟨fun _ _ => rfl, fun _ _ _ => rfl⟩
theorem fw_trans {m m1 m2 : xw_M} {p p1 : Int} (h : fw m m1 p) (h2 : fw m1 m2 p1) (hp : p ≤ p1) : fw m m2 p := ⟨fun a ha => (h2.1 a ha).trans (h.1 a ha), fun q h0 hq => (h2.2 q h0 (by omega)).trans (h.2 q h0 hq)⟩
theorem fr_fw {m m' : xw_M} {p : Int} (h : fr m m' p) : fw m m' p := ⟨fun a ha => h.1 a (by omega) (by omega), h.2.2⟩
theorem ws_up {B : Nat} (hB : B ≤ 512) {m : xw_M} {p p' : Int} (h : ws B m p) (hp : p ≤ p') (hp2 : p' ≤ 64 * (B * 512 : Nat)) : ws B (xw_u m 518 2 p') p' := by
  obtain ⟨h1, h2, h3, h4, h5⟩ := h
  refine ⟨?_, ?_, ?_, by omega, fun q hq hq2 => ?_⟩
  · rw [xR_u, if_neg (by decide)]
    exact h1
  · rw [xR_u, if_pos ⟨rfl, rfl⟩]
    exact w32_id (by omega) (by omega)
  · rw [xR_u, if_neg (by decide)]
    exact h3
  · rw [xu_c (by decide)]
    exact h5 q (by omega) hq2
theorem wr_over {B : Nat} {m : xw_M} {c n : Int} (h : ov B m) : yf183 B 518 c n m = some (.inl 0, m) := by
  unfold yf183
  rw [if_pos (by decide), h.2, if_neg (by decide)]
theorem fr_up {m m' : xw_M} {p x : Int} (h : fr m m' p) : fr m (xw_u m' 518 2 x) p := by
  refine ⟨fun a h1 h2 => by rw [xu_c h2]; exact h.1 a h1 h2, fun k hk => ?_, fun q h0 hq => by rw [xu_c (by decide)]; exact h.2.2 q h0 hq⟩
  unfold xw_u
  rw [if_neg (fun e => hk e.2)]
  exact h.2.1 k hk
theorem wr_col {B : Nat} (hB : B ≤ 512) {m : xw_M} {c n p : Int} (hc : xw_obb 17 c = true) (hle : xw_le B c = 1024) (hcn : c < 517 ∨ 523 < c) (hn : 1 ≤ n) (hn2 : n ≤ 1024) (h : ws B m p) (hpl : p ≤ 64 * ((B * 512 : Nat) : Int)) :
    (p + 8 * (colB (xJ m c) n + 20) ≤ 64 * (B * 512 : Nat) → ∃ m', yf183 B 518 c n m = some (.inl 0, m') ∧ ws B m' (p + 8 * (colB (xJ m c) n + 20)) ∧ fw m m' p ∧ Col (m' 517) p n (xJ m c) (colB (xJ m c) n)) ∧
    (64 * (B * 512 : Nat) < p + 8 * (colB (xJ m c) n + 20) → ∃ m', yf183 B 518 c n m = some (.inl 0, m') ∧ ov B m' ∧ fw m m' p) := by
  have hp : 0 ≤ p := h.2.2.2.1
  have hfw : ∀ i, w64 (xJ m c i) = xJ m c i := fun i => w64_w _
  obtain ⟨m1, e1, s1, s2, s3⟩ := survey_ok (m := m) hc hle (show c ≠ 518 by omega) hn hn2
  obtain ⟨m2, T, e2, L⟩ := list_ok (m := m1) (B := B) hc hle ⟨by omega, by omega, by omega, by omega⟩ hn hn2
  have hJ1 : xJ m1 c = xJ m c := xJ_cg (s2 c (by omega))
  have L' := L
  obtain ⟨⟨u1, u2⟩, v1, v2, v3, v4, v5⟩ := L
  rw [hJ1] at v1
  have S2 : SV m2 (xJ m c) n (n - 1).toNat := by
    obtain ⟨a1, a2, a3, a4, a5⟩ := s1
    refine ⟨?_, ?_, ?_, ?_, ?_⟩
    · rw [← a1]; unfold xJ; rw [u2 11 (by decide)]
    · rw [← a2]; unfold xJ; rw [u2 12 (by decide)]
    · rw [← a3]; unfold xR; rw [u2 10 (by decide)]
    · rw [← a4]; unfold xJ; rw [u2 13 (by decide)]
    · rw [← a5]; unfold xJ; rw [u2 14 (by decide)]
  obtain ⟨m3, e3, G, u3⟩ := weigh_ok (B := B) hfw hn hn2 S2 v1
  obtain ⟨v, e4, hv, hmin⟩ := short_ok (B := B) (m := m3)
  have hJ3 : xJ m3 c = xJ m c := by rw [xJ_cg (u3 c (by omega) (by omega)), xJ_cg (u1 c (by omega) (by omega) (by omega) (by omega)), hJ1]
  have S3 : SV m3 (xJ m c) n (n - 1).toNat := by
    obtain ⟨a1, a2, a3, a4, a5⟩ := S2
    refine ⟨?_, ?_, ?_, ?_, ?_⟩
    · rw [← a1, xJ_cg (u3 518 (by decide) (by decide))]
    · rw [← a2, xJ_cg (u3 518 (by decide) (by decide))]
    · rw [← a3, xR_cg (u3 518 (by decide) (by decide))]
    · rw [← a4, xJ_cg (u3 518 (by decide) (by decide))]
    · rw [← a5, xJ_cg (u3 518 (by decide) (by decide))]
  have r8 : ∀ k, k < 9 → m3 518 k = m 518 k := fun k hk => by rw [u3 518 (by decide) (by decide), u2 k (by omega), s3 k (by omega)]
  have r7 : m3 517 = m 517 := by rw [u3 517 (by decide) (by decide), u1 517 (by decide) (by decide) (by decide) (by decide), s2 517 (by decide)]
  have ra : ∀ a, a < 517 ∨ 523 < a → m3 a = m a := fun a ha => by rw [u3 a (by omega) (by omega), u1 a (by omega) (by omega) (by omega) (by omega), s2 a (by omega)]
  have w3 : ws B m3 p := by
    obtain ⟨h1, h2, h3, h4, h5⟩ := h
    refine ⟨?_, ?_, ?_, h4, ?_⟩
    · rw [← h1]; unfold xR; rw [r8 1 (by decide)]
    · rw [← h2]; unfold xR; rw [r8 2 (by decide)]
    · rw [← h3]; unfold xR; rw [r8 3 (by decide)]
    · rw [r7]; exact h5
  have hW : xR m3 523 v = colB (xJ m c) n := by
    obtain ⟨_, k0, k1, k2, k3, k4⟩ := G
    have h0 := hmin 0 (by decide) (by decide)
    have h1 := hmin 1 (by decide) (by decide)
    have h2 := hmin 2 (by decide) (by decide)
    have h3 := hmin 3 (by decide) (by decide)
    have h4 := hmin 4 (by decide) (by decide)
    rw [k0] at h0
    rw [k1] at h1
    rw [k2] at h2
    rw [k3] at h3
    rw [k4] at h4
    unfold colB
    rcases (by omega : v = 0 ∨ v = 1 ∨ v = 2 ∨ v = 3 ∨ v = 4) with rfl | rfl | rfl | rfl | rfl
    · rw [k0] at *; omega
    · rw [k1] at *; omega
    · rw [k2] at *; omega
    · rw [k3] at *; omega
    · rw [k4] at *; omega
  have hW0 : 0 ≤ colB (xJ m c) n ∧ colB (xJ m c) n ≤ 8 * n := by
    have hr := svR_b (xJ m c) (n - 1).toNat
    have bs := spn_b hfw n
    have bt' := sps_b (xJ m c) n
    have l1 := mulb (n := n) (b := nb (spn (xJ m c) n)) (by omega) hn2 (nb_nn _) (nb_le64 bs.1 bs.2)
    have l2 := mulb (n := n - 1) (b := nb (sps (xJ m c) n)) (by omega) (by omega) (nb_nn _) (nb_le64 bt'.1 bt'.2)
    have l3 : 0 ≤ n * nb ((dst (xJ m c) n.toNat : Nat) - 1) := Int.mul_nonneg (by omega) (nb_nn _)
    unfold colB wgP wgL wgR wgS
    omega
  have hs1 : xR m3 518 1 = 64 * (B * 512 : Nat) := w3.1
  have hs2 : xR m3 518 2 = p := w3.2.1
  unfold yf183
  rw [if_pos (by decide), h.2.2.1, if_pos rfl, e1]
  simp only [xB_ret]
  rw [e2]
  simp only [xB_ret]
  rw [e3]
  simp only [xB_ret]
  rw [e4]
  simp only [xB_ret]
  rw [show xw_rf 518 8 = 523 from by decide, show xw_le B 523 = 5 from rfl, if_pos ⟨hv.1, hv.2⟩, if_pos (by decide), hs1, hs2, hW]
  refine ⟨fun hfit => ?_, fun hover => ?_⟩
  · rw [w32_id (x := 64 * ((B * 512 : Nat) : Int) - p) (by omega) (by omega), w32_id (x := colB (xJ m c) n + 20) (by omega) (by omega), if_pos (by omega), if_neg (by omega)]
    obtain ⟨m5, e5, w5, f5, t5⟩ := put_ws (v := v) (n := 8) hB w3 (by decide) (by decide) (by omega)
    obtain ⟨m6, e6, w6, f6, t6⟩ := put_ws (v := colB (xJ m c) n) (n := 24) hB w5 (by decide) (by decide) (by omega)
    obtain ⟨m7, e7, w7, f7, t7⟩ := put_ws (v := xJ m6 518 11) (n := 64) hB w6 (by decide) (by decide) (by omega)
    obtain ⟨m8, e8, w8, f8, t8⟩ := put_ws (v := xJ m7 518 12) (n := 64) hB w7 (by decide) (by decide) (by omega)
    rw [e5]
    simp only [xB_ret]
    rw [e6]
    simp only [xB_ret]
    rw [e7]
    simp only [xB_ret]
    rw [e8]
    simp only [xB_ret]
    have F : fr m3 m8 p := fr_trans (fr_trans (fr_trans f5 f6 (by omega)) f7 (by omega)) f8 (by omega)
    have J8 : xJ m8 c = xJ m c := by rw [fr_J F (by omega) (by omega), hJ3]
    have R8 : xR m8 523 = xR m3 523 := fr_R F (by decide) (by decide)
    have R82 : xR m8 522 = xR m3 522 := fr_R F (by decide) (by decide)
    have G8 : WG m8 (xJ m8 c) n := by
      unfold WG at G ⊢
      rw [R8, R82, J8]
      exact G
    have S8 : SV m8 (xJ m8 c) n (n - 1).toNat := by
      unfold SV at S3 ⊢
      rw [J8, fr_J8 F (by decide), fr_J8 F (by decide), fr_R8 F (by decide), fr_J8 F (by decide), fr_J8 F (by decide)]
      exact S3
    have at8 : xR m8 518 2 = p + 160 := by rw [w8.2.1]; omega
    have w8' : ws B m8 (p + 160) := by rw [show p + 160 = p + 8 + 24 + 64 + 64 from by omega]; exact w8
    rw [at8, w32_id (x := p + 160 + colB (xJ m c) n * 8) (by omega) (by omega)]
    -- the body
    have fin : ∀ m' p', p + 160 ≤ p' → p' ≤ p + 160 + 8 * colB (xJ m c) n → ws B m' p' → fr m8 m' (p + 160) → colBody (m' 517) (p + 160) n (xJ m c) v (colB (xJ m c) n) → ws B (xw_u m' 518 2 (p + 160 + colB (xJ m c) n * 8)) (p + 8 * (colB (xJ m c) n + 20)) ∧ fw m (xw_u m' 518 2 (p + 160 + colB (xJ m c) n * 8)) p ∧ Col ((xw_u m' 518 2 (p + 160 + colB (xJ m c) n * 8)) 517) p n (xJ m c) (colB (xJ m c) n) := by
      intro m' p' q1 q2 q3 q4 q5
      rw [show p + 8 * (colB (xJ m c) n + 20) = p + 160 + colB (xJ m c) n * 8 from by omega]
      refine ⟨ws_up hB q3 (by omega) (by omega), ?_, ?_⟩
      · have := fr_fw (fr_up (x := p + 160 + colB (xJ m c) n * 8) (fr_trans F q4 (by omega)))
        exact ⟨fun a ha => by rw [this.1 a ha]; exact ra a ha, fun q h0 hq => by rw [this.2 q h0 hq, r7]⟩
      · rw [xu_c (by decide)]
        refine ⟨v, ?_, ?_, hW0.1, hW0.2, q5⟩
        · rw [fr_tk q4 hp (by omega), fr_tk f8 hp (by omega), fr_tk f7 hp (by omega), fr_tk f6 hp (by omega)]
          have := t5
          rw [show ((8 : Int).toNat) = 8 from rfl] at this
          rw [this]
          exact msk_nn hv.1 (by show _ < (256 : Int); omega) (by decide)
        · rw [fr_tk q4 (by omega) (by omega), fr_tk f8 (by omega) (by omega), fr_tk f7 (by omega) (by omega)]
          have := t6
          rw [show ((24 : Int).toNat) = 24 from rfl] at this
          rw [this]
          exact msk_nn hW0.1 (by show _ < (16777216 : Int); omega) (by decide)
    by_cases v2' : v = 2
    · rw [if_pos v2']
      subst v2'
      have Q9 : ∀ a, a ≠ 517 → a ≠ 518 → a ≠ 522 → a ≠ 523 → m8 a = m2 a := fun a b1 b2 b3 b4 => by rw [F.1 a b1 b2, u3 a b3 b4]
      have Q20 : xJ m8 520 = xJ m2 520 := xJ_cg (Q9 520 (by decide) (by decide) (by decide) (by decide))
      have Q21 : xR m8 521 = xR m2 521 := xR_cg (Q9 521 (by decide) (by decide) (by decide) (by decide))
      have Q18 : xR m8 518 9 = xR m2 518 9 := by rw [fr_R8 F (by decide), xR_cg (u3 518 (by decide) (by decide))]
      rw [hJ1] at v5
      rw [← Q20, ← Q21] at v5
      rw [J8] at G8
      obtain ⟨m9, p9, e9, q1, q2, q3, q4, q5⟩ := wr_list (f := xJ m c) hB hn hn2 w8' (by rw [Q18]; exact v1) v5 G8 (by rw [R8, hW]; omega)
      rw [e9]
      simp only [xB_ret]
      rw [R8, hW] at q2 q5
      obtain ⟨z1, z2, z3⟩ := fin m9 p9 q1 q2 q3 q4 q5
      exact ⟨_, rfl, z1, z2, z3⟩
    · rw [if_neg v2']
      by_cases v3' : v = 3
      · rw [if_pos v3']
        subst v3'
        obtain ⟨m9, p9, e9, q1, q2, q3, q4, q5⟩ := wr_runs hB hc hle ⟨by omega, by omega⟩ hn hn2 w8' S8 G8 (by rw [R8, hW]; omega)
        rw [e9]
        simp only [xB_ret]
        rw [R8, hW] at q2 q5
        rw [J8] at q5
        obtain ⟨z1, z2, z3⟩ := fin m9 p9 q1 q2 q3 q4 q5
        exact ⟨_, rfl, z1, z2, z3⟩
      · rw [if_neg v3']
        obtain ⟨m9, p9, e9, q1, q2, q3, q4, q5⟩ := wr_num hB hc hle ⟨by omega, by omega⟩ hn hn2 w8' S8 G8 (form := v) (by omega) (by rw [R8, hW]; omega)
        rw [e9]
        simp only [xB_ret]
        rw [R8, hW] at q2 q5
        rw [J8] at q5
        obtain ⟨z1, z2, z3⟩ := fin m9 p9 q1 q2 q3 q4 q5
        exact ⟨_, rfl, z1, z2, z3⟩
  · rw [w32_id (x := 64 * ((B * 512 : Nat) : Int) - p) (by omega) (by omega), w32_id (x := colB (xJ m c) n + 20) (by omega) (by omega), if_pos (by omega), if_pos (by omega)]
    refine ⟨_, rfl, ⟨⟨?_, p, ?_, w3.2.2.2.1, hpl, ?_⟩, ?_⟩, ?_, ?_⟩
    · rw [xR_u, if_neg (by decide)]
      exact hs1
    · rw [xR_u, if_neg (by decide)]
      exact w3.2.1
    · rw [xu_c (by decide)]
      exact w3.2.2.2.2
    · rw [xR_u, if_pos ⟨rfl, rfl⟩]
      rfl
    · intro a ha
      rw [xu_c (by omega)]
      exact ra a ha
    · intro q h0 hq
      rw [xu_c (by decide), r7]
