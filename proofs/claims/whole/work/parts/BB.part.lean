/-! THE ANSWER, by the class: addPart, whole -/
/-- the columns that a question wants, as bits -/
def WNT (B : Nat) (m : xw_M) (D n P w : Int) : Prop := (xR m 302 7 ≠ 0 → bt w P.toNat = true) ∧ (∀ d, 0 ≤ d → d < D → xR m 292 d < 4 → xR m 372 d ≠ -1 → bt w (xR m 372 d).toNat = true) ∧ ∀ j, 0 ≤ j → j < n → (xR m 224 j = 210 ∨ xR m 224 j = 212 ∨ xR m 224 j = 213) → ∀ cc, yf112 B (xR m 224 j) (xR m 225 j) m = some (.inl cc, m) → bt w cc.toNat = true
theorem yf112_cg {B : Nat} {m m' : xw_M} {K a cc : Int} (h : m' 302 = m 302) (e : yf112 B K a m = some (.inl cc, m)) : yf112 B K a m' = some (.inl cc, m') := by
  have x : ∀ j, xR m' 302 j = xR m 302 j := fun j => by rw [xR_cg h]
  have inj : ∀ v : Int, (some (Sum.inl v, m) : xP) = some (.inl cc, m) → v = cc := fun v hv => by injection hv with h; injection h with h _; injection h
  unfold yf112 at e ⊢
  rw [x 7, x 5]
  by_cases h7 : xR m 302 7 = 0
  · rw [if_pos h7] at e ⊢; rw [inj _ e]
  · rw [if_neg h7] at e ⊢
    by_cases k1 : K = 210
    · rw [if_pos k1] at e ⊢; rw [inj _ e]
    · rw [if_neg k1] at e ⊢
      by_cases k2 : K = 212
      · rw [if_pos k2] at e ⊢; rw [inj _ e]
      · rw [if_neg k2] at e ⊢; rw [inj _ e]
section PRW
variable {B : Nat} {t k it S : Int} {mk ls K : Int → Int} {hl : Nat → Bool} {rk : Nat → Int → Int} {cf : Nat → Int} {mo : Nat → Int → Int}
theorem addpart_ok {m : xw_M} {R p D n P : Int} {kk : Nat} {T : Int → Int → Int} {J0 : Nat} (hB : B ≤ 512) (hT : cwd T) (hk : kk ≤ 33) (h6 : xR m 302 6 = kk) (hP : Part (m 516) p R kk T) (h : rs B m p) (hf : p + 8 * partB T R kk ≤ 64 * (B * 512 : Nat)) (F : FX m t k it S mk ls K) (hD : xR m 3 1 = D) (D0 : 0 ≤ D) (D8 : D ≤ 8) (h72 : ∀ d, 0 ≤ d → d < D → xR m 372 d = -1 ∨ (0 ≤ xR m 372 d ∧ xR m 372 d < 33)) (hn : xR m 223 2 = n) (n0 : 0 ≤ n) (n1 : n ≤ 24) (h5 : xR m 302 5 = P) (P0 : 0 ≤ P) (P8 : P ≤ 8) (hc : ∀ i, 0 ≤ i → i < n → (xR m 224 i = 210 ∨ xR m 224 i = 212 ∨ xR m 224 i = 213) → ∃ cc, yf112 B (xR m 224 i) (xR m 225 i) m = some (.inl cc, m) ∧ 0 ≤ cc ∧ cc < 33) (Q : ∀ w, WNT B m D n P w → SRC B m R w kk T J0 k it hl rk cf mo) (dd : ∀ j : Int, 0 ≤ j → j < R → ∀ s s', 0 ≤ s → s < S → 0 ≤ s' → s' < S → (∀ g, 0 ≤ g → g < k → skey (rk (J0 + j.toNat)) ls (mk s) g = skey (rk (J0 + j.toNat)) ls (mk s') g) → s = s') (s : ST m t k it S mk ls K hl rk cf mo J0) : ∃ m', yf110 B t 530 m = some (.inl 0, m') ∧ fPt t m m' ∧ ST m' t k it S mk ls K hl rk cf mo (J0 + R.toNat) ∧ ∃ p', rs B m' p' := by
  have hp := h.2.2
  have b1 := hP.2.1
  have hf' := hf
  unfold partB at hf'
  have hnn := ssum_nn hT hk (R := R) (s := nseg R) (by unfold nseg; omega)
  obtain ⟨m1, e1, R1, G1⟩ := take_b (b := 32) hB h (by decide) (by decide) (by omega)
  rw [show (32 : Int).toNat = 32 from rfl, hP.1] at e1
  unfold yf110 yf107 yf20
  rw [if_pos (by decide), if_pos (by decide), e1, xB_ret, xB_ret, xB_ret, show min R 20000 = R from by omega, w32_id (x := R) (by omega) (by omega)]
  have g : ∀ a, a ≠ 530 → m1 a = m a := G1.1
  have x302 := xR_cg (g 302 (by decide))
  have x372 := xR_cg (g 372 (by decide))
  have x292 := xR_cg (g 292 (by decide))
  have x224 := xR_cg (g 224 (by decide))
  have x225 := xR_cg (g 225 (by decide))
  have x223 := xR_cg (g 223 (by decide))
  have x3 := xR_cg (g 3 (by decide))
  obtain ⟨w, e2, w1, w2, w3⟩ := cfor_ok (B := B) (m := m1) (n := n) (D := D) (P := P) (by rw [x3]; exact hD) D0 D8 (by rw [x372]; exact h72) (by rw [x223]; exact hn) n0 n1 (by rw [x302]; exact h5) P0 P8 (by
    rw [x224, x225]
    intro i i0 i1 hi
    obtain ⟨cc, c1, c2⟩ := hc i i0 i1 hi
    exact ⟨cc, yf112_cg (g 302 (by decide)) c1, c2⟩)
  rw [x302] at w1
  rw [x372, x292] at w2
  rw [x224, x225] at w3
  have W : WNT B m D n P w := ⟨w1, w2, fun j j0 j1 hj cc hcc => w3 j j0 j1 hj cc (yf112_cg (g 302 (by decide)) hcc)⟩
  have tt := F.1
  have F1 : FX m1 t k it S mk ls K := FX_fr F (fun a ha => g a (by omega)) (by rw [g t (by omega)]) (g _ (by omega))
  have Q1 : SRC B m1 R w kk T J0 k it hl rk cf mo := fun mm x j x0 x1 j0 j1 a b => Q w W mm x j x0 x1 j0 j1 (fun y y0 y1 => by rw [a y y0 y1, g y (by omega)]) b
  have s1 : ST m1 t k it S mk ls K hl rk cf mo (J0 + (min R (1024 * ((0 : Nat) : Int))).toNat) := by
    rw [show J0 + (min R (1024 * ((0 : Nat) : Int))).toNat = J0 from by omega]
    exact ST_fr F.2.1.2.2 F.2.2.1.2.2 (fun a a0 a1 => g a (by omega)) s
  rw [e2, xB_ret]
  generalize hN : (1000000 : Nat) = N
  obtain ⟨m', e3, f3, s3⟩ := part_l (B := B) (m0 := m1) (R := R) (p := p) (w := w) (kk := kk) (T := T) (J0 := J0) hB hT hk (by rw [x302]; exact h6) (by rw [g 516 (by decide)]; exact hP) hp hf F1 Q1 dd N 0 m1 (by omega) (by omega) (by show rs B m1 (p + 32 + 8 * 0); rw [show p + 32 + 8 * 0 = p + 32 from by omega]; exact R1) fPt_r s1
  rw [show R - 1024 * ((0 : Nat) : Int) = R from by omega] at e3
  refine ⟨m', e3, fPt_tr ⟨fun a _ _ a3 _ => g a a3, G1.2, fun j _ => by rw [g t (by omega)]⟩ f3, s3⟩
end PRW
