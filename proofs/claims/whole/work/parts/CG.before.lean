/-! THE ANSWER, by the reference: which of two rows comes first (before) -/
def sfo (m m' : xw_M) : Prop := (∀ a, a ≠ 536 → a ≠ 601 → a ≠ 602 → m' a = m a) ∧ ∀ k, k ≠ 73 → k ≠ 74 → m' 536 k = m 536 k
theorem sfo_r {m : xw_M} : sfo m m := ⟨fun _ _ _ _ => rfl, fun _ _ _ => rfl⟩
theorem sfo_tr {a b c : xw_M} (h : sfo a b) (k : sfo b c) : sfo a c := ⟨fun x x1 x2 x3 => by rw [k.1 x x1 x2 x3, h.1 x x1 x2 x3], fun x x1 x2 => by rw [k.2 x x1 x2, h.2 x x1 x2]⟩
/-- what the comparisons find -/
def bspc (B : Nat) (m : xw_M) (N : Int) (κ : Int → Int → Int) (n : Int) : Prop := ∀ m', sfo m m' → ∀ x y, 0 ≤ x → x < n → 0 ≤ y → y < n → ∃ v, yf299 B x y N m' = some (.inl v, m') ∧ (v ≤ 0 → x < y → kl κ N.toNat 0 x y) ∧ (0 < v → kl κ N.toNat 0 y x)
section BEF
variable {B : Nat} {k S Sr : Int} {c r : xw_M} {q D M tu nc p : Int} {Kx Rf : Int → Int} {Rv : Int → Int → Int}
theorem bef_l {m : xw_M} {A x y : Int} {xs ms : Int → Int} {Ls : Int → List Int} (dk : dsk B c D M tu Kx Rf Rv) (rm : ram c D M tu Kx) (G : GC c r q D k) (Y : ∀ a, 0 ≤ a → a < A → AW c m k M a (ms a) (xs a) (Ls a)) (hm : ∀ a, 0 ≤ a → a < A → (0 ≤ ms a ∧ ms a < 256) ∧ (ms a ≠ 0 → 0 ≤ xs a ∧ xs a < xR c 536 31)) (A4 : A ≤ 4000) (x0 : 0 ≤ x) (x1 : x < A) (y0 : 0 ≤ y) (y1 : y < A) : ∀ (N : Nat) (i : Int), 0 ≤ i → i ≤ k → (k - i).toNat < N → ∃ v, xl4 (yl299_3 B) N x y k i m = some (.inl v, m) ∧ (v ≤ 0 → x < y → kl (fun g a => skey (fRF c (xs a)) (lsf c) (ms a) g) (k - i).toNat i x y) ∧ (0 < v → kl (fun g a => skey (fRF c (xs a)) (lsf c) (ms a) g) (k - i).toNat i y x) := by
  have k8 := G.2.2.1
  obtain ⟨hx, vx⟩ := hm x x0 x1
  obtain ⟨hy, vy⟩ := hm y y0 y1
  obtain ⟨X1, _, X3, _⟩ := Y x x0 x1
  obtain ⟨Y1, _, Y3, _⟩ := Y y y0 y1
  intro N
  induction N with
  | zero => intro i _ _ h; omega
  | succ N ih =>
    intro i i0 i1 hN
    rw [xl4_s]
    by_cases h : i < k
    · obtain ⟨v, e, v1, v2⟩ := ih (i + 1) (by omega) (by omega) (by omega)
      have es : (k - i).toNat = (k - (i + 1)).toNat + 1 := by omega
      have bx : xw_iandf (xw_ishrf (ms x) i) 1 = 1 ↔ bin (ms x) i = true := (decide_eq_true_iff).symm
      have by' : xw_iandf (xw_ishrf (ms y) i) 1 = 1 ↔ bin (ms y) i = true := (decide_eq_true_iff).symm
      have kx := skey_b (rk := fRF c (xs x)) (ls := lsf c) hx.1 hx.2 i0 (show i < 8 by omega)
      have ky := skey_b (rk := fRF c (xs y)) (ls := lsf c) hy.1 hy.2 i0 (show i < 8 by omega)
      have nzx : bin (ms x) i = true → ms x ≠ 0 := fun b z => by rw [z, bin_0 i0 (by omega)] at b; exact absurd b (by decide)
      have nzy : bin (ms y) i = true → ms y ≠ 0 := fun b z => by rw [z, bin_0 i0 (by omega)] at b; exact absurd b (by decide)
      have xb : 0 ≤ x ∧ x < 4000 := ⟨x0, by omega⟩
      have yb : 0 ≤ y ∧ y < 4000 := ⟨y0, by omega⟩
      have xi : 0 ≤ 8 * x + i ∧ 8 * x + i < 32000 := ⟨by omega, by omega⟩
      have yi : 0 ≤ 8 * y + i ∧ 8 * y + i < 32000 := ⟨by omega, by omega⟩
      have go : skey (fRF c (xs x)) (lsf c) (ms x) i = skey (fRF c (xs y)) (lsf c) (ms y) i → ∃ v, xl4 (yl299_3 B) N x y k (i + 1) m = some (.inl v, m) ∧ (v ≤ 0 → x < y → kl (fun g a => skey (fRF c (xs a)) (lsf c) (ms a) g) (k - i).toNat i x y) ∧ (0 < v → kl (fun g a => skey (fRF c (xs a)) (lsf c) (ms a) g) (k - i).toNat i y x) := fun eq => by
        rw [es]
        exact ⟨v, e, fun h1 h2 => Or.inr ⟨eq, v1 h1 h2⟩, fun h1 => Or.inr ⟨eq.symm, v2 h1⟩⟩
      generalize xl4 (yl299_3 B) N = R at go ⊢
      unfold yl299_3
      rw [if_pos h, if_pos xb, X1, w32_id (x := i + 1) (by omega) (by omega)]
      by_cases b1 : bin (ms x) i = true
      · rw [if_pos (bx.mpr b1), if_pos yb, Y1]
        by_cases b2 : bin (ms y) i = true
        · rw [if_pos (by'.mpr b2), if_pos xi, if_pos yi, X3 i i0 h, Y3 i i0 h, if_pos b1, if_pos b2]
          have vr := val_rk dk rm G (vx (nzx b1)).1 (vx (nzx b1)).2 (vy (nzy b2)).1 (vy (nzy b2)).2 i i0 h
          rw [if_pos b1] at kx
          rw [if_pos b2] at ky
          by_cases ev : fV c (xs x) i = fV c (xs y) i
          · rw [if_pos ev]
            exact go (by rw [kx, ky]; exact vr.1.mp ev)
          · rw [if_neg ev]
            by_cases lt : fV c (xs x) i < fV c (xs y) i
            · rw [if_pos lt]
              refine ⟨-1, rfl, fun _ _ => ?_, fun z => absurd z (by decide)⟩
              rw [es]
              exact Or.inl (by dsimp only; rw [kx, ky]; exact vr.2.mp lt)
            · rw [if_neg lt]
              refine ⟨1, rfl, fun z => absurd z (by decide), fun _ => ?_⟩
              rw [es]
              have vr' := val_rk dk rm G (vy (nzy b2)).1 (vy (nzy b2)).2 (vx (nzx b1)).1 (vx (nzx b1)).2 i i0 h
              exact Or.inl (by dsimp only; rw [kx, ky]; exact vr'.2.mp (by omega))
        · rw [if_neg (fun z => b2 (by'.mp z))]
          refine ⟨-1, rfl, fun _ _ => ?_, fun z => absurd z (by decide)⟩
          rw [es]
          rw [if_pos b1] at kx
          rw [if_neg b2] at ky
          have := rf_b dk rm G (vx (nzx b1)).1 (vx (nzx b1)).2 i i0 h
          exact Or.inl (by dsimp only; rw [kx, ky]; exact this.2)
      · rw [if_neg (fun z => b1 (bx.mp z)), if_pos yb, Y1]
        by_cases b2 : bin (ms y) i = true
        · rw [if_pos (by'.mpr b2)]
          refine ⟨1, rfl, fun z => absurd z (by decide), fun _ => ?_⟩
          rw [es]
          rw [if_neg b1] at kx
          rw [if_pos b2] at ky
          have := rf_b dk rm G (vy (nzy b2)).1 (vy (nzy b2)).2 i i0 h
          exact Or.inl (by dsimp only; rw [kx, ky]; exact this.2)
        · rw [if_neg (fun z => b2 (by'.mp z)), if_pos xi, if_pos yi, X3 i i0 h, Y3 i i0 h, if_neg b1, if_neg b2, if_pos rfl]
          rw [if_neg b1] at kx
          rw [if_neg b2] at ky
          exact go (by rw [kx, ky])
    · unfold yl299_3
      rw [if_neg h]
      refine ⟨0, rfl, fun _ h2 => ?_, fun z => absurd z (by decide)⟩
      rw [show (k - i).toNat = 0 by omega]
      exact h2
theorem bspc_ok {m : xw_M} {A : Int} {xs ms : Int → Int} {Ls : Int → List Int} (dk : dsk B c D M tu Kx Rf Rv) (rm : ram c D M tu Kx) (G : GC c r q D k) (Y : ∀ a, 0 ≤ a → a < A → AW c m k M a (ms a) (xs a) (Ls a)) (hm : ∀ a, 0 ≤ a → a < A → (0 ≤ ms a ∧ ms a < 256) ∧ (ms a ≠ 0 → 0 ≤ xs a ∧ xs a < xR c 536 31)) (A4 : A ≤ 4000) : bspc B m k (fun g a => skey (fRF c (xs a)) (lsf c) (ms a) g) A := fun m' sf x y x0 x1 y0 y1 => by
  have k8 := G.2.2.1
  obtain ⟨NN, hNN⟩ : ∃ NN : Nat, NN = 1000000 := ⟨_, rfl⟩
  obtain ⟨v, e, v1, v2⟩ := bef_l (B := B) (m := m') dk rm G (fun a a0 a1 => AW_s (fun y y0 y1 => sf.1 y (by omega) (by omega) (by omega)) (Y a a0 a1)) hm A4 x0 x1 y0 y1 NN 0 (Int.le_refl _) k8.1 (by omega)
  rw [show (k - 0).toNat = k.toNat by omega] at v1 v2
  unfold yf299
  rw [← hNN]
  exact ⟨v, e, v1, v2⟩
end BEF
