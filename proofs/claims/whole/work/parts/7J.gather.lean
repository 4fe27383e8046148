/-! gatherFacts -/
/-- whether an extent has facts -/
def hfx (K : Int → Int) (e : Int) : Bool := decide (K e = 2 ∨ K e = 4)
/-- how many facts the extents before e have -/
def cfx (K Rf : Int → Int) : Nat → Int
  | 0 => 0
  | e + 1 => cfx K Rf e + (if hfx K e = true then Rf e else 0)
def fG (m m' : xw_M) : Prop := (∀ a, a ≠ 530 → a ≠ 532 → (a < 302 ∨ 336 < a) → a ≠ 371 → a ≠ 372 → (a < 395 ∨ 414 < a) → m' a = m a) ∧ (∀ k, k ≠ 2 → m' 530 k = m 530 k) ∧ ∀ k, k ≠ 5 → m' 395 k = m 395 k
section GATHER
variable {B : Nat} {m : xw_M} {D M : Int}
theorem hasFacts_ok {e : Int} (e0 : 0 ≤ e) (e1 : e < 200) : yf103 B e m = some (.inl (if hfx (xR m 513) e = true then 1 else 0), m) := by
  unfold yf103 hfx
  rw [if_pos ⟨e0, e1⟩]
  by_cases h2 : xR m 513 e = 2
  · rw [if_pos h2, decide_eq_true (Or.inl h2), if_pos rfl]
  · rw [if_neg h2]
    by_cases h4 : xR m 513 e = 4
    · rw [if_pos h4, decide_eq_true (Or.inr h4), if_pos rfl]
    · rw [if_neg h4, decide_eq_false (fun h => h.elim h2 h4), if_neg (by decide)]
theorem goTo_ok {e s p : Int} (hB : B ≤ 512) (e0 : 0 ≤ e) (e1 : e < 200) (hs : xR m 514 e = s) (s0 : 0 ≤ s) (s1 : s < B) (h : rs B m p) : ∃ m', yf22 B e m = some (.inl 530, m') ∧ rs B m' (s * 32768 + 64) ∧ rg m m' := by
  unfold yf22
  rw [if_pos ⟨e0, e1⟩, hs]
  exact ⟨_, rfl, rs_to hB h (by omega) (by omega), rg_to (rg_refl m)⟩
/-- a facts' part on the disk -/
def fpart (B : Nat) (Wd : Int → Int) (D M s R : Int) (T : Int → Int → Int) : Prop := (0 ≤ s ∧ s < B) ∧ cwd T ∧ (∀ c j, 0 ≤ c → c < D → 0 ≤ j → j < R → xw_rg (T c j)) ∧ Part Wd (s * 32768 + 64) R (D + M).toNat T ∧ s * 32768 + 64 + 8 * partB T R (D + M).toNat ≤ 64 * (B * 512 : Nat)
theorem gather_ok {K S Rf : Int → Int} {Tf : Int → Int → Int → Int} {E p : Int} (hB : B ≤ 512) (hD : 0 ≤ D ∧ D ≤ 8) (hM : 0 ≤ M ∧ M ≤ 8) (h31 : xR m 3 1 = D) (h32 : xR m 3 2 = M) (hK : xR m 513 = K) (hS : xR m 514 = S) (E0 : 0 ≤ E) (E1 : E ≤ 200) (hR : ∀ e, 0 ≤ e → e < E → hfx K e = true → 0 ≤ Rf e ∧ fpart B (m 516) D M (S e) (Rf e) (Tf e)) (hsum : cfx K Rf E.toNat ≤ 20000) (hrs : rs B m p) : ∃ m' p', yf210 B E m = some (.inl 0, m') ∧ fG m m' ∧ rs B m' p' ∧ xR m' 395 5 = cfx K Rf E.toNat ∧ ∀ e, 0 ≤ e → e < E → hfx K e = true → (∀ c j, 0 ≤ c → c < D → 0 ≤ j → j < Rf e → xR m' (398 + c) (cfx K Rf e.toNat + j) = Tf e c j) ∧ ∀ k j, 0 ≤ k → k < M → 0 ≤ j → j < Rf e → xJ m' (407 + k) (cfx K Rf e.toNat + j) = Tf e (D + k) j := by
  obtain ⟨V, hV⟩ : ∃ V, V = cfx K Rf := ⟨_, rfl⟩
  have hs : ∀ i : Nat, V (i + 1) = V i + (if hfx K i = true then Rf i else 0) := fun i => by rw [hV]; rfl
  have hV0 : V 0 = 0 := by rw [hV]; rfl
  have hstep : ∀ i : Nat, (i : Int) < E → V i ≤ V (i + 1) := fun i hi => by
    rw [hs]
    by_cases h : hfx K i = true
    · rw [if_pos h]
      have := (hR i (by omega) hi h).1
      omega
    · rw [if_neg h]
      omega
  have hmono : ∀ (j i : Nat), (i + j : Nat) ≤ E → V i ≤ V (i + j) := by
    intro j
    induction j with
    | zero => intro i _; exact Int.le_refl _
    | succ j ih =>
      intro i hi
      have a1 := ih i (by omega)
      have a2 := hstep (i + j) (by omega)
      rw [show i + (j + 1) = i + j + 1 from by omega]
      omega
  rw [← hV] at hsum ⊢
  unfold yf210
  obtain ⟨m0, hm0⟩ : ∃ m0, m0 = xw_u m 395 5 0 := ⟨_, rfl⟩
  rw [← hm0]
  have Z1 : ∀ a, a ≠ 395 → m0 a = m a := fun a ha => by rw [hm0]; exact xu_c ha
  obtain ⟨m1, e1, F1, s5, s6, s7, sd⟩ := shapeF_ok (B := B) (m := m0) hD hM (by rw [xR_cg (Z1 3 (by decide))]; exact h31) (by rw [xR_cg (Z1 3 (by decide))]; exact h32)
  have n0 : xR m1 395 5 = 0 := by rw [xR_cg (F1.1 395 (by decide) (by decide) (by decide)), hm0, xR_u, if_pos ⟨rfl, rfl⟩]; rfl
  have G1 : fG m m1 := ⟨fun a a1 a2 a3 a4 a5 a6 => (F1.1 a (by omega) a4 a5).trans (Z1 a (by omega)), fun k hk => by rw [F1.1 530 (by decide) (by decide) (by decide), Z1 530 (by decide)], fun k hk => by
    rw [F1.1 395 (by decide) (by decide) (by decide), hm0]
    exact if_neg (fun h => hk h.2)⟩
  have R1 : rs B m1 p := by
    unfold rs
    rw [xR_cg (F1.1 530 (by decide) (by decide) (by decide)), xR_cg (Z1 530 (by decide))]
    exact hrs
  rw [e1, xB_ret]
  generalize hN : (1000000 : Nat) = N
  have goal := xH_ex (Q := fun w m' => w = 0 ∧ ∃ p', fG m m' ∧ rs B m' p' ∧ xR m' 395 5 = V E.toNat ∧ ∀ e, 0 ≤ e → e < E → hfx K e = true → (∀ c j, 0 ≤ c → c < D → 0 ≤ j → j < Rf e → xR m' (398 + c) (V e.toNat + j) = Tf e c j) ∧ ∀ k j, 0 ≤ k → k < M → 0 ≤ j → j < Rf e → xJ m' (407 + k) (V e.toNat + j) = Tf e (D + k) j) (xl2_rule (F := yl210_17 B) (fun y1 x m' => y1 = E ∧ 0 ≤ x ∧ x ≤ E ∧ fG m m' ∧ m' 302 = m1 302 ∧ (∃ p', rs B m' p') ∧ xR m' 395 5 = V x.toNat ∧ ∀ e, 0 ≤ e → e < x → hfx K e = true → (∀ c j, 0 ≤ c → c < D → 0 ≤ j → j < Rf e → xR m' (398 + c) (V e.toNat + j) = Tf e c j) ∧ ∀ k j, 0 ≤ k → k < M → 0 ≤ j → j < Rf e → xJ m' (407 + k) (V e.toNat + j) = Tf e (D + k) j) (fun _ x _ => (E - x).toNat) ?_ N E 0 m1 ⟨rfl, by omega, E0, G1, rfl, ⟨p, R1⟩, by rw [show (0 : Int).toNat = 0 from rfl, hV0]; exact n0, fun i i0 i1 => absurd i1 (Int.not_lt.mpr i0)⟩ (by omega))
  · obtain ⟨w, m', e, rfl, p', h⟩ := goal
    exact ⟨m', p', e, h⟩
  · intro q y1 x mx ⟨b1, x0, x1, G, h302, ⟨px, Rx⟩, nx, PP⟩ ih
    subst b1
    unfold yl210_17
    by_cases hx : x < y1
    · have kx : xR mx 513 = K := by rw [xR_cg (G.1 513 (by decide) (by decide) (by decide) (by decide) (by decide) (by decide))]; exact hK
      have sx : xR mx 514 = S := by rw [xR_cg (G.1 514 (by decide) (by decide) (by decide) (by decide) (by decide) (by decide))]; exact hS
      have wx : mx 516 = m 516 := G.1 516 (by decide) (by decide) (by decide) (by decide) (by decide) (by decide)
      have vstep := hs x.toNat
      rw [Int.toNat_of_nonneg x0] at vstep
      rw [if_pos hx, hasFacts_ok x0 (by omega), xB_ret, kx, w32_id (by omega) (by omega)]
      by_cases hf : hfx K x = true
      · obtain ⟨r0, ⟨f1, f2⟩, f3, f4, f5, f6⟩ := hR x x0 hx hf
        rw [if_pos hf] at vstep
        obtain ⟨m2, e2, R2, G2⟩ := goTo_ok (B := B) (m := mx) (e := x) (s := S x) hB x0 (by omega) (by rw [sx]) f1 f2 Rx
        have vx0 := hmono x.toNat 0 (by omega)
        rw [Nat.zero_add, hV0] at vx0
        have vx1 := hmono (y1.toNat - (x.toNat + 1)) (x.toNat + 1) (by omega)
        rw [show x.toNat + 1 + (y1.toNat - (x.toNat + 1)) = y1.toNat from by omega] at vx1
        have q302 : m2 302 = m1 302 := (G2.1 302 (by decide)).trans h302
        obtain ⟨m3, e3, R3, G3, n3, c3, a3⟩ := rd_facts (B := B) (m := m2) (T := Tf x) (R := Rf x) (n0 := V x.toNat) hB hD hM f3 (by rw [xR_cg q302]; exact s5) (by rw [xR_cg q302, s6]; omega) (by rw [xR_cg (G2.1 3 (by decide)), xR_cg (G.1 3 (by decide) (by decide) (by decide) (by decide) (by decide) (by decide))]; exact h32) (by rw [xR_cg (G2.1 395 (by decide))]; exact nx) vx0 (by omega) f4 R2 (by rw [G2.1 516 (by decide), wx]; exact f5) f6
        rw [if_pos hf, if_neg (by decide), e2, xB_ret, e3, xB_ret]
        refine ih _ _ _ ⟨rfl, by omega, by omega, ⟨fun a a1 a2 a3 a4 a5 a6 => ((G3.1 a a1 a2 (by omega) a6).trans (G2.1 a a1)).trans (G.1 a a1 a2 a3 a4 a5 a6), fun k hk => ((G3.2.1 k hk).trans (G2.2 k hk)).trans (G.2.1 k hk), fun k hk => ((G3.2.2.1 k hk).trans (by rw [G2.1 395 (by decide)])).trans (G.2.2 k hk)⟩, (G3.1 302 (by decide) (by decide) (by decide) (by decide)).trans q302, ⟨_, R3⟩, ?_, fun e e0 e1 he => ?_⟩ (by omega)
        · rw [show (x + 1).toNat = x.toNat + 1 from by omega, vstep]
          exact n3
        · by_cases ee : e = x
          · subst ee
            exact ⟨c3, a3⟩
          · obtain ⟨u1, u2⟩ := PP e e0 (by omega) he
            have ve := hs e.toNat
            rw [Int.toNat_of_nonneg e0, if_pos he] at ve
            have ve1 := hmono (x.toNat - (e.toNat + 1)) (e.toNat + 1) (by omega)
            rw [show e.toNat + 1 + (x.toNat - (e.toNat + 1)) = x.toNat from by omega] at ve1
            refine ⟨fun c j c0 c1 j0 j1 => ?_, fun k j k0 k1 j0 j1 => ?_⟩
            · have := u1 c j c0 c1 j0 j1
              rw [← this]
              unfold xR
              rw [G3.2.2.2.1 (398 + c) _ (by omega) (by omega) (by omega), G2.1 (398 + c) (by omega)]
            · have := u2 k j k0 k1 j0 j1
              rw [← this]
              unfold xJ
              rw [G3.2.2.2.1 (407 + k) _ (by omega) (by omega) (by omega), G2.1 (407 + k) (by omega)]
      · rw [if_neg hf] at vstep
        rw [if_neg hf, if_pos rfl]
        refine ih _ _ _ ⟨rfl, by omega, by omega, G, h302, ⟨px, Rx⟩, ?_, fun e e0 e1 he => ?_⟩ (by omega)
        · rw [show (x + 1).toNat = x.toNat + 1 from by omega, vstep, nx]
          omega
        · have : e ≠ x := fun h => hf (by rw [← h]; exact he)
          exact PP e e0 (by omega) he
    · have e : x = y1 := by omega
      subst e
      rw [if_neg hx, xH_ret]
      exact ⟨rfl, px, G, Rx, nx, PP⟩
end GATHER
