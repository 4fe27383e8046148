/-! THE ANSWER, by the class: a view as a source -/
section CLV
variable {B : Nat} {t k it S : Int} {c r : xw_M} {q D M tu nc p tq : Int} {Kx Rf : Int → Int} {Rv : Int → Int → Int}
theorem srcV {n : Nat} {i a : Int} (hB : B ≤ 512) (dk : dsk B c D M tu Kx Rf Rv) (rm : ram c D M tu Kx) (A : ASK c D M k it nc p) (F : FX c t k it S (xR c 228) (lsf c) (xR c 224)) (hn : xR c 223 2 = it) (G : GC c r q D k) (gp : GP c r q tq k S) (hv : HVl c nc) (lw : LW c nc k) (gl : ∀ g, 0 ≤ g → g < k → xR c 227 g % 4 < xR c (15 + 26 * (xR c 227 g / 4)) 10) (ll : ∀ d, 0 ≤ d → d < D → xR c 292 d < 4 → xR c 292 d < xR c (15 + 26 * d) 10) (N2 : xR c 536 31 ≤ 20000) (i0 : 0 ≤ i) (i1 : i < xR c 536 40) (vb : ∀ j, 0 ≤ j → j < xR c 536 40 → 0 ≤ xR c 579 j ∧ xR c 579 j < 2147483648) (fit : fitc c D (xR c 579 i)) (ha : (a = 1 ∧ ∀ e, 0 ≤ e → e < xR c 536 52 → Kx e ≠ 3) ∨ ((0 ≤ a ∧ a < xR c 536 52) ∧ Kx a = 3)) (rs0 : ∃ p, rs B c p) (s0 : ∀ hl rk cf mo, ST c t k it S (xR c 228) (lsf c) (xR c 224) hl rk cf mo 0) (n1 : n = 1000000) : ∃ m' W, xl3 (yl93_38 B) n i t a c = yk93_99 B i t m' ∧ fLo t c m' ∧ (∃ p, rs B m' p) ∧ (∀ w, w ∈ W → GRw c k it w) ∧ ((W.map Prod.fst).flatten).Perm (lst (fun x => x) (xR c 536 31).toNat) ∧ ST m' t k it S (xR c 228) (lsf c) (xR c 224) (hlR c W) (rkR c W) (cfR W) (moR W) W.length := by
  have E2 := dk.ex.1
  have e1 := dk.e1
  have mono := cfx_nn (K := Kx) (Rf := Rf) dk.rf
  have k0 := dk.kd 0 (by omega) (by omega)
  have a1 : 1 ≤ a ∧ a ≤ xR c 536 52 := by
    rcases ha with h | ⟨h1, h2⟩
    · omega
    · by_cases z : a = 0
      · rw [z] at h2; omega
      · omega
  have c1 : cfx Kx Rf 1 = 0 := by
    show cfx Kx Rf 0 + (if hfx Kx ((0 : Nat) : Int) = true then Rf ((0 : Nat) : Int) else 0) = 0
    rw [if_neg]
    · rfl
    · intro z
      have := of_decide_eq_true z
      rw [show ((0 : Nat) : Int) = 0 from rfl] at this
      omega
  have nlat : ∀ e, a ≤ e → e < xR c 536 52 → ∀ e', e < e' → e' < xR c 536 52 → Kx e' ≠ 3 := fun e h1 h2 e' h3 h4 h5 => by
    rcases ha with h | ⟨g1, g2⟩
    · exact h.2 e' (by omega) h4 h5
    · have := dk.one a e' g1.1 g1.2 (by omega) h4 g2 h5; omega
  have k3 : ∀ e, a ≤ e → e < xR c 536 52 → Kx e = 3 → e = a := fun e h1 h2 h3 => by
    rcases ha with h | ⟨g1, g2⟩
    · exact absurd h3 (h.2 e (by omega) h2)
    · exact dk.one e a (by omega) h2 g1.1 g1.2 h3 g2
  have ka : ∀ e, a ≤ e → e < xR c 536 52 → Kx e ≠ 3 → hfx Kx e = true := fun e h1 h2 h3 => by
    have := dk.kd e (by omega) h2
    exact decide_eq_true (by omega)
  have ex : ∀ e : Int, ∃ z : (Int → Int → Int) × (Int → Int → Int) × (Int → Int), a ≤ e → e < xR c 536 52 → VE B c D M Kx Rf (Rv e) e (if Kx e = 3 then 0 else cfx Kx Rf e.toNat) (if Kx e = 3 then cfx Kx Rf e.toNat else Rf e) z.1 z.2.1 z.2.2 := fun e => by
    by_cases h : a ≤ e ∧ e < xR c 536 52
    · obtain ⟨h0, h1⟩ := h
      obtain ⟨qq, x1, x2, x3, x4⟩ := dk.xt e (by omega) h1
      obtain ⟨qe, ⟨Os, Ss, Q, y1, y2, y3⟩, x5⟩ := x4 (nlat e h0 h1)
      have sb := dk.ex.2.1 e (by omega) h1
      refine ⟨(Os, Ss, Q), fun _ _ => ⟨qq, fun z => x1 (of_decide_eq_true z), fun z => x2 (of_decide_eq_false z), y1, by rw [show (Os, Ss, Q).2.2 = Q from rfl, y2]; omega, y3⟩⟩
    · exact ⟨(fun _ _ => 0, fun _ _ => 0, fun _ => 0), fun h1 h2 => absurd ⟨h1, h2⟩ h⟩
  obtain ⟨z, hz⟩ := Classical.axiomOfChoice ex
  obtain ⟨f0, hf0⟩ : ∃ f0 : Int → Int, ∀ e, f0 e = (if Kx e = 3 then 0 else cfx Kx Rf e.toNat) := ⟨_, fun _ => rfl⟩
  obtain ⟨n0, hn0⟩ : ∃ n0 : Int → Int, ∀ e, n0 e = (if Kx e = 3 then cfx Kx Rf e.toNat else Rf e) := ⟨_, fun _ => rfl⟩
  have VV : ∀ e, a ≤ e → e < xR c 536 52 → VE B c D M Kx Rf (Rv e) e (f0 e) (n0 e) (z e).1 (z e).2.1 (z e).2.2 := fun e h0 h1 => by rw [hf0, hn0]; exact hz e h0 h1
  have hvd : ∀ d, 0 ≤ d → d < D → xR c 292 d < 4 → vhas (xR c 538) D (xR c 579 i) d = true ∧ vdg (xR c 538) D (xR c 579 i) d ≤ xR c 292 d := fun d d0 d1 h4 => by
    have a := fit d d0 d1 h4
    have b := ll d d0 d1 h4
    rw [vdg_cg (lv' := xR c 538) d0 d1 (fun d d0 d1 => by unfold lvc; exact (rm.cg.sz d d0 d1).2.1.symm)] at a
    have s2 := (rm.cg.sz d d0 d1).2.1
    exact ⟨decide_eq_true (by omega), a⟩
  have cb : ∀ e : Int, a ≤ e → e < xR c 536 52 → 0 ≤ cfx Kx Rf e.toNat ∧ cfx Kx Rf (e.toNat + 1) ≤ xR c 536 31 := fun e h0 h1 => by
    have m0 := mono e.toNat 0
    rw [show 0 + e.toNat = e.toNat by omega] at m0
    have m1 := mono ((xR c 536 52).toNat - (e.toNat + 1)) (e.toNat + 1)
    rw [show e.toNat + 1 + ((xR c 536 52).toNat - (e.toNat + 1)) = (xR c 536 52).toNat by omega, dk.sm] at m1
    exact ⟨m0, m1⟩
  have cs : ∀ e : Int, a ≤ e → e < xR c 536 52 → f0 e + n0 e = cfx Kx Rf (e.toNat + 1) ∧ 0 ≤ f0 e ∧ 0 ≤ n0 e := fun e h0 h1 => by
    have b := cb e h0 h1
    have e3 : cfx Kx Rf (e.toNat + 1) = cfx Kx Rf e.toNat + (if hfx Kx e = true then Rf e else 0) := by
      show cfx Kx Rf e.toNat + (if hfx Kx ((e.toNat : Nat) : Int) = true then Rf ((e.toNat : Nat) : Int) else 0) = _
      rw [Int.toNat_of_nonneg (by omega)]
    rw [hf0, hn0, e3]
    by_cases h3 : Kx e = 3
    · rw [if_pos h3, if_pos h3, if_neg (fun z => by have := of_decide_eq_true z; omega)]
      omega
    · rw [if_neg h3, if_neg h3, if_pos (ka e h0 h1 h3)]
      have := dk.rf e
      omega
  have hW : ∀ n, n ≤ (xR c 536 52 - a).toNat → ∀ w, w ∈ rsc (sgV c D (xR c 579 i) f0 (fun e => (z e).1 i) (fun e => (z e).2.1 i) (fun e => Rv e i)) a n → GRw c k it w := fun n hn' w hw => by
    obtain ⟨j, j1, h2⟩ := rsc_mem n hw
    have v := VV (a + j) (by omega) (by omega)
    obtain ⟨qq, _, _, _, _, v5⟩ := v
    have s := cs (a + j) (by omega) (by omega)
    have b := cb (a + j) (by omega) (by omega)
    exact grw_V (e := a + j) (n0 := n0) dk rm A hv lw gl N2 hvd (v5 i i0 i1).1 ⟨s.2.1, by omega⟩ w h2
  have bs : ∀ n : Nat, n < (xR c 536 52 - a).toNat → (if n = 0 then 0 else cfx Kx Rf (a + n).toNat) = f0 (a + n) := fun n hn' => by
    rw [hf0]
    by_cases q : n = 0
    · rw [if_pos q, q, show a + ((0 : Nat) : Int) = a by omega]
      rcases ha with h | ⟨g1, g2⟩
      · rw [if_neg (h.2 a (by omega) (by omega)), h.1]
        exact c1.symm
      · rw [if_pos g2]
    · rw [if_neg q, if_neg (fun h => by have := k3 (a + n) (by omega) (by omega) h; omega)]
  have P := perm_l (sg := sgV c D (xR c 579 i) f0 (fun e => (z e).1 i) (fun e => (z e).2.1 i) (fun e => Rv e i)) (a := a) (bs := fun n => if n = 0 then 0 else cfx Kx Rf (a + n).toNat) (T := (xR c 536 52 - a).toNat) rfl (fun n hn' => by
    have b1 := bs n hn'
    have s := cs (a + n) (by omega) (by omega)
    obtain ⟨qq, _, _, _, _, v5⟩ := VV (a + n) (by omega) (by omega)
    have zz := sgV_p (c := c) (D := D) (v := xR c 579 i) (f0 := f0) (Os := fun e => (z e).1 i) (Ss := fun e => (z e).2.1 i) (Rs := fun e => Rv e i) (e := a + (n : Int)) (n0 := n0) (v5 i i0 i1).1 s.2.2
    show (if n = 0 then 0 else cfx Kx Rf (a + n).toNat) ≤ (if n + 1 = 0 then 0 else cfx Kx Rf (a + ((n + 1 : Nat) : Int)).toNat) ∧ (_ : List Int).Perm (lst (fun q => (if n = 0 then 0 else cfx Kx Rf (a + n).toNat) + q) ((if n + 1 = 0 then 0 else cfx Kx Rf (a + ((n + 1 : Nat) : Int)).toNat) - (if n = 0 then 0 else cfx Kx Rf (a + n).toNat)).toNat)
    rw [b1, if_neg (Nat.succ_ne_zero n), show (a + ((n + 1 : Nat) : Int)).toNat = (a + n).toNat + 1 by omega, ← s.1]
    refine ⟨by omega, ?_⟩
    rw [show f0 (a + n) + n0 (a + n) - f0 (a + n) = n0 (a + n) by omega]
    exact zz) (xR c 536 52 - a).toNat (Nat.le_refl _)
  have tot : (if (xR c 536 52 - a).toNat = 0 then 0 else cfx Kx Rf (a + ((xR c 536 52 - a).toNat : Int)).toNat) = xR c 536 31 := by
    by_cases q : (xR c 536 52 - a).toNat = 0
    · rw [if_pos q]
      have ea : xR c 536 52 = 1 := by rcases ha with h | h <;> omega
      have := dk.sm
      rw [ea] at this
      rw [← this]
      exact c1.symm
    · rw [if_neg q, show (a + ((xR c 536 52 - a).toNat : Int)).toNat = (xR c 536 52).toNat by omega, dk.sm]
  rw [tot] at P
  obtain ⟨m', e', f', r', s'⟩ := ext_l (B := B) (c := c) (sg := sgV c D (xR c 579 i) f0 (fun e => (z e).1 i) (fun e => (z e).2.1 i) (fun e => Rv e i)) (a := a) (E := xR c 536 52) (x1 := i) F.1 (by omega) (by omega) rm.ex E2.2 (fun n m1 R h1 f rr h8 s => by
    have s3 := cs (a + n) (by omega) h1
    have b := cb (a + n) (by omega) h1
    obtain ⟨m2, a1, a2, a3, a4⟩ := stepV (B := B) (e := a + (n : Int)) (i := i) (f0 := f0) (n0 := n0) (OO := fun e => (z e).1) (SS := fun e => (z e).2.1) (QQ := fun e => (z e).2.2) (J0 := (rsc (sgV c D (xR c 579 i) f0 (fun e => (z e).1 i) (fun e => (z e).2.1 i) (fun e => Rv e i)) a n).length) (W := rsc (sgV c D (xR c 579 i) f0 (fun e => (z e).1 i) (fun e => (z e).2.1 i) (fun e => Rv e i)) a (xR c 536 52 - a).toNat) R hB dk rm A F hn i0 i1 vb fit ll (VV (a + n) (by omega) h1) ⟨s3.2.1, by omega⟩ (by omega) h1 f rr (fun j hj => rsc_g (by omega) hj) (fun j hj => dd_W dk rm G gp (hW _ (Nat.le_refl _)) P.2 (by
      obtain ⟨u, eu⟩ := rsc_p (sg := sgV c D (xR c 579 i) f0 (fun e => (z e).1 i) (fun e => (z e).2.1 i) (fun e => Rv e i)) (a := a) (n := n) (xR c 536 52 - a).toNat (by omega)
      rw [eu, List.length_append, List.length_append]; omega)) s
    refine ⟨m2, a1, a2, a3, ?_⟩
    show ST m2 t k it S _ _ _ _ _ _ _ (rsc (sgV c D (xR c 579 i) f0 (fun e => (z e).1 i) (fun e => (z e).2.1 i) (fun e => Rv e i)) a n ++ sgV c D (xR c 579 i) f0 (fun e => (z e).1 i) (fun e => (z e).2.1 i) (fun e => Rv e i) (a + n)).length
    rw [List.length_append]
    exact a4) n 0 c (by omega) (by omega) fLo_r rs0 (s0 _ _ _ _)
  rw [show a + ((0 : Nat) : Int) = a by omega] at e'
  exact ⟨m', _, e', f', r', hW _ (Nat.le_refl _), P.2, s'⟩
end CLV
