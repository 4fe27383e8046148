/-! THE ANSWER, by the class: all parts of the table come in -/
theorem rsc_mem {sg : Int → List Srow} {a : Int} {w : Srow} : ∀ n : Nat, w ∈ rsc sg a n → ∃ i : Nat, i < n ∧ w ∈ sg (a + i)
  | 0, h => absurd h List.not_mem_nil
  | n + 1, h => by
    rcases List.mem_append.mp h with q | q
    · obtain ⟨i, i1, i2⟩ := rsc_mem n q
      exact ⟨i, by omega, i2⟩
    · exact ⟨n, by omega, q⟩
/-- the greatest rank's follower: a group's ALL -/
def lsf (c : xw_M) (g : Int) : Int := xR c (15 + 26 * (xR c 227 g / 4) + 23) (xR c 227 g % 4)
section CLS
variable {B : Nat} {t k it S : Int} {c r : xw_M} {q D M tu nc p tq : Int} {Kx Rf : Int → Int} {Rv : Int → Int → Int}
theorem hvl_of (C : cgr c r D M) (Q : CQ c r q D nc) : HVl c nc := fun i d l i0 i1 e l0 l1 => by
  obtain ⟨_, ⟨d', l', a1, a2, a3, a4, a5, a6⟩, _⟩ := Q.2.2.2.2 i i0 i1
  have L4 := (C.cn.2.2.2.2.1 d' a2 a3).2.1.2
  obtain ⟨rfl, rfl⟩ : d' = d ∧ l' = l := by omega
  refine ⟨a5, fun x y x0 x1 y0 y1 ev => ?_⟩
  rw [(a6 x x0 x1).2, (a6 y y0 y1).2, ev]
theorem gl_of (C : cgr c r D M) (G : GC c r q D k) : ∀ g, 0 ≤ g → g < k → xR c 227 g % 4 < xR c (15 + 26 * (xR c 227 g / 4)) 10 := fun g g0 g1 => by
  obtain ⟨_, d, l, a1, a2, a3, a4, a5⟩ := G.2.2.2.1 g g0 g1
  have L4 := (C.cn.2.2.2.2.1 d a2 a3).2.1.2
  rw [a1, show (4 * d + l) / 4 = d by omega, show (4 * d + l) % 4 = l by omega]
  exact a5
theorem lw_of (C : cgr c r D M) (Q : CQ c r q D nc) (G : GC c r q D k) (L : LW c nc k) : ∀ d, 0 ≤ d → d < D → xR c 292 d < 4 → xR c 292 d < xR c (15 + 26 * d) 10 := fun d d0 d1 h4 => by
  have D8 := C.cn.1
  refine Classical.byContradiction fun nn => ?_
  have Ld := L d d0 (by omega)
  have le := (Ld (xR c 292 d)).mp (Int.le_refl _)
  have up := (Ld (xR c 292 d + 1)).mpr ⟨by omega, fun i i0 i1 e => ?_, fun i i0 i1 e => ?_⟩
  · omega
  · have a := le.2.1 i i0 i1 e
    obtain ⟨_, ⟨d', l', a1, a2, a3, a4, a5, a6⟩, _⟩ := Q.2.2.2.2 i i0 i1
    have L4 := (C.cn.2.2.2.2.1 d' a2 a3).2.1.2
    rw [a1] at e a ⊢
    obtain rfl : d' = d := by omega
    omega
  · have a := le.2.2 i i0 i1 e
    obtain ⟨_, d', l, a1, a2, a3, a4, a5⟩ := G.2.2.2.1 i i0 i1
    have L4 := (C.cn.2.2.2.2.1 d' a2 a3).2.1.2
    rw [a1] at e a ⊢
    obtain rfl : d' = d := by omega
    omega
/-- a fact's ranks are below ALL -/
theorem rf_b (dk : dsk B c D M tu Kx Rf Rv) (rm : ram c D M tu Kx) (G : GC c r q D k) {x : Int} (x0 : 0 ≤ x) (x1 : x < xR c 536 31) : ∀ g, 0 ≤ g → g < k → 0 ≤ fRF c x g ∧ fRF c x g < lsf c g := fun g g0 g1 => by
  obtain ⟨_, d, l, a1, a2, a3, a4, a5⟩ := G.2.2.2.1 g g0 g1
  have L4 := (rm.cg.cn.2.2.2.2.1 d a2 a3).2.1.2
  have pb := dk.pl x d x0 x1 a2 a3
  have s3 := (rm.cg.sz d a2 a3).2.2.1
  obtain ⟨K, e, b, R⟩ := rm.ar d a2 a3 l a4 a5
  have z := (R.2.2.1 (xR c 575 (8 * x + d)) pb.1 (by omega)).1
  unfold fRF rmb lsf
  rw [a1, show (4 * d + l) / 4 = d by omega, show (4 * d + l) % 4 = l by omega, e]
  exact z
theorem ls_b (rm : ram c D M tu Kx) (G : GC c r q D k) : ∀ g, 0 ≤ g → g < k → 0 ≤ lsf c g ∧ lsf c g ≤ 1000 := fun g g0 g1 => by
  obtain ⟨_, d, l, a1, a2, a3, a4, a5⟩ := G.2.2.2.1 g g0 g1
  have L4 := (rm.cg.cn.2.2.2.2.1 d a2 a3).2.1.2
  have n1 := (rm.cg.cn.2.2.2.2.1 d a2 a3).2.2.1
  obtain ⟨K, e, b, R⟩ := rm.ar d a2 a3 l a4 a5
  have z := R.1
  unfold lsf
  rw [a1, show (4 * d + l) / 4 = d by omega, show (4 * d + l) % 4 = l by omega, e]
  omega
theorem dd_W (dk : dsk B c D M tu Kx Rf Rv) (rm : ram c D M tu Kx) (G : GC c r q D k) (gp : GP c r q tq k S) {W : List Srow} (hW : ∀ w, w ∈ W → GRw c k it w) (P : ((W.map Prod.fst).flatten).Perm (lst (fun x => x) (xR c 536 31).toNat)) {j : Nat} (hj : j < W.length) : ∀ s s', 0 ≤ s → s < S → 0 ≤ s' → s' < S → (∀ g, 0 ≤ g → g < k → skey (rkR c W j) (lsf c) (xR c 228 s) g = skey (rkR c W j) (lsf c) (xR c 228 s') g) → s = s' := by
  have m : W.getD j sr0 ∈ W := by
    rw [List.getD_eq_getElem?_getD, List.getElem?_eq_getElem hj]; exact List.getElem_mem hj
  obtain ⟨g1, g2, _⟩ := hW _ m
  obtain ⟨x, hx⟩ := List.exists_mem_of_ne_nil _ g1
  have xin : x ∈ (W.map Prod.fst).flatten := List.mem_flatten.mpr ⟨_, List.mem_map.mpr ⟨_, m, rfl⟩, hx⟩
  rw [P.mem_iff, lst_mem] at xin
  obtain ⟨y, y1, rfl⟩ := xin
  exact dd_ok G.2.2.1.1 G.2.2.1.2 gp (fun g g0 g1' => by
    have a := rf_b dk rm G (x := (y : Int)) (by omega) (by omega) g g0 g1'
    have b := (g2 _ hx).2 g g0 g1'
    show rmb c (W.getD j sr0).2.1 g ≠ _
    rw [← b]
    omega)
/-- the facts as a source -/
theorem srcF {n : Nat} (hB : B ≤ 512) (dk : dsk B c D M tu Kx Rf Rv) (rm : ram c D M tu Kx) (A : ASK c D M k it nc p) (F : FX c t k it S (xR c 228) (lsf c) (xR c 224)) (hn : xR c 223 2 = it) (G : GC c r q D k) (gp : GP c r q tq k S) (rs0 : ∃ p, rs B c p) (s0 : ∀ hl rk cf mo, ST c t k it S (xR c 228) (lsf c) (xR c 224) hl rk cf mo 0) (n1 : n = 1000000) : ∃ m' W, xl3 (yl93_38 B) n (-1) t 0 c = yk93_99 B (-1) t m' ∧ fLo t c m' ∧ (∃ p, rs B m' p) ∧ (∀ w, w ∈ W → GRw c k it w) ∧ ((W.map Prod.fst).flatten).Perm (lst (fun x => x) (xR c 536 31).toNat) ∧ ST m' t k it S (xR c 228) (lsf c) (xR c 224) (hlR c W) (rkR c W) (cfR W) (moR W) W.length := by
  have E2 := dk.ex.1
  have e1 := dk.e1
  have mono := cfx_nn (K := Kx) (Rf := Rf) dk.rf
  have ex : ∀ e : Int, ∃ o : Int → Int, 0 ≤ e → e < xR c 536 52 → hfx Kx e = true → srt (pk c (cfx Kx Rf e.toNat)) D.toNat o (Rf e) ∧ Part (c 516) (xR c 587 e * 32768 + 64) (Rf e) (D + M).toNat (rT c D (cfx Kx Rf e.toNat) o) ∧ xR c 587 e * 32768 + 64 + 8 * partB (rT c D (cfx Kx Rf e.toNat) o) (Rf e) (D + M).toNat ≤ 64 * (B * 512 : Nat) := fun e => by
    by_cases h : 0 ≤ e ∧ e < xR c 536 52 ∧ hfx Kx e = true
    · obtain ⟨h0, h1, h2⟩ := h
      have kk := of_decide_eq_true h2
      have ke := dk.kd e h0 h1
      obtain ⟨qq, x1, x2, x3, _⟩ := dk.xt e (by omega) h1
      obtain ⟨o, o1, o2, o3⟩ := x1 kk
      have sb := dk.ex.2.1 e h0 h1
      exact ⟨o, fun _ _ _ => ⟨o1, o3, by omega⟩⟩
    · exact ⟨fun x => x, fun a b c => absurd ⟨a, b, c⟩ h⟩
  obtain ⟨os, ho⟩ := Classical.axiomOfChoice ex
  have hW : ∀ n w, w ∈ rsc (sgF c D Kx Rf os) 0 n → GRw c k it w := fun n w hw => by
    obtain ⟨i, _, h2⟩ := rsc_mem n hw
    exact grw_F A w h2
  have P := perm_l (sg := sgF c D Kx Rf os) (a := 0) (bs := fun n => cfx Kx Rf n) (T := (xR c 536 52).toNat) rfl (fun n hn => ⟨mono 1 n, by
    have z := sgF_p (c := c) (D := D) (Kx := Kx) (Rf := Rf) (os := os) (e := 0 + (n : Int)) (fun hf => (ho _ (by omega) (by omega) hf).1.1)
    rw [show (0 + (n : Int)).toNat = n by omega] at z
    have e2 : cfx Kx Rf (n + 1) - cfx Kx Rf n = (if hfx Kx (0 + (n : Int)) = true then Rf (0 + (n : Int)) else 0) := by
      rw [show 0 + (n : Int) = n by omega]
      show cfx Kx Rf n + (if hfx Kx n = true then Rf n else 0) - cfx Kx Rf n = _
      omega
    rw [e2]
    exact z⟩) (xR c 536 52).toNat (Nat.le_refl _)
  rw [dk.sm] at P
  have st := fun (n : Nat) (m1 : xw_M) (R : Int → Int → Int → xw_M → xP) (h1 : 0 + (n : Int) < xR c 536 52) (f : fLo t c m1) (rr : ∃ p, rs B m1 p) (_ : xR m1 t 8 = 0) (s : ST m1 t k it S (xR c 228) (lsf c) (xR c 224) (hlR c (rsc (sgF c D Kx Rf os) 0 (xR c 536 52).toNat)) (rkR c (rsc (sgF c D Kx Rf os) 0 (xR c 536 52).toNat)) (cfR (rsc (sgF c D Kx Rf os) 0 (xR c 536 52).toNat)) (moR (rsc (sgF c D Kx Rf os) 0 (xR c 536 52).toNat)) (rsc (sgF c D Kx Rf os) 0 n).length) =>
    stepF (B := B) (e := 0 + (n : Int)) (os := os) (J0 := (rsc (sgF c D Kx Rf os) 0 n).length) R hB dk rm A F hn (ho _ (by omega) h1) (by omega) h1 f rr (fun j hj => rsc_g (by omega) hj) (fun j hj => dd_W dk rm G gp (hW _) P.2 (by
      obtain ⟨u, eu⟩ := rsc_p (sg := sgF c D Kx Rf os) (a := 0) (n := n) (xR c 536 52).toNat (by omega)
      rw [eu, List.length_append, List.length_append]; omega)) (fun hf d j d0 d1 j0 j1 => by
      have ob := (ho _ (by omega) h1 hf).1.1.1 j j0 j1
      have m1 := mono ((xR c 536 52).toNat - (n + 1)) (n + 1)
      rw [show n + 1 + ((xR c 536 52).toNat - (n + 1)) = (xR c 536 52).toNat by omega, dk.sm] at m1
      have m0 := mono n 0
      rw [show 0 + n = n by omega] at m0
      have e2 : cfx Kx Rf (n + 1) = cfx Kx Rf n + Rf (0 + (n : Int)) := by
        rw [show 0 + (n : Int) = n by omega] at hf ⊢
        show cfx Kx Rf n + (if hfx Kx n = true then Rf n else 0) = _
        rw [if_pos hf]
      have c0 : cfx Kx Rf 0 = 0 := rfl
      have s3 := (rm.cg.sz d d0 d1).2.2.1
      have pb := dk.pl (cfx Kx Rf (0 + (n : Int)).toNat + os (0 + (n : Int)) j) d (by rw [show (0 + (n : Int)).toNat = n by omega]; omega) (by rw [show (0 + (n : Int)).toNat = n by omega]; omega) d0 d1
      unfold rT
      rw [if_pos d1]
      omega) s
  obtain ⟨m', e', f', r', s'⟩ := ext_l (B := B) (c := c) (sg := sgF c D Kx Rf os) (a := 0) (E := xR c 536 52) (x1 := -1) F.1 (by omega) (by omega) rm.ex E2.2 (fun n m1 R h1 f rr h8 s => by
    obtain ⟨m2, a1, a2, a3, a4⟩ := st n m1 R h1 f rr h8 s
    refine ⟨m2, a1, a2, a3, ?_⟩
    show ST m2 t k it S _ _ _ _ _ _ _ (rsc (sgF c D Kx Rf os) 0 n ++ sgF c D Kx Rf os (0 + n)).length
    rw [List.length_append]
    exact a4) n 0 c (by omega) (by omega) fLo_r rs0 (s0 _ _ _ _)
  rw [show (0 : Int) + ((0 : Nat) : Int) = 0 by omega] at e'
  rw [show (xR c 536 52 - 0).toNat = (xR c 536 52).toNat by omega] at s'
  exact ⟨m', _, e', f', r', hW _, P.2, s'⟩
end CLS
