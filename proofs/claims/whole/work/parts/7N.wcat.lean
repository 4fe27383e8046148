/-! THE CATALOG GOES TO THE TAPE: all of it -/
section WCAT2
variable {B : Nat} {m : xw_M} {p : Int}
theorem lwB_mono {ls : Int → Int} {n : Int} (hn : 0 ≤ n) {L : Nat} (hl : ∀ l : Nat, l < L → 0 ≤ ls l) : ∀ (j i : Nat), i + j ≤ L → lwB ls n i + j ≤ lwB ls n (i + j) := by
  intro j
  induction j with
  | zero => intro i _; rw [Nat.add_zero]; omega
  | succ j ih =>
    intro i hi
    have a1 := ih i (by omega)
    have a2 := hl (i + j) (by omega)
    rw [show i + (j + 1) = i + j + 1 from by omega]
    show _ ≤ lwB ls n (i + j) + (1 + ls ((i + j : Nat) : Int) + 4 * n)
    omega
theorem Dmn_fw {m1 : xw_M} {q sz L n pe : Int} {nm ls : Int → Int} {ln vv : Int → Int → Int} (h : Dmn (m 517) q sz L n nm ls ln vv) (hf : fw m m1 pe) (q0 : 0 ≤ q) (s0 : 0 ≤ sz) (L0 : 0 ≤ L) (n0 : 0 ≤ n) (hl : ∀ l, 0 ≤ l → l < L → 0 ≤ ls l) (hq : q + 32 + 8 * sz + 8 * lwB ls n L.toNat ≤ pe) : Dmn (m1 517) q sz L n nm ls ln vv := by
  have mono := lwB_mono (ls := ls) n0 (L := L.toNat) (fun l hl' => hl l (by omega) (by omega))
  have z := mono L.toNat 0 (by omega)
  have z0 : lwB ls n 0 = 0 := rfl
  rw [Nat.zero_add, z0] at z
  obtain ⟨a1, a2, a3, a4, a5⟩ := h
  refine ⟨(fw_tk hf (by omega) (by omega)).trans a1, (fw_tk hf (by omega) (by omega)).trans a2, (fw_tk hf (by omega) (by omega)).trans a3, Byt_fw a4 hf (by omega) (by omega), fun l hl' => ?_⟩
  obtain ⟨b1, b2, b3⟩ := a5 l hl'
  have c0 := mono l 0 (by omega)
  rw [Nat.zero_add, z0] at c0
  have c1 := mono (L.toNat - (l + 1)) (l + 1) (by omega)
  rw [show l + 1 + (L.toNat - (l + 1)) = L.toNat from by omega] at c1
  have c2 : lwB ls n (l + 1) = lwB ls n l + (1 + ls l + 4 * n) := rfl
  have c3 := hl l (by omega) hl'
  exact ⟨(fw_tk hf (by omega) (by omega)).trans b1, Byt_fw b2 hf (by omega) (by omega), Vls_fw b3 hf (by omega) (by omega)⟩
/-- names and sizes within bounds -/
def ctn (m : xw_M) (D M : Int) : Prop := (0 ≤ D ∧ D ≤ 8) ∧ (0 ≤ M ∧ M ≤ 8) ∧ xR m 3 1 = D ∧ xR m 3 2 = M ∧ (∀ d, 0 ≤ d → d < D → (0 ≤ xR m (15 + 26 * d) 9 ∧ xR m (15 + 26 * d) 9 ≤ 40) ∧ (0 ≤ xR m (15 + 26 * d) 10 ∧ xR m (15 + 26 * d) 10 ≤ 4) ∧ (0 ≤ xR m (15 + 26 * d) 11 ∧ xR m (15 + 26 * d) 11 ≤ 1000) ∧ ∀ l, 0 ≤ l → l < xR m (15 + 26 * d) 10 → 0 ≤ xR m (15 + 26 * d + 7) l ∧ xR m (15 + 26 * d + 7) l ≤ 40) ∧ ∀ k, 0 ≤ k → k < M → 0 ≤ xR m 14 k ∧ xR m 14 k ≤ 40
theorem ctn_cg {m' : xw_M} {D M : Int} (h : ctn m D M) (hc : ∀ a, a < 302 → m' a = m a) : ctn m' D M := by
  obtain ⟨h1, h2, h3, h4, h5, h6⟩ := h
  refine ⟨h1, h2, by rw [xR_cg (hc 3 (by decide))]; exact h3, by rw [xR_cg (hc 3 (by decide))]; exact h4, fun d d0 d1 => ?_, by rw [xR_cg (hc 14 (by decide))]; exact h6⟩
  rw [xR_cg (hc (15 + 26 * d) (by omega)), xR_cg (hc (15 + 26 * d + 7) (by omega))]
  exact h5 d d0 d1
/-- the bytes of dimension d -/
def dmB (m : xw_M) (d : Int) : Int := 4 + xR m (15 + 26 * d) 9 + lwB (xR m (15 + 26 * d + 7)) (xR m (15 + 26 * d) 11) (xR m (15 + 26 * d) 10).toNat
def dsm (m : xw_M) : Nat → Int
  | 0 => 0
  | d + 1 => dsm m d + dmB m d
def msm (m : xw_M) : Nat → Int
  | 0 => 0
  | k + 1 => msm m k + (1 + xR m 14 k)
theorem dmB_4 {D M d : Int} (h : ctn m D M) (d0 : 0 ≤ d) (d1 : d < D) : 4 ≤ dmB m d := by
  obtain ⟨a1, a2, a3, a4⟩ := h.2.2.2.2.1 d d0 d1
  have z := lwB_mono (ls := xR m (15 + 26 * d + 7)) a3.1 (L := (xR m (15 + 26 * d) 10).toNat) (fun l hl => (a4 l (by omega) (by omega)).1) (xR m (15 + 26 * d) 10).toNat 0 (by omega)
  have z0 : lwB (xR m (15 + 26 * d + 7)) (xR m (15 + 26 * d) 11) 0 = 0 := rfl
  rw [Nat.zero_add, z0] at z
  unfold dmB
  omega
theorem dsm_nn {D M : Int} (h : ctn m D M) : ∀ (j i : Nat), ((i + j : Nat) : Int) ≤ D → dsm m i + 4 * j ≤ dsm m (i + j) := by
  intro j
  induction j with
  | zero => intro i _; rw [Nat.add_zero]; omega
  | succ j ih =>
    intro i hi
    have a1 := ih i (by omega)
    have a2 := dmB_4 h (d := ((i + j : Nat) : Int)) (by omega) (by omega)
    rw [show i + (j + 1) = i + j + 1 from by omega]
    show _ ≤ dsm m (i + j) + dmB m ((i + j : Nat) : Int)
    omega
/-- a dimension of the catalog on the tape -/
def DmnM (m : xw_M) (W : Int → Int) (q d : Int) : Prop := Dmn W q (xR m (15 + 26 * d) 9) (xR m (15 + 26 * d) 10) (xR m (15 + 26 * d) 11) (xR m (15 + 26 * d + 1)) (xR m (15 + 26 * d + 7)) (fun l => xR m (15 + 26 * d + 3 + l)) (fun l => xR m (15 + 26 * d + 9 + l))
theorem wr_dims {D M : Int} (hB : B ≤ 512) (hc : ctn m D M) (h : tst B m p) {Q : Int → xw_M → Prop} (k : ∀ m', tst B m' (p + 8 * dsm m D.toNat) → fw m m' p → (ws B m' (p + 8 * dsm m D.toNat) → ws B m p ∧ ∀ d, 0 ≤ d → d < D → DmnM m (m' 517) (p + 8 * dsm m d.toNat) d) → xH (xl2 (yl153_28 B) 1000000 518 0 m') Q (fun _ _ => False)) : xH (yf153 B 518 m) Q (fun _ _ => False) := by
  have p0 := tst_0 h
  have hD := hc.1
  unfold yf153
  generalize hN : (1000000 : Nat) = N at *
  refine xl2_rule (F := yl153_2 B) (fun y1 x m' => y1 = 518 ∧ 0 ≤ x ∧ x ≤ D ∧ tst B m' (p + 8 * dsm m x.toNat) ∧ fw m m' p ∧ (ws B m' (p + 8 * dsm m x.toNat) → ws B m p ∧ ∀ d, 0 ≤ d → d < x → DmnM m (m' 517) (p + 8 * dsm m d.toNat) d)) (fun _ x _ => (D - x).toNat) ?_ N 518 0 m ⟨rfl, by omega, hD.1, by rw [show dsm m (0 : Int).toNat = 0 from rfl, show p + 8 * 0 = p from by omega]; exact h, fw_refl m p, fun hw => ⟨by rw [show dsm m (0 : Int).toNat = 0 from rfl, show p + 8 * 0 = p from by omega] at hw; exact hw, fun i i0 i1 => absurd i1 (Int.not_lt.mpr i0)⟩⟩ (by omega)
  intro r y1 x mx ⟨b1, x0, x1, T, F, P⟩ ih
  subst b1
  have Fm : ∀ a, a < 302 → mx a = m a := fun a ha => F.1 a (by omega)
  have q31 : xR mx 3 1 = D := by rw [xR_cg (Fm 3 (by decide))]; exact hc.2.2.1
  unfold yl153_2
  rw [q31]
  by_cases hx : x < D
  · have hcx := ctn_cg hc Fm
    obtain ⟨a1, a2, a3, a4⟩ := hcx.2.2.2.2.1 x x0 hx
    have o0 := (dm_f B x0 (show x < 8 by omega)).1
    have dx := dsm_nn hc x.toNat 0 (by omega)
    rw [Nat.zero_add, show dsm m 0 = 0 from rfl] at dx
    obtain ⟨m2, e2, t2, f2, v2⟩ := wr_dim (B := B) (m := mx) (d := x) hB x0 (by omega) rfl rfl rfl a1 a2 a3 a4 T
    have g0 : xR mx (15 + 26 * x) = xR m (15 + 26 * x) := xR_cg (Fm _ (by omega))
    have g1 : xR mx (15 + 26 * x + 1) = xR m (15 + 26 * x + 1) := xR_cg (Fm _ (by omega))
    have g7 : xR mx (15 + 26 * x + 7) = xR m (15 + 26 * x + 7) := xR_cg (Fm _ (by omega))
    rw [g0, g1, g7] at v2
    rw [g0, g7] at t2
    have es : p + 8 * dsm m x.toNat + 32 + 8 * xR m (15 + 26 * x) 9 + 8 * lwB (xR m (15 + 26 * x + 7)) (xR m (15 + 26 * x) 11) (xR m (15 + 26 * x) 10).toNat = p + 8 * dsm m (x + 1).toNat := by
      rw [show (x + 1).toNat = x.toNat + 1 from by omega]
      have : dsm m (x.toNat + 1) = dsm m x.toNat + dmB m x := by
        show dsm m x.toNat + dmB m ((x.toNat : Nat) : Int) = _
        rw [Int.toNat_of_nonneg x0]
      rw [this]
      unfold dmB
      omega
    rw [es] at t2 v2
    rw [if_pos hx, if_pos ⟨x0, by omega⟩, if_pos o0, e2, xB_ret, w32_id (by omega) (by omega)]
    refine ih _ _ _ ⟨rfl, by omega, by omega, t2, fw_trans F f2 (by omega), fun hw => ?_⟩ (by omega)
    obtain ⟨wx, kx⟩ := v2 hw
    obtain ⟨w0, kd⟩ := P wx
    refine ⟨w0, fun d d0 d1 => ?_⟩
    by_cases ed : d = x
    · rw [ed]
      obtain ⟨c1, c2, c3, c4, c5⟩ := kx
      refine ⟨c1, c2, c3, c4, fun l hl => ?_⟩
      obtain ⟨u1, u2, u3⟩ := c5 l hl
      have lb : (l : Int) < 4 := by
        have := (hc.2.2.2.2.1 x x0 hx).2.1.2
        omega
      refine ⟨u1, ?_, ?_⟩
      · show Byt _ _ _ (xR m (15 + 26 * x + 3 + l))
        rw [← xR_cg (Fm (15 + 26 * x + 3 + l) (by omega))]
        exact u2
      · show Vls _ _ _ (xR m (15 + 26 * x + 9 + l))
        rw [← xR_cg (Fm (15 + 26 * x + 9 + l) (by omega))]
        exact u3
    · obtain ⟨c1, c2, c3, c4⟩ := hc.2.2.2.2.1 d d0 (by omega)
      have m1 := dsm_nn hc d.toNat 0 (by omega)
      rw [Nat.zero_add, show dsm m 0 = 0 from rfl] at m1
      have m2' := dsm_nn hc (x.toNat - (d.toNat + 1)) (d.toNat + 1) (by omega)
      rw [show d.toNat + 1 + (x.toNat - (d.toNat + 1)) = x.toNat from by omega] at m2'
      have m3 : dsm m (d.toNat + 1) = dsm m d.toNat + dmB m d := by
        show dsm m d.toNat + dmB m ((d.toNat : Nat) : Int) = _
        rw [Int.toNat_of_nonneg d0]
      unfold dmB at m3
      exact Dmn_fw (kd d d0 (by omega)) f2 (by omega) c1.1 c2.1 c3.1 (fun l l0 l1 => (c4 l l0 l1).1) (by omega)
  · have e : x = D := by omega
    subst e
    rw [if_neg hx, hN]
    exact k mx T F P
end WCAT2
