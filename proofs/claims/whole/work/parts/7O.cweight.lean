/-! THE CATALOG'S MEASURES GO TO THE TAPE; THE REFERENCE'S catalogWeight -/
section WCAT3
variable {B : Nat} {m : xw_M} {p D M : Int}
theorem mn_f (B : Nat) {k : Int} (h0 : 0 ≤ k) (h1 : k < 8) : xw_obb 18 (6 + k) = true ∧ xw_le B (6 + k) = 40 := by
  rcases (show k = 0 ∨ k = 1 ∨ k = 2 ∨ k = 3 ∨ k = 4 ∨ k = 5 ∨ k = 6 ∨ k = 7 by omega) with h | h | h | h | h | h | h | h <;> subst h <;> exact ⟨by decide, rfl⟩
theorem msm_nn (h : ctn m D M) : ∀ (j i : Nat), ((i + j : Nat) : Int) ≤ M → msm m i + j ≤ msm m (i + j) := by
  intro j
  induction j with
  | zero => intro i _; rw [Nat.add_zero]; omega
  | succ j ih =>
    intro i hi
    have a1 := ih i (by omega)
    have a2 := h.2.2.2.2.2 ((i + j : Nat) : Int) (by omega) (by omega)
    rw [show i + (j + 1) = i + j + 1 from by omega]
    show _ ≤ msm m (i + j) + (1 + xR m 14 ((i + j : Nat) : Int))
    omega
/-- the catalog on the tape -/
def Ctl (m : xw_M) (W : Int → Int) (p D M : Int) : Prop := (∀ d, 0 ≤ d → d < D → DmnM m W (p + 8 * dsm m d.toNat) d) ∧ ∀ k, 0 ≤ k → k < M → tk W (p + 8 * dsm m D.toNat + 8 * msm m k.toNat) 8 = msk (xR m 14 k) 8 ∧ Byt W (p + 8 * dsm m D.toNat + 8 * msm m k.toNat + 8) (xR m 14 k) (xR m (6 + k))
theorem wr_cat (hB : B ≤ 512) (hc : ctn m D M) (h : tst B m p) : ∃ m', yf153 B 518 m = some (.inl 0, m') ∧ tst B m' (p + 8 * dsm m D.toNat + 8 * msm m M.toNat) ∧ fw m m' p ∧ (ws B m' (p + 8 * dsm m D.toNat + 8 * msm m M.toNat) → ws B m p ∧ Ctl m (m' 517) p D M) := by
  have p0 := tst_0 h
  have hD := hc.1
  have hM := hc.2.1
  have goal := xH_ex (wr_dims hB hc h (Q := fun v m' => v = 0 ∧ tst B m' (p + 8 * dsm m D.toNat + 8 * msm m M.toNat) ∧ fw m m' p ∧ (ws B m' (p + 8 * dsm m D.toNat + 8 * msm m M.toNat) → ws B m p ∧ Ctl m (m' 517) p D M)) ?_)
  · obtain ⟨v, m', e, rfl, h⟩ := goal
    exact ⟨m', e, h⟩
  · intro m1 T1 F1 V1
    have dD := dsm_nn hc D.toNat 0 (by omega)
    rw [Nat.zero_add, show dsm m 0 = 0 from rfl] at dD
    generalize hN : (1000000 : Nat) = N
    obtain ⟨Q0, hQ0⟩ : ∃ Q0, Q0 = p + 8 * dsm m D.toNat := ⟨_, rfl⟩
    unfold Ctl
    rw [← hQ0] at T1 V1 ⊢
    refine xl2_rule (F := yl153_28 B) (fun y1 x m' => y1 = 518 ∧ 0 ≤ x ∧ x ≤ M ∧ tst B m' (Q0 + 8 * msm m x.toNat) ∧ fw m1 m' Q0 ∧ (ws B m' (Q0 + 8 * msm m x.toNat) → ws B m1 Q0 ∧ ∀ k, 0 ≤ k → k < x → tk (m' 517) (Q0 + 8 * msm m k.toNat) 8 = msk (xR m 14 k) 8 ∧ Byt (m' 517) (Q0 + 8 * msm m k.toNat + 8) (xR m 14 k) (xR m (6 + k)))) (fun _ x _ => (M - x).toNat) ?_ N 518 0 m1 ⟨rfl, by omega, hM.1, by rw [show msm m (0 : Int).toNat = 0 from rfl, show Q0 + 8 * 0 = Q0 from by omega]; exact T1, fw_refl _ _, fun hw => ⟨by rw [show msm m (0 : Int).toNat = 0 from rfl, show Q0 + 8 * 0 = Q0 from by omega] at hw; exact hw, fun i i0 i1 => absurd i1 (Int.not_lt.mpr i0)⟩⟩ (by omega)
    intro r y1 x mx ⟨b1, x0, x1, T, F, P⟩ ih
    subst b1
    have Fm : ∀ a, a < 302 → mx a = m a := fun a ha => (F.1 a (by omega)).trans (F1.1 a (by omega))
    have q32 : xR mx 3 2 = M := by rw [xR_cg (Fm 3 (by decide))]; exact hc.2.2.2.1
    unfold yl153_28
    rw [q32]
    by_cases hx : x < M
    · obtain ⟨l0, l1⟩ := hc.2.2.2.2.2 x x0 hx
      obtain ⟨ob, le⟩ := mn_f B x0 (show x < 8 by omega)
      have mx0 := msm_nn hc x.toNat 0 (by omega)
      rw [Nat.zero_add, show msm m 0 = 0 from rfl] at mx0
      have e14 : xR mx 14 x = xR m 14 x := by rw [xR_cg (Fm 14 (by decide))]
      obtain ⟨ma, ea, ta, fa, va⟩ := put_tst hB (v := xR m 14 x) (n := 8) T (by decide) (by decide)
      have e14a : xR ma 14 x = xR m 14 x := by rw [xR_cg (fa.1 14 (by decide))]; exact e14
      obtain ⟨mb, eb, tb, fb, vb⟩ := wr_bytes hB (a := 6 + x) (sz := xR m 14 x) ob (by rw [le]; exact l1) l0 l1 (by omega) ta
      rw [if_pos hx, if_pos ⟨x0, by omega⟩, if_pos (by decide), e14, ea, xB_ret, e14a, eb, xB_ret, w32_id (by omega) (by omega)]
      have es : Q0 + 8 * msm m (x + 1).toNat = Q0 + 8 * msm m x.toNat + 8 + 8 * xR m 14 x := by
        rw [show (x + 1).toNat = x.toNat + 1 from by omega]
        have : msm m (x.toNat + 1) = msm m x.toNat + (1 + xR m 14 x) := by
          show msm m x.toNat + (1 + xR m 14 ((x.toNat : Nat) : Int)) = _
          rw [Int.toNat_of_nonneg x0]
        rw [this]
        omega
      have Fab := fw_trans fa fb (by omega)
      refine ih _ _ _ ⟨rfl, by omega, by omega, by rw [es]; exact tb, fw_trans F Fab (by omega), fun hw => ?_⟩ (by omega)
      rw [es] at hw
      obtain ⟨wa, kb⟩ := vb hw
      obtain ⟨wx, ka⟩ := va wa
      obtain ⟨w1, kk⟩ := P wx
      refine ⟨w1, fun k k0 k1 => ?_⟩
      by_cases ek : k = x
      · rw [ek]
        refine ⟨(fw_tk fb (by omega) (by omega)).trans ka, ?_⟩
        rw [← xR_cg ((fa.1 (6 + x) (by omega)).trans (Fm (6 + x) (by omega)))]
        exact kb
      · obtain ⟨u1, u2⟩ := kk k k0 (by omega)
        have c0 := hc.2.2.2.2.2 k k0 (by omega)
        have c1 := msm_nn hc k.toNat 0 (by omega)
        rw [Nat.zero_add, show msm m 0 = 0 from rfl] at c1
        have c2 := msm_nn hc (x.toNat - (k.toNat + 1)) (k.toNat + 1) (by omega)
        rw [show k.toNat + 1 + (x.toNat - (k.toNat + 1)) = x.toNat from by omega] at c2
        have c3 : msm m (k.toNat + 1) = msm m k.toNat + (1 + xR m 14 k) := by
          show msm m k.toNat + (1 + xR m 14 ((k.toNat : Nat) : Int)) = _
          rw [Int.toNat_of_nonneg k0]
        exact ⟨(fw_tk Fab (by omega) (by omega)).trans u1, Byt_fw u2 Fab (by omega) (by omega)⟩
    · have e : x = M := by omega
      subst e
      rw [if_neg hx, xH_ret]
      refine ⟨rfl, T, fw_trans F1 F (by omega), fun hw => ?_⟩
      obtain ⟨w1, kk⟩ := P hw
      obtain ⟨w0, kd⟩ := V1 w1
      refine ⟨w0, fun d d0 d1 => ?_, kk⟩
      obtain ⟨c1, c2, c3, c4⟩ := hc.2.2.2.2.1 d d0 d1
      have m1' := dsm_nn hc d.toNat 0 (by omega)
      rw [Nat.zero_add, show dsm m 0 = 0 from rfl] at m1'
      have m2' := dsm_nn hc (D.toNat - (d.toNat + 1)) (d.toNat + 1) (by omega)
      rw [show d.toNat + 1 + (D.toNat - (d.toNat + 1)) = D.toNat from by omega] at m2'
      have m3 : dsm m (d.toNat + 1) = dsm m d.toNat + dmB m d := by
        show dsm m d.toNat + dmB m ((d.toNat : Nat) : Int) = _
        rw [Int.toNat_of_nonneg d0]
      unfold dmB at m3
      exact Dmn_fw (kd d d0 d1) F (by omega) c1.1 c2.1 c3.1 (fun l l0 l1 => (c4 l l0 l1).1) (by omega)
end WCAT3
