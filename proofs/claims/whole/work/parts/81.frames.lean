/-! WHAT THE INVARIANT DEPENDS ON: parts on words, the reference's facts -/
theorem rsm_refl (m : xw_M) (N : Int) : rsm m m N := ⟨rfl, rfl, rfl, fun _ _ _ => ⟨rfl, rfl⟩⟩
theorem rsm_le {m m' : xw_M} {N N' : Int} (h : rsm m m' N) (hN : N' ≤ N) : rsm m m' N' := ⟨h.1, h.2.1, h.2.2.1, fun i i0 i1 => h.2.2.2 i i0 (by omega)⟩
theorem rsm_trans {m m1 m2 : xw_M} {N : Int} (h : rsm m m1 N) (h' : rsm m1 m2 N) : rsm m m2 N := ⟨h'.1.trans h.1, h'.2.1.trans h.2.1, h'.2.2.1.trans h.2.2.1, fun i i0 i1 => ⟨(h'.2.2.2 i i0 i1).1.trans (h.2.2.2 i i0 i1).1, (h'.2.2.2 i i0 i1).2.trans (h.2.2.2 i i0 i1).2⟩⟩
section FRM
variable {m m' : xw_M} {W W' : Int → Int} {D M N f n q qe k δ : Int}
theorem rsm_R (h : rsm m m' N) {i : Int} (i0 : 0 ≤ i) (i1 : i < 8 * N) : xR m' 575 i = xR m 575 i := by
  unfold xR
  rw [(h.2.2.2 i i0 i1).1]
theorem rsm_J (h : rsm m m' N) {i : Int} (i0 : 0 ≤ i) (i1 : i < 8 * N) : xJ m' 576 i = xJ m 576 i := by
  unfold xJ
  rw [(h.2.2.2 i i0 i1).2]
theorem fps_m (h : rsm m m' N) (hD : 0 ≤ D ∧ D ≤ 8) (hM : 0 ≤ M ∧ M ≤ 8) (f0 : 0 ≤ f) (n0 : 0 ≤ n) (fn : f + n ≤ N) (F : fps W m D M f n q qe) : fps W m' D M f n q qe := by
  obtain ⟨o, S, E, P⟩ := F
  have T : ∀ c j : Int, 0 ≤ c → c < ((D + M).toNat : Int) → 0 ≤ j → j < n → rT m D f o c j = rT m' D f o c j := fun c j c0 c1 j0 j1 => by
    have oj := S.1.1 j j0 j1
    unfold rT
    by_cases e : c < D
    · rw [if_pos e, if_pos e, rsm_R h (by omega) (by omega)]
    · rw [if_neg e, if_neg e, rsm_J h (by omega) (by omega)]
  exact ⟨o, srt_cg S (fun d x d0 d1 x0 x1 => by unfold pk; rw [rsm_R h (by omega) (by omega)]), by rw [← partB_cg n0 T]; exact E, Part_f T P⟩
theorem fps_W (hD : 0 ≤ D ∧ D ≤ 8) (hM : 0 ≤ M ∧ M ≤ 8) (h : ∀ x, q ≤ x → x < qe → bW W' (x + δ) = bW W x) (F : fps W m D M f n q qe) : fps W' m D M f n (q + δ) (qe + δ) := by
  obtain ⟨o, S, E, P⟩ := F
  refine ⟨o, S, by omega, Part_cg (rT_w _ _ _ _) (by omega) (fun x x0 x1 => ?_) P⟩
  have := h (q + x) (by omega) (by omega)
  rw [show q + δ + x = q + x + δ by omega]
  exact this
theorem kr_m (h : rsm m m' N) {v d x : Int} (hD : D ≤ 8) (d0 : 0 ≤ d) (d1 : d < D) (f0 : 0 ≤ f) (fx : f + x < N) (x0 : 0 ≤ x) : kr m D v f d x = kr m' D v f d x := by
  unfold kr
  rw [xR_cg h.1, xR_cg h.2.2.1, rsm_R h (by omega) (by omega)]
theorem rP_m (h : rsm m m' N) (v : Int) : rP m' D v = rP m D v := by
  unfold rP
  rw [xR_cg h.1]
theorem vrr_m (h : rsm m m' N) (hD : 0 ≤ D ∧ D ≤ 8) (f0 : 0 ≤ f) (fn : f + n ≤ N) {v R : Int} {o st : Int → Int} (V : vrr m D v f n o st R) : vrr m' D v f n o st R ∧ ∀ c j, 0 ≤ c → c < rP m D v + 25 → 0 ≤ j → j < R → rV m D v f o st c j = rV m' D v f o st c j := by
  have DN : ((D.toNat : Nat) : Int) = D := Int.toNat_of_nonneg hD.1
  have V' : vrr m' D v f n o st R := ⟨srt_cg V.1 (fun d x d0 d1 x0 x1 => kr_m h hD.2 d0 (by omega) f0 (by omega) x0), SR_cg V.2.1 (fun i y i0 i1 y0 y1 => by
    have oy := V.1.1.1 y y0 y1
    exact kr_m h hD.2 i0 i1 f0 (by omega) oy.1), V.2.2⟩
  refine ⟨V', fun c j c0 c1 j0 j1 => ?_⟩
  obtain ⟨eR, es, ec⟩ := view_same (D := D.toNat) (κ := kr m D v f) (κ' := kr m' D v f) (A := fun k x => xJ m 576 (8 * (f + x) + k)) (A' := fun k x => xJ m' 576 (8 * (f + x) + k)) (π := fun i => i) (hd := hdf (vhas (xR m 538) D v) D.toNat) (P := rP m D v) (tb := 0) (tb' := 0) (by decide) (by decide) V.1 V'.1 ⟨fun i i0 i1 => ⟨i0, i1⟩, fun i j _ _ _ _ e => e⟩ (fun e x e0 e1 x0 x1 => kr_m h hD.2 e0 (by omega) f0 (by omega) x0) (fun k x k0 k1 x0 x1 => (rsm_J h (by omega) (by omega)).symm) (fun k x => w64_w _) (fun k x => w64_w _) (by rw [DN]; exact V.2.1) (by rw [DN]; exact V'.2.1) (fun c c0 c1 => (hdf_1 (vhas (xR m 538) D v) D.toNat c c0 c1).1)
  have := ec c j c0 c1 j0 j1
  unfold rV
  rw [xR_cg h.1, rP_m h]
  exact this
theorem vps_m (h : rsm m m' N) (hD : 0 ≤ D ∧ D ≤ 8) (hM : 0 ≤ M ∧ M ≤ 8) (f0 : 0 ≤ f) (fn : f + n ≤ N) {vs Rs : Int → Int} (F : vps W m D M f n k vs Rs q qe) : vps W m' D M f n k vs Rs q qe := by
  obtain ⟨Os, Ss, Q, q0, q1, A⟩ := F
  refine ⟨Os, Ss, Q, q0, q1, fun i i0 i1 => ?_⟩
  obtain ⟨V, E, P⟩ := A i i0 i1
  obtain ⟨V', T⟩ := vrr_m h hD f0 fn V
  have pb := rP_b m hD.1 (vs i)
  have T' : ∀ c j : Int, 0 ≤ c → c < ((rP m D (vs i) + 1 + 3 * M).toNat : Int) → 0 ≤ j → j < Rs i → rV m D (vs i) f (Os i) (Ss i) c j = rV m' D (vs i) f (Os i) (Ss i) c j := fun c j c0 c1 j0 j1 => T c j c0 (by omega) j0 j1
  rw [rP_m h]
  exact ⟨V', by rw [← partB_cg V.2.1.1 T']; exact E, Part_f T' P⟩
theorem vps_mono (hD : 0 ≤ D ∧ D ≤ 8) (hM : 0 ≤ M ∧ M ≤ 8) {vs Rs : Int → Int} {Os Ss : Int → Int → Int} {Q : Int → Int} (A : ∀ i, 0 ≤ i → i < k → vrr m D (vs i) f n (Os i) (Ss i) (Rs i) ∧ Q (i + 1) = Q i + 8 * partB (rV m D (vs i) f (Os i) (Ss i)) (Rs i) (rP m D (vs i) + 1 + 3 * M).toNat ∧ Part W (Q i) (Rs i) (rP m D (vs i) + 1 + 3 * M).toNat (rV m D (vs i) f (Os i) (Ss i))) : ∀ (j : Nat) (i : Int), 0 ≤ i → i + j ≤ k → Q i ≤ Q (i + j) := by
  intro j
  induction j with
  | zero => intro i _ _; simp
  | succ j ih =>
    intro i i0 i1
    have a := ih i i0 (by omega)
    obtain ⟨V, E, P⟩ := A (i + j) (by omega) (by omega)
    have pb := rP_b m hD.1 (vs (i + j))
    have := partB_4 (T := rV m D (vs (i + j)) f (Os (i + j)) (Ss (i + j))) (rV_w _ _ _ _ V.2.2) (R := Rs (i + j)) (k := (rP m D (vs (i + j)) + 1 + 3 * M).toNat) (by omega)
    rw [show i + ((j + 1 : Nat) : Int) = i + j + 1 by omega, E]
    omega
theorem vps_W (hD : 0 ≤ D ∧ D ≤ 8) (hM : 0 ≤ M ∧ M ≤ 8) (h : ∀ x, q ≤ x → x < qe → bW W' (x + δ) = bW W x) {vs Rs : Int → Int} (F : vps W m D M f n k vs Rs q qe) : vps W' m D M f n k vs Rs (q + δ) (qe + δ) := by
  obtain ⟨Os, Ss, Q, q0, q1, A⟩ := F
  refine ⟨Os, Ss, fun i => Q i + δ, by show Q 0 + δ = _; omega, by show Q k + δ = _; omega, fun i i0 i1 => ?_⟩
  obtain ⟨V, E, P⟩ := A i i0 i1
  have pb := rP_b m hD.1 (vs i)
  have a1 := vps_mono hD hM A i.toNat 0 (Int.le_refl _) (by omega)
  have a2 := vps_mono hD hM A (k - (i + 1)).toNat (i + 1) (by omega) (by omega)
  rw [show (0 : Int) + (i.toNat : Int) = i by omega, q0] at a1
  rw [show i + 1 + ((k - (i + 1)).toNat : Int) = k by omega, q1] at a2
  refine ⟨V, by show Q (i + 1) + δ = Q i + δ + _; omega, Part_cg (rV_w _ _ _ _ V.2.2) (by omega) (fun x x0 x1 => ?_) P⟩
  show bW W' (Q i + δ + x) = _
  have := h (Q i + x) (by omega) (by omega)
  rw [show Q i + δ + x = Q i + x + δ by omega]
  exact this
theorem vps_le (hD : 0 ≤ D ∧ D ≤ 8) (hM : 0 ≤ M ∧ M ≤ 8) (k0 : 0 ≤ k) {vs Rs : Int → Int} (F : vps W m D M f n k vs Rs q qe) : q ≤ qe := by
  obtain ⟨Os, Ss, Q, q0, q1, A⟩ := F
  have a1 := vps_mono hD hM A k.toNat 0 (Int.le_refl _) (by omega)
  rw [show (0 : Int) + (k.toNat : Int) = k by omega, q0, q1] at a1
  exact a1
theorem fps_le (hD : 0 ≤ D ∧ D ≤ 8) (hM : 0 ≤ M ∧ M ≤ 8) (F : fps W m D M f n q qe) : q + 32 ≤ qe := by
  obtain ⟨o, S, E, P⟩ := F
  have := partB_4 (T := rT m D f o) (rT_w _ _ _ _) (R := n) (k := (D + M).toNat) (by omega)
  omega
theorem xtn_m (h : rsm m m' N) (hD : 0 ≤ D ∧ D ≤ 8) (hM : 0 ≤ M ∧ M ≤ 8) {K s ln : Int} (f0 : 0 ≤ f) (n0 : 0 ≤ n) (fn : (K = 2 ∨ K = 4) → f + n ≤ N) (f1 : f ≤ N) (Kb : K = 2 ∨ K = 4 ∨ K = 3) {vs Rs : Int → Int} {v : Prop} (F : xtn W m D M K s ln f n k vs Rs v) : xtn W m' D M K s ln f n k vs Rs v := by
  obtain ⟨q, a, b, c, d⟩ := F
  refine ⟨q, fun hk => fps_m h hD hM f0 n0 (fn hk) (a hk), b, c, fun hv => ?_⟩
  obtain ⟨qe, V, hq⟩ := d hv
  refine ⟨qe, vps_m h hD hM ?_ ?_ V, hq⟩
  · split
    · exact Int.le_refl _
    · exact f0
  · by_cases e : K = 3
    · rw [if_pos e, if_pos e]; omega
    · rw [if_neg e, if_neg e]; exact fn (by omega)
theorem xtn_W (hD : 0 ≤ D ∧ D ≤ 8) (hM : 0 ≤ M ∧ M ≤ 8) {K s ln : Int} (k0 : 0 ≤ k) (h : ∀ x, s * 32768 ≤ x → x < (s + ln) * 32768 → bW W' x = bW W x) {vs Rs : Int → Int} {v : Prop} (F : xtn W m D M K s ln f n k vs Rs v) : xtn W' m D M K s ln f n k vs Rs v := by
  obtain ⟨q, a, b, c, d⟩ := F
  have q0 : s * 32768 + 64 ≤ q := by
    by_cases hk : K = 2 ∨ K = 4
    · have := fps_le hD hM (a hk); omega
    · rw [b hk]; exact Int.le_refl _
  refine ⟨q, fun hk => ?_, b, c, fun hv => ?_⟩
  · have := fps_W (δ := 0) (W' := W') hD hM (fun x x0 x1 => by rw [Int.add_zero]; exact h x (by omega) (by omega)) (a hk)
    rw [Int.add_zero, Int.add_zero] at this
    exact this
  · obtain ⟨qe, V, hq⟩ := d hv
    have := vps_W (δ := 0) (W' := W') hD hM (fun x x0 x1 => by rw [Int.add_zero]; exact h x (by omega) (by omega)) V
    rw [Int.add_zero, Int.add_zero] at this
    exact ⟨qe, this, hq⟩
end FRM
