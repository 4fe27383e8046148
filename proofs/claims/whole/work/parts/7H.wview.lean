/-! A VIEW'S PART: shape, sort, writeView; writeViewParts -/
theorem SR_in {tb N : Int} {κ : Int → Int → Int} {o st : Int → Int} {n R : Int} (h : SR tb N κ o st n R) : ∀ j, 0 ≤ j → j ≤ R → 0 ≤ st j ∧ st j ≤ n := by
  intro j j0 j1
  have a := SR_mono h j.toNat 0 (by omega) (by omega)
  have b := SR_mono h (R - j).toNat j j0 (by omega)
  rw [show j + ((R - j).toNat : Int) = R from by omega, h.2.2.2.1] at b
  refine ⟨?_, by omega⟩
  by_cases hn : 0 < n
  · rw [(h.2.2.1 hn).2, Int.zero_add, Int.toNat_of_nonneg j0] at a
    omega
  · have := h.1
    have := h.2.1
    have e : j = R := by omega
    rw [e, h.2.2.2.1]
    omega
theorem SR_cg {tb N : Int} {κ κ' : Int → Int → Int} {o st : Int → Int} {n R : Int} (h : SR tb N κ o st n R) (hk : ∀ i q, 0 ≤ i → i < N → 0 ≤ q → q < n → κ i (o q) = κ' i (o q)) : SR tb N κ' o st n R := by
  have inn := SR_in h
  refine ⟨h.1, h.2.1, h.2.2.1, h.2.2.2.1, fun j j0 j1 => ?_⟩
  obtain ⟨a1, a2, a3⟩ := h.2.2.2.2 j j0 j1
  have b1 := inn j j0 (by omega)
  have b2 := inn (j + 1) (by omega) (by omega)
  refine ⟨a1, fun q q0 q1 => ?_, fun hj he => a3 hj ⟨he.1, fun i i0 i1 => ?_⟩⟩
  · obtain ⟨e1, e2⟩ := a2 q q0 q1
    exact ⟨e1, fun i i0 i1 => by rw [← hk i (q - 1) i0 i1 (by omega) (by omega), ← hk i q i0 i1 (by omega) (by omega)]; exact e2 i i0 i1⟩
  · have s1 : st (j - 1) < st j := by
      have := (h.2.2.2.2 (j - 1) (by omega) (by omega)).1
      rw [show j - 1 + 1 = j from by omega] at this
      exact this
    have b0 := inn (j - 1) (by omega) (by omega)
    rw [hk i (st j - 1) i0 i1 (by omega) (by omega), hk i (st j) i0 i1 (by omega) (by omega)]
    exact he.2 i i0 i1
section WVIEW
variable {B : Nat} {m : xw_M} {r W cap D M n : Int}
def lvl (m : xw_M) (d : Int) : Int := xR m (15 + 26 * d) 10
/-- a view's keys: ranks at its levels -/
def kv (m : xw_M) (r D v d x : Int) : Int := if vhas (lvl m) D v d = true then xR m (15 + 26 * d + 14 + vdg (lvl m) D v d) (xR m (r + 3 + d) x) else 0
/-- how many places, and which dimensions -/
def vP (m : xw_M) (D v : Int) : Int := cnt (vhas (lvl m) D v) D.toNat
noncomputable def vH (m : xw_M) (D v : Int) : Int → Int := hdf (vhas (lvl m) D v) D.toNat
noncomputable def vT (m : xw_M) (r D v : Int) (o st : Int → Int) : Int → Int → Int := Tvw (kv m r D v) (fun k => xJ m (r + 12 + k)) (vP m D v) (vH m D v) o st
theorem wr_vpart (hB : B ≤ 512) (hr : rwo r W cap) (hc : ctk m D M) (hn : 0 ≤ n ∧ n ≤ cap) (h5 : xR m r 5 = n) (hk : rok m r D n) {v : Int} (hv : 0 ≤ v ∧ v < 2147483648) {p : Int} (hp : 0 ≤ p) (hw : tst B m p) : ∃ m1 m2 m3 w o st R, yf109 B v m = some (.inl 0, m1) ∧ yf180 B r m1 = some (.inl 0, m2) ∧ yf193 B r 518 m2 = some (.inl w, m3) ∧ fP m m3 r W p ∧ srt (kv m r D v) D.toNat o n ∧ SR 0 D (kv m r D v) o st n R ∧ (∀ j, xw_rg (st j)) ∧ tst B m3 (p + 8 * partB (vT m r D v o st) R (vP m D v + 1 + 3 * M).toNat) ∧ (ws B m3 (p + 8 * partB (vT m r D v o st) R (vP m D v + 1 + 3 * M).toNat) → w = R ∧ Part (m3 517) p R (vP m D v + 1 + 3 * M).toNat (vT m r D v o st)) := by
  have hb := rw_b hr
  obtain ⟨cD, cM, c31, c32, c5⟩ := hc
  have hvd : ∀ d, 0 ≤ d → d < D → 0 ≤ vdg (lvl m) D v d := fun d d0 d1 => (vdg_b (lv := lvl m) (fun d d0 d1 => ⟨by have := (c5 d d0 d1).1.1; unfold lvl; omega, (c5 d d0 d1).1.2⟩) d0 d1).1
  obtain ⟨m1, e1, F1, V1, s7, sd⟩ := shapeV_ok (B := B) cD cM c31 c32 hv (fun d d0 d1 => ⟨by have := (c5 d d0 d1).1.1; omega, (c5 d d0 d1).1.2⟩)
  have V1 : vsh m1 D M (vP m D v) (vH m D v) := V1
  have sd : ∀ d, 0 ≤ d → d < D → xR m1 371 d = vdg (lvl m) D v d ∧ (vhas (lvl m) D v d = true ↔ xR m1 372 d ≠ -1) := sd
  have A1 : ∀ a, a ≠ 302 → a ≠ 371 → a ≠ 372 → m1 a = m a := F1.1
  have tkk : ∀ d i, 0 ≤ d → d < D → tkey m1 r d i = kv m r D v d i := by
    intro d i d0 d1
    unfold tkey kv
    obtain ⟨a1, a2⟩ := sd d d0 d1
    by_cases h : vhas (lvl m) D v d = true
    · have lt : vdg (lvl m) D v d < lvl m d := of_decide_eq_true h
      have l4 : lvl m d ≤ 4 := (c5 d d0 d1).1.2
      have g0 := hvd d d0 d1
      rw [if_neg (a2.mp h), if_pos h, a1, xR_cg (A1 (15 + 26 * d + 14 + vdg (lvl m) D v d) (by omega) (by omega) (by omega)), xR_cg (A1 (r + 3 + d) (by omega) (by omega) (by omega))]
    · rw [if_neg h, if_pos (Classical.byContradiction (fun hh => h (a2.mpr hh)))]
  have ts1 : tsok m1 r D n := by
    intro d d0 d1 hne
    obtain ⟨a1, a2⟩ := sd d d0 d1
    obtain ⟨k1, k2, k3⟩ := c5 d d0 d1
    have hh := a2.mpr hne
    have lt : vdg (lvl m) D v d < xR m (15 + 26 * d) 10 := of_decide_eq_true hh
    have g0 := hvd d d0 d1
    obtain ⟨q1, q2⟩ := k3 _ g0 lt
    rw [a1, xR_cg (A1 (15 + 26 * d + 23) (by omega) (by omega) (by omega))]
    refine ⟨⟨g0, by omega⟩, q1, fun i i0 i1 => ?_⟩
    obtain ⟨z1, z2⟩ := hk d i d0 d1 i0 i1
    rw [tkk d i d0 d1, xR_cg (A1 (r + 3 + d) (by omega) (by omega) (by omega))]
    unfold kv
    rw [if_pos hh]
    exact ⟨⟨z1, by omega⟩, q2 _ z1 z2⟩
  obtain ⟨m2, e2, S2, F2⟩ := tsort_ok (B := B) (m := m1) hr cD.1 cD.2 (by rw [xR_cg (A1 3 (by decide) (by decide) (by decide))]; exact c31) hn.1 hn.2 (by rw [xR_cg (A1 r (by omega) (by omega) (by omega))]; exact h5) ts1
  have l372 : m2 372 = m1 372 := F2 372 (by omega) (by omega) (by omega)
  have l371 : m2 371 = m1 371 := F2 371 (by omega) (by omega) (by omega)
  have tk2 : ∀ d i, 0 ≤ d → d < D → tkey m2 r d i = kv m r D v d i := by
    intro d i d0 d1
    rw [← tkk d i d0 d1]
    unfold tkey
    rw [xR_cg l372, xR_cg l371]
    by_cases h : xR m1 372 d = -1
    · rw [if_pos h, if_pos h]
    · obtain ⟨a1, a2⟩ := sd d d0 d1
      have lt : vdg (lvl m) D v d < lvl m d := of_decide_eq_true (a2.mpr h)
      have l4 : lvl m d ≤ 4 := (c5 d d0 d1).1.2
      have g0 := hvd d d0 d1
      rw [if_neg h, if_neg h, xR_cg (F2 (15 + 26 * d + 14 + xR m1 371 d) (by omega) (by omega) (by omega)), xR_cg (F2 (r + 3 + d) (by omega) (by omega) (by omega))]
  have ts2 : tsok m2 r D n := by
    intro d d0 d1 hne
    rw [xR_cg l372] at hne
    have := ts1 d d0 d1 hne
    rw [xR_cg l371, xR_cg (F2 (15 + 26 * d + 23) (by omega) (by omega) (by omega)), xR_cg (F2 (r + 3 + d) (by omega) (by omega) (by omega))]
    refine ⟨this.1, this.2.1, fun i i0 i1 => ?_⟩
    rw [tk2 d i d0 d1, ← tkk d i d0 d1]
    exact this.2.2 i i0 i1
  have V2 : vsh m2 D M (vP m D v) (vH m D v) := vsh_cg V1 (F2 3 (by omega) (by omega) (by omega)) (by rw [F2 302 (by omega) (by omega) (by omega)]) (by rw [F2 302 (by omega) (by omega) (by omega)]) l372
  obtain ⟨R, st, SRt, stb⟩ := SR_ex 0 D (tkey m2 r) (xR m2 (r + 12 + W)) n.toNat
  rw [Int.toNat_of_nonneg hn.1] at SRt
  have hst : ∀ j, xw_rg (st j) := fun j => by
    have := stb j
    unfold xw_rg
    omega
  obtain ⟨w, m3, e3, F3, t3, P3⟩ := wr_view (B := B) (m := m2) hB hr V2 ts2 hn (by rw [xR_cg (F2 r (by omega) (by omega) (by omega)), xR_cg (A1 r (by omega) (by omega) (by omega))]; exact h5) S2.1 SRt hst hp (tst_cg hw ((F2 518 (by omega) (by omega) (by omega)).trans (A1 518 (by decide) (by decide) (by decide))) ((F2 517 (by omega) (by omega) (by omega)).trans (A1 517 (by decide) (by decide) (by decide))))
  have SRk : SR 0 D (kv m r D v) (xR m2 (r + 12 + W)) st n R := SR_cg SRt (fun i q i0 i1 _ _ => tk2 i _ i0 i1)
  have hP0 := V2.2.2.1
  have cells : ∀ c j : Int, 0 ≤ c → c < ((vP m D v + 1 + 3 * M).toNat : Int) → 0 ≤ j → j < R → Tvw (tkey m2 r) (fun k => xJ m2 (r + 12 + k)) (vP m D v) (vH m D v) (xR m2 (r + 12 + W)) st c j = vT m r D v (xR m2 (r + 12 + W)) st c j := by
    intro c j c0 c1 _ _
    unfold vT Tvw Tvp
    by_cases h : c < vP m D v
    · have := (V2.2.2.2.2.2.2.2.2 c c0 h).1
      rw [if_pos h, if_pos h, tk2 _ _ this.1 this.2]
    · rw [if_neg h, if_neg h]
      by_cases h' : c = vP m D v
      · rw [if_pos h', if_pos h']
      · rw [if_neg h', if_neg h']
        have : xJ m2 (r + 12 + (c - vP m D v - 1) / 3) = xJ m (r + 12 + (c - vP m D v - 1) / 3) := by
          rw [xJ_cg (F2 _ (by omega) (by omega) (by omega)), xJ_cg (A1 _ (by omega) (by omega) (by omega))]
        show ga _ (xJ m2 (r + 12 + (c - vP m D v - 1) / 3)) _ _ _ = _
        rw [this]
  have hR0 := SRt.1
  rw [partB_cg hR0 cells] at t3 P3
  refine ⟨m1, m2, m3, w, xR m2 (r + 12 + W), st, R, e1, e2, e3, ⟨fun a a1 a2 a3 a4 a5 a6 a7 => ((F3.1 a a1 a4).trans (F2 a a5 a7 a6)).trans (A1 a (by omega) a2 a3), fun q q0 q1 => ?_⟩, srt_cg S2 (fun d x d0 d1 _ _ => tkk d x d0 (by omega)), SRk, hst, t3, fun hws => ⟨(P3 hws).1, Part_f cells (P3 hws).2⟩⟩
  rw [F3.2.2 q q0 q1, F2 517 (by omega) (by omega) (by omega), A1 517 (by decide) (by decide) (by decide)]
end WVIEW
