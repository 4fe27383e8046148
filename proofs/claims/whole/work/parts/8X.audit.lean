/-! AUDIT: each view's part is what the facts give -/
section AUD
variable {B : Nat} {m : xw_M} {r W cap D M n : Int}
theorem chk_vpart (hB : B ≤ 512) (hr : rwo r W cap) (hc : ctk m D M) (hn : 0 ≤ n ∧ n ≤ cap) (h5 : xR m r 5 = n) (hk : rok m r D n) {v : Int} (hv : 0 ≤ v ∧ v < 2147483648) {p R' : Int} {T : Int → Int → Int} (hp : rs B m p) (hT : cwd T) (hq : ∀ o st R, vrep m r D v n o st R → R = R' ∧ ∀ c j, 0 ≤ c → c < vP m D v + 1 + 3 * M → 0 ≤ j → j < R → T c j = vT m r D v o st c j) (hP : Part (m 516) p R' (vP m D v + 1 + 3 * M).toNat T) (hf : p + 8 * partB T R' (vP m D v + 1 + 3 * M).toNat ≤ 64 * (B * 512 : Nat)) : ∃ m1 m2 m3, yf109 B v m = some (.inl 0, m1) ∧ yf180 B r m1 = some (.inl 0, m2) ∧ yf239 B r 530 m2 = some (.inl 0, m3) ∧ rs B m3 (p + 8 * partB T R' (vP m D v + 1 + 3 * M).toNat) ∧ (∀ a, (a < 302 ∨ 372 < a) → a ≠ 530 → a ≠ 532 → a ≠ r + 1 → a ≠ r + 12 + W → a ≠ r + 13 + W → m3 a = m a) ∧ ∀ k, k ≠ 2 → m3 530 k = m 530 k := by
  have hb := rw_b hr
  obtain ⟨cD, cM, c31, c32, c5⟩ := hc
  have hvd : ∀ d, 0 ≤ d → d < D → 0 ≤ vdg (lvl m) D v d := fun d d0 d1 => (vdg_b (lv := lvl m) (fun d d0 d1 => ⟨by have := (c5 d d0 d1).1.1; unfold lvl; omega, (c5 d d0 d1).1.2⟩) d0 d1).1
  obtain ⟨m1, e1, F1, V1, s7, sd⟩ := shapeV_ok (B := B) cD cM c31 c32 hv (fun d d0 d1 => ⟨by have := (c5 d d0 d1).1.1; omega, (c5 d d0 d1).1.2⟩)
  have V1 : vsh m1 D M (vP m D v) (vH m D v) := V1
  have sd : ∀ d, 0 ≤ d → d < D → xR m1 371 d = vdg (lvl m) D v d ∧ (vhas (lvl m) D v d = true ↔ xR m1 372 d ≠ -1) := sd
  have A1 : ∀ a, a ≠ 302 → a ≠ 371 → a ≠ 372 → m1 a = m a := F1.1
  have tkk : ∀ d i, 0 ≤ d → d < D → tkey m1 r d i = kv m r D v d i := by
    intro d i d0 d1
    unfold tkey kv
    obtain ⟨a1, a2⟩ := sd d d0 d1
    by_cases h : vhas (lvl m) D v d = true
    · have lt : vdg (lvl m) D v d < lvl m d := of_decide_eq_true h
      have l4 : lvl m d ≤ 4 := (c5 d d0 d1).1.2
      have g0 := hvd d d0 d1
      rw [if_neg (a2.mp h), if_pos h, a1, xR_cg (A1 (15 + 26 * d + 14 + vdg (lvl m) D v d) (by omega) (by omega) (by omega)), xR_cg (A1 (r + 3 + d) (by omega) (by omega) (by omega))]
    · rw [if_neg h, if_pos (Classical.byContradiction (fun hh => h (a2.mpr hh)))]
  have ts1 : tsok m1 r D n := by
    intro d d0 d1 hne
    obtain ⟨a1, a2⟩ := sd d d0 d1
    obtain ⟨k1, k2, k3⟩ := c5 d d0 d1
    have hh := a2.mpr hne
    have lt : vdg (lvl m) D v d < xR m (15 + 26 * d) 10 := of_decide_eq_true hh
    have g0 := hvd d d0 d1
    obtain ⟨q1, q2⟩ := k3 _ g0 lt
    rw [a1, xR_cg (A1 (15 + 26 * d + 23) (by omega) (by omega) (by omega))]
    refine ⟨⟨g0, by omega⟩, q1, fun i i0 i1 => ?_⟩
    obtain ⟨z1, z2⟩ := hk d i d0 d1 i0 i1
    rw [tkk d i d0 d1, xR_cg (A1 (r + 3 + d) (by omega) (by omega) (by omega))]
    unfold kv
    rw [if_pos hh]
    exact ⟨⟨z1, by omega⟩, q2 _ z1 z2⟩
  obtain ⟨m2, e2, S2, F2⟩ := tsort_ok (B := B) (m := m1) hr cD.1 cD.2 (by rw [xR_cg (A1 3 (by decide) (by decide) (by decide))]; exact c31) hn.1 hn.2 (by rw [xR_cg (A1 r (by omega) (by omega) (by omega))]; exact h5) ts1
  have l372 : m2 372 = m1 372 := F2 372 (by omega) (by omega) (by omega)
  have l371 : m2 371 = m1 371 := F2 371 (by omega) (by omega) (by omega)
  have tk2 : ∀ d i, 0 ≤ d → d < D → tkey m2 r d i = kv m r D v d i := by
    intro d i d0 d1
    rw [← tkk d i d0 d1]
    unfold tkey
    rw [xR_cg l372, xR_cg l371]
    by_cases h : xR m1 372 d = -1
    · rw [if_pos h, if_pos h]
    · obtain ⟨a1, a2⟩ := sd d d0 d1
      have lt : vdg (lvl m) D v d < lvl m d := of_decide_eq_true (a2.mpr h)
      have l4 : lvl m d ≤ 4 := (c5 d d0 d1).1.2
      have g0 := hvd d d0 d1
      rw [if_neg h, if_neg h, xR_cg (F2 (15 + 26 * d + 14 + xR m1 371 d) (by omega) (by omega) (by omega)), xR_cg (F2 (r + 3 + d) (by omega) (by omega) (by omega))]
  have ts2 : tsok m2 r D n := by
    intro d d0 d1 hne
    rw [xR_cg l372] at hne
    have := ts1 d d0 d1 hne
    rw [xR_cg l371, xR_cg (F2 (15 + 26 * d + 23) (by omega) (by omega) (by omega)), xR_cg (F2 (r + 3 + d) (by omega) (by omega) (by omega))]
    refine ⟨this.1, this.2.1, fun i i0 i1 => ?_⟩
    rw [tk2 d i d0 d1, ← tkk d i d0 d1]
    exact this.2.2 i i0 i1
  have V2 : vsh m2 D M (vP m D v) (vH m D v) := vsh_cg V1 (F2 3 (by omega) (by omega) (by omega)) (by rw [F2 302 (by omega) (by omega) (by omega)]) (by rw [F2 302 (by omega) (by omega) (by omega)]) l372
  obtain ⟨R, st, SRt, stb⟩ := SR_ex 0 D (tkey m2 r) (xR m2 (r + 12 + W)) n.toNat
  rw [Int.toNat_of_nonneg hn.1] at SRt
  have hst : ∀ j, xw_rg (st j) := fun j => by
    have := stb j
    unfold xw_rg
    omega
  have SRk : SR 0 D (kv m r D v) (xR m2 (r + 12 + W)) st n R := SR_cg SRt (fun i q i0 i1 _ _ => tk2 i _ i0 i1)
  have hP0 := V2.2.2.1
  have cells : ∀ c j : Int, 0 ≤ c → c < ((vP m D v + 1 + 3 * M).toNat : Int) → 0 ≤ j → j < R → Tvw (tkey m2 r) (fun k => xJ m2 (r + 12 + k)) (vP m D v) (vH m D v) (xR m2 (r + 12 + W)) st c j = vT m r D v (xR m2 (r + 12 + W)) st c j := by
    intro c j c0 c1 _ _
    unfold vT Tvw Tvp
    by_cases h : c < vP m D v
    · have := (V2.2.2.2.2.2.2.2.2 c c0 h).1
      rw [if_pos h, if_pos h, tk2 _ _ this.1 this.2]
    · rw [if_neg h, if_neg h]
      by_cases h' : c = vP m D v
      · rw [if_pos h', if_pos h']
      · rw [if_neg h', if_neg h']
        have : xJ m2 (r + 12 + (c - vP m D v - 1) / 3) = xJ m (r + 12 + (c - vP m D v - 1) / 3) := by
          rw [xJ_cg (F2 _ (by omega) (by omega) (by omega)), xJ_cg (A1 _ (by omega) (by omega) (by omega))]
        show ga _ (xJ m2 (r + 12 + (c - vP m D v - 1) / 3)) _ _ _ = _
        rw [this]
  obtain ⟨eR, eT⟩ := hq _ _ _ ⟨srt_cg S2 (fun d x d0 d1 _ _ => tkk d x d0 (by omega)), SRk, hst⟩
  subst eR
  have e516 : m2 516 = m 516 := by rw [F2 516 (by omega) (by omega) (by omega), A1 516 (by omega) (by omega) (by omega)]
  have e530 : m2 530 = m 530 := by rw [F2 530 (by omega) (by omega) (by omega), A1 530 (by omega) (by omega) (by omega)]
  obtain ⟨m3, e3, rs3, F3⟩ := chk_view (B := B) (m := m2) (p := p) (T := T) hB hr V2 ts2 hn (by rw [xR_cg (F2 r (by omega) (by omega) (by omega)), xR_cg (A1 r (by omega) (by omega) (by omega))]; exact h5) S2.1 SRt hst hT (fun c j c0 c1 j0 j1 => by rw [eT c j c0 c1 j0 j1, cells c j c0 (by omega) j0 j1]) (rs_fr hp e530) (by rw [e516]; exact hP) hf
  refine ⟨m1, m2, m3, e1, e2, e3, rs3, fun a a1 a2 a3 a4 a5 a6 => ?_, fun k hk' => ?_⟩
  · rw [F3.1 a a2 a3 (by omega), F2 a a4 a6 a5, A1 a (by omega) (by omega) (by omega)]
  · rw [F3.2.1 k hk', e530]
/-- the views of the facts in the rows 395, one after another, from the disk -/
theorem chk_all {f k q qe : Int} {π vs Rs : Int → Int} (hB : B ≤ 512) (hc : cat2 m D M) (hn : 0 ≤ n ∧ n ≤ 20000) (hfn : 0 ≤ f ∧ f + n ≤ 20000) (h5 : xR m 395 5 = n) (hk : rok m 395 D n) (hF : fct m 395 D M n f π) (hk16 : 0 ≤ k ∧ k ≤ 16) (h11 : xR m 508 11 = k) (hv : ∀ i, 0 ≤ i → i < k → xR m 511 i = vs i ∧ 0 ≤ vs i) (hp : rs B m q) (V : vps (m 516) m D M f n k vs Rs q qe) (hl : qe ≤ 64 * (B * 512 : Nat)) : ∃ m' p', xl3 (yl238_69 B) 1000000 530 0 0 m = some (.inl 0, m') ∧ rs B m' p' ∧ (∀ a, (a < 302 ∨ 372 < a) → a ≠ 530 → a ≠ 532 → a ≠ 396 → a ≠ 415 → a ≠ 416 → m' a = m a) ∧ ∀ j, j ≠ 2 → m' 530 j = m 530 j := by
  have hD := hc.1.1
  have hM := hc.1.2.1
  have r395 : rwo 395 8 20000 := Or.inr (Or.inl ⟨rfl, rfl, rfl⟩)
  obtain ⟨Os, Ss, Q, Q0, Qk, A⟩ := V
  have mono := vps_mono hD hM A
  generalize hN : (1000000 : Nat) = N
  have goal := xH_ex (Q := fun v m' => v = 0 ∧ (∃ p', rs B m' p') ∧ (∀ a, (a < 302 ∨ 372 < a) → a ≠ 530 → a ≠ 532 → a ≠ 396 → a ≠ 415 → a ≠ 416 → m' a = m a) ∧ ∀ j, j ≠ 2 → m' 530 j = m 530 j) (xl3_rule (F := yl238_69 B) (fun y2 y3 y4 m' => y2 = 530 ∧ y3 = 0 ∧ (0 ≤ y4 ∧ y4 ≤ k) ∧ rs B m' (Q y4) ∧ (∀ a, (a < 302 ∨ 372 < a) → a ≠ 530 → a ≠ 532 → a ≠ 396 → a ≠ 415 → a ≠ 416 → m' a = m a) ∧ ∀ j, j ≠ 2 → m' 530 j = m 530 j) (fun _ _ y4 _ => (k - y4).toNat) ?_ N 530 0 0 m ⟨rfl, rfl, ⟨Int.le_refl _, hk16.1⟩, by rw [Q0]; exact hp, fun _ _ _ _ _ _ _ => rfl, fun _ _ => rfl⟩ (by omega))
  · obtain ⟨v, m', e, rfl, ⟨p', h1⟩, h2, h3⟩ := goal
    exact ⟨m', p', e, h1, h2, h3⟩
  · intro r2 y2 y3 y4 m' ⟨b1, b2, b3, b4, b5, b6⟩ ih
    subst b1 b2
    unfold yl238_69
    rw [xR_cg (b5 508 (by omega) (by omega) (by omega) (by omega) (by omega) (by omega)), h11]
    by_cases hy : y4 < k
    · obtain ⟨Vr, Eq, P⟩ := A y4 b3.1 hy
      have lo : ∀ a, a < 302 → m' a = m a := fun a ha => b5 a (by omega) (by omega) (by omega) (by omega) (by omega) (by omega)
      have re : ∀ a, 536 ≤ a → m' a = m a := fun a ha => b5 a (by omega) (by omega) (by omega) (by omega) (by omega) (by omega)
      have c2 : cat2 m' D M := cat2_fr hc lo (fun k hk => by rw [re 536 (by omega)]) (fun a ha => re a (by omega))
      have k2 : rok m' 395 D n := rok_fr hD.2 hk lo (fun k k0 k1 => b5 _ (by omega) (by omega) (by omega) (by omega) (by omega) (by omega))
      have F2 : fct m' 395 D M n f π := fct_fr hD.2 hM.2 hF (fun k k0 k1 => ⟨b5 _ (by omega) (by omega) (by omega) (by omega) (by omega) (by omega), b5 _ (by omega) (by omega) (by omega) (by omega) (by omega) (by omega)⟩) (fun a ha => re a (by omega))
      have rsm' : rsm m m' (f + n) := ⟨re 538 (by omega), re 539 (by omega), re 573 (by omega), fun i _ _ => ⟨by rw [re 575 (by omega)], by rw [re 576 (by omega)]⟩⟩
      obtain ⟨Vr', T'⟩ := vrr_m rsm' hD hfn.1 (Int.le_refl _) Vr
      have pb := rP_b m hD.1 (vs y4)
      have eP : vP m' D (vs y4) = rP m D (vs y4) := by rw [vP_ref c2, rP_m rsm']
      have q1 := hv y4 b3.1 hy
      have a2 := mono (k - (y4 + 1)).toNat (y4 + 1) (by omega) (by omega)
      rw [show y4 + 1 + ((k - (y4 + 1)).toNat : Int) = k by omega, Qk] at a2
      obtain ⟨m1, m2, m3, e1, e2, e3, rs3, f3, g3⟩ := chk_vpart (B := B) (m := m') (r := 395) (W := 8) (cap := 20000) (v := vs y4) (p := Q y4) (R' := Rs y4) (T := rV m D (vs y4) f (Os y4) (Ss y4)) hB r395 c2.1 hn (by rw [xR_cg (b5 395 (by omega) (by omega) (by omega) (by omega) (by omega) (by omega))]; exact h5) k2 ⟨q1.2, by rw [← q1.1]; exact (w32_rng _).2⟩ b4 (rV_w _ _ _ _ Vr.2.2) (fun o st R hrep => by
        obtain ⟨o', st', W', WT⟩ := view_ref c2 k2 hn.1 hn.2 F2 hrep
        obtain ⟨eR, eT⟩ := vrr_uniq hD.1 Vr' W'
        refine ⟨eR.symm, fun c j c0 c1 j0 j1 => ?_⟩
        rw [eP] at c1
        have rpe : rP m' D (vs y4) = rP m D (vs y4) := rP_m rsm' _
        rw [T' c j c0 (by omega) j0 (by omega), eT c j c0 (by omega) j0 (by omega), WT c j c0 (by rw [eP]; exact c1) j0 j1]) (by rw [eP, b5 516 (by omega) (by omega) (by omega) (by omega) (by omega) (by omega)]; exact P) (by rw [eP]; omega)
      rw [if_pos hy, if_pos ⟨b3.1, by omega⟩, xR_cg (b5 511 (by omega) (by omega) (by omega) (by omega) (by omega) (by omega)), q1.1, e1, xB_ret, e2, xB_ret, e3, xB_ret, w32_id (by omega) (by omega), w32_id (by omega) (by omega)]
      rw [eP, ← Eq] at rs3
      refine ih _ _ _ _ ⟨rfl, rfl, ⟨by omega, by omega⟩, rs3, fun a a1 a2 a3 a4 a5 a6 => ?_, fun j hj => ?_⟩ (by omega)
      · rw [f3 a a1 a2 a3 (by omega) (by omega) (by omega)]; exact b5 a a1 a2 a3 a4 a5 a6
      · rw [g3 j hj]; exact b6 j hj
    · rw [if_neg hy, xH_ret]
      exact ⟨rfl, ⟨_, b4⟩, b5, b6⟩
end AUD
