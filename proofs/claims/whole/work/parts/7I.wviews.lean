/-! writeViewParts -/
/-- a view's rows out of n facts -/
def vrep (m : xw_M) (r D v n : Int) (o st : Int → Int) (R : Int) : Prop := srt (kv m r D v) D.toNat o n ∧ SR 0 D (kv m r D v) o st n R ∧ ∀ j, xw_rg (st j)
/-- what the rows and the catalog need to be the same -/
def sam (m m' : xw_M) (r : Int) : Prop := (∀ a, a < 302 → m' a = m a) ∧ m' r = m r ∧ ∀ k, 0 ≤ k → k < 8 → m' (r + 3 + k) = m (r + 3 + k) ∧ m' (r + 12 + k) = m (r + 12 + k)
section WVIEWS
variable {B : Nat} {m m' : xw_M} {r W cap D M n : Int}
theorem lvl_sam (h : sam m m' r) (hD : D ≤ 8) {d : Int} (d0 : 0 ≤ d) (d1 : d < D) : lvl m' d = lvl m d := by
  unfold lvl
  rw [xR_cg (h.1 _ (by omega))]
theorem vdg_sam (h : sam m m' r) (hD : D ≤ 8) {v d : Int} (d0 : 0 ≤ d) (d1 : d < D) : vdg (lvl m') D v d = vdg (lvl m) D v d := vdg_cg d0 d1 (fun d d0 d1 => lvl_sam h hD d0 d1)
theorem vhas_sam (h : sam m m' r) (hD : D ≤ 8) {v d : Int} (d0 : 0 ≤ d) (d1 : d < D) : vhas (lvl m') D v d = vhas (lvl m) D v d := by
  unfold vhas
  rw [vdg_sam h hD d0 d1, lvl_sam h hD d0 d1]
theorem vP_sam (h : sam m m' r) (hD : D ≤ 8) (v : Int) : vP m' D v = vP m D v := cnt_cg _ (fun i hi => vhas_sam h hD (by omega) (by omega))
theorem vP_b (m : xw_M) (hD : 0 ≤ D) (v : Int) : 0 ≤ vP m D v ∧ vP m D v ≤ D := by
  have := cnt_b (vhas (lvl m) D v) D.toNat
  unfold vP
  omega
theorem kv_sam (hc : ctk m D M) (h : sam m m' r) {v d x : Int} (d0 : 0 ≤ d) (d1 : d < D) : kv m' r D v d x = kv m r D v d x := by
  have hD := hc.1.2
  have lb := (hc.2.2.2.2 d d0 d1).1
  unfold kv
  rw [vhas_sam h hD d0 d1]
  by_cases hv : vhas (lvl m) D v d = true
  · have lt : vdg (lvl m) D v d < xR m (15 + 26 * d) 10 := of_decide_eq_true hv
    have g0 : 0 ≤ vdg (lvl m) D v d := (vdg_b (lv := lvl m) (fun d d0 d1 => ⟨by have := (hc.2.2.2.2 d d0 d1).1.1; unfold lvl; omega, (hc.2.2.2.2 d d0 d1).1.2⟩) d0 d1).1
    rw [if_pos hv, if_pos hv, vdg_sam h hD d0 d1, xR_cg (h.1 (15 + 26 * d + 14 + vdg (lvl m) D v d) (by omega)), xR_cg (h.2.2 d d0 (by omega)).1]
  · rw [if_neg hv, if_neg hv]
theorem hdf_uniq {f g : Int → Bool} {N : Nat} (h : ∀ i : Int, 0 ≤ i → i < N → f i = g i) {c : Int} (c0 : 0 ≤ c) (c1 : c < cnt f N) : hdf f N c = hdf g N c := by
  have e : cnt f N = cnt g N := cnt_cg N (fun i hi => h i (by omega) (by omega))
  obtain ⟨a1, a2, a3⟩ := hdf_1 f N c c0 c1
  have g1 : g (hdf f N c) = true := by rw [← h _ a1.1 a1.2]; exact a2
  have k := hdf_2 g N (hdf f N c) a1.1 a1.2 g1
  have e2 : cnt g (hdf f N c).toNat = c := by
    rw [← cnt_cg (P := f) (hdf f N c).toNat (fun i hi => h i (by omega) (by omega))]
    exact a3
  rw [e2] at k
  exact k.symm
theorem vrep_same (hc : ctk m D M) (h : sam m m' r) {v R R' : Int} {o o' st st' : Int → Int} (a : vrep m r D v n o st R) (b : vrep m' r D v n o' st' R') : R' = R ∧ (∀ i, 0 ≤ i → i < n → o' i = o i) ∧ ∀ c j, 0 ≤ c → c < vP m D v + 25 → 0 ≤ j → j < R → vT m' r D v o' st' c j = vT m r D v o st c j := by
  have hD := hc.1
  have eD : ((D.toNat : Nat) : Int) = D := Int.toNat_of_nonneg hD.1
  have idp : prm (fun x => x) n := ⟨fun i h0 h1 => ⟨h0, h1⟩, fun i j _ _ _ _ e => e⟩
  have S1 : SR 0 ((D.toNat : Nat) : Int) (kv m' r D v) o' st' n R' := by rw [eD]; exact b.2.1
  have S2 : SR 0 ((D.toNat : Nat) : Int) (kv m r D v) o st n R := by rw [eD]; exact a.2.1
  obtain ⟨eR, es, ec⟩ := view_same (κ := kv m' r D v) (κ' := kv m r D v) (A := fun k => xJ m' (r + 12 + k)) (A' := fun k => xJ m (r + 12 + k)) (π := fun x => x) (hd := vH m D v) (P := vP m D v) (tb := 0) (tb' := 0) (by decide) (by decide) b.1 a.1 idp (fun e x e0 e1 _ _ => kv_sam hc h e0 (by omega)) (fun k x k0 k1 _ _ => by
      show xJ m' (r + 12 + k) x = xJ m (r + 12 + k) x
      rw [xJ_cg (h.2.2 k k0 k1).2]) (fun k x => w64_w _) (fun k x => w64_w _) S1 S2 (fun c c0 c1 => (hdf_1 (vhas (lvl m) D v) D.toNat c c0 c1).1)
  refine ⟨eR, fun i i0 i1 => ?_, fun c j c0 c1 j0 j1 => ?_⟩
  · exact srt_uniq (srt_cg b.1 (fun d x d0 d1 _ _ => kv_sam hc h d0 (by omega))) a.1 i i0 i1
  · have q := ec c j c0 c1 j0 (by omega)
    unfold vT
    rw [← q, vP_sam h hD.2 v]
    unfold Tvw Tvp
    by_cases hc' : c < vP m D v
    · rw [if_pos hc', if_pos hc']
      have : vH m' D v c = vH m D v c := (hdf_uniq (fun i i0 i1 => (vhas_sam h hD.2 i0 (by omega)).symm) c0 hc').symm
      rw [this]
    · rw [if_neg hc', if_neg hc']
/-- the bytes of the views 0 .. i - 1 -/
noncomputable def vsm (m : xw_M) (r D M : Int) (num : Int → Int) (Os Ss : Int → Int → Int) (Rs : Int → Int) : Nat → Int
  | 0 => 0
  | i + 1 => vsm m r D M num Os Ss Rs i + partB (vT m r D (num i) (Os i) (Ss i)) (Rs i) (vP m D (num i) + 1 + 3 * M).toNat
def fQ (m m' : xw_M) (r W p : Int) : Prop := (∀ a, (a < 302 ∨ 336 < a) → a ≠ 371 → a ≠ 372 → (a < 517 ∨ 523 < a) → a ≠ r + 1 → a ≠ r + 12 + W → a ≠ r + 13 + W → a ≠ 419 → m' a = m a) ∧ ∀ q, 0 ≤ q → q < p → bW (m' 517) q = bW (m 517) q
theorem partB_4 {T : Int → Int → Int} (hT : cwd T) {R : Int} {k : Nat} (hk : k ≤ 33) : 4 ≤ partB T R k := by
  unfold partB
  have : 0 ≤ ssum T R k (nseg R) := by
    by_cases h : 0 < R
    · exact ssum_nn hT hk (by unfold nseg; omega)
    · have : nseg R = 0 := by unfold nseg; omega
      rw [this]
      exact Int.le_refl 0
  omega
theorem vT_w (m : xw_M) (r D v : Int) {o st : Int → Int} (hst : ∀ j, xw_rg (st j)) : cwd (vT m r D v o st) := Tvw_w (fun d x => by
    unfold kv
    split
    · exact w64_xR _ _ _
    · rfl) (fun k x => w64_w _) hst
theorem wr_views (hB : B ≤ 512) (hr : rwo r W cap) (hc : ctk m D M) (hn : 0 ≤ n ∧ n ≤ cap) (h5 : xR m r 5 = n) (hk : rok m r D n) {a k : Int} (k0 : 0 ≤ k) (k1 : k ≤ 16) (ha : xw_obb 16 a = true) (la : 16 ≤ xw_le B a) (hfa : (a < 302 ∨ 336 < a) ∧ a ≠ 371 ∧ a ≠ 372 ∧ (a < 517 ∨ 523 < a) ∧ a ≠ r + 1 ∧ a ≠ r + 12 + W ∧ a ≠ r + 13 + W ∧ a ≠ 419) {num Rs : Int → Int} {Os Ss : Int → Int → Int} (hnum : ∀ i, 0 ≤ i → i < k → xR m a i = num i ∧ 0 ≤ num i ∧ num i < 2147483648) (hrep : ∀ i, 0 ≤ i → i < k → vrep m r D (num i) n (Os i) (Ss i) (Rs i)) {p : Int} (hp : 0 ≤ p) (hw : tst B m p) : ∃ m', yf192 B r a k m = some (.inl 0, m') ∧ fQ m m' r W p ∧ tst B m' (p + 8 * vsm m r D M num Os Ss Rs k.toNat) ∧ (ws B m' (p + 8 * vsm m r D M num Os Ss Rs k.toNat) → ∀ i, 0 ≤ i → i < k → xR m' 419 i = Rs i ∧ Part (m' 517) (p + 8 * vsm m r D M num Os Ss Rs i.toNat) (Rs i) (vP m D (num i) + 1 + 3 * M).toNat (vT m r D (num i) (Os i) (Ss i))) := by
  have hb := rw_b hr
  obtain ⟨V, hV⟩ : ∃ V, V = vsm m r D M num Os Ss Rs := ⟨_, rfl⟩
  have hs : ∀ i : Nat, V (i + 1) = V i + partB (vT m r D (num i) (Os i) (Ss i)) (Rs i) (vP m D (num i) + 1 + 3 * M).toNat := fun i => by rw [hV]; rfl
  have h33 : ∀ v, (vP m D v + 1 + 3 * M).toNat ≤ 33 := fun v => by
    have := vP_b m hc.1.1 v
    have := hc.1.2
    have := hc.2.1.2
    omega
  have hstep : ∀ i : Nat, (i : Int) < k → V i + 4 ≤ V (i + 1) := fun i hi => by
    have := partB_4 (vT_w m r D (num i) (hrep i (by omega) hi).2.2 (o := Os i)) (R := Rs i) (h33 (num i))
    rw [hs]
    omega
  have hmono : ∀ (j i : Nat), (i + j : Nat) ≤ k → V i ≤ V (i + j) := by
    intro j
    induction j with
    | zero => intro i _; exact Int.le_refl _
    | succ j ih =>
      intro i hi
      have a1 := ih i (by omega)
      have a2 := hstep (i + j) (by omega)
      rw [show i + (j + 1) = i + j + 1 from by omega]
      omega
  have hV0 : V 0 = 0 := by rw [hV]; rfl
  rw [← hV]
  unfold yf192
  generalize hN : (1000000 : Nat) = N
  have goal := xH_ex (Q := fun w m' => w = 0 ∧ fQ m m' r W p ∧ tst B m' (p + 8 * V k.toNat) ∧ (ws B m' (p + 8 * V k.toNat) → ∀ i, 0 ≤ i → i < k → xR m' 419 i = Rs i ∧ Part (m' 517) (p + 8 * V i.toNat) (Rs i) (vP m D (num i) + 1 + 3 * M).toNat (vT m r D (num i) (Os i) (Ss i)))) (xl4_rule (F := yl192_3 B) (fun y1 y2 y3 x m' => (y1 = r ∧ y2 = a ∧ y3 = k) ∧ 0 ≤ x ∧ x ≤ k ∧ fQ m m' r W p ∧ tst B m' (p + 8 * V x.toNat) ∧ (ws B m' (p + 8 * V x.toNat) → ∀ i, 0 ≤ i → i < x → xR m' 419 i = Rs i ∧ Part (m' 517) (p + 8 * V i.toNat) (Rs i) (vP m D (num i) + 1 + 3 * M).toNat (vT m r D (num i) (Os i) (Ss i)))) (fun _ _ _ x _ => (k - x).toNat) ?_ N r a k 0 m ⟨⟨rfl, rfl, rfl⟩, by omega, k0, ⟨fun _ _ _ _ _ _ _ _ _ => rfl, fun _ _ _ => rfl⟩, by rw [show (0 : Int).toNat = 0 from rfl, hV0, show p + 8 * 0 = p from by omega]; exact hw, fun _ i i0 i1 => absurd i1 (Int.not_lt.mpr i0)⟩ (by omega))
  · obtain ⟨w, m', e, rfl, h⟩ := goal
    exact ⟨m', e, h⟩
  · intro q y1 y2 y3 x mx ⟨⟨b1, b2, b3⟩, x0, x1, F, T, PP⟩ ih
    subst b1 b2 b3
    unfold yl192_3
    by_cases hx : x < y3
    · rw [if_pos hx]
      rcases T with ⟨Tw, Tl⟩ | ⟨To, Tl⟩
      · have smx : sam m mx y1 := ⟨fun c hc' => F.1 c (by omega) (by omega) (by omega) (by omega) (by omega) (by omega) (by omega) (by omega), F.1 y1 (by omega) (by omega) (by omega) (by omega) (by omega) (by omega) (by omega) (by rcases hr with h | h | h | h <;> omega), fun j j0 j1 => ⟨F.1 _ (by omega) (by omega) (by omega) (by omega) (by omega) (by omega) (by omega) (by rcases hr with h | h | h | h <;> omega), F.1 _ (by omega) (by omega) (by omega) (by omega) (by omega) (by omega) (by omega) (by rcases hr with h | h | h | h <;> omega)⟩⟩
        have hcx : ctk mx D M := ctk_cg hc smx.1
        have hkx : rok mx y1 D n := fun d i d0 d1 i0 i1 => by
          rw [xR_cg (smx.2.2 d d0 (by have := hc.1.2; omega)).1, xR_cg (smx.1 (15 + 26 * d) (by have := hc.1.2; omega))]
          exact hk d i d0 d1 i0 i1
        have enum : xR mx y2 x = num x := by
          rw [xR_cg (F.1 y2 hfa.1 hfa.2.1 hfa.2.2.1 hfa.2.2.2.1 hfa.2.2.2.2.1 hfa.2.2.2.2.2.1 hfa.2.2.2.2.2.2.1 hfa.2.2.2.2.2.2.2)]
          exact (hnum x x0 hx).1
        have tx : tst B mx (p + 8 * V x.toNat) := Or.inl ⟨Tw, Tl⟩
        have px : 0 ≤ p + 8 * V x.toNat := Tw.2.2.2.1
        obtain ⟨m1, m2, m3, w, o, st, R, e1, e2, e3, F3, S3, SR3, hst, t3, P3⟩ := wr_vpart (B := B) (m := mx) hB hr hcx hn (by rw [xR_cg smx.2.1]; exact h5) hkx (hnum x x0 hx).2 px tx
        obtain ⟨eR, eo, ecell⟩ := vrep_same hc smx (hrep x x0 hx) (show vrep mx y1 D (num x) n o st R from ⟨S3, SR3, hst⟩)
        have eP := vP_sam smx hc.1.2 (num x)
        have hM := hc.2.1
        rw [eP, eR] at t3 P3
        have hPb := vP_b m hc.1.1 (num x)
        have cells : ∀ c j : Int, 0 ≤ c → c < ((vP m D (num x) + 1 + 3 * M).toNat : Int) → 0 ≤ j → j < Rs x → vT mx y1 D (num x) o st c j = vT m y1 D (num x) (Os x) (Ss x) c j := fun c j c0 c1 j0 j1 => ecell c j c0 (by omega) j0 j1
        have eB := partB_cg (hrep x x0 hx).2.1.1 cells
        have hs' := hs x.toNat
        rw [Int.toNat_of_nonneg x0] at hs'
        have ev : p + 8 * V x.toNat + 8 * partB (vT m y1 D (num x) (Os x) (Ss x)) (Rs x) (vP m D (num x) + 1 + 3 * M).toNat = p + 8 * V (x + 1).toNat := by
          rw [show (x + 1).toNat = x.toNat + 1 from by omega, hs']
          omega
        rw [eB, ev] at t3 P3
        have o3 : xR mx 518 3 = 0 := Tw.2.2.1
        rw [if_pos o3, if_pos ⟨x0, by omega⟩, if_pos ha, enum, e1, xB_ret, e2, xB_ret, e3, xB_ret, if_pos ⟨x0, by omega⟩, w32_id (by omega) (by omega)]
        have Vm : V 0 ≤ V (0 + x.toNat) := hmono x.toNat 0 (by omega)
        rw [Nat.zero_add, hV0] at Vm
        have r518 : (xw_u m3 419 x w) 518 = m3 518 := xu_c (by decide)
        have r517 : (xw_u m3 419 x w) 517 = m3 517 := xu_c (by decide)
        refine ih _ _ _ _ _ ⟨⟨rfl, rfl, rfl⟩, by omega, by omega, ⟨fun c c1 c2 c3 c4 c5 c6 c7 c8 => by rw [xu_c c8, F3.1 c c1 c2 c3 c4 c5 c6 c7]; exact F.1 c c1 c2 c3 c4 c5 c6 c7 c8, fun z z0 z1 => by rw [r517, F3.2 z z0 (by omega)]; exact F.2 z z0 z1⟩, tst_cg t3 r518 r517, fun hws i i0 i1 => ?_⟩ (by omega)
        have hws3 : ws B m3 (p + 8 * V (x + 1).toNat) := by
          unfold ws at hws ⊢
          rw [xR_cg r518, r517] at hws
          exact hws
        obtain ⟨ew, Pw⟩ := P3 hws3
        rw [r517]
        by_cases ei : i = x
        · subst ei
          refine ⟨?_, Part_f cells Pw⟩
          rw [xR_u, if_pos ⟨rfl, rfl⟩, ew]
          have h1 := (hrep i x0 hx).2.1.1
          have h2 := (hrep i x0 hx).2.1.2.1
          exact w32_id (by omega) (by omega)
        · obtain ⟨z1, z2⟩ := PP Tw i i0 (by omega)
          refine ⟨?_, ?_⟩
          · rw [xR_u, if_neg (fun h => ei h.2), xR_cg (F3.1 419 (by omega) (by decide) (by decide) (by decide) (by rcases hr with h | h | h | h <;> omega) (by rcases hr with h | h | h | h <;> omega) (by rcases hr with h | h | h | h <;> omega))]
            exact z1
          · have mi : V 0 ≤ V (0 + i.toNat) := hmono i.toNat 0 (by omega)
            rw [Nat.zero_add, hV0] at mi
            have hsi := hs i.toNat
            rw [Int.toNat_of_nonneg i0] at hsi
            have mx1 := hmono (x.toNat - (i.toNat + 1)) (i.toNat + 1) (by omega)
            rw [show i.toNat + 1 + (x.toNat - (i.toNat + 1)) = x.toNat from by omega] at mx1
            refine Part_cg (vT_w m y1 D (num i) (hrep i i0 (by omega)).2.2) (h33 _) (fun z z0 z1 => ?_) z2
            exact F3.2 _ (by omega) (by omega)
      · have o3 : ¬ xR mx 518 3 = 0 := by
          have := To.2
          omega
        rw [if_neg o3, xH_ret]
        have mx1 := hmono (y3.toNat - x.toNat) x.toNat (by omega)
        rw [show x.toNat + (y3.toNat - x.toNat) = y3.toNat from by omega] at mx1
        refine ⟨rfl, F, Or.inr ⟨To, by omega⟩, fun hws => ?_⟩
        exact absurd hws.2.2.1 o3
    · have e : x = y3 := by omega
      subst e
      rw [if_neg hx, xH_ret]
      exact ⟨rfl, F, T, PP⟩
end WVIEWS
