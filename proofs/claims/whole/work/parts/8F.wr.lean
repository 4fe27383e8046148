/-! THE WRITERS, by the reference's facts; THE REFERENCE'S WEIGHTS, by the same -/
def rsum (b : Int → Int) : Nat → Int
  | 0 => 0
  | i + 1 => rsum b i + b i
theorem rsum_cg {b b' : Int → Int} : ∀ n : Nat, (∀ i : Int, 0 ≤ i → i < n → b i = b' i) → rsum b n = rsum b' n := by
  intro n
  induction n with
  | zero => intro _; rfl
  | succ n ih =>
    intro h
    show rsum b n + b n = rsum b' n + b' n
    rw [ih (fun i i0 i1 => h i i0 (by omega)), h n (by omega) (by omega)]
/-- the bytes of a view of the facts f .. f + n - 1, and its rows -/
def vbt (m : xw_M) (D M v f n R b : Int) : Prop := ∃ o st, vrr m D v f n o st R ∧ b = partB (rV m D v f o st) R (rP m D v + 1 + 3 * M).toNat
theorem vbt_uniq {m : xw_M} {D M v f n R b R' b' : Int} (hD : 0 ≤ D) (hM : 0 ≤ M ∧ M ≤ 8) (h : vbt m D M v f n R b) (h' : vbt m D M v f n R' b') : R = R' ∧ b = b' := by
  obtain ⟨o, st, V, E⟩ := h
  obtain ⟨o', st', V', E'⟩ := h'
  obtain ⟨eR, T⟩ := vrr_uniq hD V V'
  subst eR
  have pb := rP_b m hD v
  refine ⟨rfl, ?_⟩
  rw [E, E']
  exact partB_cg V.2.1.1 (fun c j c0 c1 j0 j1 => T c j c0 (by omega) j0 j1)
/-- the bytes of the facts' part -/
def fbt (m : xw_M) (D M f n b : Int) : Prop := ∃ o, srt (pk m f) D.toNat o n ∧ b = partB (rT m D f o) n (D + M).toNat
theorem fbt_uniq {m : xw_M} {D M f n b b' : Int} (hn : 0 ≤ n) (h : fbt m D M f n b) (h' : fbt m D M f n b') : b = b' := by
  obtain ⟨o, S, E⟩ := h
  obtain ⟨o', S', E'⟩ := h'
  rw [E, E']
  refine partB_cg hn (fun c j c0 c1 j0 j1 => ?_)
  unfold rT
  rw [srt_uniq S S' j j0 j1]
theorem vbt_m {m m' : xw_M} {D M v f n R b N : Int} (h : rsm m m' N) (hD : 0 ≤ D ∧ D ≤ 8) (hM : 0 ≤ M ∧ M ≤ 8) (f0 : 0 ≤ f) (fn : f + n ≤ N) (F : vbt m D M v f n R b) : vbt m' D M v f n R b := by
  obtain ⟨o, st, V, E⟩ := F
  obtain ⟨V', T⟩ := vrr_m h hD f0 fn V
  have pb := rP_b m hD.1 v
  refine ⟨o, st, V', ?_⟩
  rw [E, rP_m h]
  exact partB_cg V.2.1.1 (fun c j c0 c1 j0 j1 => T c j c0 (by omega) j0 j1)
theorem fbt_m {m m' : xw_M} {D M f n b N : Int} (h : rsm m m' N) (hD : 0 ≤ D ∧ D ≤ 8) (hM : 0 ≤ M ∧ M ≤ 8) (f0 : 0 ≤ f) (n0 : 0 ≤ n) (fn : f + n ≤ N) (F : fbt m D M f n b) : fbt m' D M f n b := by
  obtain ⟨o, S, E⟩ := F
  refine ⟨o, srt_cg S (fun d x d0 d1 x0 x1 => by unfold pk; rw [rsm_R h (by omega) (by omega)]), ?_⟩
  rw [E]
  refine partB_cg n0 (fun c j c0 c1 j0 j1 => ?_)
  have oj := S.1.1 j j0 j1
  unfold rT
  by_cases e : c < D
  · rw [if_pos e, if_pos e, rsm_R h (by omega) (by omega)]
  · rw [if_neg e, if_neg e, rsm_J h (by omega) (by omega)]
section WRS
variable {B : Nat} {m : xw_M} {r W cap D M n f : Int} {π : Int → Int}
theorem wrF (hB : B ≤ 512) (hr : rwo r W cap) (hc : cat2 m D M) (hn : 0 ≤ n ∧ n ≤ cap) (h5 : xR m r 5 = n) (hk : rok m r D n) (hF : fct m r D M n f π) (ht : ∀ x y, 0 ≤ x → x < y → y < n → (∀ d, 0 ≤ d → d < D → xR m (r + 3 + d) x = xR m (r + 3 + d) y) → π x < π y) {p : Int} (hp : 0 ≤ p) (hw : tst B m p) : ∃ m' b, yf179 B r m = some (.inl 0, m') ∧ fP m m' r W p ∧ fbt m D M f n b ∧ tst B m' (p + 8 * b) ∧ (ws B m' (p + 8 * b) → fps (m' 517) m D M f n p (p + 8 * b)) := by
  have hD := hc.1.1
  have hM := hc.1.2.1
  obtain ⟨m', o, e, fp, so, t, P⟩ := wr_fpart hB hr hc.1 hn h5 hk hp hw
  obtain ⟨S, T⟩ := facts_ref hc hk hF ht so
  have T' : ∀ c j : Int, 0 ≤ c → c < ((D + M).toNat : Int) → 0 ≤ j → j < n → Tfac m r D o c j = rT m D f (fun i => π (o i)) c j := fun c j c0 c1 j0 j1 => T c j c0 (by omega) j0 j1
  have eb := partB_cg hn.1 T'
  refine ⟨m', partB (Tfac m r D o) n (D + M).toNat, e, fp, ⟨_, S, eb⟩, t, fun hw => ⟨_, S, by rw [eb], Part_f T' (P hw)⟩⟩
theorem wrV (hB : B ≤ 512) (hr : rwo r W cap) (hc : cat2 m D M) (hn : 0 ≤ n ∧ n ≤ cap) (h5 : xR m r 5 = n) (hk : rok m r D n) (hF : fct m r D M n f π) {a k : Int} (k0 : 0 ≤ k) (k1 : k ≤ 16) (ha : xw_obb 16 a = true) (la : 16 ≤ xw_le B a) (hfa : (a < 302 ∨ 336 < a) ∧ a ≠ 371 ∧ a ≠ 372 ∧ (a < 517 ∨ 523 < a) ∧ a ≠ r + 1 ∧ a ≠ r + 12 + W ∧ a ≠ r + 13 + W ∧ a ≠ 419) {num : Int → Int} (hnum : ∀ i, 0 ≤ i → i < k → xR m a i = num i ∧ 0 ≤ num i ∧ num i < 2147483648) {p : Int} (hp : 0 ≤ p) (hw : tst B m p) : ∃ m' b Rs, yf192 B r a k m = some (.inl 0, m') ∧ fQ m m' r W p ∧ (∀ i, 0 ≤ i → i < k → vbt m D M (num i) f n (Rs i) (b i)) ∧ tst B m' (p + 8 * rsum b k.toNat) ∧ (ws B m' (p + 8 * rsum b k.toNat) → (∀ i, 0 ≤ i → i < k → xR m' 419 i = Rs i) ∧ vps (m' 517) m D M f n k num Rs p (p + 8 * rsum b k.toNat)) := by
  have hD := hc.1.1
  have hM := hc.1.2.1
  have hcap := (rw_b hr).2.2
  have ex : ∀ i : Int, ∃ y : (Int → Int) × (Int → Int) × Int, vrep m r D (num i) n y.1 y.2.1 y.2.2 := fun i => by
    obtain ⟨o, so⟩ := srt_ex (kv m r D (num i)) D.toNat n.toNat
    obtain ⟨R, st, S, b⟩ := SR_ex 0 D (kv m r D (num i)) o n.toNat
    rw [Int.toNat_of_nonneg hn.1] at so S b
    exact ⟨(o, st, R), so, S, fun j => by have := b j; show xw_rg (st j); unfold xw_rg; omega⟩
  obtain ⟨Y, hY⟩ := Classical.skolem.mp ex
  obtain ⟨m', e, fq, t, P⟩ := wr_views (Os := fun i => (Y i).1) (Ss := fun i => (Y i).2.1) (Rs := fun i => (Y i).2.2) hB hr hc.1 hn h5 hk k0 k1 ha la hfa hnum (fun i _ _ => hY i) hp hw
  have ex2 : ∀ i : Int, ∃ y : (Int → Int) × (Int → Int), vrr m D (num i) f n y.1 y.2 (Y i).2.2 ∧ ∀ c j, 0 ≤ c → c < vP m D (num i) + 1 + 3 * M → 0 ≤ j → j < (Y i).2.2 → vT m r D (num i) (Y i).1 (Y i).2.1 c j = rV m D (num i) f y.1 y.2 c j := fun i => by
    obtain ⟨o', st', V, T⟩ := view_ref hc hk hn.1 (by omega) hF (hY i)
    exact ⟨(o', st'), V, T⟩
  obtain ⟨Z, hZ⟩ := Classical.skolem.mp ex2
  have eb : ∀ i : Int, partB (vT m r D (num i) (Y i).1 (Y i).2.1) (Y i).2.2 (vP m D (num i) + 1 + 3 * M).toNat = partB (rV m D (num i) f (Z i).1 (Z i).2) (Y i).2.2 (rP m D (num i) + 1 + 3 * M).toNat := fun i => by
    have pb := vP_b m hD.1 (num i)
    rw [← vP_ref hc (num i)]
    exact partB_cg (hY i).2.1.1 (fun c j c0 c1 j0 j1 => (hZ i).2 c j c0 (by omega) j0 j1)
  have es : ∀ k : Nat, vsm m r D M num (fun i => (Y i).1) (fun i => (Y i).2.1) (fun i => (Y i).2.2) k = rsum (fun i => partB (rV m D (num i) f (Z i).1 (Z i).2) (Y i).2.2 (rP m D (num i) + 1 + 3 * M).toNat) k := by
    intro k
    induction k with
    | zero => rfl
    | succ k ih =>
      show vsm m r D M num (fun i => (Y i).1) (fun i => (Y i).2.1) (fun i => (Y i).2.2) k + _ = rsum _ k + _
      rw [ih, eb]
  rw [es] at t P
  refine ⟨m', _, fun i => (Y i).2.2, e, fq, fun i i0 i1 => ⟨_, _, (hZ i).1, rfl⟩, t, fun hw => ⟨fun i i0 i1 => (P hw i i0 i1).1, ?_⟩⟩
  refine ⟨fun i => (Z i).1, fun i => (Z i).2, fun i => p + 8 * rsum (fun i => partB (rV m D (num i) f (Z i).1 (Z i).2) (Y i).2.2 (rP m D (num i) + 1 + 3 * M).toNat) i.toNat, ?_, rfl, fun i i0 i1 => ⟨(hZ i).1, ?_, ?_⟩⟩
  · show p + 8 * rsum _ (Int.toNat 0) = p
    rw [show rsum (fun i => partB (rV m D (num i) f (Z i).1 (Z i).2) (Y i).2.2 (rP m D (num i) + 1 + 3 * M).toNat) (Int.toNat 0) = 0 from rfl]
    omega
  · show p + 8 * rsum _ (i + 1).toNat = p + 8 * rsum _ i.toNat + _
    rw [show (i + 1).toNat = i.toNat + 1 by omega]
    show p + 8 * (rsum _ i.toNat + partB (rV m D (num ((i.toNat : Nat) : Int)) f (Z ((i.toNat : Nat) : Int)).1 (Z ((i.toNat : Nat) : Int)).2) (Y ((i.toNat : Nat) : Int)).2.2 (rP m D (num ((i.toNat : Nat) : Int)) + 1 + 3 * M).toNat) = _
    rw [Int.toNat_of_nonneg i0, Int.mul_add, ← Int.add_assoc]
  · have q := (P hw i i0 i1).2
    rw [es] at q
    have pb := vP_b m hD.1 (num i)
    have q2 := Part_f (T' := rV m D (num i) f (Z i).1 (Z i).2) (fun c j c0 c1 j0 j1 => (hZ i).2 c j c0 (by omega) j0 j1) q
    rw [vP_ref hc (num i)] at q2
    exact q2
end WRS
/-- what the reference's weights need: its own cells alone -/
def rca (m : xw_M) (D M f n : Int) : Prop := (0 ≤ D ∧ D ≤ 8) ∧ (0 ≤ M ∧ M ≤ 8) ∧ xR m 536 14 = D ∧ xR m 536 19 = M ∧ (∀ d, 0 ≤ d → d < D → 1 ≤ xR m 538 d ∧ xR m 538 d ≤ 4) ∧ (0 ≤ f ∧ 0 ≤ n ∧ f + n ≤ 20000) ∧ (∀ x d, 0 ≤ x → x < n → 0 ≤ d → d < D → 0 ≤ xR m 575 (8 * (f + x) + d) ∧ xR m 575 (8 * (f + x) + d) < 1000) ∧ ∃ s t, two s t ∧ m 536 59 = s ∧ m 536 60 = t
theorem rca_pf {m m' : xw_M} {D M f n : Int} (h : rca m D M f n) (p : pf m m') (t : ∃ s t, two s t ∧ m' 536 59 = s ∧ m' 536 60 = t) : rca m' D M f n := by
  obtain ⟨h1, h2, h3, h4, h5, h6, h7, h8⟩ := h
  refine ⟨h1, h2, ?_, ?_, ?_, h6, ?_, t⟩
  · rw [xR_fld (p.2 14 (by omega) (by omega) (by omega) (by omega))]; exact h3
  · rw [xR_fld (p.2 19 (by omega) (by omega) (by omega) (by omega))]; exact h4
  · rw [xR_cg (p.1 538 (by omega) (by omega) (by omega))]; exact h5
  · rw [xR_cg (p.1 575 (by omega) (by omega) (by omega))]; exact h7
section RWT
variable {B : Nat} {m : xw_M} {D M n f : Int}
theorem rwF (h : rca m D M f n) : ∃ m' b, yf324 B f (f + n) (-1) m = some (.inl b, m') ∧ pf m m' ∧ (∃ s t, two s t ∧ m' 536 59 = s ∧ m' 536 60 = t) ∧ fbt m D M f n b := by
  obtain ⟨hD, hM, h14, h19, hl, hf, hpl, hO⟩ := h
  obtain ⟨m', o, e, p, O, S, R⟩ := pweight_ok (B := B) (m := m) (tb := -1) (N := D) (M := M) (f := f) (n := n) (hv := fun _ => true) (κ := pk m f) (dg := fun _ => 0) (P := D) (hd := fun c => c) hD hM (by decide) h14 h19 hf.1 hf.2.1 hf.2.2 hO (fun h => absurd h (by decide)) (fun m1 p1 _ => by
    have := kin_facts (B := B) (m := m1) (D := D) (n := n) (g := fun x => f + x) (by rw [xR_fld (p1.2 14 (by omega) (by omega) (by omega) (by omega))]; exact h14) hD.2 (fun x x0 x1 => ⟨by omega, by omega⟩)
    rw [xR_cg (p1.1 575 (by omega) (by omega) (by omega))] at this
    exact this) (by rw [cnt_true]; omega) (fun c c0 c1 => ⟨⟨c0, c1⟩, rfl, by rw [cnt_true]; omega⟩) (fun d x => w64_xR _ _ _)
  obtain ⟨eR, es⟩ := SR_m1 hf.2.1 R
  refine ⟨m', _, e, p, O, o, S, ?_⟩
  rw [eR, if_pos (by decide)]
  refine partB_cg hf.2.1 (fun c j c0 c1 j0 j1 => ?_)
  unfold Tref rT
  rw [if_pos (by decide), es j j0 (by omega)]
  rfl
theorem rwV (h : rca m D M f n) {v : Int} (hv : 0 ≤ v ∧ v < 2147483648) : ∃ m' b, yf324 B f (f + n) v m = some (.inl b, m') ∧ pf m m' ∧ (∃ s t, two s t ∧ m' 536 59 = s ∧ m' 536 60 = t) ∧ vbt m D M v f n (xR m' 536 61) b := by
  obtain ⟨hD, hM, h14, h19, hl, hf, hpl, hO⟩ := h
  have eD : ((D.toNat : Nat) : Int) = D := Int.toNat_of_nonneg hD.1
  have lb : ∀ d, 0 ≤ d → d < D → 0 ≤ xR m 538 d ∧ xR m 538 d ≤ 4 := fun d d0 d1 => by have := hl d d0 d1; omega
  have db : ∀ d, 0 ≤ d → d < D → 0 ≤ vdg (xR m 538) D v d ∧ vdg (xR m 538) D v d ≤ xR m 538 d := fun d d0 d1 => vdg_b lb d0 d1
  obtain ⟨m', o, e, p, O, S, R⟩ := pweight_ok (B := B) (m := m) (tb := v) (N := D) (M := M) (f := f) (n := n) (hv := vhas (xR m 538) D v) (κ := kr m D v f) (dg := vdg (xR m 538) D v) (P := rP m D v) (hd := hdf (vhas (xR m 538) D v) D.toNat) hD hM (by omega) h14 h19 hf.1 hf.2.1 hf.2.2 hO (fun _ m1 p1 d d0 d1 => by
      have e38 : xR m1 538 = xR m 538 := xR_cg (p1.1 538 (by decide) (by decide) (by decide))
      have := digit_ok (B := B) (m := m1) (D := D) (v := v) (d := d) hD.2 (by rw [xR_fld (p1.2 14 (by decide) (by decide) (by decide) (by decide))]; exact h14) hv (by rw [e38]; exact lb) d0 d1
      rw [e38] at this
      refine ⟨this, ?_⟩
      have q1 := db d d0 d1
      have q2 := lb d d0 d1
      unfold xw_rg
      omega) (fun m1 p1 hdg => by
      have e38 : xR m1 538 = xR m 538 := xR_cg (p1.1 538 (by decide) (by decide) (by decide))
      have e73 : xR m1 573 = xR m 573 := xR_cg (p1.1 573 (by decide) (by decide) (by decide))
      have e75 : xR m1 575 = xR m 575 := xR_cg (p1.1 575 (by decide) (by decide) (by decide))
      have := kin_view (B := B) (m := m1) (D := D) (tb := v) (n := n) (g := fun x => f + x) (dg := vdg (xR m 538) D v) (by rw [xR_fld (p1.2 14 (by decide) (by decide) (by decide) (by decide))]; exact h14) hD.2 hv.1 (fun x x0 x1 => ⟨by omega, by omega⟩) (fun d d0 d1 => ⟨hdg hv.1 d d0 d1, (db d d0 d1).1, by have := db d d0 d1; have := lb d d0 d1; omega⟩) (fun d d0 d1 => by rw [e38]; exact (lb d d0 d1).2) (fun d x d0 d1 x0 x1 => by
          rw [e75]
          exact hpl x d x0 x1 d0 d1)
      rw [e38, e73, e75] at this
      have ek : kr m D v f = fun d x => if vdg (xR m 538) D v d < xR m 538 d then xR m 573 (4000 * d + 4 * xR m 575 (8 * (f + x) + d) + vdg (xR m 538) D v d) else 0 := by
        funext d x
        unfold kr vhas
        by_cases h : vdg (xR m 538) D v d < xR m 538 d
        · rw [if_pos (decide_eq_true h), if_pos h]
        · rw [if_neg (by rw [decide_eq_false h]; decide), if_neg h]
      have eh : vhas (xR m 538) D v = fun d => decide (vdg (xR m 538) D v d < xR m 538 d) := rfl
      rw [ek, eh]
      exact this) rfl (fun c c0 c1 => by
      obtain ⟨a1, a2, a3⟩ := hdf_1 (vhas (xR m 538) D v) D.toNat c c0 c1
      rw [eD] at a1
      exact ⟨a1, a2, a3⟩) (fun d x => kr_w _ _ _ _ _ _)
  have R0 : SR 0 D (kr m D v f) o (fun j => max 0 (min n (xR m' 592 j))) n (xR m' 536 61) := by
    obtain ⟨z1, z2, z3, z4, z5⟩ := R
    have zi := SR_in (show SR v D (kr m D v f) o (xR m' 592) n (xR m' 536 61) from ⟨z1, z2, z3, z4, z5⟩)
    have cl : ∀ j, 0 ≤ j → j ≤ xR m' 536 61 → max 0 (min n (xR m' 592 j)) = xR m' 592 j := fun j j0 j1 => by have := zi j j0 j1; omega
    refine ⟨z1, z2, fun hn => ⟨(z3 hn).1, by show max 0 (min n (xR m' 592 0)) = 0; rw [cl 0 (Int.le_refl _) z1]; exact (z3 hn).2⟩, by show max 0 (min n (xR m' 592 (xR m' 536 61))) = n; rw [cl _ z1 (Int.le_refl _)]; exact z4, fun j j0 j1 => ?_⟩
    obtain ⟨y1, y2, y3⟩ := z5 j j0 j1
    show max 0 (min n (xR m' 592 j)) < max 0 (min n (xR m' 592 (j + 1))) ∧ (∀ q, max 0 (min n (xR m' 592 j)) < q → q < max 0 (min n (xR m' 592 (j + 1))) → _) ∧ (0 < j → ¬ eqv 0 D (kr m D v f) o (max 0 (min n (xR m' 592 j)) - 1) (max 0 (min n (xR m' 592 j))))
    rw [cl j j0 (by omega), cl (j + 1) (by omega) (by omega)]
    exact ⟨y1, fun q q0 q1 => ⟨by decide, (y2 q q0 q1).2⟩, fun hj h => y3 hj ⟨by omega, h.2⟩⟩
  have zi := SR_in R
  refine ⟨m', _, e, p, O, o, fun j => max 0 (min n (xR m' 592 j)), ⟨S, R0, fun j => by show xw_rg (max 0 (min n (xR m' 592 j))); unfold xw_rg; omega⟩, ?_⟩
  rw [if_neg (by omega), show rP m D v + (1 + 3 * M) = rP m D v + 1 + 3 * M by omega]
  refine partB_cg R.1 (fun c j c0 c1 j0 j1 => ?_)
  unfold Tref rV Tvw
  rw [if_neg (by omega)]
  show _ = Tvp _ _ _ _ o (max 0 (min n (xR m' 592 j))) (max 0 (min n (xR m' 592 (j + 1))) - 1) c
  have a1 := zi j j0 (by omega)
  have a2 := zi (j + 1) (by omega) (by omega)
  rw [show max 0 (min n (xR m' 592 j)) = xR m' 592 j by omega, show max 0 (min n (xR m' 592 (j + 1))) = xR m' 592 (j + 1) by omega]
end RWT
