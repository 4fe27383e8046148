/-! THE SAME TABLES BY THE REFERENCE'S FACTS: places, ranks, rows, whatever the class's order -/
theorem kl_tot {κ : Int → Int → Int} {j : Nat} {d a b : Int} (h : a ≠ b) : kl κ j d a b ∨ kl κ j d b a := by
  induction j generalizing d with
  | zero => show a < b ∨ b < a; omega
  | succ j ih =>
    show (κ d a < κ d b ∨ (κ d a = κ d b ∧ kl κ j (d + 1) a b)) ∨ (κ d b < κ d a ∨ (κ d b = κ d a ∧ kl κ j (d + 1) b a))
    rcases Int.lt_trichotomy (κ d a) (κ d b) with h1 | h1 | h1
    · exact Or.inl (Or.inl h1)
    · rcases ih (d := d + 1) with h2 | h2
      · exact Or.inl (Or.inr ⟨h1, h2⟩)
      · exact Or.inr (Or.inr ⟨h1.symm, h2⟩)
    · exact Or.inr (Or.inl h1)
theorem ins_prm {o : Int → Int} {i t : Int} (h : prm o i) (hi : 0 ≤ i) (h0 : 0 ≤ t) (h1 : t ≤ i) : prm (insf o t i) (i + 1) := by
  obtain ⟨p1, p2⟩ := h
  refine ⟨fun k k0 k1 => ?_, fun a b a0 a1 b0 b1 e => ?_⟩
  · unfold insf
    split
    · have := p1 k k0 (by omega); omega
    · split
      · omega
      · have := p1 (k - 1) (by omega) (by omega); omega
  · unfold insf at e
    by_cases x1 : a < t
    · rw [if_pos x1] at e
      have q := p1 a a0 (by omega)
      by_cases y1 : b < t
      · rw [if_pos y1] at e
        exact p2 a b a0 (by omega) b0 (by omega) e
      · rw [if_neg y1] at e
        by_cases y2 : b = t
        · rw [if_pos y2] at e; omega
        · rw [if_neg y2] at e
          have := p2 a (b - 1) a0 (by omega) (by omega) (by omega) e
          omega
    · rw [if_neg x1] at e
      by_cases x2 : a = t
      · rw [if_pos x2] at e
        by_cases y1 : b < t
        · rw [if_pos y1] at e
          have q := p1 b b0 (by omega); omega
        · rw [if_neg y1] at e
          by_cases y2 : b = t
          · omega
          · rw [if_neg y2] at e
            have q := p1 (b - 1) (by omega) (by omega); omega
      · rw [if_neg x2] at e
        by_cases y1 : b < t
        · rw [if_pos y1] at e
          have := p2 (a - 1) b (by omega) (by omega) b0 (by omega) e
          omega
        · rw [if_neg y1] at e
          by_cases y2 : b = t
          · rw [if_pos y2] at e
            have q := p1 (a - 1) (by omega) (by omega); omega
          · rw [if_neg y2] at e
            have := p2 (a - 1) (b - 1) (by omega) (by omega) (by omega) (by omega) e
            omega
/-- every row of facts can be sorted -/
theorem srt_ex (κ : Int → Int → Int) (D n : Nat) : ∃ o, srt κ D o n := by
  induction n with
  | zero => exact ⟨fun i => i, ⟨fun i h0 h1 => by omega, fun i j h0 h1 => by omega⟩, fun q q' h0 h1 h2 => by omega⟩
  | succ n ih =>
    obtain ⟨o, P, S⟩ := ih
    have T : ∀ j : Nat, j ≤ n → ∃ t : Int, (0 ≤ t ∧ t ≤ j) ∧ (∀ k, 0 ≤ k → k < t → kl κ D 0 (o k) n) ∧ ∀ k, t ≤ k → k < (j : Int) → kl κ D 0 n (o k) := by
      intro j
      induction j with
      | zero => intro _; exact ⟨0, ⟨by omega, by omega⟩, fun k k0 k1 => by omega, fun k k0 k1 => by omega⟩
      | succ j ih =>
        intro hj
        obtain ⟨t, ⟨t0, t1⟩, A, C⟩ := ih (by omega)
        by_cases e : t = j
        · have oj := P.1 j (by omega) (by omega)
          rcases kl_tot (κ := κ) (j := D) (d := 0) (show o j ≠ (n : Int) by omega) with h | h
          · refine ⟨j + 1, ⟨by omega, by omega⟩, fun k k0 k1 => ?_, fun k k0 k1 => by omega⟩
            by_cases ek : k = j
            · rw [ek]; exact h
            · exact A k k0 (by omega)
          · refine ⟨t, ⟨t0, by omega⟩, A, fun k k0 k1 => ?_⟩
            have : k = j := by omega
            rw [this]; exact h
        · refine ⟨t, ⟨t0, by omega⟩, A, fun k k0 k1 => ?_⟩
          by_cases ek : k = j
          · rw [ek]; exact kl_trans (C t (Int.le_refl _) (by omega)) (S t j t0 (by omega) (by omega))
          · exact C k k0 (by omega)
    obtain ⟨t, ⟨t0, t1⟩, A, C⟩ := T n (Nat.le_refl _)
    refine ⟨insf o t n, by rw [Int.natCast_add]; exact ins_prm P (by omega) t0 t1, fun q q' h0 h1 h2 => ?_⟩
    unfold insf
    by_cases x1 : q < t
    · rw [if_pos x1]
      by_cases y1 : q' < t
      · rw [if_pos y1]; exact S q q' h0 h1 (by omega)
      · rw [if_neg y1]
        by_cases y2 : q' = t
        · rw [if_pos y2]; exact A q h0 x1
        · rw [if_neg y2]; exact S q (q' - 1) h0 (by omega) (by omega)
    · rw [if_neg x1, if_neg (show ¬ q' < t by omega), if_neg (show ¬ q' = t by omega)]
      by_cases x2 : q = t
      · rw [if_pos x2]; exact C (q' - 1) (by omega) (by omega)
      · rw [if_neg x2]; exact S (q - 1) (q' - 1) (by omega) (by omega) (by omega)
/-- the facts' keys by the reference: places; the facts f, f + 1 and on -/
def pk (m : xw_M) (f d x : Int) : Int := xR m 575 (8 * (f + x) + d)
/-- the facts' table by the reference -/
def rT (m : xw_M) (D f : Int) (o : Int → Int) (c j : Int) : Int := if c < D then xR m 575 (8 * (f + o j) + c) else xJ m 576 (8 * (f + o j) + (c - D))
/-- a view's keys by the reference: ranks at its levels -/
def kr (m : xw_M) (D v f d x : Int) : Int := if vhas (xR m 538) D v d = true then xR m 573 (4000 * d + 4 * xR m 575 (8 * (f + x) + d) + vdg (xR m 538) D v d) else 0
/-- how many places -/
def rP (m : xw_M) (D v : Int) : Int := cnt (vhas (xR m 538) D v) D.toNat
noncomputable def rV (m : xw_M) (D v f : Int) (o st : Int → Int) : Int → Int → Int := Tvw (kr m D v f) (fun k x => xJ m 576 (8 * (f + x) + k)) (rP m D v) (hdf (vhas (xR m 538) D v) D.toNat) o st
/-- a view's rows out of the facts f .. f + n - 1 -/
def vrr (m : xw_M) (D v f n : Int) (o st : Int → Int) (R : Int) : Prop := srt (kr m D v f) D.toNat o n ∧ SR 0 D (kr m D v f) o st n R ∧ ∀ j, xw_rg (st j)
theorem rT_w (m : xw_M) (D f : Int) (o : Int → Int) : cwd (rT m D f o) := fun c i => by
  unfold rT
  split
  · exact w64_xR _ _ _
  · exact w64_xJ _ _ _
theorem kr_w (m : xw_M) (D v f d x : Int) : w64 (kr m D v f d x) = kr m D v f d x := by
  unfold kr
  split
  · exact w64_xR _ _ _
  · decide
theorem rV_w (m : xw_M) (D v f : Int) {o st : Int → Int} (hst : ∀ j, xw_rg (st j)) : cwd (rV m D v f o st) := Tvw_w (fun d x => kr_w _ _ _ _ _ _) (fun k x => w64_xJ _ _ _) hst
theorem rP_b (m : xw_M) {D : Int} (hD : 0 ≤ D) (v : Int) : 0 ≤ rP m D v ∧ rP m D v ≤ D := by
  have := cnt_b (vhas (xR m 538) D v) D.toNat
  unfold rP
  omega
section REFT
variable {m : xw_M} {r D M n f : Int} {π : Int → Int}
/-- the class's sorted facts are the reference's, by their places, ties as they came -/
theorem facts_ref (hc : cat2 m D M) (hk : rok m r D n) (hF : fct m r D M n f π) (ht : ∀ x y, 0 ≤ x → x < y → y < n → (∀ d, 0 ≤ d → d < D → xR m (r + 3 + d) x = xR m (r + 3 + d) y) → π x < π y) {o : Int → Int} (hs : srt (k0 m r) D.toNat o n) : srt (pk m f) D.toNat (fun i => π (o i)) n ∧ ∀ c j, 0 ≤ c → c < D + M → 0 ≤ j → j < n → Tfac m r D o c j = rT m D f (fun i => π (o i)) c j := by
  have hD := hc.1.1
  refine ⟨⟨prm_comp hF.1 hs.1, fun q q' h0 h1 h2 => ?_⟩, fun c j c0 c1 j0 j1 => ?_⟩
  · have oq := hs.1.1 q h0 (by omega)
    have oq' := hs.1.1 q' (by omega) h2
    have k1 : kl (fun d x => xR m (r + 3 + d) x) D.toNat 0 (o q) (o q') := kl_mono (κ := k0 m r) (fun e e0 e1 => by
      have ra := hk e (o q) e0 (by omega) oq.1 oq.2
      have rb := hk e (o q') e0 (by omega) oq'.1 oq'.2
      have inc := (hc.2.2.2 e e0 (by omega)).2.2.2
      constructor
      · intro h
        show xR m (r + 3 + e) (o q) < xR m (r + 3 + e) (o q')
        rcases Int.lt_trichotomy (xR m (r + 3 + e) (o q)) (xR m (r + 3 + e) (o q')) with h3 | h3 | h3
        · exact h3
        · unfold k0 at h; rw [h3] at h; omega
        · have := inc _ _ rb.1 h3 ra.2
          unfold k0 at h; omega
      · intro h
        show xR m (r + 3 + e) (o q) = xR m (r + 3 + e) (o q')
        rcases Int.lt_trichotomy (xR m (r + 3 + e) (o q)) (xR m (r + 3 + e) (o q')) with h3 | h3 | h3
        · have := inc _ _ ra.1 h3 rb.2
          unfold k0 at h; omega
        · exact h3
        · have := inc _ _ rb.1 h3 ra.2
          unfold k0 at h; omega) (hs.2 q q' h0 h1 h2)
    refine kl_tie (κ := fun d x => xR m (r + 3 + d) x) (fun e e0 e1 => ⟨(hF.2 _ oq.1 oq.2).1 e e0 (by omega), (hF.2 _ oq'.1 oq'.2).1 e e0 (by omega)⟩) (fun h hl => ht _ _ oq.1 hl oq'.2 (fun d d0 d1 => h d d0 (by omega))) k1
  · have oj := hs.1.1 j j0 j1
    unfold Tfac rT
    by_cases e : c < D
    · rw [if_pos e, if_pos e]; exact (hF.2 _ oj.1 oj.2).1 c c0 e
    · rw [if_neg e, if_neg e]; exact (hF.2 _ oj.1 oj.2).2 (c - D) (by omega) (by omega)
theorem Tvw_hd {κ A : Int → Int → Int} {P : Int} {hd hd' o st : Int → Int} (h : ∀ c, 0 ≤ c → c < P → hd c = hd' c) {c : Int} (c0 : 0 ≤ c) (j : Int) : Tvw κ A P hd o st c j = Tvw κ A P hd' o st c j := by
  unfold Tvw Tvp
  by_cases e : c < P
  · rw [if_pos e, if_pos e, h c c0 e]
  · rw [if_neg e, if_neg e]
theorem lev_ref (hc : cat2 m D M) {d : Int} (d0 : 0 ≤ d) (d1 : d < D) : lvl m d = xR m 538 d := (hc.2.2.2 d d0 d1).1.symm
theorem vdg_ref (hc : cat2 m D M) {v d : Int} (d0 : 0 ≤ d) (d1 : d < D) : vdg (lvl m) D v d = vdg (xR m 538) D v d := vdg_cg d0 d1 (fun d d0 d1 => lev_ref hc d0 d1)
theorem vhas_ref (hc : cat2 m D M) {v d : Int} (d0 : 0 ≤ d) (d1 : d < D) : vhas (lvl m) D v d = vhas (xR m 538) D v d := by
  unfold vhas
  rw [vdg_ref hc d0 d1, lev_ref hc d0 d1]
theorem vP_ref (hc : cat2 m D M) (v : Int) : vP m D v = rP m D v := cnt_cg _ (fun i hi => vhas_ref hc (by omega) (by omega))
theorem kv_ref (hc : cat2 m D M) (hk : rok m r D n) (hF : fct m r D M n f π) {v e x : Int} (e0 : 0 ≤ e) (e1 : e < D) (x0 : 0 ≤ x) (x1 : x < n) : kv m r D v e x = kr m D v f e (π x) := by
  unfold kv kr
  rw [vhas_ref hc e0 e1]
  by_cases h : vhas (xR m 538) D v e = true
  · rw [if_pos h, if_pos h, vdg_ref hc e0 e1, ← (hF.2 x x0 x1).1 e e0 e1]
    have hb := hk e x e0 e1 x0 x1
    have q := hc.2.2.2 e e0 e1
    have lv : ∀ d, 0 ≤ d → d < D → 0 ≤ xR m 538 d ∧ xR m 538 d ≤ 4 := fun d d0 d1 => by
      rw [(hc.2.2.2 d d0 d1).1]; have := (hc.1.2.2.2.2 d d0 d1).1; omega
    have g0 := vdg_b (v := v) lv e0 e1
    have g1 : vdg (xR m 538) D v e < xR m 538 e := of_decide_eq_true h
    exact (q.2.2.1 _ _ g0.1 (by rw [← q.1]; exact g1) hb.1 hb.2).symm
  · rw [if_neg h, if_neg h]
/-- a table that looks at M measures only -/
theorem Tvw_A {κ A A' : Int → Int → Int} {P M : Int} {hd o st : Int → Int} (h : ∀ k, 0 ≤ k → k < M → A k = A' k) {c : Int} (c1 : c < P + 1 + 3 * M) (j : Int) : Tvw κ A P hd o st c j = Tvw κ A' P hd o st c j := by
  unfold Tvw Tvp
  by_cases e : c < P
  · rw [if_pos e, if_pos e]
  · rw [if_neg e, if_neg e]
    by_cases e2 : c = P
    · rw [if_pos e2, if_pos e2]
    · rw [if_neg e2, if_neg e2, h ((c - P - 1) / 3) (by omega) (by omega)]
/-- a view's table of the class's rows is that of the reference's facts -/
theorem view_ref (hc : cat2 m D M) (hk : rok m r D n) (hn : 0 ≤ n) (hn2 : n ≤ 20000) (hF : fct m r D M n f π) {v : Int} {o st : Int → Int} {R : Int} (hs : vrep m r D v n o st R) : ∃ o' st', vrr m D v f n o' st' R ∧ ∀ c j, 0 ≤ c → c < vP m D v + 1 + 3 * M → 0 ≤ j → j < R → vT m r D v o st c j = rV m D v f o' st' c j := by
  have hD := hc.1.1
  have hM := hc.1.2.1
  obtain ⟨o', so⟩ := srt_ex (kr m D v f) D.toNat n.toNat
  obtain ⟨R', st', S', b'⟩ := SR_ex 0 D (kr m D v f) o' n.toNat
  rw [Int.toNat_of_nonneg hn] at so S' b'
  have DN : ((D.toNat : Nat) : Int) = D := Int.toNat_of_nonneg hD.1
  have S1 : SR 0 ((D.toNat : Nat) : Int) (kv m r D v) o st n R := by rw [DN]; exact hs.2.1
  have S2 : SR 0 ((D.toNat : Nat) : Int) (kr m D v f) o' st' n R' := by rw [DN]; exact S'
  have hh2 : ∀ c, 0 ≤ c → c < vP m D v → 0 ≤ vH m D v c ∧ vH m D v c < ((D.toNat : Nat) : Int) := fun c c0 c1 => (hdf_1 (vhas (lvl m) D v) D.toNat c c0 c1).1
  obtain ⟨eR, es, ec⟩ := view_same (D := D.toNat) (κ := kv m r D v) (κ' := kr m D v f) (A := fun k x => if k < M then xJ m (r + 12 + k) x else 0) (A' := fun k x => if k < M then xJ m 576 (8 * (f + x) + k) else 0) (hd := vH m D v) (P := vP m D v) (tb := 0) (tb' := 0) (by decide) (by decide) hs.1 so hF.1 (fun e x e0 e1 x0 x1 => kv_ref hc hk hF e0 (by omega) x0 x1) (fun k x k0 _ x0 x1 => by
      show (if k < M then _ else _) = if k < M then _ else _
      by_cases h : k < M
      · rw [if_pos h, if_pos h]
        exact (hF.2 x x0 x1).2 k k0 h
      · rw [if_neg h, if_neg h]) (fun k x => by
      show w64 (if _ then _ else _) = if _ then _ else _
      split
      · exact w64_w _
      · rfl) (fun k x => by
      show w64 (if _ then _ else _) = if _ then _ else _
      split
      · exact w64_w _
      · rfl) S1 S2 hh2
  subst eR
  refine ⟨o', st', ⟨so, S', fun j => ?_⟩, fun c j c0 c1 j0 j1 => ?_⟩
  · have := b' j
    unfold xw_rg
    omega
  · have q := ec c j c0 (by omega) j0 j1
    have e1 : ∀ k, 0 ≤ k → k < M → (fun k x => if k < M then xJ m (r + 12 + k) x else 0) k = (fun k => xJ m (r + 12 + k)) k := fun k _ k1 => by
      show (fun x => if k < M then xJ m (r + 12 + k) x else 0) = xJ m (r + 12 + k)
      funext x
      exact if_pos k1
    have e2 : ∀ k, 0 ≤ k → k < M → (fun k x => if k < M then xJ m 576 (8 * (f + x) + k) else 0) k = (fun k x => xJ m 576 (8 * (f + x) + k)) k := fun k _ k1 => by
      show (fun x => if k < M then xJ m 576 (8 * (f + x) + k) else 0) = fun x => xJ m 576 (8 * (f + x) + k)
      funext x
      exact if_pos k1
    rw [Tvw_A e1 c1, Tvw_A e2 c1] at q
    unfold vT rV
    rw [q, Tvw_hd (hd := vH m D v) (P := vP m D v) (hd' := hdf (vhas (xR m 538) D v) D.toNat) (fun c c0 c1 => hdf_uniq (fun i i0 i1 => vhas_ref hc i0 (by omega)) c0 c1) c0, vP_ref hc]
/-- a view's rows are settled by the facts -/
theorem vrr_uniq {v R R' : Int} {o o' st st' : Int → Int} (hD : 0 ≤ D) (h : vrr m D v f n o st R) (h' : vrr m D v f n o' st' R') : R = R' ∧ ∀ c j, 0 ≤ c → c < rP m D v + 25 → 0 ≤ j → j < R → rV m D v f o st c j = rV m D v f o' st' c j := by
  have DN : ((D.toNat : Nat) : Int) = D := Int.toNat_of_nonneg hD
  have S1 : SR 0 ((D.toNat : Nat) : Int) (kr m D v f) o st n R := by rw [DN]; exact h.2.1
  have S2 : SR 0 ((D.toNat : Nat) : Int) (kr m D v f) o' st' n R' := by rw [DN]; exact h'.2.1
  obtain ⟨eR, es, ec⟩ := view_same (D := D.toNat) (κ := kr m D v f) (κ' := kr m D v f) (A := fun k x => xJ m 576 (8 * (f + x) + k)) (A' := fun k x => xJ m 576 (8 * (f + x) + k)) (π := fun i => i) (hd := hdf (vhas (xR m 538) D v) D.toNat) (P := rP m D v) (tb := 0) (tb' := 0) (by decide) (by decide) h.1 h'.1 ⟨fun i i0 i1 => ⟨i0, i1⟩, fun i j _ _ _ _ e => e⟩ (fun e x e0 e1 x0 x1 => rfl) (fun k x k0 _ x0 x1 => rfl) (fun k x => w64_w _) (fun k x => w64_w _) S1 S2 (fun c c0 c1 => (hdf_1 (vhas (xR m 538) D v) D.toNat c c0 c1).1)
  exact ⟨eR, ec⟩
end REFT
