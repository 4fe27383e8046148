/-! THE REFERENCE'S WEIGHTS ARE THE CLASS'S BYTES -/
theorem cnt_true (n : Nat) : cnt (fun _ => true) n = n := by
  induction n with
  | zero => rfl
  | succ n ih =>
    show cnt (fun _ => true) n + 1 = _
    omega
theorem SR_m1 {N : Int} {κ : Int → Int → Int} {o st : Int → Int} {n R : Int} (hn : 0 ≤ n) (h : SR (-1) N κ o st n R) : R = n ∧ ∀ j, 0 ≤ j → j ≤ R → st j = j := by
  have ne : ∀ a b, ¬ eqv (-1) N κ o a b := fun a b h => h.1 rfl
  have z : st 0 = 0 := by
    by_cases h0 : 0 < n
    · exact (h.2.2.1 h0).2
    · have e : R = 0 := by have := h.1; have := h.2.1; omega
      have := h.2.2.2.1
      rw [e] at this
      omega
  have a : ∀ j : Nat, (j : Int) ≤ R → st j = j := by
    intro j
    induction j with
    | zero => intro _; exact z
    | succ j ih =>
      intro hj
      have e := ih (by omega)
      obtain ⟨s1, s2, _⟩ := h.2.2.2.2 j (by omega) (by omega)
      show st ((j : Int) + 1) = (j : Int) + 1
      rcases Int.lt_or_le (st j + 1) (st ((j : Int) + 1)) with hl | hl
      · exact absurd (s2 (st j + 1) (by omega) hl) (ne _ _)
      · omega
  have r := a R.toNat (by have := h.1; omega)
  rw [Int.toNat_of_nonneg h.1, h.2.2.2.1] at r
  refine ⟨r.symm, fun j j0 j1 => ?_⟩
  have := a j.toNat (by omega)
  rw [Int.toNat_of_nonneg j0] at this
  exact this
theorem kl_mono {κ κ' : Int → Int → Int} {j : Nat} {d a b : Int} (ha : ∀ e, d ≤ e → e < d + j → (κ e a < κ e b → κ' e a < κ' e b) ∧ (κ e a = κ e b → κ' e a = κ' e b)) (h : kl κ j d a b) : kl κ' j d a b := by
  induction j generalizing d with
  | zero => exact h
  | succ j ih =>
    obtain ⟨q1, q2⟩ := ha d (by omega) (by omega)
    rcases h with h | ⟨h, h3⟩
    · exact Or.inl (q1 h)
    · exact Or.inr ⟨q2 h, ih (fun e h1 h2 => ha e (by omega) (by omega)) h3⟩
/-- the reference's catalog is the class's -/
def cat2 (m : xw_M) (D M : Int) : Prop := ctk m D M ∧ xR m 536 14 = D ∧ xR m 536 19 = M ∧ ∀ d, 0 ≤ d → d < D → xR m 538 d = xR m (15 + 26 * d) 10 ∧ xR m 539 d = xR m (15 + 26 * d) 11 ∧ (∀ l p, 0 ≤ l → l < xR m (15 + 26 * d) 10 → 0 ≤ p → p < xR m (15 + 26 * d) 11 → xR m 573 (4000 * d + 4 * p + l) = xR m (15 + 26 * d + 14 + l) p) ∧ ∀ p p', 0 ≤ p → p < p' → p' < xR m (15 + 26 * d) 11 → xR m (15 + 26 * d + 14) p < xR m (15 + 26 * d + 14) p'
/-- the class's rows are the reference's facts from f on, in another order -/
def fct (m : xw_M) (r D M n f : Int) (π : Int → Int) : Prop := prm π n ∧ ∀ x, 0 ≤ x → x < n → (∀ d, 0 ≤ d → d < D → xR m (r + 3 + d) x = xR m 575 (8 * (f + π x) + d)) ∧ ∀ k, 0 ≤ k → k < M → xJ m (r + 12 + k) x = xJ m 576 (8 * (f + π x) + k)
section WEIGHT
variable {B : Nat} {m : xw_M} {r D M n f : Int} {π : Int → Int}
theorem fweight_same (hc : cat2 m D M) (hk : rok m r D n) (hf : 0 ≤ f) (hn : 0 ≤ n) (hfn : f + n ≤ 20000) (hF : fct m r D M n f π) (ht : ∀ x y, 0 ≤ x → x < y → y < n → (∀ d, 0 ≤ d → d < D → xR m (r + 3 + d) x = xR m (r + 3 + d) y) → π x < π y) {o : Int → Int} (hs : srt (k0 m r) D.toNat o n) (hO : ∃ s t, two s t ∧ m 536 59 = s ∧ m 536 60 = t) : ∃ m', yf324 B f (f + n) (-1) m = some (.inl (partB (Tfac m r D o) n (D + M).toNat), m') ∧ pf m m' ∧ (∃ s t, two s t ∧ m' 536 59 = s ∧ m' 536 60 = t) := by
  obtain ⟨ck, h14, h19, h4⟩ := hc
  have hD := ck.1
  have hM := ck.2.1
  have eD : ((D.toNat : Nat) : Int) = D := Int.toNat_of_nonneg hD.1
  obtain ⟨m', o', e, P', O', S', SR'⟩ := pweight_ok (B := B) (m := m) (tb := -1) (N := D) (M := M) (f := f) (n := n) (hv := fun _ => true) (κ := fun d x => xR m 575 (8 * (f + x) + d)) (dg := fun _ => 0) (P := D) (hd := fun c => c) hD hM (by decide) h14 h19 hf hn hfn hO (fun h => absurd h (by decide)) (fun m1 p1 _ => by
      have := kin_facts (B := B) (m := m1) (D := D) (n := n) (g := fun x => f + x) (by
        unfold xR
        rw [p1.2 14 (by decide) (by decide) (by decide) (by decide)]
        exact h14) hD.2 (fun x x0 x1 => ⟨by omega, by omega⟩)
      rw [xR_cg (p1.1 575 (by decide) (by decide) (by decide))] at this
      exact this) (by rw [cnt_true, eD]) (fun c c0 c1 => ⟨⟨c0, c1⟩, rfl, by rw [cnt_true, Int.toNat_of_nonneg c0]⟩) (fun d x => w64_xR _ _ _)
  obtain ⟨eR, es⟩ := SR_m1 hn SR'
  have mono : ∀ d, 0 ≤ d → d < D → ∀ x y, 0 ≤ x → x < n → 0 ≤ y → y < n → (k0 m r d x < k0 m r d y → xR m (r + 3 + d) x < xR m (r + 3 + d) y) ∧ (k0 m r d x = k0 m r d y → xR m (r + 3 + d) x = xR m (r + 3 + d) y) := by
    intro d d0 d1 x y x0 x1 y0 y1
    obtain ⟨a1, a2⟩ := hk d x d0 d1 x0 x1
    obtain ⟨b1, b2⟩ := hk d y d0 d1 y0 y1
    have inc := (h4 d d0 d1).2.2.2
    unfold k0
    rcases Int.lt_trichotomy (xR m (r + 3 + d) x) (xR m (r + 3 + d) y) with hl | hl | hl
    · have := inc _ _ a1 hl b2
      exact ⟨fun _ => hl, fun h => by omega⟩
    · rw [hl]
      exact ⟨fun h => absurd h (Int.lt_irrefl _), fun _ => rfl⟩
    · have := inc _ _ b1 hl a2
      exact ⟨fun h => by omega, fun h => by omega⟩
  have hsp : srt (fun d x => xR m (r + 3 + d) x) D.toNat o n := ⟨hs.1, fun q q' q0 q1 q2 => kl_mono (fun e e0 e1 => mono e e0 (by omega) _ _ (hs.1.1 q q0 (by omega)).1 (hs.1.1 q q0 (by omega)).2 (hs.1.1 q' (by omega) q2).1 (hs.1.1 q' (by omega) q2).2) (hs.2 q q' q0 q1 q2)⟩
  have eo := facts_same hsp S' hF.1 (fun d x d0 d1 x0 x1 => (hF.2 x x0 x1).1 d d0 (by omega)) (fun x y x0 xy y1 he => ht x y x0 xy y1 (fun d d0 d1 => he d d0 (by omega)))
  refine ⟨m', ?_, P', O'⟩
  rw [e, eR]
  have cells : ∀ c j : Int, 0 ≤ c → c < ((D + (if (-1 : Int) < 0 then M else 1 + 3 * M)).toNat : Int) → 0 ≤ j → j < n → Tref (-1) (fun d x => xR m 575 (8 * (f + x) + d)) (fun k x => xJ m 576 (8 * (f + x) + k)) D (fun c => c) o' (xR m' 592) c j = Tfac m r D o c j := by
    intro c j c0 c1 j0 j1
    rw [if_pos (by decide)] at c1
    unfold Tref Tfac
    rw [if_pos (by decide), es j j0 (by omega), eo j j0 j1]
    have ho := hs.1.1 j j0 j1
    by_cases h : c < D
    · rw [if_pos h, if_pos h]
      exact ((hF.2 (o j) ho.1 ho.2).1 c c0 h).symm
    · rw [if_neg h, if_neg h]
      exact ((hF.2 (o j) ho.1 ho.2).2 (c - D) (by omega) (by omega)).symm
  rw [partB_cg hn cells, if_pos (by decide)]
theorem vweight_same (hc : cat2 m D M) (hk : rok m r D n) (hf : 0 ≤ f) (hn : 0 ≤ n) (hfn : f + n ≤ 20000) (hF : fct m r D M n f π) {v : Int} (hv : 0 ≤ v ∧ v < 2147483648) {o st : Int → Int} {R : Int} (hs : vrep m r D v n o st R) (hO : ∃ s t, two s t ∧ m 536 59 = s ∧ m 536 60 = t) : ∃ m', yf324 B f (f + n) v m = some (.inl (partB (vT m r D v o st) R (vP m D v + 1 + 3 * M).toNat), m') ∧ pf m m' ∧ (∃ s t, two s t ∧ m' 536 59 = s ∧ m' 536 60 = t) ∧ xR m' 536 61 = R := by
  obtain ⟨ck, h14, h19, h4⟩ := hc
  have hD := ck.1
  have hM := ck.2.1
  have eD : ((D.toNat : Nat) : Int) = D := Int.toNat_of_nonneg hD.1
  have el : ∀ d, 0 ≤ d → d < D → xR m 538 d = lvl m d := fun d d0 d1 => (h4 d d0 d1).1
  have lb : ∀ d, 0 ≤ d → d < D → 0 ≤ xR m 538 d ∧ xR m 538 d ≤ 4 := fun d d0 d1 => by
    rw [(h4 d d0 d1).1]
    have := (ck.2.2.2.2 d d0 d1).1
    omega
  have ed : ∀ d, 0 ≤ d → d < D → vdg (xR m 538) D v d = vdg (lvl m) D v d := fun d d0 d1 => vdg_cg d0 d1 el
  have db : ∀ d, 0 ≤ d → d < D → 0 ≤ vdg (xR m 538) D v d ∧ vdg (xR m 538) D v d ≤ xR m 538 d := fun d d0 d1 => vdg_b lb d0 d1
  have pl : ∀ d x, 0 ≤ d → d < D → 0 ≤ x → x < n → 0 ≤ xR m 575 (8 * (f + x) + d) ∧ xR m 575 (8 * (f + x) + d) < xR m (15 + 26 * d) 11 := by
    intro d x d0 d1 x0 x1
    obtain ⟨y, hy, ey⟩ := prm_onto hF.1 x x0 x1
    have := (hF.2 y hy.1 hy.2).1 d d0 d1
    rw [ey] at this
    rw [← this]
    exact hk d y d0 d1 hy.1 hy.2
  generalize hhv : (fun d => decide (vdg (xR m 538) D v d < xR m 538 d)) = hv'
  generalize hκ : (fun d x => if vdg (xR m 538) D v d < xR m 538 d then xR m 573 (4000 * d + 4 * xR m 575 (8 * (f + x) + d) + vdg (xR m 538) D v d) else 0) = κ'
  have ehv : ∀ d, 0 ≤ d → d < D → hv' d = vhas (lvl m) D v d := fun d d0 d1 => by
    rw [← hhv]
    unfold vhas
    show decide (vdg (xR m 538) D v d < xR m 538 d) = _
    rw [ed d d0 d1, el d d0 d1]
  have eP : cnt hv' D.toNat = vP m D v := cnt_cg _ (fun i hi => ehv i (by omega) (by omega))
  obtain ⟨m', o', e, P', O', S', SR'⟩ := pweight_ok (B := B) (m := m) (tb := v) (N := D) (M := M) (f := f) (n := n) (hv := hv') (κ := κ') (dg := vdg (xR m 538) D v) (P := vP m D v) (hd := vH m D v) hD hM (by omega) h14 h19 hf hn hfn hO (fun _ m1 p1 d d0 d1 => by
      have e38 : xR m1 538 = xR m 538 := xR_cg (p1.1 538 (by decide) (by decide) (by decide))
      have := digit_ok (B := B) (m := m1) (D := D) (v := v) (d := d) hD.2 (by
        unfold xR
        rw [p1.2 14 (by decide) (by decide) (by decide) (by decide)]
        exact h14) hv (by rw [e38]; exact lb) d0 d1
      rw [e38] at this
      refine ⟨this, ?_⟩
      have q1 := db d d0 d1
      have q2 := lb d d0 d1
      unfold xw_rg
      omega) (fun m1 p1 hdg => by
      have e38 : xR m1 538 = xR m 538 := xR_cg (p1.1 538 (by decide) (by decide) (by decide))
      have e73 : xR m1 573 = xR m 573 := xR_cg (p1.1 573 (by decide) (by decide) (by decide))
      have e75 : xR m1 575 = xR m 575 := xR_cg (p1.1 575 (by decide) (by decide) (by decide))
      have := kin_view (B := B) (m := m1) (D := D) (tb := v) (n := n) (g := fun x => f + x) (dg := vdg (xR m 538) D v) (by
        unfold xR
        rw [p1.2 14 (by decide) (by decide) (by decide) (by decide)]
        exact h14) hD.2 hv.1 (fun x x0 x1 => ⟨by omega, by omega⟩) (fun d d0 d1 => ⟨hdg hv.1 d d0 d1, (db d d0 d1).1, by have := db d d0 d1; have := lb d d0 d1; omega⟩) (fun d d0 d1 => by rw [e38]; exact (lb d d0 d1).2) (fun d x d0 d1 x0 x1 => by
          rw [e75]
          have q1 := pl d x d0 d1 x0 x1
          have q2 := (ck.2.2.2.2 d d0 d1).2.1.2
          exact ⟨q1.1, by omega⟩)
      rw [e38, e73, e75, hhv, hκ] at this
      exact this) eP.symm (fun c c0 c1 => by
      have c1' : c < cnt (vhas (lvl m) D v) D.toNat := c1
      obtain ⟨a1, a2, a3⟩ := hdf_1 (vhas (lvl m) D v) D.toNat c c0 c1'
      rw [eD] at a1
      refine ⟨a1, ?_, ?_⟩
      · show hv' (hdf (vhas (lvl m) D v) D.toNat c) = true
        rw [ehv _ a1.1 a1.2]
        exact a2
      · show cnt hv' (hdf (vhas (lvl m) D v) D.toNat c).toNat = c
        rw [cnt_cg (P := hv') (Q := vhas (lvl m) D v) (hdf (vhas (lvl m) D v) D.toNat c).toNat (fun i hi => ehv i (by omega) (by omega))]
        exact a3) (fun d x => by
      rw [← hκ]
      show w64 (if _ then _ else _) = if _ then _ else _
      split
      · exact w64_xR _ _ _
      · rfl)
  have kk : ∀ d x, 0 ≤ d → d < ((D.toNat : Nat) : Int) → 0 ≤ x → x < n → kv m r D v d x = κ' d (π x) := by
    intro d x d0 d1 x0 x1
    rw [eD] at d1
    rw [← hκ]
    show kv m r D v d x = if _ then _ else _
    unfold kv vhas
    rw [ed d d0 d1, el d d0 d1]
    by_cases h : vdg (lvl m) D v d < lvl m d
    · rw [if_pos (decide_eq_true h), if_pos h]
      obtain ⟨z1, z2⟩ := hk d x d0 d1 x0 x1
      rw [← (hF.2 x x0 x1).1 d d0 d1]
      have g0 := (db d d0 d1).1
      rw [ed d d0 d1] at g0
      exact ((h4 d d0 d1).2.2.1 _ _ g0 h z1 z2).symm
    · rw [if_neg (by rw [decide_eq_false h]; decide), if_neg h]
  have S1 : SR 0 ((D.toNat : Nat) : Int) (kv m r D v) o st n R := by rw [eD]; exact hs.2.1
  have S2 : SR v ((D.toNat : Nat) : Int) κ' o' (xR m' 592) n (xR m' 536 61) := by rw [eD]; exact SR'
  have hh2 : ∀ c, 0 ≤ c → c < vP m D v → 0 ≤ vH m D v c ∧ vH m D v c < ((D.toNat : Nat) : Int) := fun c c0 c1 => (hdf_1 (vhas (lvl m) D v) D.toNat c c0 c1).1
  -- amounts beyond the measures are not looked at: both are cut off there
  obtain ⟨eR, es, ec⟩ := view_same (κ := kv m r D v) (κ' := κ') (A := fun k x => if k < M then xJ m (r + 12 + k) x else 0) (A' := fun k x => if k < M then xJ m 576 (8 * (f + x) + k) else 0) (π := π) (hd := vH m D v) (P := vP m D v) (tb := 0) (tb' := v) (by decide) (by omega) hs.1 S' hF.1 kk (fun k x k0 _ x0 x1 => by
      show (if k < M then _ else _) = if k < M then _ else _
      by_cases h : k < M
      · rw [if_pos h, if_pos h]
        exact (hF.2 x x0 x1).2 k k0 h
      · rw [if_neg h, if_neg h]) (fun k x => by
      show w64 (if _ then _ else _) = if _ then _ else _
      split
      · exact w64_w _
      · rfl) (fun k x => by
      show w64 (if _ then _ else _) = if _ then _ else _
      split
      · exact w64_w _
      · rfl) S1 S2 hh2
  refine ⟨m', ?_, P', O', eR.symm⟩
  have cells : ∀ c j : Int, 0 ≤ c → c < ((vP m D v + (if v < 0 then M else 1 + 3 * M)).toNat : Int) → 0 ≤ j → j < R → Tref v κ' (fun k x => xJ m 576 (8 * (f + x) + k)) (vP m D v) (vH m D v) o' (xR m' 592) c j = vT m r D v o st c j := by
    intro c j c0 c1 j0 j1
    rw [if_neg (by omega)] at c1
    have q := ec c j c0 (by omega) j0 j1
    unfold Tref vT
    rw [if_neg (by omega)]
    unfold Tvw Tvp at q ⊢
    by_cases h : c < vP m D v
    · rw [if_pos h, if_pos h] at q ⊢
      exact q.symm
    · rw [if_neg h, if_neg h] at q ⊢
      by_cases h' : c = vP m D v
      · rw [if_pos h', if_pos h'] at q ⊢
        exact q.symm
      · rw [if_neg h', if_neg h'] at q ⊢
        have hkM : (c - vP m D v - 1) / 3 < M := by
          have := vP_b m hD.1 v
          omega
        simp only [if_pos hkM] at q
        exact q.symm
  rw [e, ← eR, partB_cg (hs.2.1).1 cells, if_neg (by omega), ← Int.add_assoc]
end WEIGHT
