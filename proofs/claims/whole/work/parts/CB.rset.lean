/-! THE ANSWER, by the reference: the facts that hold, sorted by the columns of a grouping set -/
/-- the value of a group's column of a fact -/
def fV (c : xw_M) (x i : Int) : Int := xR c 540 (4000 * (xR c 227 i / 4) + 4 * xR c 575 (8 * x + xR c 227 i / 4) + xR c 227 i % 4)
/-- a column is in a set -/
def bin (μ i : Int) : Bool := decide (xw_iandf (xw_ishrf μ i) 1 = 1)
theorem kl_bt {κ : Int → Int → Int} : ∀ {j : Nat} {d a b c : Int}, kl κ j d a b → kl κ j d b c → (∀ e, d ≤ e → e < d + j → κ e a = κ e c) → ∀ e, d ≤ e → e < d + j → κ e a = κ e b := by
  intro j
  induction j with
  | zero => intro d a b c _ _ _ e h0 h1; omega
  | succ j ih =>
    intro d a b c h1 h2 h3 e e0 e1
    have hd := h3 d (Int.le_refl _) (by omega)
    rcases h1 with h1 | ⟨h1, h1'⟩
    · rcases h2 with h2 | ⟨h2, _⟩ <;> omega
    · rcases h2 with h2 | ⟨h2, h2'⟩
      · omega
      · by_cases q : e = d
        · rw [q]; exact h1
        · exact ih h1' h2' (fun e' a0 a1 => h3 e' (by omega) (by omega)) e (by omega) (by omega)
theorem SR_find {tb N : Int} {κ : Int → Int → Int} {o st : Int → Int} {n R : Int} (h : SR tb N κ o st n R) {x : Int} (x0 : 0 ≤ x) (x1 : x < n) : ∃ j, (0 ≤ j ∧ j < R) ∧ st j ≤ x ∧ x < st (j + 1) := by
  have key : ∀ j : Nat, (j : Int) ≤ R → x < st j → ∃ i, (0 ≤ i ∧ i < R) ∧ st i ≤ x ∧ x < st (i + 1) := by
    intro j
    induction j with
    | zero =>
      intro _ hx
      rw [show ((0 : Nat) : Int) = 0 from rfl, (h.2.2.1 (by omega)).2] at hx
      omega
    | succ j ih =>
      intro hj hx
      by_cases c : x < st j
      · exact ih (by omega) c
      · exact ⟨j, ⟨by omega, by omega⟩, by omega, by rw [show (j : Int) + 1 = ((j + 1 : Nat) : Int) by omega]; exact hx⟩
  exact key R.toNat (by have := h.1; omega) (by rw [Int.toNat_of_nonneg h.1, h.2.2.2.1]; exact x1)
/-- rows of a set: R of them, row j holds the facts st j .. st (j + 1) - 1 of g -/
def RWj (c : xw_M) (k μ : Int) (g st : Int → Int) (n R : Int) : Prop := (0 ≤ R ∧ R ≤ n) ∧ (∀ j, 0 ≤ j → j ≤ R → 0 ≤ st j ∧ st j ≤ n) ∧ (∀ j, 0 ≤ j → j < R → st j < st (j + 1)) ∧ (∀ x, 0 ≤ x → x < n → ∃ j, (0 ≤ j ∧ j < R) ∧ st j ≤ x ∧ x < st (j + 1)) ∧ (∀ j x, 0 ≤ j → j < R → st j ≤ x → x < st (j + 1) → ∀ i, 0 ≤ i → i < k → bin μ i = true → fV c (g x) i = fV c (g (st j)) i) ∧ ∀ j j', 0 ≤ j → j < R → 0 ≤ j' → j' < R → (∀ i, 0 ≤ i → i < k → bin μ i = true → fV c (g (st j)) i = fV c (g (st j')) i) → j = j'
section RST
variable {B : Nat} {k S : Int} {c r m : xw_M} {q D M tu nc p tq : Int} {Kx Rf : Int → Int} {Rv : Int → Int → Int}
/-- values and ranks go together -/
theorem val_rk (dk : dsk B c D M tu Kx Rf Rv) (rm : ram c D M tu Kx) (G : GC c r q D k) {x y : Int} (x0 : 0 ≤ x) (x1 : x < xR c 536 31) (y0 : 0 ≤ y) (y1 : y < xR c 536 31) : ∀ g, 0 ≤ g → g < k → (fV c x g = fV c y g ↔ fRF c x g = fRF c y g) ∧ (fV c x g < fV c y g ↔ fRF c x g < fRF c y g) := fun g g0 g1 => by
  obtain ⟨_, d, l, a1, a2, a3, a4, a5⟩ := G.2.2.2.1 g g0 g1
  have L4 := (rm.cg.cn.2.2.2.2.1 d a2 a3).2.1.2
  have px := dk.pl x d x0 x1 a2 a3
  have py := dk.pl y d y0 y1 a2 a3
  have s3 := (rm.cg.sz d a2 a3).2.2.1
  obtain ⟨K, e, b, R⟩ := rm.ar d a2 a3 l a4 a5
  have vl := (rm.vl d a2 a3).1
  unfold fV fRF rmb
  dsimp only
  rw [a1, show (4 * d + l) / 4 = d by omega, show (4 * d + l) % 4 = l by omega, ← vl l _ a4 a5 px.1 (by omega), ← vl l _ a4 a5 py.1 (by omega)]
  refine ⟨(RK_eq R px.1 (by omega) py.1 (by omega)).symm, ?_⟩
  obtain ⟨u1, u2⟩ := R.2.2.1 _ px.1 (show _ < xR c (15 + 26 * d) 11 by omega)
  obtain ⟨w1, w2⟩ := R.2.2.1 _ py.1 (show _ < xR c (15 + 26 * d) 11 by omega)
  constructor
  · intro h
    refine Classical.byContradiction fun ne => ?_
    by_cases z : xR c (15 + 26 * d + 14 + l) (xR c 575 (8 * y + d)) < xR c (15 + 26 * d + 14 + l) (xR c 575 (8 * x + d))
    · have := R.2.1 _ _ w1.1 z u1.2
      dsimp only at this u2 w2
      omega
    · have ee : xR c (15 + 26 * d + 14 + l) (xR c 575 (8 * y + d)) = xR c (15 + 26 * d + 14 + l) (xR c 575 (8 * x + d)) := by omega
      have := (RK_eq R py.1 (by omega) px.1 (by omega)).mp ee
      omega
  · intro h
    have := R.2.1 _ _ u1.1 h w1.2
    dsimp only at this u2 w2
    omega
theorem EN_prm {g o : Int → Int} {n : Int} (E : EN c g n) (h : prm o n) : EN c (fun x => g (o x)) n := by
  obtain ⟨e1, e2, e3, e4⟩ := E
  refine ⟨e1, fun x x0 x1 => ?_, fun x y x0 x1 y0 y1 e => ?_, fun f f0 f1 hf => ?_⟩
  · have b := h.1 x x0 x1; exact e2 _ b.1 b.2
  · have a := h.1 x x0 x1
    have b := h.1 y y0 y1
    exact h.2 x y x0 x1 y0 y1 (e3 _ _ a.1 a.2 b.1 b.2 e)
  · obtain ⟨x, x1, x2⟩ := e4 f f0 f1 hf
    obtain ⟨i, i1, i2⟩ := prm_onto h x x1.1 x1.2
    exact ⟨i, i1, by show g (o i) = f; rw [i2]; exact x2⟩
/-- sort by a set -/
theorem sort_r {μ n s t : Int} {g : Int → Int} (dk : dsk B c D M tu Kx Rf Rv) (rm : ram c D M tu Kx) (G : GC c r q D k) (rc : RC c r) (q0 : q = 544 ∨ q = 558) (hq : r 536 23 = q) (N2 : xR c 536 31 ≤ 20000) (f : fRa r m) (tw : two s t) (e59 : m 536 59 = s) (e60 : m 536 60 = t) (h58 : xR m 536 58 = n) (E : EN c g n) (hg : ∀ x, 0 ≤ x → x < n → xR m s x = g x) (μ0 : 0 ≤ μ) (μ1 : μ < 256) : ∃ m' g' s' t', yf290 B (w32 (-2 - μ)) m = some (.inl 0, m') ∧ sfr m m' ∧ (two s' t' ∧ m' 536 59 = s' ∧ m' 536 60 = t') ∧ EN c g' n ∧ (∀ x, 0 ≤ x → x < n → xR m' s' x = g' x) ∧ RWj c k μ g' (xR m' 592) n (xR m' 536 61) := by
  have k8 := G.2.2.1
  have D8 := rm.cg.cn.1
  have wt : w32 (-2 - μ) = -2 - μ := w32_id (by omega) (by omega)
  rw [wt]
  have e0 : yf290 B (-2 - μ) m = xl2 (yl290_34 B) 1000000 (-2 - μ) 1 m := by
    unfold yf290
    rw [show (1000000 : Nat) = 999999 + 1 from rfl]
    generalize hz : (999999 : Nat) = z
    show yl290_2 B _ (-2 - μ) 0 m = _
    unfold yl290_2
    rw [show (1000000 : Nat) = z + 1 from by omega]
    by_cases c0 : 0 < xR m 536 14
    · rw [if_pos c0, if_pos (by omega)]
    · rw [if_neg c0]
  have ks : kspec B m (-2 - μ) k (fun i x => if bin μ i = true then fV c (g x) i else 0) g n := fun m' sf => by
    have fm := fRa_tr f (fRa_s sf)
    have hq' : m' 536 23 = q := by rw [fm.2 23 (by omega) (by omega) (by omega) (by omega) (by omega)]; exact hq
    have QL := fun _ : Unit => q_l B q0
    have xq : xR m' q = xR r q := xR_cg (fm.1 q (by omega) (by omega) (by omega) (by omega))
    have x4 : xR m' (q + 4) = xR r (q + 4) := xR_cg (fm.1 _ (by omega) (by omega) (by omega) (by omega))
    refine ⟨⟨fun _ => by rw [hq', xq]; exact ⟨(QL ()).1, G.2.1⟩, fun h => by omega⟩, fun i i0 i1 => ?_⟩
    unfold yf294
    rw [if_pos (show -2 - μ < -1 by omega), show -2 - (-2 - μ) = μ by omega]
    by_cases b : xw_iandf (xw_ishrf μ i) 1 = 1
    · have bb : bin μ i = true := decide_eq_true b
      refine Or.inr ⟨by rw [if_pos b], fun x x0 x1 => ?_⟩
      obtain ⟨ec, d, l, a1, a2, a3, a4, a5⟩ := G.2.2.2.1 i i0 i1
      have L4 := (rm.cg.cn.2.2.2.2.1 d a2 a3).2.1.2
      have nm := (rm.cg.cn.2.2.2.2.1 d a2 a3).2.2.1
      have s3 := (rm.cg.sz d a2 a3).2.2.1
      have gb := (E.2.1 x x0 x1).1
      have pb := dk.pl (g x) d gb.1 gb.2 a2 a3
      have g575 : xR m' 575 = xR c 575 := by rw [xR_cg (fm.1 575 (by decide) (by decide) (by decide) (by decide)), xR_cg (rc.1 575 (by omega))]
      have g540 : xR m' 540 = xR c 540 := by rw [xR_cg (fm.1 540 (by decide) (by decide) (by decide) (by decide)), xR_cg (rc.1 540 (by omega))]
      unfold yf295 yf289
      rw [if_pos (show -2 - μ < -1 by omega), hq', if_pos (QL ()).1, (QL ()).2.1.2.2.2.1, (QL ()).2.2.2.2.2.2.1, if_pos ⟨i0, by omega⟩, if_pos ((QL ()).2.2.1 4 (by decide) (by decide)), x4, ec, a1, if_pos (by omega), show (4 * d + l) / 4 = d by omega, show (4 * d + l) % 4 = l by omega, if_pos ⟨by omega, by omega⟩, g575, if_pos ⟨by omega, by omega⟩, xB_ret, g540]
      dsimp only
      rw [if_pos bb]
      unfold fV
      rw [a1, show (4 * d + l) / 4 = d by omega, show (4 * d + l) % 4 = l by omega]
    · refine Or.inl ⟨by rw [if_neg b], fun x => ?_⟩
      exact if_neg (fun z => b (of_decide_eq_true z))
  obtain ⟨m', o, e1, sf, O, so, sr⟩ := passes_ok (B := B) (m := m) (tb := -2 - μ) (N := k) (n := n) (g := g) k8 ks ⟨E.1.1, by have := E.1.2; omega⟩ h58 (fun x x0 x1 => by have := (E.2.1 x x0 x1).1; exact ⟨by omega, by omega⟩) ⟨s, t, tw, e59, e60, hg⟩
  obtain ⟨s', t', tw', e59', e60', hg'⟩ := O
  have key : ∀ i x y, 0 ≤ i → i < k → (bin μ i = true → fV c (g (o x)) i = fV c (g (o y)) i) → (if bin μ i = true then fV c (g (o x)) i else 0) = (if bin μ i = true then fV c (g (o y)) i else 0) := fun i x y _ _ h => by
    by_cases b : bin μ i = true
    · rw [if_pos b, if_pos b, h b]
    · rw [if_neg b, if_neg b]
  refine ⟨m', fun x => g (o x), s', t', by rw [e0]; exact e1, sf, ⟨tw', e59', e60'⟩, EN_prm E so.1, hg', ⟨sr.1, sr.2.1⟩, SR_in sr, fun j j0 j1 => (sr.2.2.2.2 j j0 j1).1, fun x x0 x1 => SR_find sr x0 x1, fun j x j0 j1 h0 h1 i i0 i1 b => ?_, fun j j' j0 j1 j0' j1' e => ?_⟩
  · have w := SR_row sr j0 j1 (x - xR m' 592 j).toNat (by omega) i i0 i1
    rw [show xR m' 592 j + ((x - xR m' 592 j).toNat : Int) = x by omega] at w
    rw [if_pos b, if_pos b] at w
    exact w
  · have no : ∀ j j', 0 ≤ j → j < j' → j' < xR m' 536 61 → (∀ i, 0 ≤ i → i < k → bin μ i = true → fV c (g (o (xR m' 592 j))) i = fV c (g (o (xR m' 592 j'))) i) → False := fun j j' j0 jj j1' e => by
      have mo := SR_mono sr (j' - j).toNat j j0 (by omega)
      rw [show j + ((j' - j).toNat : Int) = j' by omega] at mo
      have b1 := SR_in sr j j0 (by omega)
      have b2 := SR_in sr j' (by omega) (by omega)
      have b3 := (sr.2.2.2.2 j' (by omega) j1')
      have b4 := SR_in sr (j' + 1) (by omega) (by omega)
      refine b3.2.2 (by omega) ⟨by omega, fun i i0 i1 => ?_⟩
      by_cases z : xR m' 592 j = xR m' 592 j' - 1
      · rw [← z]; exact key i _ _ i0 i1 (e i i0 i1)
      · have k1 := so.2 (xR m' 592 j) (xR m' 592 j' - 1) b1.1 (by omega) (by omega)
        have k2 := so.2 (xR m' 592 j' - 1) (xR m' 592 j') (by omega) (by omega) (by omega)
        have h := kl_bt k1 k2 (fun e' h0 h1 => key e' _ _ h0 (by omega) (e e' h0 (by omega))) i i0 (by omega)
        exact h.symm.trans (key i _ _ i0 i1 (e i i0 i1))
    by_cases l1 : j < j'
    · exact absurd e (fun h => no j j' j0 l1 j1' h)
    · by_cases l2 : j' < j
      · exact absurd e (fun h => no j' j j0' l2 j1 (fun i i0 i1 b => (h i i0 i1 b).symm))
      · omega
end RST
