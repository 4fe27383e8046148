/-! THE ANSWER: a source's rows are groups of the reference's facts -/
theorem RK_eq {V : Int → Int} {n K : Int} {u rk : Int → Int} (R : RK V n K u rk) {i j : Int} (i0 : 0 ≤ i) (i1 : i < n) (j0 : 0 ≤ j) (j1 : j < n) : rk i = rk j ↔ V i = V j := by
  obtain ⟨a1, a2⟩ := R.2.2.1 i i0 i1
  obtain ⟨b1, b2⟩ := R.2.2.1 j j0 j1
  constructor
  · intro e; rw [← a2, ← b2, e]
  · intro e
    rw [← a2, ← b2] at e
    by_cases q : rk i < rk j
    · have := R.2.1 _ _ a1.1 q b1.2; omega
    · by_cases q' : rk j < rk i
      · have := R.2.1 _ _ b1.1 q' a1.2; omega
      · omega
theorem hie_le {c : xw_M} {d L n : Int} (h : hie c d L n) {x y l : Int} (x0 : 0 ≤ x) (x1 : x < n) (y0 : 0 ≤ y) (y1 : y < n) (l0 : 0 ≤ l) (e : xR c 540 (4000 * d + 4 * x + l) = xR c 540 (4000 * d + 4 * y + l)) : ∀ j : Nat, l + j < L → xR c 540 (4000 * d + 4 * x + (l + j)) = xR c 540 (4000 * d + 4 * y + (l + j))
  | 0, _ => by rw [show l + ((0 : Nat) : Int) = l by omega]; exact e
  | j + 1, hl => by
    have := hie_le h x0 x1 y0 y1 l0 e j (by omega)
    rw [show l + ((j + 1 : Nat) : Int) = l + j + 1 by omega]
    exact h x y (l + j) x0 x1 y0 y1 (by omega) (by omega) this
/-- whether a fact holds, its groups' ranks, its amounts -/
def fH (c : xw_M) (x : Int) : Bool := top (SC c (vmb c (fun d => xR c 575 (8 * x + d))))
def fRF (c : xw_M) (x : Int) : Int → Int := rmb c (fun d => xR c 575 (8 * x + d))
def fA (c : xw_M) (i x : Int) : Int := xJ c 576 (8 * x + xR c 225 i)
def GRw (c : xw_M) (k it : Int) (w : Srow) : Prop := w.1 ≠ [] ∧ (∀ x, x ∈ w.1 → fH c x = top (SC c (vmb c w.2.1)) ∧ ∀ g, 0 ≤ g → g < k → fRF c x g = rmb c w.2.1 g) ∧ w.2.2.1 = (w.1.length : Int) ∧ ∀ i, 0 ≤ i → i < it → (210 ≤ xR c 224 i ∧ xR c 224 i ≤ 213) → Agg (xR c 224 i) (fA c i) w.1 (w.2.2.2 i)
theorem grp_of {c : xw_M} {k it : Int} {W : List Srow} (h : ∀ w, w ∈ W → GRw c k it w) : GRP (W.map Prod.fst) (fH c) (fRF c) k it (xR c 224) (fA c) (hlR c W) (rkR c W) (cfR W) (moR W) := by
  intro j hj
  rw [List.length_map] at hj
  have e : (W.map Prod.fst).getD j [] = (W.getD j sr0).1 := by
    rw [List.getD_eq_getElem?_getD, List.getD_eq_getElem?_getD, List.getElem?_map, List.getElem?_eq_getElem hj]; rfl
  have m : W.getD j sr0 ∈ W := by
    rw [List.getD_eq_getElem?_getD, List.getElem?_eq_getElem hj]; exact List.getElem_mem hj
  rw [e]
  exact h _ m
section GRF
variable {B : Nat} {k it S : Int} {c : xw_M} {D M tu nc p : Int} {Kx Rf : Int → Int} {Rv : Int → Int → Int}
theorem Agg_one {K : Int} {A : Int → Int} {x : Int} (w : w64 (A x) = A x) : (K ≠ 211) → Agg K A [x] (A x) := fun h => by
  refine ⟨fun _ => ?_, fun e => absurd e h, fun _ _ => ⟨⟨x, List.mem_singleton.mpr rfl, rfl⟩, fun y hy => ?_⟩, fun _ _ => ⟨⟨x, List.mem_singleton.mpr rfl, rfl⟩, fun y hy => ?_⟩⟩
  · show A x = w64 (A x + 0)
    rw [Int.add_zero, w]
  · rw [List.mem_singleton.mp hy]; exact Int.le_refl _
  · rw [List.mem_singleton.mp hy]; exact Int.le_refl _
theorem grw_F {os : Int → Int → Int} {e : Int} (A : ASK c D M k it nc p) (w : Srow) (hw : w ∈ sgF c D Kx Rf os e) : GRw c k it w := by
  unfold sgF at hw
  by_cases hf : hfx Kx e = true
  · rw [if_pos hf, List.mem_map] at hw
    obtain ⟨j, _, rfl⟩ := hw
    refine ⟨by simp, fun x hx => ?_, rfl, fun i i0 i1 hK => ?_⟩
    · have ex : x = cfx Kx Rf e.toNat + os e j := List.mem_singleton.mp hx
      have eq : ∀ d, 0 ≤ d → d < D → xR c 292 d < 4 → xR c 575 (8 * x + d) = rT c D (cfx Kx Rf e.toNat) (os e) d j := fun d _ d1 _ => by
        unfold rT; rw [if_pos d1, ex]
      exact ⟨hl_fr A (fun _ _ => rfl) eq, rk_fr A (fun _ _ => rfl) eq⟩
    · show Agg _ _ [cfx Kx Rf e.toNat + os e j] (if xR c 224 i = 211 then 1 else rT c D (cfx Kx Rf e.toNat) (os e) (D + xR c 225 i) j)
      by_cases h1 : xR c 224 i = 211
      · rw [if_pos h1, h1]
        exact ⟨fun z => absurd z (by decide), fun _ => rfl, fun z => absurd z (by decide), fun z => absurd z (by decide)⟩
      · obtain ⟨b0, b1⟩ := A.2.2.2.2.2.2.2.2 i i0 i1 (by omega)
        have er : rT c D (cfx Kx Rf e.toNat) (os e) (D + xR c 225 i) j = fA c i (cfx Kx Rf e.toNat + os e j) := by
          unfold rT fA
          rw [if_neg (by omega), show D + xR c 225 i - D = xR c 225 i by omega]
        rw [if_neg h1, er]
        exact Agg_one (w64_xJ _ _ _) h1
  · rw [if_neg hf] at hw
    exact absurd hw List.not_mem_nil
/-- a view's sum is the sum of its facts' -/
theorem Agg_ga {K w f a : Int} {A A' o : Int → Int} (hw : (K = 210 ∧ w = 0) ∨ (K = 212 ∧ w = 1) ∨ (K = 213 ∧ w = 2)) (hA : ∀ x, A' (f + x) = A x) (w6 : ∀ x, w64 (A x) = A x) : ∀ n : Nat, (n : Int) < 20000 → Agg K A' (lst (fun q => f + o (a + q)) (n + 1)) (ga w A o a n) := by
  intro n
  induction n with
  | zero =>
    intro _
    have e : lst (fun q => f + o (a + q)) (0 + 1) = [f + o a] := by
      rw [lst_s]
      show [] ++ [f + o (a + ((0 : Nat) : Int))] = _
      rw [show a + ((0 : Nat) : Int) = a by omega]; rfl
    rw [e]
    show Agg K A' [f + o a] (A (o a))
    rw [← hA]
    exact Agg_one (by rw [hA]; exact w6 _) (by omega)
  | succ n ih' =>
    intro hn
    have ih := ih' (by omega)
    clear ih'
    rw [lst_s]
    have one : Agg K A' [f + o (a + ((n + 1 : Nat) : Int))] (A (o (a + ((n + 1 : Nat) : Int)))) := by
      rw [← hA]; exact Agg_one (by rw [hA]; exact w6 _) (by omega)
    have ap := Agg_app (K := K) (A := A') (by omega) (by simp) (by rw [List.length_append, lst_len]; simp only [List.length_cons, List.length_nil]; omega) ih one
    rw [lst_len] at ap
    have eq : ga w A o a (n + 1) = aup K ((n + 1 : Nat) : Int) (ga w A o a n) (A (o (a + ((n + 1 : Nat) : Int)))) := by
      show gop w (ga w A o a n) (A (o (a + ((n : Int) + 1)))) = _
      rw [show a + ((n : Int) + 1) = a + ((n + 1 : Nat) : Int) by omega]
      unfold gop aup
      rcases hw with ⟨k1, k2⟩ | ⟨k1, k2⟩ | ⟨k1, k2⟩
      · rw [k1, k2]; rfl
      · rw [k1, k2, if_neg (by decide), if_pos rfl, if_neg (by decide), if_neg (by decide), if_neg (by decide), if_neg (by omega), if_pos rfl]
      · rw [k1, k2, if_neg (by decide), if_neg (by decide), if_neg (by decide), if_neg (by decide), if_neg (by decide), if_neg (by omega), if_neg (by decide)]
    rw [eq]
    exact ap
/-- what a comparison says of members goes by their values at its level -/
def HVl (c : xw_M) (nc : Int) : Prop := ∀ i d l, 0 ≤ i → i < nc → xR c 229 i = 4 * d + l → 0 ≤ l → l < 4 → l < xR c (15 + 26 * d) 10 ∧ ∀ x y, 0 ≤ x → x < xR c (15 + 26 * d) 11 → 0 ≤ y → y < xR c (15 + 26 * d) 11 → xR c (15 + 26 * d + 9 + l) x = xR c (15 + 26 * d + 9 + l) y → (xR c (231 + i) x = 1 ↔ xR c (231 + i) y = 1)
/-- members alike at the lowest level asked for are alike for the question -/
theorem like {mb mb' : Int → Int} (dk : dsk B c D M tu Kx Rf Rv) (rm : ram c D M tu Kx) (A : ASK c D M k it nc p) (hv : HVl c nc) (lw : LW c nc k) (gl : ∀ g, 0 ≤ g → g < k → xR c 227 g % 4 < xR c (15 + 26 * (xR c 227 g / 4)) 10) (ll : Int → Int) (h : ∀ d, 0 ≤ d → d < D → xR c 292 d < 4 → (0 ≤ ll d ∧ ll d ≤ xR c 292 d) ∧ (0 ≤ mb d ∧ mb d < xR c (15 + 26 * d) 11) ∧ (0 ≤ mb' d ∧ mb' d < xR c (15 + 26 * d) 11) ∧ xR c (15 + 26 * d + 9 + ll d) (mb d) = xR c (15 + 26 * d + 9 + ll d) (mb' d)) : top (SC c (vmb c mb)) = top (SC c (vmb c mb')) ∧ ∀ g, 0 ≤ g → g < k → rmb c mb g = rmb c mb' g := by
  have D8 := A.1
  have up : ∀ d l, 0 ≤ d → d < D → xR c 292 d < 4 → xR c 292 d ≤ l → l < xR c (15 + 26 * d) 10 → xR c (15 + 26 * d + 9 + l) (mb d) = xR c (15 + 26 * d + 9 + l) (mb' d) := fun d l d0 d1 h4 l0 l1 => by
    obtain ⟨b1, b2, b3, b4⟩ := h d d0 d1 h4
    obtain ⟨s1, s2, s3, _⟩ := rm.cg.sz d d0 d1
    have v := (rm.vl d d0 d1).1
    have L4 := (rm.cg.cn.2.2.2.2.1 d d0 d1).2.1.2
    rw [v _ _ b1.1 (by omega) b2.1 b2.2, v _ _ b1.1 (by omega) b3.1 b3.2] at b4
    have := hie_le (dk.rk d d0 d1).2 b2.1 (by omega) b3.1 (by omega) b1.1 b4 (l - ll d).toNat (by omega)
    rw [show ll d + ((l - ll d).toNat : Int) = l by omega] at this
    rw [v _ _ (by omega) l1 b2.1 b2.2, v _ _ (by omega) l1 b3.1 b3.2]
    exact this
  constructor
  · rw [SC_v (v' := vmb c mb') A.2.2.1 (fun i i0 i1 => ?_)]
    obtain ⟨d, l, a1, a2, a3, a4, _⟩ := A.2.2.2.2.2.2.1 i i0 i1
    obtain ⟨b1, b2, b3, b4⟩ := h d a2.1 a2.2 a4
    obtain ⟨g1, g2⟩ := hv i d l i0 i1 a1 a3.1 a3.2
    have lq := ((lw d (by omega) (by omega) (xR c 292 d)).mp (Int.le_refl _)).2.1 i i0 i1 (by rw [a1]; omega)
    rw [a1] at lq
    unfold vmb
    rw [a1, show (4 * d + l) / 4 = d by omega]
    exact decide_eq_decide.mpr (g2 _ _ b2.1 b2.2 b3.1 b3.2 (up d l a2.1 a2.2 a4 (by omega) g1))
  · intro g g0 g1
    obtain ⟨d, l, a1, a2, a3, a4⟩ := A.2.2.2.2.2.2.2.1 g g0 g1
    obtain ⟨b1, b2, b3, b4⟩ := h d a2.1 a2.2 a4
    have lq := ((lw d (by omega) (by omega) (xR c 292 d)).mp (Int.le_refl _)).2.2 g g0 g1 (by rw [a1]; omega)
    have gg := gl g g0 g1
    rw [a1] at lq gg
    unfold rmb
    rw [show (4 * d + l) / 4 = d by omega, show (4 * d + l) % 4 = l by omega] at gg
    rw [a1, show (4 * d + l) / 4 = d by omega, show (4 * d + l) % 4 = l by omega]
    obtain ⟨K, e, b, R⟩ := rm.ar d a2.1 a2.2 l a3.1 gg
    exact (RK_eq R b2.1 b2.2 b3.1 b3.2).mpr (up d l a2.1 a2.2 a4 (by omega) gg)
/-- all facts of a row have its keys -/
theorem SR_row {tb N : Int} {κ : Int → Int → Int} {o st : Int → Int} {n R : Int} (h : SR tb N κ o st n R) {j : Int} (j0 : 0 ≤ j) (j1 : j < R) : ∀ q : Nat, st j + q < st (j + 1) → ∀ i, 0 ≤ i → i < N → κ i (o (st j + q)) = κ i (o (st j))
  | 0, _ => fun i _ _ => by rw [show st j + ((0 : Nat) : Int) = st j by omega]
  | q + 1, hq => fun i i0 i1 => by
    have a := ((h.2.2.2.2 j j0 j1).2.1 (st j + ((q + 1 : Nat) : Int)) (by omega) hq).2 i i0 i1
    rw [show st j + ((q + 1 : Nat) : Int) - 1 = st j + q by omega] at a
    rw [← a]
    exact SR_row h j0 j1 q (by omega) i i0 i1
theorem grw_V {v : Int} {f0 n0 : Int → Int} {Os Ss : Int → Int → Int} {Rs : Int → Int} {e : Int} (dk : dsk B c D M tu Kx Rf Rv) (rm : ram c D M tu Kx) (A : ASK c D M k it nc p) (hv : HVl c nc) (lw : LW c nc k) (gl : ∀ g, 0 ≤ g → g < k → xR c 227 g % 4 < xR c (15 + 26 * (xR c 227 g / 4)) 10) (N2 : xR c 536 31 ≤ 20000) (hvd : ∀ d, 0 ≤ d → d < D → xR c 292 d < 4 → vhas (xR c 538) D v d = true ∧ vdg (xR c 538) D v d ≤ xR c 292 d) (V : vrr c D v (f0 e) (n0 e) (Os e) (Ss e) (Rs e)) (fn : 0 ≤ f0 e ∧ f0 e + n0 e ≤ xR c 536 31) (w : Srow) (hw : w ∈ sgV c D v f0 Os Ss Rs e) : GRw c k it w := by
  unfold sgV at hw
  rw [List.mem_map] at hw
  obtain ⟨j, hj, rfl⟩ := hw
  rw [List.mem_range] at hj
  have j1 : (j : Int) < Rs e := by omega
  have b1 := SR_in V.2.1 j (by omega) (by omega)
  have b2 := SR_in V.2.1 (j + 1) (by omega) (by omega)
  have b3 := (V.2.1.2.2.2.2 j (by omega) j1).1
  have ob : ∀ q, 0 ≤ q → q < n0 e → 0 ≤ Os e q ∧ Os e q < n0 e := V.1.1.1
  have cP : rV c D v (f0 e) (Os e) (Ss e) (rP c D v) j = Ss e (j + 1) - Ss e j := by
    unfold rV Tvw Tvp
    rw [if_neg (by omega), if_pos rfl]
    omega
  have ln : (lst (fun q => f0 e + Os e (Ss e j + q)) (Ss e (j + 1) - Ss e j).toNat).length = (Ss e (j + 1) - Ss e j).toNat := lst_len _ _
  refine ⟨fun z => ?_, fun x hx => ?_, ?_, fun i i0 i1 hK => ?_⟩
  · have z : lst (fun q => f0 e + Os e (Ss e j + q)) (Ss e (j + 1) - Ss e j).toNat = [] := z
    rw [z] at ln
    simp only [List.length_nil] at ln
    omega
  · have hx : x ∈ lst (fun q => f0 e + Os e (Ss e j + q)) (Ss e (j + 1) - Ss e j).toNat := hx
    obtain ⟨q, q1, rfl⟩ := lst_mem.mp hx
    have o1 := ob (Ss e j) (by omega) (by omega)
    have o2 := ob (Ss e j + q) (by omega) (by omega)
    refine like dk rm A hv lw gl (fun d => vdg (xR c 538) D v d) (fun d d0 d1 h4 => ?_)
    obtain ⟨h1, h2⟩ := hvd d d0 d1 h4
    have k1 := kr_b (f0 := f0 e) (x := Os e (Ss e j)) dk rm d0 d1 h1 (by omega) (by omega)
    have k2 := kr_b (f0 := f0 e) (x := Os e (Ss e j + q)) dk rm d0 d1 h1 (by omega) (by omega)
    have es := SR_row V.2.1 (j := j) (by omega) j1 q (by omega) d d0 d1
    have pb := dk.pl (f0 e + Os e (Ss e j + q)) d (by omega) (by omega) d0 d1
    have s3 := (rm.cg.sz d d0 d1).2.2.1
    have e2 := k2.2.2.2.1
    rw [es] at e2
    exact ⟨⟨k1.1.1, h2⟩, ⟨pb.1, by omega⟩, k1.2.2.1, e2.symm⟩
  · show rV c D v (f0 e) (Os e) (Ss e) (rP c D v) j = ((lst (fun q => f0 e + Os e (Ss e j + q)) (Ss e (j + 1) - Ss e j).toNat).length : Int)
    rw [cP, ln]
    omega
  · show Agg _ _ (lst (fun q => f0 e + Os e (Ss e j + q)) (Ss e (j + 1) - Ss e j).toNat) (if xR c 224 i = 211 then rV c D v (f0 e) (Os e) (Ss e) (rP c D v) j else rV c D v (f0 e) (Os e) (Ss e) (vco (rP c D v) (xR c 224 i) (xR c 225 i)) j)
    by_cases h1 : xR c 224 i = 211
    · rw [if_pos h1, h1, cP]
      exact ⟨fun z => absurd z (by decide), fun _ => by rw [ln]; omega, fun z => absurd z (by decide), fun z => absurd z (by decide)⟩
    · obtain ⟨c0, c1⟩ := A.2.2.2.2.2.2.2.2 i i0 i1 (by omega)
      rw [if_neg h1]
      have w3 : ∃ w, ((xR c 224 i = 210 ∧ w = 0) ∨ (xR c 224 i = 212 ∧ w = 1) ∨ (xR c 224 i = 213 ∧ w = 2)) ∧ vco (rP c D v) (xR c 224 i) (xR c 225 i) = rP c D v + 1 + 3 * xR c 225 i + w := by
        unfold vco
        by_cases k0 : xR c 224 i = 210
        · exact ⟨0, Or.inl ⟨k0, rfl⟩, by rw [if_pos k0]⟩
        · by_cases k2 : xR c 224 i = 212
          · exact ⟨1, Or.inr (Or.inl ⟨k2, rfl⟩), by rw [if_neg k0, if_pos k2]⟩
          · exact ⟨2, Or.inr (Or.inr ⟨by omega, rfl⟩), by rw [if_neg k0, if_neg k2]⟩
      obtain ⟨w, w1, w2⟩ := w3
      have er : rV c D v (f0 e) (Os e) (Ss e) (vco (rP c D v) (xR c 224 i) (xR c 225 i)) j = ga w (fun x => xJ c 576 (8 * (f0 e + x) + xR c 225 i)) (Os e) (Ss e j) (Ss e (j + 1) - Ss e j - 1).toNat := by
        have wb : 0 ≤ w ∧ w < 3 := by omega
        rw [w2]
        unfold rV Tvw Tvp
        rw [if_neg (by omega), if_neg (by omega), show (rP c D v + 1 + 3 * xR c 225 i + w - rP c D v - 1) % 3 = w by omega, show (rP c D v + 1 + 3 * xR c 225 i + w - rP c D v - 1) / 3 = xR c 225 i by omega, show Ss e (j + 1) - 1 - Ss e j = Ss e (j + 1) - Ss e j - 1 by omega]
      rw [er]
      have ag := Agg_ga (K := xR c 224 i) (w := w) (f := f0 e) (a := Ss e j) (A := fun x => xJ c 576 (8 * (f0 e + x) + xR c 225 i)) (A' := fA c i) (o := Os e) w1 (fun x => rfl) (fun x => w64_xJ _ _ _) (Ss e (j + 1) - Ss e j - 1).toNat (by omega)
      rw [show (Ss e (j + 1) - Ss e j - 1).toNat + 1 = (Ss e (j + 1) - Ss e j).toNat by omega] at ag
      exact ag
end GRF
