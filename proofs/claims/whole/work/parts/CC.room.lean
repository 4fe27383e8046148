/-! THE ANSWER, by the reference: which rows there are; hasRoom -/
theorem skey_b {rk ls : Int → Int} {μ g : Int} (m0 : 0 ≤ μ) (m1 : μ < 256) (g0 : 0 ≤ g) (g1 : g < 8) : skey rk ls μ g = if bin μ g = true then rk g else ls g := by
  have e := mbit_i m0 m1 g0 g1
  have b : xw_iandf (xw_ishrf μ g) 1 = 0 ∨ xw_iandf (xw_ishrf μ g) 1 = 1 := by
    rw [e]
    have := Nat.mod_lt (μ.toNat / 2 ^ g.toNat) (show 0 < 2 by decide)
    omega
  unfold skey bin
  rcases b with b | b
  · rw [b, if_pos rfl, if_neg (by decide)]
  · rw [b, if_neg (by decide), if_pos (by decide)]
theorem bin_ne {μ μ' k : Int} (k0 : 0 ≤ k) (k8 : k ≤ 8) (m0 : 0 ≤ μ) (m1 : μ < tw2 k) (n0 : 0 ≤ μ') (n1 : μ' < tw2 k) (ne : μ ≠ μ') : ∃ g, (0 ≤ g ∧ g < k) ∧ bin μ g ≠ bin μ' g := by
  refine Classical.byContradiction fun h => ne ?_
  have tb := tw2_b k0 k8
  have e := mask_n k.toNat μ.toNat μ'.toNat (by unfold tw2 at m1; omega) (by unfold tw2 at n1; omega) (fun g hg => ?_)
  · omega
  · have b : bin μ g = bin μ' g := Classical.byContradiction fun z => h ⟨g, ⟨by omega, by omega⟩, z⟩
    unfold bin at b
    rw [mbit_i m0 (by omega) (show (0 : Int) ≤ g by omega) (by omega), mbit_i n0 (by omega) (show (0 : Int) ≤ g by omega) (by omega), Int.toNat_natCast] at b
    have p := decide_eq_decide.mp b
    have a1 := Nat.mod_lt (μ.toNat / 2 ^ g) (show 0 < 2 by decide)
    have a2 := Nat.mod_lt (μ'.toNat / 2 ^ g) (show 0 < 2 by decide)
    omega
theorem bin_0 {g : Int} (g0 : 0 ≤ g) (g1 : g < 8) : bin 0 g = false := by
  unfold bin
  rw [k0m g0 g1]; rfl
/-- rows of the first kx sets: A of them, row a of the set ms a, of the fact xs a -/
def RWX (c : xw_M) (k : Int) (M : Int → Int) (kx A : Int) (xs ms : Int → Int) : Prop := 0 ≤ A ∧ (∀ a, 0 ≤ a → a < A → ∃ s, (0 ≤ s ∧ s < kx) ∧ ms a = M s ∧ (M s ≠ 0 → (0 ≤ xs a ∧ xs a < xR c 536 31) ∧ fH c (xs a) = true)) ∧ (∀ a b, 0 ≤ a → a < A → 0 ≤ b → b < A → (∀ g, 0 ≤ g → g < k → skey (fRF c (xs a)) (lsf c) (ms a) g = skey (fRF c (xs b)) (lsf c) (ms b) g) → a = b) ∧ ∀ s, 0 ≤ s → s < kx → (M s = 0 → ∃ a, (0 ≤ a ∧ a < A) ∧ ms a = 0) ∧ (M s ≠ 0 → ∀ x, 0 ≤ x → x < xR c 536 31 → fH c x = true → ∃ a, (0 ≤ a ∧ a < A) ∧ ms a = M s ∧ ∀ g, 0 ≤ g → g < k → bin (M s) g = true → fRF c (xs a) g = fRF c x g)
def HM (M : Int → Int) (Sr k : Int) : Prop := (∀ s, 0 ≤ s → s < Sr → 0 ≤ M s ∧ M s < tw2 k) ∧ ∀ s s', 0 ≤ s → s < Sr → 0 ≤ s' → s' < Sr → M s = M s' → s = s'
section ROM
variable {B : Nat} {k S Sr : Int} {c r m : xw_M} {q D M tu nc p tq : Int} {Kx Rf : Int → Int} {Rv : Int → Int → Int} {Mk : Int → Int}
/-- other sets, other keys -/
theorem key_ne {μ μ' x x' : Int} (dk : dsk B c D M tu Kx Rf Rv) (rm : ram c D M tu Kx) (G : GC c r q D k) (m0 : 0 ≤ μ) (m1 : μ < tw2 k) (n0 : 0 ≤ μ') (n1 : μ' < tw2 k) (ne : μ ≠ μ') (hx : μ ≠ 0 → 0 ≤ x ∧ x < xR c 536 31) (hx' : μ' ≠ 0 → 0 ≤ x' ∧ x' < xR c 536 31) : ¬ ∀ g, 0 ≤ g → g < k → skey (fRF c x) (lsf c) μ g = skey (fRF c x') (lsf c) μ' g := fun h => by
  have k8 := G.2.2.1
  have tb := tw2_b k8.1 k8.2
  obtain ⟨g, g1, gn⟩ := bin_ne k8.1 k8.2 m0 m1 n0 n1 ne
  have e := h g g1.1 g1.2
  rw [skey_b m0 (by omega) g1.1 (by omega), skey_b n0 (by omega) g1.1 (by omega)] at e
  by_cases b : bin μ g = true
  · have b' : ¬ bin μ' g = true := fun z => gn (b.trans z.symm)
    rw [if_pos b, if_neg b'] at e
    have nz : μ ≠ 0 := fun z => by rw [z, bin_0 g1.1 (by omega)] at b; exact absurd b (by decide)
    have := rf_b dk rm G (hx nz).1 (hx nz).2 g g1.1 g1.2
    omega
  · have b' : bin μ' g = true := by
      cases q : bin μ' g with
      | true => rfl
      | false => exact absurd ((Bool.eq_false_iff.mpr b).trans q.symm) gn
    rw [if_neg b, if_pos b'] at e
    have nz : μ' ≠ 0 := fun z => by rw [z, bin_0 g1.1 (by omega)] at b'; exact absurd b' (by decide)
    have := rf_b dk rm G (hx' nz).1 (hx' nz).2 g g1.1 g1.2
    omega
theorem RWX_add {kx A μ n R : Int} {xs ms g st : Int → Int} (dk : dsk B c D M tu Kx Rf Rv) (rm : ram c D M tu Kx) (G : GC c r q D k) (H : HM Mk Sr k) (k0 : 0 ≤ kx) (k1 : kx < Sr) (hμ : Mk kx = μ) (nz : μ ≠ 0) (E : EN c g n) (W : RWj c k μ g st n R) (X : RWX c k Mk kx A xs ms) : RWX c k Mk (kx + 1) (A + R) (fun a => if a < A then xs a else g (st (a - A))) (fun a => if a < A then ms a else μ) := by
  obtain ⟨x1, x2, x3, x4⟩ := X
  obtain ⟨w1, w2, w3, w4, w5, w6⟩ := W
  have k8 := G.2.2.1
  have tb := tw2_b k8.1 k8.2
  have mb := H.1 kx k0 k1
  rw [hμ] at mb
  have gs : ∀ j, 0 ≤ j → j < R → (0 ≤ g (st j) ∧ g (st j) < xR c 536 31) ∧ fH c (g (st j)) = true := fun j j0 j1 => by
    have a := w2 j j0 (by omega)
    have b := w2 (j + 1) (by omega) (by omega)
    have d := w3 j j0 j1
    exact E.2.1 (st j) a.1 (by omega)
  have old : ∀ a, 0 ≤ a → a < A → 0 ≤ ms a ∧ ms a < tw2 k ∧ ms a ≠ μ ∧ (ms a ≠ 0 → 0 ≤ xs a ∧ xs a < xR c 536 31) := fun a a0 a1 => by
    obtain ⟨s, s1, s2, s3⟩ := x2 a a0 a1
    have b := H.1 s s1.1 (by omega)
    rw [s2]
    exact ⟨b.1, b.2, fun e => by rw [← hμ] at e; have := H.2 s kx s1.1 (by omega) k0 k1 e; omega, fun z => (s3 z).1⟩
  refine ⟨by omega, fun a a0 a1 => ?_, fun a b a0 a1 b0 b1 e => ?_, fun s s0 s1 => ?_⟩
  · by_cases q : a < A
    · simp only [if_pos q]
      obtain ⟨s, s1, s2, s3⟩ := x2 a a0 q
      exact ⟨s, ⟨s1.1, by omega⟩, s2, s3⟩
    · simp only [if_neg q]
      exact ⟨kx, ⟨k0, by omega⟩, hμ.symm, fun _ => gs (a - A) (by omega) (by omega)⟩
  · by_cases qa : a < A
    · simp only [if_pos qa] at e
      by_cases qb : b < A
      · simp only [if_pos qb] at e
        exact x3 a b a0 qa b0 qb e
      · simp only [if_neg qb] at e
        obtain ⟨o1, o2, o3, o4⟩ := old a a0 qa
        exact absurd e (key_ne dk rm G o1 o2 mb.1 mb.2 o3 o4 (fun _ => (gs (b - A) (by omega) (by omega)).1))
    · simp only [if_neg qa] at e
      by_cases qb : b < A
      · simp only [if_pos qb] at e
        obtain ⟨o1, o2, o3, o4⟩ := old b b0 qb
        exact absurd e (key_ne dk rm G mb.1 mb.2 o1 o2 (fun z => o3 z.symm) (fun _ => (gs (a - A) (by omega) (by omega)).1) o4)
      · simp only [if_neg qb] at e
        have ga := gs (a - A) (by omega) (by omega)
        have gb := gs (b - A) (by omega) (by omega)
        have := w6 (a - A) (b - A) (by omega) (by omega) (by omega) (by omega) (fun i i0 i1 bi => by
          have ei := e i i0 i1
          rw [skey_b mb.1 (by omega) i0 (by omega), skey_b mb.1 (by omega) i0 (by omega), if_pos bi, if_pos bi] at ei
          exact ((val_rk dk rm G ga.1.1 ga.1.2 gb.1.1 gb.1.2 i i0 i1).1).mpr ei)
        omega
  · by_cases q : s = kx
    · refine ⟨fun z => absurd (hμ.symm.trans (by rw [← q]; exact z)) nz, fun _ x y0 y1 hx => ?_⟩
      obtain ⟨y, z1, z2⟩ := E.2.2.2 x y0 y1 hx
      obtain ⟨j, j1, j2, j3⟩ := w4 y z1.1 z1.2
      have gj := gs j j1.1 j1.2
      have nA : ¬ A + j < A := by omega
      refine ⟨A + j, ⟨by omega, by omega⟩, ?_, fun i i0 i1 bi => ?_⟩
      · simp only [if_neg nA]; rw [q]; exact hμ.symm
      · simp only [if_neg nA]
        rw [show A + j - A = j by omega]
        rw [q, hμ] at bi
        have v := w5 j y j1.1 j1.2 j2 j3 i i0 i1 bi
        rw [z2] at v
        exact ((val_rk dk rm G gj.1.1 gj.1.2 y0 y1 i i0 i1).1).mp v.symm
    · obtain ⟨h1, h2⟩ := x4 s s0 (by omega)
      refine ⟨fun z => ?_, fun z x y0 y1 hx => ?_⟩
      · obtain ⟨a, a1, a2⟩ := h1 z
        exact ⟨a, ⟨a1.1, by omega⟩, by simp only [if_pos a1.2]; exact a2⟩
      · obtain ⟨a, a1, a2, a3⟩ := h2 z x y0 y1 hx
        exact ⟨a, ⟨a1.1, by omega⟩, by simp only [if_pos a1.2]; exact a2, by simp only [if_pos a1.2]; exact a3⟩
theorem RWX_zero {kx A x : Int} {xs ms : Int → Int} (dk : dsk B c D M tu Kx Rf Rv) (rm : ram c D M tu Kx) (G : GC c r q D k) (H : HM Mk Sr k) (k0 : 0 ≤ kx) (k1 : kx < Sr) (hμ : Mk kx = 0) (X : RWX c k Mk kx A xs ms) : RWX c k Mk (kx + 1) (A + 1) (fun a => if a < A then xs a else x) (fun a => if a < A then ms a else 0) := by
  obtain ⟨x1, x2, x3, x4⟩ := X
  have k8 := G.2.2.1
  have mb := H.1 kx k0 k1
  rw [hμ] at mb
  have old : ∀ a, 0 ≤ a → a < A → 0 ≤ ms a ∧ ms a < tw2 k ∧ ms a ≠ 0 ∧ (ms a ≠ 0 → 0 ≤ xs a ∧ xs a < xR c 536 31) := fun a a0 a1 => by
    obtain ⟨s, s1, s2, s3⟩ := x2 a a0 a1
    have b := H.1 s s1.1 (by omega)
    rw [s2]
    exact ⟨b.1, b.2, fun e => by rw [← hμ] at e; have := H.2 s kx s1.1 (by omega) k0 k1 e; omega, fun z => (s3 z).1⟩
  refine ⟨by omega, fun a a0 a1 => ?_, fun a b a0 a1 b0 b1 e => ?_, fun s s0 s1 => ?_⟩
  · by_cases q : a < A
    · simp only [if_pos q]
      obtain ⟨s, s1, s2, s3⟩ := x2 a a0 q
      exact ⟨s, ⟨s1.1, by omega⟩, s2, s3⟩
    · simp only [if_neg q]
      exact ⟨kx, ⟨k0, by omega⟩, hμ.symm, fun z => absurd hμ z⟩
  · by_cases qa : a < A
    · simp only [if_pos qa] at e
      by_cases qb : b < A
      · simp only [if_pos qb] at e
        exact x3 a b a0 qa b0 qb e
      · simp only [if_neg qb] at e
        obtain ⟨o1, o2, o3, o4⟩ := old a a0 qa
        exact absurd e (key_ne dk rm G o1 o2 mb.1 mb.2 o3 o4 (fun z => absurd rfl z))
    · simp only [if_neg qa] at e
      by_cases qb : b < A
      · simp only [if_pos qb] at e
        obtain ⟨o1, o2, o3, o4⟩ := old b b0 qb
        exact absurd e (key_ne dk rm G mb.1 mb.2 o1 o2 (fun z => o3 z.symm) (fun z => absurd rfl z) o4)
      · omega
  · by_cases q : s = kx
    · have nA : ¬ A < A := by omega
      exact ⟨fun _ => ⟨A, ⟨by omega, by omega⟩, by simp only [if_neg nA]⟩, fun z => absurd (by rw [q]; exact hμ) z⟩
    · obtain ⟨h1, h2⟩ := x4 s s0 (by omega)
      refine ⟨fun z => ?_, fun z y y0 y1 hx => ?_⟩
      · obtain ⟨a, a1, a2⟩ := h1 z
        exact ⟨a, ⟨a1.1, by omega⟩, by simp only [if_pos a1.2]; exact a2⟩
      · obtain ⟨a, a1, a2, a3⟩ := h2 z y y0 y1 hx
        exact ⟨a, ⟨a1.1, by omega⟩, by simp only [if_pos a1.2]; exact a2, by simp only [if_pos a1.2]; exact a3⟩
/-- the facts that hold lie there -/
def GS (c m : xw_M) : Prop := ∃ g s t n, (two s t ∧ m 536 59 = s ∧ m 536 60 = t) ∧ xR m 536 58 = n ∧ EN c g n ∧ ∀ x, 0 ≤ x → x < n → xR m s x = g x
theorem room_l {m0 : xw_M} (dk : dsk B c D M tu Kx Rf Rv) (rm : ram c D M tu Kx) (G : GC c r q D k) (rc : RC c r) (q0 : q = 544 ∨ q = 558) (hq : r 536 23 = q) (N2 : xR c 536 31 ≤ 20000) (H : HM (xR r (q + 7)) Sr k) (h9 : xR r q 9 = Sr) (S32 : Sr ≤ 32) : ∀ (N : Nat) (A kx : Int) (xs ms : Int → Int) (m : xw_M), 0 ≤ kx → kx ≤ Sr → (Sr - kx).toNat < N → fRa r m → GS c m → RWX c k (xR r (q + 7)) kx A xs ms → A ≤ 24000 → sfr m0 m → ∃ m' v, xl3 (yl285_8 B) N q A kx m = some (.inl v, m') ∧ sfr m0 m' ∧ GS c m' ∧ ((v = 1 ∧ ∃ A xs ms, RWX c k (xR r (q + 7)) Sr A xs ms ∧ A ≤ 4000) ∨ (v = 0 ∧ ∃ kx A xs ms, kx ≤ Sr ∧ RWX c k (xR r (q + 7)) kx A xs ms ∧ 4000 < A)) := by
  have QL := fun _ : Unit => q_l B q0
  have k8 := G.2.2.1
  have tb := tw2_b k8.1 k8.2
  intro N
  induction N with
  | zero => intro A kx xs ms m _ _ h; omega
  | succ N ih =>
    intro A kx xs ms m k0 k1 hN f gs X A4 sf
    show ∃ m' v, yl285_8 B (xl3 (yl285_8 B) N) q A kx m = _ ∧ _
    have IH := ih
    clear ih
    generalize xl3 (yl285_8 B) N = R at IH ⊢
    have xq : xR m q = xR r q := xR_cg (f.1 q (by omega) (by omega) (by omega) (by omega))
    have x7 : xR m (q + 7) = xR r (q + 7) := xR_cg (f.1 _ (by omega) (by omega) (by omega) (by omega))
    unfold yl285_8 yk285_62
    rw [if_pos (QL ()).1, xq, h9]
    by_cases hx : kx < Sr
    · rw [if_pos hx]
      by_cases c4 : 4000 < A
      · rw [if_pos c4]
        exact ⟨m, 0, by rw [if_pos c4], sf, gs, Or.inr ⟨rfl, kx, A, xs, ms, k1, X, c4⟩⟩
      · rw [if_neg c4, (QL ()).2.1.2.2.2.2.2.2.1, (QL ()).2.2.2.2.2.2.2.2.2.1, if_pos ⟨k0, by omega⟩, if_pos ((QL ()).2.2.1 7 (by decide) (by decide)), x7]
        obtain ⟨g, s, t, n, ⟨tw, e59, e60⟩, e58, E, hg⟩ := gs
        have mb := H.1 kx k0 hx
        obtain ⟨m1, g', s', t', e1, sf1, ⟨tw', e59', e60'⟩, E', hg', W⟩ := sort_r (B := B) (μ := xR r (q + 7) kx) dk rm G rc q0 hq N2 f tw e59 e60 e58 E hg mb.1 (by omega)
        have f1 := fRa_tr f (fRa_s sf1)
        have gs1 : GS c m1 := ⟨g', s', t', n, ⟨tw', e59', e60'⟩, by rw [xR_fld (sf1.2 58 (by decide) (by decide) (by decide))]; exact e58, E', hg'⟩
        have wk : w32 (kx + 1) = kx + 1 := w32_id (by omega) (by omega)
        have xx : xR m1 (q + 7) kx = xR r (q + 7) kx := by rw [xR_cg (f1.1 _ (by omega) (by omega) (by omega) (by omega))]
        rw [e1, xB_ret, xx, wk]
        have rb := W.1
        have nb := E'.1
        by_cases z : xR r (q + 7) kx = 0
        · rw [if_pos z, w32_id (x := A + 1) (by have := X.1; omega) (by omega)]
          exact IH (A + 1) (kx + 1) _ _ m1 (by omega) (by omega) (by omega) f1 gs1 (RWX_zero (x := 0) dk rm G H k0 hx z X) (by omega) (sfr_trans sf sf1)
        · rw [if_neg z, w32_id (x := A + xR m1 536 61) (by have := X.1; omega) (by omega)]
          exact IH (A + xR m1 536 61) (kx + 1) _ _ m1 (by omega) (by omega) (by omega) f1 gs1 (RWX_add dk rm G H k0 hx rfl z E' W X) (by omega) (sfr_trans sf sf1)
    · rw [if_neg hx]
      have ek : kx = Sr := by omega
      subst ek
      by_cases c4 : 4000 < A
      · exact ⟨m, 0, by rw [if_pos c4], sf, gs, Or.inr ⟨rfl, kx, A, xs, ms, Int.le_refl _, X, c4⟩⟩
      · exact ⟨m, 1, by rw [if_neg c4], sf, gs, Or.inl ⟨rfl, A, xs, ms, X, by omega⟩⟩
theorem RWX_nil {xs ms : Int → Int} : RWX c k Mk 0 0 xs ms := ⟨Int.le_refl _, fun a a0 a1 => by omega, fun a b a0 a1 => by omega, fun s s0 s1 => by omega⟩
/-- what gathering and sorting change -/
def fRh (m m' : xw_M) : Prop := (∀ a, a ≠ 536 → a ≠ 572 → ¬ (590 ≤ a ∧ a ≤ 592) → m' a = m a) ∧ ∀ k, ¬ (58 ≤ k ∧ k ≤ 61) → m' 536 k = m 536 k
theorem fRh_tr {a b c : xw_M} (h : fRh a b) (k : fRh b c) : fRh a c := ⟨fun x x1 x2 x3 => by rw [k.1 x x1 x2 x3, h.1 x x1 x2 x3], fun x x1 => by rw [k.2 x x1, h.2 x x1]⟩
theorem fRh_s {a b : xw_M} (h : sfr a b) : fRh a b := ⟨fun x x1 _ x3 => h.1 x x1 (by omega) (by omega) (by omega), fun x x1 => h.2 x (by omega) (by omega) (by omega)⟩
theorem fRa_h {a b : xw_M} (h : fRh a b) : fRa a b := ⟨fun x x1 x2 x3 _ => h.1 x x1 x2 x3, fun x x1 _ _ _ _ => h.2 x x1⟩
theorem gather_gs (dk : dsk B c D M tu Kx Rf Rv) (rm : ram c D M tu Kx) (N : CDN c r q D nc k p) (rc : RC c r) (q0 : q = 544 ∨ q = 558) (hq : r 536 23 = q) (F0 : 0 ≤ xR c 536 31) (N2 : xR c 536 31 ≤ 20000) (f : fRa r m) (tw : ∃ s t, two s t ∧ m 536 59 = s ∧ m 536 60 = t) : ∃ m', yf286 B m = some (.inl 0, m') ∧ fRh m m' ∧ GS c m' := by
  obtain ⟨s, t, tw, e59, e60⟩ := tw
  obtain ⟨m1, g, n, e1, fr, e58, E, hg⟩ := gather_r (B := B) dk rm N rc q0 hq F0 N2 f tw e59 e60
  have sv : s = 590 ∨ s = 591 := by unfold two at tw; omega
  exact ⟨m1, e1, ⟨fun a a1 a2 a3 => fr.1 a a1 a2 (by omega), fun j j1 => fr.2 j (by omega)⟩, g, s, t, n, ⟨tw, by rw [fr.2 59 (by decide)]; exact e59, by rw [fr.2 60 (by decide)]; exact e60⟩, e58, E, hg⟩
/-- hasRoom -/
theorem hroom_ok (dk : dsk B c D M tu Kx Rf Rv) (rm : ram c D M tu Kx) (G : GC c r q D k) (N : CDN c r q D nc k p) (rc : RC c r) (q0 : q = 544 ∨ q = 558) (hq : r 536 23 = q) (F0 : 0 ≤ xR c 536 31) (N2 : xR c 536 31 ≤ 20000) (H : HM (xR r (q + 7)) Sr k) (h9 : xR r q 9 = Sr) (S0 : 0 ≤ Sr) (S32 : Sr ≤ 32) (tw : ∃ s t, two s t ∧ r 536 59 = s ∧ r 536 60 = t) : ∃ m' v, yf285 B q r = some (.inl v, m') ∧ fRh r m' ∧ GS c m' ∧ ((v = 1 ∧ ∃ A xs ms, RWX c k (xR r (q + 7)) Sr A xs ms ∧ A ≤ 4000) ∨ (v = 0 ∧ ∃ kx A xs ms, kx ≤ Sr ∧ RWX c k (xR r (q + 7)) kx A xs ms ∧ 4000 < A)) := by
  obtain ⟨m1, e1, f1, g1⟩ := gather_gs (B := B) dk rm N rc q0 hq F0 N2 fRa_r tw
  unfold yf285
  obtain ⟨NN, hNN⟩ : ∃ NN : Nat, NN = 1000000 := ⟨_, rfl⟩
  rw [e1, xB_ret, ← hNN]
  obtain ⟨m', v, e2, sf, gs, h⟩ := room_l (B := B) (Sr := Sr) (m0 := m1) dk rm G rc q0 hq N2 H h9 S32 NN 0 0 (fun _ => 0) (fun _ => 0) m1 (Int.le_refl _) S0 (by omega) (fRa_h f1) g1 RWX_nil (by decide) (sfr_refl m1)
  exact ⟨m', v, e2, fRh_tr f1 (fRh_s sf), gs, h⟩
/-- the rows' keys are those that must be there -/
theorem RWX_kv {kx A : Int} {xs ms : Int → Int} {P : Int → Prop} (k8 : 0 ≤ k ∧ k ≤ 8) (H : HM Mk Sr k) (hc : MKs (xR c 228) S P) (hr : MKs Mk Sr P) (k1 : kx ≤ Sr) (X : RWX c k Mk kx A xs ms) : ∀ a, 0 ≤ a → a < A → KVc c k S (fun g => skey (fRF c (xs a)) (lsf c) (ms a) g) := fun a a0 a1 => by
  have tb := tw2_b k8.1 k8.2
  obtain ⟨s, s1, s2, s3⟩ := X.2.1 a a0 a1
  obtain ⟨s', t0, t1, t2⟩ := hc.2.2 (Mk s) (hr.1 s s1.1 (by omega))
  by_cases z : Mk s = 0
  · refine Or.inr ⟨s', ⟨t0, t1⟩, by rw [t2]; exact z, fun g g0 g1 => ?_⟩
    rw [s2, z]
    show skey (fRF c (xs a)) (lsf c) 0 g = lsf c g
    unfold skey
    rw [k0m g0 (by omega), if_pos rfl]
  · obtain ⟨b1, b2⟩ := s3 z
    refine Or.inl ⟨xs a, b1, ?_⟩
    unfold okf
    rw [b2, Bool.true_and, mtc2_t]
    exact ⟨s', t0, t1, fun g _ _ => by rw [t2, s2]⟩
theorem RWX_cov {A : Int} {xs ms : Int → Int} {P : Int → Prop} (k8 : 0 ≤ k ∧ k ≤ 8) (H : HM Mk Sr k) (hc : MKs (xR c 228) S P) (hr : MKs Mk Sr P) (X : RWX c k Mk Sr A xs ms) : ∀ κ, KVc c k S κ → ∃ a, (0 ≤ a ∧ a < A) ∧ ∀ g, 0 ≤ g → g < k → skey (fRF c (xs a)) (lsf c) (ms a) g = κ g := fun κ V => by
  have tb := tw2_b k8.1 k8.2
  rcases V with ⟨x, x1, x2⟩ | ⟨s', s1, s2, s3⟩
  · unfold okf at x2
    rw [Bool.and_eq_true, mtc2_t] at x2
    obtain ⟨hx, s', t0, t1, t2⟩ := x2
    obtain ⟨s, u0, u1, u2⟩ := hr.2.2 _ (hc.1 s' t0 t1)
    have mb := H.1 s u0 u1
    obtain ⟨h1, h2⟩ := X.2.2.2 s u0 u1
    by_cases z : Mk s = 0
    · obtain ⟨a, a1, a2⟩ := h1 z
      refine ⟨a, a1, fun g g0 g1 => ?_⟩
      rw [t2 g g0 g1, ← u2, z, a2]
      unfold skey
      rw [k0m g0 (by omega), if_pos rfl, if_pos rfl]
    · obtain ⟨a, a1, a2, a3⟩ := h2 z x x1.1 x1.2 hx
      refine ⟨a, a1, fun g g0 g1 => ?_⟩
      rw [t2 g g0 g1, ← u2, a2, skey_b mb.1 (by omega) g0 (by omega), skey_b mb.1 (by omega) g0 (by omega)]
      by_cases b : bin (Mk s) g = true
      · rw [if_pos b, if_pos b, a3 g g0 g1 b]
      · rw [if_neg b, if_neg b]
  · obtain ⟨s, u0, u1, u2⟩ := hr.2.2 _ (hc.1 s' s1.1 s1.2)
    obtain ⟨a, a1, a2⟩ := (X.2.2.2 s u0 u1).1 (by rw [u2]; exact s2)
    refine ⟨a, a1, fun g g0 g1 => ?_⟩
    rw [s3 g g0 g1, a2]
    unfold skey
    rw [k0m g0 (by omega), if_pos rfl]
/-- different keys, all among others: no more than those -/
theorem key_pig {A n : Int} {κ κ' : Int → Int → Int} (h1 : ∀ a, 0 ≤ a → a < A → ∃ b, (0 ≤ b ∧ b < n) ∧ ∀ g, 0 ≤ g → g < k → κ' b g = κ a g) (h2 : ∀ a a', 0 ≤ a → a < A → 0 ≤ a' → a' < A → (∀ g, 0 ≤ g → g < k → κ a g = κ a' g) → a = a') (n0 : 0 ≤ n) : A ≤ n := by
  have ex : ∀ i : Nat, ∃ j : Nat, (i : Int) < A → (j : Int) < n ∧ ∀ g, 0 ≤ g → g < k → κ' j g = κ i g := fun i => by
    by_cases z : (i : Int) < A
    · obtain ⟨b, b1, b2⟩ := h1 i (by omega) z
      exact ⟨b.toNat, fun _ => ⟨by omega, by rw [Int.toNat_of_nonneg b1.1]; exact b2⟩⟩
    · exact ⟨0, fun w => absurd w z⟩
  obtain ⟨f, hf⟩ := Classical.axiomOfChoice ex
  have := pig n.toNat A.toNat f (fun i hi => by have := (hf i (by omega)).1; omega) (fun i j hi hj e => by
    have a := (hf i (by omega)).2
    have b := (hf j (by omega)).2
    rw [e] at a
    have := h2 i j (by omega) (by omega) (by omega) (by omega) (fun g g0 g1 => (a g g0 g1).symm.trans (b g g0 g1))
    omega)
  omega
end ROM
