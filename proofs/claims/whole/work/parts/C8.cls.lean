/-! THE ANSWER, by the class: answerQuestion from its beginning -/
section CLX
variable {B : Nat} {t k it S : Int} {c c0 r : xw_M} {q D M tu nc p tq : Int} {Kx Rf : Int → Int} {Rv : Int → Int → Int}
theorem GC_lo (h : ∀ a, a < 302 → c a = c0 a) (D8 : D ≤ 8) (G : GC c0 r q D k) : GC c r q D k := by
  obtain ⟨g1, g2, g3, g4, g5⟩ := G
  have x223 := xR_cg (h 223 (by omega))
  have x227 := xR_cg (h 227 (by omega))
  refine ⟨by rw [x223]; exact g1, g2, g3, fun i i0 i1 => ?_, by rw [x227]; exact g5⟩
  obtain ⟨e, d, l, a1, a2, a3, a4, a5⟩ := g4 i i0 i1
  rw [x227]
  exact ⟨e, d, l, a1, a2, a3, a4, by rw [xR_cg (h (15 + 26 * d) (by omega))]; exact a5⟩
theorem rsi_lo {i : Int} (h : ∀ a, a < 302 → c a = c0 a) (R : rsi c0 r q M k i) : rsi c r q M k i := by
  unfold rsi at *
  rw [xR_cg (h 224 (by omega)), xR_cg (h 225 (by omega)), xR_cg (h 227 (by omega))]
  exact R
theorem CDN_lo (C : cgr c0 r D M) (h : ∀ a, a < 302 → c a = c0 a) (N : CDN c0 r q D nc k p) : CDN c r q D nc k p := by
  obtain ⟨⟨a1, a2, a3, a4, a5⟩, b, s, e, f, w, z⟩ := N
  have x223 := xR_cg (h 223 (by omega))
  have x229 := xR_cg (h 229 (by omega))
  have D8 := C.cn.1
  refine ⟨⟨by rw [x223]; exact a1, a2, a3, a4, fun i i0 i1 => ?_⟩, ?_, SB_cg2 (h 223 (by omega)) (h 291 (by omega)) s, fun v => ?_, f, w, z⟩
  · obtain ⟨b1, ⟨d, l, c1, c2, c3, c4, c5, c6⟩, b3⟩ := a5 i i0 i1
    refine ⟨by rw [x229]; exact b1, ⟨d, l, by rw [x229]; exact c1, c2, c3, c4, ?_, ?_⟩, b3⟩
    · rw [xR_cg (h (15 + 26 * d) (by omega))]; exact c5
    · rw [xR_cg (h (15 + 26 * d) (by omega)), xR_cg (h (231 + i) (by omega))]
      intro x x0 x1
      have L4 := (C.cn.2.2.2.2.1 d c2 c3).2.1.2
      rw [xR_cg (h (15 + 26 * d + 9 + l) (by omega))]; exact c6 x x0 x1
  · unfold LW at *
    rw [xR_cg (h 292 (by omega)), x229, xR_cg (h 227 (by omega))]; exact b
  · rw [SC_fr (c := c0) (c' := c) (by rw [h 223 (by omega)]) (fun i _ _ => by rw [xR_cg (h 291 (by omega))])]
    exact e v
/-- answerQuestion -/
theorem cls93 {t0 : Int} (hB : B ≤ 512) (dk : dsk B c0 D M tu Kx Rf Rv) (rm : ram c0 D M tu Kx) (e13 : c0 0 13 = t) (e12 : c0 0 12 = t0) (tt : (t0 = 420 ∧ t = 464) ∨ (t0 = 464 ∧ t = 420)) (rs0 : ∃ p, rs B c0 p) (C : cgr c0 r D M) (hn : xR c0 223 2 = it) (it0 : 0 ≤ it) (it24 : it ≤ 24) (I : ∀ j, 0 ≤ j → j < it → rsi c0 r q M k j) (G : GC c0 r q D k) (gp : GP c0 r q tq k S) (N : CDN c0 r q D nc k p) (N2 : xR c0 536 31 ≤ 20000) : ∃ c : xw_M, (∀ a, (a < t ∨ t + 43 < a) → c a = c0 a) ∧ (dsk B c D M tu Kx Rf Rv ∧ ram c D M tu Kx) ∧ ((MNY c k S ∧ ∃ m', yf93 B c0 = (xB (yf54 B 12 (xR c0 223 1) m') fun _ m1 => yk93_122 B (btb (fun i => fitc c0 D (xR c0 511 i)) (xR c0 512) (xR c0 508 10) (xR c0 508 11).toNat).1 t m1) ∧ fQa t c0 m' ∧ m' 0 = c0 0 ∧ ∃ p, rs B m' p) ∨ ∃ n m2, yf93 B c0 = some (.inl 0, m2) ∧ fQa t c0 m2 ∧ m2 0 12 = t ∧ m2 0 13 = t0 ∧ m2 t 9 = (btb (fun i => fitc c0 D (xR c0 511 i)) (xR c0 512) (xR c0 508 10) (xR c0 508 11).toNat).1 ∧ m2 t 7 = 1 ∧ xR m2 t 6 = it ∧ (∃ p, rs B m2 p) ∧ CAN m2 c t k it S n) := by
  have t4 : t = 420 ∨ t = 464 := by omega
  have k8 := G.2.2.1
  have cn := rm.cg.cn
  have D8 := cn.1
  have E2 := dk.ex.1
  have tn := dk.tn
  have AF := fun _ : Unit => (an_f B t4).1
  have vb : ∀ j, 0 ≤ j → j < xR c0 536 40 → 0 ≤ xR c0 579 j ∧ xR c0 579 j < 2147483648 := fun j j0 j1 => ⟨dk.vn j j0 j1, (w32_cg (w32_xR c0 579 j)).2⟩
  have sm := small_ok (B := B) (m := c0) (D := D) (n := xR c0 508 11) (F := xR c0 508 10) (rz := xR c0 512) D8.1 D8.2 cn.2.2.1 (fun d d0 d1 => by unfold lvc; have := (cn.2.2.2.2.1 d d0 d1).2.1; omega) rfl (by rw [rm.vi]; exact tn.1) (by rw [rm.vi]; exact tn.2) rfl (fun i i0 i1 => by
    rw [rm.vi] at i1
    rw [(rm.vw i i0 i1).1]
    exact ⟨vb i i0 i1, rfl⟩)
  have si := btb_in (fit := fun i => fitc c0 D (xR c0 511 i)) (rz := xR c0 512) (F := xR c0 508 10) (xR c0 508 11).toNat
  generalize hsrc : (btb (fun i => fitc c0 D (xR c0 511 i)) (xR c0 512) (xR c0 508 10) (xR c0 508 11).toNat).1 = src at *
  have W : ∀ g, 0 ≤ g → g < k → ∃ d l, xR c0 227 g = 4 * d + l ∧ (0 ≤ d ∧ d < 8) ∧ (0 ≤ l ∧ l < 4) ∧ xR c0 (15 + 26 * d + 23) l = lsf c0 g := fun g g0 g1 => by
    obtain ⟨_, d, l, a1, a2, a3, a4, a5⟩ := G.2.2.2.1 g g0 g1
    have L4 := (cn.2.2.2.2.1 d a2 a3).2.1.2
    refine ⟨d, l, a1, ⟨a2, by omega⟩, ⟨a4, by omega⟩, ?_⟩
    unfold lsf
    rw [a1, show (4 * d + l) / 4 = d by omega, show (4 * d + l) % 4 = l by omega]
  have bg := fun (hl : Nat → Bool) (rk : Nat → Int → Int) (cf : Nat → Int) (mo : Nat → Int → Int) => begin_a (B := B) (t := t) (k := k) (it := it) (S := S) (mk := xR c0 228) (ls := lsf c0) (K := xR c0 224) (hl := hl) (rk := rk) (cf := cf) (mo := mo) (m := c0) t4 G.1 k8.1 k8.2 hn it0 it24 gp.2.2.2.2.1 (by have := gp.2.2.2.2.2.1; omega) (by have := gp.2.2.2.2.2.1; omega) (fun _ => rfl) (fun i i0 i1 => ⟨rfl, (I i i0 i1).1⟩) W
  obtain ⟨c, e98, f98, g98, _, F0, _⟩ := bg (fun _ => true) (fun _ _ => 0) (fun _ => 0) (fun _ _ => 0)
  have s0' : ∀ hl rk cf mo, ST c t k it S (xR c0 228) (lsf c0) (xR c0 224) hl rk cf mo 0 := fun hl rk cf mo => by
    obtain ⟨c', e', _, _, _, _, s'⟩ := bg hl rk cf mo
    rw [e98] at e'
    have ec : c = c' := congrArg Prod.snd (Option.some.inj e')
    rw [ec]; exact s'
  have lo : ∀ a, a < 420 → c a = c0 a := fun a ha => f98 a (by omega)
  have hi : ∀ a, 508 ≤ a → c a = c0 a := fun a ha => f98 a (by omega)
  have lo3 : ∀ a, a < 302 → c a = c0 a := fun a ha => lo a (by omega)
  have dk' : dsk B c D M tu Kx Rf Rv := dsk_fr dk ⟨hi 538 (by omega), hi 539 (by omega), hi 573 (by omega), fun i _ _ => ⟨by rw [hi 575 (by omega)], by rw [hi 576 (by omega)]⟩⟩ (fun a ha => hi a (by omega)) (fun k _ => by rw [hi 536 (by omega)]) (fun x _ _ => by rw [hi 516 (by omega)])
  have rm' : ram c D M tu Kx := ram_fr rm (fun a a0 a1 => lo a (by omega)) (fun k _ => by rw [hi 508 (by omega)]) (fun a a0 a1 => hi a (by omega)) (fun k _ => by rw [hi 536 (by omega)]) (fun a ha => hi a (by omega)) (fun x x0 x1 => by
    rw [xR_cg (hi 536 (by omega))] at x1
    obtain ⟨b1, b2⟩ := rm.bt x x0 x1
    refine ⟨fun d d0 d1 => ?_, fun j j0 j1 => ?_⟩
    · rw [xR_cg (lo (376 + d) (by omega)), xR_cg (hi 575 (by omega)), xR_cg (hi 536 (by omega)), xR_cg (hi 539 (by omega))]; exact b1 d d0 d1
    · have M8 := cn.2.1
      rw [xJ_cg (lo (385 + j) (by omega)), xJ_cg (hi 576 (by omega)), xR_cg (hi 536 (by omega))]; exact b2 j j0 j1)
  have C' : cgr c r D M := cgr_fr C (fun a a0 a1 => lo a (by omega)) (fun _ _ => rfl) rfl rfl
  have G' := GC_lo lo3 D8.2 G
  have gp' : GP c r q tq k S := GP_fr gp (by rw [lo 223 (by omega)]) (lo 228 (by omega)) rfl rfl rfl
  have N' := CDN_lo C lo3 N
  have I' : ∀ j, 0 ≤ j → j < it → rsi c r q M k j := fun j j0 j1 => rsi_lo lo3 (I j j0 j1)
  have A' := ask_ok C' I' G' N'
  have el : ∀ g, 0 ≤ g → g < k → lsf c0 g = lsf c g := fun g g0 g1 => by
    obtain ⟨d, l, a1, a2, a3, a4⟩ := W g g0 g1
    unfold lsf
    rw [xR_cg (lo 227 (by omega)), a1, show (4 * d + l) / 4 = d by omega, show (4 * d + l) % 4 = l by omega, xR_cg (lo (15 + 26 * d + 23) (by omega))]
  have cgl : ∀ (ls ls' : Int → Int), (∀ g, 0 ≤ g → g < k → ls g = ls' g) → ∀ {m : xw_M} {hl rk cf mo}, ST m t k it S (xR c0 228) ls (xR c0 224) hl rk cf mo 0 → ST m t k it S (xR c0 228) ls' (xR c0 224) hl rk cf mo 0 := fun ls ls' h m hl rk cf mo s => by
    have kv0 : ∀ κ, KV S k (xR c0 228) ls hl rk 0 κ ↔ KV S k (xR c0 228) ls' hl rk 0 κ := fun κ => by
      unfold KV
      constructor
      · rintro (⟨j, j1, _⟩ | ⟨s, s1, s2, s3⟩)
        · exact absurd j1 (Nat.not_lt_zero _)
        · exact Or.inr ⟨s, s1, s2, fun g g0 g1 => by rw [s3 g g0 g1, h g g0 g1]⟩
      · rintro (⟨j, j1, _⟩ | ⟨s, s1, s2, s3⟩)
        · exact absurd j1 (Nat.not_lt_zero _)
        · exact Or.inr ⟨s, s1, s2, fun g g0 g1 => by rw [s3 g g0 g1, h g g0 g1]⟩
    rcases s with ⟨h8, n, a1, a2, a3, a4⟩ | ⟨J', j1, o1, o2, o3, κ, o4, o5⟩
    · exact Or.inl ⟨h8, n, a1, a2, fun r r0 r1 => (kv0 _).mp (a3 r r0 r1), fun κ V => a4 κ ((kv0 κ).mpr V)⟩
    · obtain rfl : J' = 0 := by omega
      exact Or.inr ⟨0, j1, o1, o2, fun r r0 r1 => (kv0 _).mp (o3 r r0 r1), κ, (kv0 κ).mp o4, o5⟩
  have x228 := xR_cg (lo 228 (by omega))
  have x224 := xR_cg (lo 224 (by omega))
  have s0 : ∀ hl rk cf mo, ST c t k it S (xR c 228) (lsf c) (xR c 224) hl rk cf mo 0 := fun hl rk cf mo => by
    rw [x228, x224]; exact cgl _ _ el (s0' hl rk cf mo)
  have F : FX c t k it S (xR c 228) (lsf c) (xR c 224) := by
    obtain ⟨f1, f2, f3, f4, f5, f6, f7⟩ := F0
    rw [x228, x224]
    exact ⟨f1, f2, f3, f4, f5, fun g g0 g1 => by rw [f6 g g0 g1, el g g0 g1], f7⟩
  have hn' : xR c 223 2 = it := by rw [xR_cg (lo 223 (by omega))]; exact hn
  have rs1 : ∃ p, rs B c p := by
    obtain ⟨pp, h⟩ := rs0
    exact ⟨pp, rs_fr h (hi 530 (by omega))⟩
  have nn : xR c 536 31 ≤ 20000 := by rw [xR_cg (hi 536 (by omega))]; exact N2
  have hN1 : ∃ nf : Nat, nf = 1000000 := ⟨_, rfl⟩
  obtain ⟨nf, hnf⟩ := hN1
  have lp : ∃ m' W, yf93 B c0 = yk93_99 B src t m' ∧ fLo t c m' ∧ (∃ p, rs B m' p) ∧ (∀ w, w ∈ W → GRw c k it w) ∧ ((W.map Prod.fst).flatten).Perm (lst (fun x => x) (xR c 536 31).toNat) ∧ ST m' t k it S (xR c 228) (lsf c) (xR c 224) (hlR c W) (rkR c W) (cfR W) (moR W) W.length := by
    unfold yf93
    rw [sm, xB_ret, e13, if_pos (AF ()), e98, xB_ret, ← hnf]
    by_cases z : src = -1
    · obtain ⟨m', W, a1, a2, a3, a4, a5, a6⟩ := srcF (B := B) (c := c) (r := r) (q := q) (tq := tq) (n := nf) hB dk' rm' A' F hn' G' gp' rs1 s0 hnf
      rw [if_pos z, z]
      exact ⟨m', W, a1, a2, a3, a4, a5, a6⟩
    · rw [if_neg z]
      have si2 : (0 ≤ src ∧ src < xR c0 536 40) ∧ fitc c0 D (xR c0 511 src) := by
        rcases si with q1 | ⟨q1, q2⟩
        · exact absurd q1 z
        · rw [rm.vi] at q1
          exact ⟨⟨q1.1, by omega⟩, q2⟩
      obtain ⟨a, ea, ha⟩ := first_ok (B := B) (m := c) (E := xR c 536 52) rm'.ex (by rw [xR_cg (hi 536 (by omega))]; omega) (by rw [xR_cg (hi 536 (by omega))]; omega)
      rw [ea, xB_ret]
      have fit : fitc c D (xR c 579 src) := by
        rw [xR_cg (hi 579 (by omega)), ← (rm.vw src si2.1.1 si2.1.2).1]
        intro d d0 d1 h4
        rw [xR_cg (lo 292 (by omega))] at h4 ⊢
        rw [vdg_cg (lv' := lvc c0) d0 d1 (fun d d0 d1 => by unfold lvc; rw [xR_cg (lo (15 + 26 * d) (by omega))])]
        exact si2.2 d d0 d1 h4
      obtain ⟨m', W, a1, a2, a3, a4, a5, a6⟩ := srcV (B := B) (c := c) (r := r) (q := q) (tq := tq) (n := nf) (i := src) (a := a) hB dk' rm' A' F hn' G' gp' (hvl_of C' N'.1) N'.2.1 (gl_of C' G') (lw_of C' N'.1 G' N'.2.1) nn si2.1.1 (by rw [xR_cg (hi 536 (by omega))]; exact si2.1.2) (by rw [xR_cg (hi 536 (by omega)), xR_cg (hi 579 (by omega))]; exact vb) fit (by
        rcases ha with ⟨h1, h2⟩ | ⟨h1, h2, _⟩
        · exact Or.inl ⟨h1, fun e e0 e1 => by rw [← (rm'.le e e0 e1).1]; exact h2 e e0 e1⟩
        · exact Or.inr ⟨h1, by rw [← (rm'.le a h1.1 h1.2).1]; exact h2⟩) rs1 s0 hnf
      exact ⟨m', W, a1, a2, a3, a4, a5, a6⟩
  obtain ⟨m', W', l1, l2, lr, l3, l4, l5⟩ := lp
  refine ⟨c, f98, ⟨dk', rm'⟩, ?_⟩
  have m0 : m' 0 = c0 0 := by rw [l2.1 0 (by omega) (by omega) (by omega) (by omega) (by omega) (by omega) (by omega), lo 0 (by omega)]
  rcases l5 with ⟨h8, n, s⟩ | ⟨J', j1, O⟩
  · obtain ⟨m2, d1, d2, d3, d4, d5, d6, d7, d9, d8⟩ := done93 (B := B) (src := src) dk' rm' A' F G' I' nn l2 l3 l4 h8 s
    refine Or.inr ⟨n, m2, by rw [l1]; exact d1, ⟨fun a a0 a1 a2 a3 a4 a5 a6 a7 => ?_, fun j j1 j2 j3 => ?_, fun j j1 => ?_, fun j j1 j2 => ?_⟩, d3, by rw [d4, lo 0 (by omega)]; exact e12, d5, d6, ?_, ?_, d8⟩
    · rw [d2.1 a a0 a1 a2 a3 a4 a5 a6 a7]; exact f98 a (by omega)
    · rw [d2.2.1 j j1 j2 j3, lo 302 (by omega)]
    · rw [d2.2.2.1 j j1, hi 530 (by omega)]
    · rw [d2.2.2.2 j j1 j2, lo 0 (by omega)]
    · rw [xR_fld d7]; exact F.2.2.1.1
    · obtain ⟨pp, hp⟩ := lr
      exact ⟨pp, rs_fr hp d9⟩
  · refine Or.inl ⟨over93 l3 l4 j1 O, m', ?_, ⟨fun a a0 a1 a2 a3 a4 a5 a6 a7 => ?_, fun j j1 j2 j3 => ?_, fun j j1 => ?_, fun j j1 j2 => ?_⟩, m0, lr⟩
    · rw [l1]
      unfold yk93_99
      rw [if_pos (AF ()), if_neg (by rw [O.1]; decide), xR_cg (l2.1 223 (by omega) (by omega) (by omega) (by omega) (by omega) (by omega) (by omega)), xR_cg (lo 223 (by omega))]
    · rw [l2.1 a (by omega) a2 a3 a4 a5 a6 a7]; exact f98 a (by omega)
    · rw [l2.2.1 j j1 j2 j3, lo 302 (by omega)]
    · rw [l2.2.2.1 j j1, hi 530 (by omega)]
    · rw [m0]
end CLX
