/-! THE ANSWER, by the reference: all rows (answer, before they are ordered) -/
def AW (c m : xw_M) (k M a μ x : Int) (L : List Int) : Prop := xR m 595 a = μ ∧ xJ m 597 a = (L.length : Int) ∧ (∀ i, 0 ≤ i → i < k → xR m 596 (8 * a + i) = if bin μ i = true then fV c x i else 0) ∧ ∀ j, 0 ≤ j → j < M → RMs c m a j L
def fRw (m m' : xw_M) : Prop := (∀ a, a ≠ 536 → a ≠ 572 → ¬ (590 ≤ a ∧ a ≤ 592) → ¬ (595 ≤ a ∧ a ≤ 600) → m' a = m a) ∧ ∀ k, ¬ (58 ≤ k ∧ k ≤ 61) → k ≠ 65 → m' 536 k = m 536 k
theorem fRw_tr {a b c : xw_M} (h : fRw a b) (k : fRw b c) : fRw a c := ⟨fun x x1 x2 x3 x4 => by rw [k.1 x x1 x2 x3 x4, h.1 x x1 x2 x3 x4], fun x x1 x2 => by rw [k.2 x x1 x2, h.2 x x1 x2]⟩
theorem fRw_h {a b : xw_M} (h : fRh a b) : fRw a b := ⟨fun x x1 x2 x3 _ => h.1 x x1 x2 x3, fun x x1 _ => h.2 x x1⟩
theorem fRw_a {A : Int} {a b : xw_M} (h : fAr A a b) : fRw a b := ⟨fun x x1 _ _ x4 => h.1 x x1 x4, fun x _ x2 => h.2.1 x x2⟩
theorem fRa_w {a b : xw_M} (h : fRw a b) : fRa a b := ⟨fun x x1 x2 x3 x4 => h.1 x x1 x2 x3 (by omega), fun x x1 x2 _ _ _ => h.2 x x1 x2⟩
section ANW
variable {B : Nat} {k S Sr : Int} {c r : xw_M} {q D M tu nc p : Int} {Kx Rf : Int → Int} {Rv : Int → Int → Int} {Mk : Int → Int}
theorem AW_fr {m m' : xw_M} {A a μ x : Int} {L : List Int} (k8 : k ≤ 8) (M8 : M ≤ 8) (f : fAr A m m') (ne : a ≠ A) (h : AW c m k M a μ x L) : AW c m' k M a μ x L := by
  obtain ⟨h1, h2, h3, h4⟩ := h
  obtain ⟨e1, e2⟩ := f.2.2.1 a ne
  refine ⟨by rw [xR_fld e1]; exact h1, by unfold xJ at *; rw [e2]; exact h2, fun i i0 i1 => ?_, fun j j0 j1 => ?_⟩
  · rw [xR_fld (f.2.2.2 (8 * a + i) (by omega)).1]; exact h3 i i0 i1
  · obtain ⟨_, z1, z2, z3⟩ := f.2.2.2 (8 * a + j) (by omega)
    exact RMs_fr (h4 j j0 j1) z1 z2 z3
theorem AW_s {m m' : xw_M} {a μ x : Int} {L : List Int} (f : ∀ y, 595 ≤ y → y ≤ 600 → m' y = m y) (h : AW c m k M a μ x L) : AW c m' k M a μ x L := by
  obtain ⟨h1, h2, h3, h4⟩ := h
  refine ⟨by rw [xR_cg (f 595 (by decide) (by decide))]; exact h1, by rw [xJ_cg (f 597 (by decide) (by decide))]; exact h2, by rw [xR_cg (f 596 (by decide) (by decide))]; exact h3, fun j j0 j1 => RMs_fr (h4 j j0 j1) (by rw [f 598 (by decide) (by decide)]) (by rw [f 599 (by decide) (by decide)]) (by rw [f 600 (by decide) (by decide)])⟩
theorem AW_r {m : xw_M} {A μ a b : Int} {g : Int → Int} (ab : a ≤ b) (h : RRw c m k M A μ g a b) : AW c m k M A μ (g a) (rl g a b) := by
  refine ⟨h.1, ?_, h.2.2.1, h.2.2.2⟩
  rw [h.2.1]; unfold rl; rw [lst_len]; omega
theorem kfs_m {κ : Int → Int} {x : Int} : x ∈ kfs c k S κ ↔ (0 ≤ x ∧ x < xR c 536 31) ∧ fH c x = true ∧ mtc2 S k (xR c 228) (lsf c) (fRF c x) κ = true := by
  unfold kfs okf
  rw [List.mem_filter, lst_mem, Bool.and_eq_true]
  refine and_congr ?_ Iff.rfl
  constructor
  · rintro ⟨y, y1, rfl⟩; omega
  · intro h; exact ⟨x.toNat, by omega, by omega⟩
theorem kfs_nd {κ : Int → Int} : (kfs c k S κ).Nodup := by
  unfold kfs
  exact (lst_nodup (fun i j _ _ e => by have e : (i : Int) = j := e; omega)).filter _
theorem rl_nd {g : Int → Int} {a b n : Int} (E : EN c g n) (a0 : 0 ≤ a) (bn : b ≤ n) : (rl g a b).Nodup := by
  unfold rl
  refine lst_nodup (fun i j hi hj e => ?_)
  have := E.2.2.1 (a + i) (a + j) (by omega) (by omega) (by omega) (by omega) e
  omega
/-- a row's facts are its key's -/
theorem row_kf {μ n R j : Int} {g st : Int → Int} {P : Int → Prop} (dk : dsk B c D M tu Kx Rf Rv) (rm : ram c D M tu Kx) (G : GC c r q D k) (H : HM Mk Sr k) (hc : MKs (xR c 228) S P) (hr : MKs Mk Sr P) {s : Int} (s0 : 0 ≤ s) (s1 : s < Sr) (hμ : Mk s = μ) (nz : μ ≠ 0) (E : EN c g n) (W : RWj c k μ g st n R) (j0 : 0 ≤ j) (j1 : j < R) : (rl g (st j) (st (j + 1))).Perm (kfs c k S (fun y => skey (fRF c (g (st j))) (lsf c) μ y)) := by
  obtain ⟨w1, w2, w3, w4, w5, w6⟩ := W
  have k8 := G.2.2.1
  have tb := tw2_b k8.1 k8.2
  have b1 := w2 j j0 (by omega)
  have b2 := w2 (j + 1) (by omega) (by omega)
  have b3 := w3 j j0 j1
  have mb := H.1 s s0 s1
  rw [hμ] at mb
  have hj := E.2.1 (st j) b1.1 (by omega)
  obtain ⟨s', t0, t1, t2⟩ := hc.2.2 μ (by rw [← hμ]; exact hr.1 s s0 s1)
  refine (List.perm_ext_iff_of_nodup (rl_nd E b1.1 b2.2) kfs_nd).mpr (fun x => ?_)
  rw [rl_m, kfs_m, mtc2_t]
  constructor
  · rintro ⟨y, y1, rfl⟩
    obtain ⟨e1, e2⟩ := E.2.1 y (by omega) (by omega)
    refine ⟨e1, e2, s', t0, t1, fun i i0 i1 => ?_⟩
    rw [t2, skey_b mb.1 (by omega) i0 (by omega), skey_b mb.1 (by omega) i0 (by omega)]
    by_cases b : bin μ i = true
    · rw [if_pos b, if_pos b]
      exact (((val_rk dk rm G e1.1 e1.2 hj.1.1 hj.1.2 i i0 i1).1).mp (w5 j y j0 j1 y1.1 y1.2 i i0 i1 b)).symm
    · rw [if_neg b, if_neg b]
  · rintro ⟨x1, x2, u, u0, u1, u2⟩
    obtain ⟨y, y1, y2⟩ := E.2.2.2 x x1.1 x1.2 x2
    obtain ⟨i', i1, i2, i3⟩ := w4 y y1.1 y1.2
    have mu : xR c 228 u = μ := Classical.byContradiction fun ne => by
      obtain ⟨v, v0, v1, v2⟩ := hr.2.2 _ (hc.1 u u0 u1)
      have vb := H.1 v v0 v1
      rw [v2] at vb
      exact key_ne dk rm G mb.1 mb.2 vb.1 vb.2 (fun z => ne z.symm) (fun _ => hj.1) (fun _ => x1) u2
    have hi := E.2.1 (st i') (w2 i' i1.1 (by omega)).1 (by have := w3 i' i1.1 i1.2; have := w2 (i' + 1) (by omega) (by omega); omega)
    have e := w6 i' j i1.1 i1.2 j0 j1 (fun g' g0 g1 b => by
      have a := w5 i' y i1.1 i1.2 i2 i3 g' g0 g1 b
      rw [y2] at a
      have d := u2 g' g0 g1
      rw [mu, skey_b mb.1 (by omega) g0 (by omega), skey_b mb.1 (by omega) g0 (by omega), if_pos b, if_pos b] at d
      rw [← a]
      exact ((val_rk dk rm G x1.1 x1.2 hj.1.1 hj.1.2 g' g0 g1).1).mpr d.symm)
    rw [e] at i2 i3
    exact ⟨y, ⟨i2, i3⟩, y2⟩
theorem row_k0 {n x : Int} {g : Int → Int} {P : Int → Prop} (k8 : 0 ≤ k ∧ k ≤ 8) (hc : MKs (xR c 228) S P) (hr : MKs Mk Sr P) {s : Int} (s0 : 0 ≤ s) (s1 : s < Sr) (hμ : Mk s = 0) (E : EN c g n) : (rl g 0 n).Perm (kfs c k S (fun y => skey (fRF c x) (lsf c) 0 y)) := by
  obtain ⟨s', t0, t1, t2⟩ := hc.2.2 0 (by rw [← hμ]; exact hr.1 s s0 s1)
  refine (List.perm_ext_iff_of_nodup (rl_nd E (Int.le_refl _) (Int.le_refl _)) kfs_nd).mpr (fun y => ?_)
  rw [rl_m, kfs_m, mtc2_t]
  constructor
  · rintro ⟨z, z1, rfl⟩
    obtain ⟨e1, e2⟩ := E.2.1 z z1.1 z1.2
    refine ⟨e1, e2, s', t0, t1, fun i i0 i1 => ?_⟩
    rw [t2]
    unfold skey
    rw [k0m i0 (by omega), if_pos rfl, if_pos rfl]
  · rintro ⟨x1, x2, _⟩
    obtain ⟨z, z1, z2⟩ := E.2.2.2 y x1.1 x1.2 x2
    exact ⟨z, z1, z2⟩
/-- the rows of a set are written -/
theorem ans_57 {m0 : xw_M} {A μ s t n R kx : Int} {g : Int → Int} {r11 : Int → Int → xw_M → xP} (dk : dsk B c D M tu Kx Rf Rv) (rm : ram c D M tu Kx) (G : GC c r q D k) (rc : RC c r) (q0 : q = 544 ∨ q = 558) (hq : r 536 23 = q) (N2 : xR c 536 31 ≤ 20000) (f0 : fRa r m0) (h19 : xR r 536 19 = M) (tw : two s t) (e59 : m0 536 59 = s) (E : EN c g n) (hg : ∀ x, 0 ≤ x → x < n → xR m0 s x = g x) (hR : xR m0 536 61 = R) (W : RWj c k μ g (xR m0 592) n R) (kx0 : 0 ≤ kx) (kx1 : kx < 32) (hμ : xR r (q + 7) kx = μ) (μ0 : 0 ≤ μ) (μ1 : μ < 256) (A0 : 0 ≤ A) (AR : A + R ≤ 4000) : ∀ (N : Nat) (j : Int) (m : xw_M), 0 ≤ j → j ≤ R → (R - j).toNat < N → ((∀ a, a ≠ 536 → ¬ (595 ≤ a ∧ a ≤ 600) → m a = m0 a) ∧ ∀ k, k ≠ 65 → m 536 k = m0 536 k) → xR m 536 65 = A + j → (∀ a μ x L, 0 ≤ a → a < A → AW c m0 k M a μ x L → AW c m k M a μ x L) → (∀ i, 0 ≤ i → i < j → AW c m k M (A + i) μ (g (xR m0 592 i)) (rl g (xR m0 592 i) (xR m0 592 (i + 1)))) → ∃ m', xl3 (yl296_57 B r11) N q kx j m = r11 q (kx + 1) m' ∧ ((∀ a, a ≠ 536 → ¬ (595 ≤ a ∧ a ≤ 600) → m' a = m0 a) ∧ ∀ k, k ≠ 65 → m' 536 k = m0 536 k) ∧ xR m' 536 65 = A + R ∧ (∀ a μ x L, 0 ≤ a → a < A → AW c m0 k M a μ x L → AW c m' k M a μ x L) ∧ ∀ i, 0 ≤ i → i < R → AW c m' k M (A + i) μ (g (xR m0 592 i)) (rl g (xR m0 592 i) (xR m0 592 (i + 1))) := by
  have QL := fun _ : Unit => q_l B q0
  have k8 := G.2.2.1
  have M8 := rm.cg.cn.2.1
  have sv : s = 590 ∨ s = 591 := by unfold two at tw; omega
  have nb := E.1
  intro N
  induction N with
  | zero => intro j m _ _ h; omega
  | succ N ih =>
    intro j m j0 j1 hN f h65 old v
    show ∃ m', yl296_57 B r11 (xl3 (yl296_57 B r11) N) q kx j m = _ ∧ _
    have IH := ih (j + 1)
    clear ih
    generalize xl3 (yl296_57 B r11) N = R57 at IH ⊢
    have fr : fRa r m := fRa_tr f0 ⟨fun x x1 _ _ x4 => f.1 x x1 (by omega), fun x x1 x2 _ _ _ => f.2 x x2⟩
    have x7 : xR m (q + 7) = xR r (q + 7) := xR_cg (fr.1 _ (by omega) (by omega) (by omega) (by omega))
    have x592 : xR m 592 = xR m0 592 := xR_cg (f.1 592 (by decide) (by decide))
    unfold yl296_57
    rw [xR_fld (f.2 61 (by decide)), hR]
    by_cases hx : j < R
    · have b1 := W.2.1 j j0 (by omega)
      have b2 := W.2.1 (j + 1) (by omega) (by omega)
      have b3 := W.2.2.1 j j0 hx
      obtain ⟨m1, e1, f1, h1, r1⟩ := arow_ok (B := B) (m := m) (a := xR m0 592 j) (b := xR m0 592 (j + 1)) (A := A + j) (μ := μ) dk rm G rc q0 hq N2 fr h19 tw (by rw [f.2 59 (by decide)]; exact e59) E (fun x x0 x1 => by rw [xR_cg (f.1 s (by omega) (by omega))]; exact hg x x0 x1) b1.1 (by omega) b2.2 μ0 μ1 (fun _ => b3) h65 (by omega) (by omega)
      rw [if_pos hx, if_pos (QL ()).1, (QL ()).2.1.2.2.2.2.2.2.1, (QL ()).2.2.2.2.2.2.2.2.2.1, if_pos ⟨kx0, kx1⟩, if_pos ((QL ()).2.2.1 7 (by decide) (by decide)), if_pos ⟨j0, by omega⟩, if_pos ⟨by omega, by omega⟩, x7, hμ, x592, e1, xB_ret, w32_id (x := j + 1) (by omega) (by omega)]
      refine IH m1 (by omega) (by omega) (by omega) ⟨fun a a1 a2 => by rw [f1.1 a a1 a2]; exact f.1 a a1 a2, fun i hi => by rw [f1.2.1 i hi]; exact f.2 i hi⟩ (by rw [h1]; omega) (fun a μ x L a0 a1 h => AW_fr k8.2 M8.2 f1 (by omega) (old a μ x L a0 a1 h)) (fun i i0 i1 => ?_)
      by_cases e : i = j
      · rw [e]; exact AW_r (by omega) r1
      · exact AW_fr k8.2 M8.2 f1 (by omega) (v i i0 (by omega))
    · rw [if_neg hx, w32_id (x := kx + 1) (by omega) (by omega)]
      have e : j = R := by omega
      rw [e] at h65 v
      exact ⟨m, rfl, f, h65, old, v⟩
end ANW
