/-! THE ANSWER: both sides have the same rows in the same order; the reference's answer, whole -/
theorem kl_x {κ κ' : Int → Int → Int} : ∀ {j : Nat} {d a b a' b' : Int}, kl κ j d a b → (∀ e, d ≤ e → e < d + j → κ e a = κ' e a' ∧ κ e b = κ' e b') → (¬ ∀ e, d ≤ e → e < d + j → κ e a = κ e b) → kl κ' j d a' b' := by
  intro j
  induction j with
  | zero => intro d a b a' b' _ _ n; exact absurd (fun e h0 h1 => by omega) n
  | succ j ih =>
    intro d a b a' b' h c n
    obtain ⟨c1, c2⟩ := c d (Int.le_refl _) (by omega)
    rcases h with h | ⟨h, h'⟩
    · exact Or.inl (by rw [← c1, ← c2]; exact h)
    · refine Or.inr ⟨by rw [← c1, ← c2]; exact h, ih h' (fun e e0 e1 => c e (by omega) (by omega)) (fun z => n (fun e e0 e1 => ?_))⟩
      by_cases q : e = d
      · rw [q]; exact h
      · exact z e (by omega) (by omega)
section ORD
variable {B : Nat} {k S Sr it t n : Int} {c r m2 : xw_M} {q D M tu nc p : Int} {Kx Rf : Int → Int} {Rv : Int → Int → Int} {Mk : Int → Int}
theorem ord_same {A : Int} {xs ms o : Int → Int} {P : Int → Prop} (k8 : 0 ≤ k ∧ k ≤ 8) (H : HM Mk Sr k) (hc : MKs (xR c 228) S P) (hr : MKs Mk Sr P) (K : CAN m2 c t k it S n) (X : RWX c k Mk Sr A xs ms) (so : srt (fun g a => skey (fRF c (xs a)) (lsf c) (ms a) g) k.toNat o A) : n = A ∧ ∀ i, 0 ≤ i → i < n → (0 ≤ xR m2 (t + 37) i ∧ xR m2 (t + 37) i < n) ∧ (0 ≤ o i ∧ o i < A) ∧ ∀ g, 0 ≤ g → g < k → xR m2 (t + 4 + g) (xR m2 (t + 37) i) = skey (fRF c (xs (o i))) (lsf c) (ms (o i)) g := by
  obtain ⟨_, n0, K3, K4, K5, K6, _⟩ := K
  have le1 : A ≤ n := key_pig (κ := fun a g => skey (fRF c (xs a)) (lsf c) (ms a) g) (κ' := fun r g => xR m2 (t + 4 + g) r) (fun a a0 a1 => K5 _ (RWX_kv k8 H hc hr (Int.le_refl _) X a a0 a1)) X.2.2.1 n0.1
  have cv : ∀ r, 0 ≤ r → r < n → ∃ a, (0 ≤ a ∧ a < A) ∧ ∀ g, 0 ≤ g → g < k → skey (fRF c (xs a)) (lsf c) (ms a) g = xR m2 (t + 4 + g) r := fun r r0 r1 => RWX_cov k8 H hc hr X _ (K4 r r0 r1)
  have le2 : n ≤ A := key_pig (κ := fun r g => xR m2 (t + 4 + g) r) (κ' := fun a g => skey (fRF c (xs a)) (lsf c) (ms a) g) cv K3 X.1
  have en : n = A := by omega
  have ex : ∀ r : Int, ∃ a : Int, 0 ≤ r → r < n → (0 ≤ a ∧ a < A) ∧ ∀ g, 0 ≤ g → g < k → skey (fRF c (xs a)) (lsf c) (ms a) g = xR m2 (t + 4 + g) r := fun r => by
    by_cases h : 0 ≤ r ∧ r < n
    · obtain ⟨a, h1, h2⟩ := cv r h.1 h.2
      exact ⟨a, fun _ _ => ⟨h1, h2⟩⟩
    · exact ⟨0, fun h1 h2 => absurd ⟨h1, h2⟩ h⟩
  obtain ⟨φ, hφ⟩ := Classical.axiomOfChoice ex
  have ob := K6.1.1
  have s2 : srt (fun g a => skey (fRF c (xs a)) (lsf c) (ms a) g) k.toNat (fun i => φ (xR m2 (t + 37) i)) A := by
    rw [← en]
    refine ⟨⟨fun i i0 i1 => ?_, fun i j i0 i1 j0 j1 e => ?_⟩, fun a b a0 ab b1 => ?_⟩
    · have b := ob i i0 i1
      rw [en]; exact (hφ _ b.1 b.2).1
    · have bi := ob i i0 i1
      have bj := ob j j0 j1
      have e : φ (xR m2 (t + 37) i) = φ (xR m2 (t + 37) j) := e
      refine K6.1.2 i j i0 i1 j0 j1 (K3 _ _ bi.1 bi.2 bj.1 bj.2 (fun g g0 g1 => ?_))
      rw [← (hφ _ bi.1 bi.2).2 g g0 g1, ← (hφ _ bj.1 bj.2).2 g g0 g1, e]
    · have ba := ob a a0 (by omega)
      have bb := ob b (by omega) b1
      refine kl_x (K6.2 a b a0 ab b1) (fun e e0 e1 => ⟨((hφ _ ba.1 ba.2).2 e e0 (by omega)).symm, ((hφ _ bb.1 bb.2).2 e e0 (by omega)).symm⟩) (fun z => ?_)
      have := K3 _ _ ba.1 ba.2 bb.1 bb.2 (fun g g0 g1 => z g g0 (by omega))
      have := K6.1.2 a b a0 (by omega) (by omega) b1 this
      omega
  refine ⟨en, fun i i0 i1 => ?_⟩
  have b := ob i i0 i1
  have e : o i = φ (xR m2 (t + 37) i) := srt_uniq so s2 i i0 (by omega)
  obtain ⟨h1, h2⟩ := hφ _ b.1 b.2
  rw [e]
  exact ⟨b, h1, fun g g0 g1 => (h2 g g0 g1).symm⟩
/-- answer -/
theorem r_ans {m : xw_M} {n0 : Int} {P : Int → Prop} {κ0 : Int → Int → Int} (dk : dsk B c D M tu Kx Rf Rv) (rm : ram c D M tu Kx) (C : cgr c r D M) (G : GC c r q D k) (N : CDN c r q D nc k p) (rc : RC c r) (q0 : q = 544 ∨ q = 558) (hq : r 536 23 = q) (F0 : 0 ≤ xR c 536 31) (N2 : xR c 536 31 ≤ 20000) (H : HM (xR r (q + 7)) Sr k) (h9 : xR r q 9 = Sr) (S0 : 0 ≤ Sr) (S32 : Sr ≤ 32) (hc : MKs (xR c 228) S P) (hr : MKs (xR r (q + 7)) Sr P) (n1 : 0 ≤ n0) (n4 : n0 ≤ 4000) (cov : ∀ κ, KVc c k S κ → ∃ b, (0 ≤ b ∧ b < n0) ∧ ∀ g, 0 ≤ g → g < k → κ0 b g = κ g) (fm : fRh r m) (gs : GS c m) (tA : ∃ s t, twA s t ∧ r 536 73 = s ∧ r 536 74 = t) (nv : 0 ≤ xR r 536 40 ∧ xR r 536 40 ≤ 16) (vn : ∀ i, 0 ≤ i → i < xR r 536 40 → 0 ≤ xR r 579 i) : ∃ (m5 : xw_M) (A : Int) (xs ms o : Int → Int) (Ls : Int → List Int), yf296 B q m = some (.inl 0, m5) ∧ fRa r m5 ∧ GS c m5 ∧ RWX c k (xR r (q + 7)) Sr A xs ms ∧ A ≤ n0 ∧ RAN c m5 k M S A xs ms Ls ∧ (∃ s t, twA s t ∧ m5 536 73 = s ∧ m5 536 74 = t ∧ ∀ k, 0 ≤ k → k < A → xR m5 s k = o k) ∧ srt (fun g a => skey (fRF c (xs a)) (lsf c) (ms a) g) k.toNat o A ∧ xR m5 536 66 = (btb (fun i => fitr r q D k nc (xR r 579 i)) (xR r 580) (xR r 536 31) (xR r 536 40).toNat).1 := by
  have k8 := G.2.2.1
  have tb := tw2_b k8.1 k8.2
  have D8 := C.cn.1
  have tw : ∃ s t, two s t ∧ m 536 59 = s ∧ m 536 60 = t := by
    obtain ⟨g, s, t, n, ⟨h1, h2, h3⟩, _⟩ := gs
    exact ⟨s, t, h1, h2, h3⟩
  obtain ⟨m1, e1, f1, g1⟩ := gather_gs (B := B) dk rm N rc q0 hq F0 N2 (fRa_h fm) tw
  unfold yf296
  obtain ⟨NN, hNN⟩ : ∃ NN : Nat, NN = 1000000 := ⟨_, rfl⟩
  rw [e1, xB_ret, ← hNN]
  have f2 : fRw r (xw_u m1 536 65 0) := fRw_tr (fRw_tr (fRw_h fm) (fRw_h f1)) ⟨fun a a1 _ _ _ => xu_c a1, fun j _ j2 => xu_ne (by omega)⟩
  have g2 : GS c (xw_u m1 536 65 0) := by
    obtain ⟨g, s, t, n, ⟨h1, h2, h3⟩, h4, h5, h6⟩ := g1
    have sv : s = 590 ∨ s = 591 := by unfold two at h1; omega
    exact ⟨g, s, t, n, ⟨h1, by rw [xu_ne (by decide)]; exact h2, by rw [xu_ne (by decide)]; exact h3⟩, by rw [xR_fld (xu_ne (by decide))]; exact h4, h5, fun x x0 x1 => by rw [xR_cg (xu_c (by omega))]; exact h6 x x0 x1⟩
  obtain ⟨m3, A, xs, ms, Ls, e3, f3, g3, X, An, Y⟩ := ans_11 (B := B) (S := S) dk rm G rc q0 hq N2 C.r19 H h9 S32 hc hr n1 n4 cov NN 0 0 (fun _ => 0) (fun _ => 0) (fun _ => []) (xw_u m1 536 65 0) (Int.le_refl _) S0 (by omega) f2 g2 RWX_nil ⟨xR_at (by decide), fun a a0 a1 => by omega⟩
  rw [e3]
  have hm : ∀ a, 0 ≤ a → a < A → (0 ≤ ms a ∧ ms a < 256) ∧ (ms a ≠ 0 → 0 ≤ xs a ∧ xs a < xR c 536 31) := fun a a0 a1 => by
    obtain ⟨s, s1, s2, s3⟩ := X.2.1 a a0 a1
    have b := H.1 s s1.1 s1.2
    rw [s2]
    exact ⟨⟨b.1, by omega⟩, fun z => (s3 z).1⟩
  have fa := fRa_w f3
  obtain ⟨m4, o, e4, f4, oo, so⟩ := arng_ok (B := B) (m := m3) (N := k) (n := A) (q := q) (κ := fun g a => skey (fRF c (xs a)) (lsf c) (ms a) g) q0 (by rw [xR_cg (fa.1 q (by omega) (by omega) (by omega) (by omega))]; exact G.2.1) (bspc_ok dk rm G (fun a a0 a1 => (Y.2 a a0 a1).1) hm (by omega)) ⟨X.1, by omega⟩ Y.1 (by
    obtain ⟨s, t, h1, h2, h3⟩ := tA
    exact ⟨s, t, h1, by rw [f3.2 73 (by decide) (by decide)]; exact h2, by rw [f3.2 74 (by decide) (by decide)]; exact h3⟩)
  have fz : fRa r m4 := fRa_tr fa ⟨fun a a1 _ _ a4 => f4.1 a a1 (by omega) (by omega), fun j _ _ _ j4 j5 => f4.2 j j4 j5⟩
  have zq : ∀ j, 0 ≤ j → j ≤ 13 → xR m4 (q + j) = xR r (q + j) := fun j j0 j1 => xR_cg (fz.1 _ (by omega) (by omega) (by omega) (by omega))
  have zqq : xR m4 q = xR r q := xR_cg (fz.1 _ (by omega) (by omega) (by omega) (by omega))
  have z538 : xR m4 538 = xR r 538 := xR_cg (fz.1 538 (by decide) (by decide) (by decide) (by decide))
  have z579 : xR m4 579 = xR r 579 := xR_cg (fz.1 579 (by decide) (by decide) (by decide) (by decide))
  have z580 : xR m4 580 = xR r 580 := xR_cg (fz.1 580 (by decide) (by decide) (by decide) (by decide))
  have e6 := serve_ok (B := B) (m := m4) (q := q) (D := D) (k := k) (n := nc) (F := xR r 536 31) (nv := xR r 536 40) (rz := xR r 580) q0 D8.2 (by rw [xR_fld (fz.2 14 (by omega) (by omega) (by omega) (by omega) (by omega))]; exact C.r14) (fun d d0 d1 => by
    rw [z538, (C.sz d d0 d1).2.1]
    have := (C.cn.2.2.2.2.1 d d0 d1).2.1
    omega) (by rw [zqq]; exact G.2.1) k8.1 k8.2 (fun i i0 i1 => by
    rw [zq 4 (by decide) (by decide)]
    obtain ⟨ec, d, l, a1, a2, a3, a4, a5⟩ := G.2.2.2.1 i i0 i1
    have L4 := (rm.cg.cn.2.2.2.2.1 d a2 a3).2.1.2
    rw [ec, a1]; omega) (by rw [zqq]; exact N.1.2.1) N.1.2.2.1 N.1.2.2.2.1 (fun i i0 i1 => by
    rw [zq 9 (by decide) (by decide)]
    obtain ⟨ec, ⟨d, l, a1, a2, a3, a4, a5, _⟩, _⟩ := N.1.2.2.2.2 i i0 i1
    have L4 := (rm.cg.cn.2.2.2.2.1 d a2 a3).2.1.2
    rw [ec, a1]; omega) (by rw [xR_fld (fz.2 31 (by omega) (by omega) (by omega) (by omega) (by omega))]) (by rw [xR_fld (fz.2 40 (by omega) (by omega) (by omega) (by omega) (by omega))]) nv.1 nv.2 (fun i i0 i1 => by
    rw [z579, z580]
    exact ⟨⟨vn i i0 i1, (w32_cg (w32_xR r 579 i)).2⟩, rfl⟩)
  rw [e4, xB_ret, e6, xB_ret]
  have fitE : (fun i => fitr m4 q D k nc (xR m4 579 i)) = fun i => fitr r q D k nc (xR r 579 i) := by
    funext i
    unfold fitr
    rw [z538, z579, zq 4 (by decide) (by decide), zq 9 (by decide) (by decide)]
  rw [fitE]
  have si := btb_in (fit := fun i => fitr r q D k nc (xR r 579 i)) (rz := xR r 580) (F := xR r 536 31) (xR r 536 40).toNat
  generalize (btb (fun i => fitr r q D k nc (xR r 579 i)) (xR r 580) (xR r 536 31) (xR r 536 40).toNat).1 = src at si ⊢
  have sb : -1 ≤ src ∧ src < 2147483648 := by
    rcases si with h | ⟨h, _⟩
    · omega
    · omega
  have x6 : ∀ a, a ≠ 536 → xw_u m4 536 66 src a = m4 a := fun a ha => xu_c ha
  obtain ⟨s, t, h1, h2, h3, h4⟩ := oo
  have sv : s = 601 ∨ s = 602 := by unfold twA at h1; omega
  refine ⟨_, A, xs, ms, o, Ls, rfl, fRa_tr fz ⟨fun a a1 _ _ _ => x6 a a1, fun j _ _ j3 _ _ => xu_ne (by omega)⟩, ?_, X, An, ⟨by rw [xR_fld (xu_ne (by decide)), xR_fld (f4.2 65 (by decide) (by decide))]; exact Y.1, fun a a0 a1 => ⟨AW_s (fun y y0 y1 => by rw [x6 y (by omega)]; exact f4.1 y (by omega) (by omega) (by omega)) (Y.2 a a0 a1).1, (Y.2 a a0 a1).2⟩⟩, ⟨s, t, h1, by rw [xu_ne (by decide)]; exact h2, by rw [xu_ne (by decide)]; exact h3, fun j j0 j1 => by rw [xR_cg (x6 s (by omega))]; exact h4 j j0 j1⟩, so, xR_at (w32_id (by omega) (by omega))⟩
  obtain ⟨g, s, t, n, ⟨i1, i2, i3⟩, i4, i5, i6⟩ := g3
  have sv' : s = 590 ∨ s = 591 := by unfold two at i1; omega
  exact ⟨g, s, t, n, ⟨i1, by rw [xu_ne (by decide), f4.2 59 (by decide) (by decide)]; exact i2, by rw [xu_ne (by decide), f4.2 60 (by decide) (by decide)]; exact i3⟩, by rw [xR_fld (xu_ne (by decide)), xR_fld (f4.2 58 (by decide) (by decide))]; exact i4, i5, fun x x0 x1 => by rw [xR_cg (x6 s (by omega)), xR_cg (f4.1 s (by omega) (by omega) (by omega))]; exact i6 x x0 x1⟩
end ORD
