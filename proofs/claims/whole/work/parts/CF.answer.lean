/-! THE ANSWER, by the reference: all sets (answer, up to the order of its rows) -/
/-- the rows of the reference's answer -/
def RAN (c m : xw_M) (k M S A : Int) (xs ms : Int → Int) (Ls : Int → List Int) : Prop := xR m 536 65 = A ∧ ∀ a, 0 ≤ a → a < A → AW c m k M a (ms a) (xs a) (Ls a) ∧ (Ls a).Perm (kfs c k S (fun g => skey (fRF c (xs a)) (lsf c) (ms a) g))
section ANX
variable {B : Nat} {k S Sr : Int} {c r : xw_M} {q D M tu nc p : Int} {Kx Rf : Int → Int} {Rv : Int → Int → Int}
theorem RWX_le {kx A n0 : Int} {xs ms : Int → Int} {P : Int → Prop} {κ0 : Int → Int → Int} {Mk : Int → Int} (k8 : 0 ≤ k ∧ k ≤ 8) (H : HM Mk Sr k) (hc : MKs (xR c 228) S P) (hr : MKs Mk Sr P) (n1 : 0 ≤ n0) (cov : ∀ κ, KVc c k S κ → ∃ b, (0 ≤ b ∧ b < n0) ∧ ∀ g, 0 ≤ g → g < k → κ0 b g = κ g) (k1 : kx ≤ Sr) (X : RWX c k Mk kx A xs ms) : A ≤ n0 := key_pig (κ := fun a g => skey (fRF c (xs a)) (lsf c) (ms a) g) (κ' := κ0) (fun a a0 a1 => cov _ (RWX_kv k8 H hc hr k1 X a a0 a1)) X.2.2.1 n1
theorem ans_11 {n0 : Int} {P : Int → Prop} {κ0 : Int → Int → Int} (dk : dsk B c D M tu Kx Rf Rv) (rm : ram c D M tu Kx) (G : GC c r q D k) (rc : RC c r) (q0 : q = 544 ∨ q = 558) (hq : r 536 23 = q) (N2 : xR c 536 31 ≤ 20000) (h19 : xR r 536 19 = M) (H : HM (xR r (q + 7)) Sr k) (h9 : xR r q 9 = Sr) (S32 : Sr ≤ 32) (hc : MKs (xR c 228) S P) (hr : MKs (xR r (q + 7)) Sr P) (n1 : 0 ≤ n0) (n4 : n0 ≤ 4000) (cov : ∀ κ, KVc c k S κ → ∃ b, (0 ≤ b ∧ b < n0) ∧ ∀ g, 0 ≤ g → g < k → κ0 b g = κ g) : ∀ (N : Nat) (kx A : Int) (xs ms : Int → Int) (Ls : Int → List Int) (m : xw_M), 0 ≤ kx → kx ≤ Sr → (Sr - kx).toNat < N → fRw r m → GS c m → RWX c k (xR r (q + 7)) kx A xs ms → RAN c m k M S A xs ms Ls → ∃ (m' : xw_M) (A : Int) (xs ms : Int → Int) (Ls : Int → List Int), xl2 (yl296_11 B) N q kx m = (xB (yf298 B q m') fun _ m3 => xB (yf300 B q m3) fun v4 m4 => some (.inl 0, (xw_u m4 536 66 v4))) ∧ fRw r m' ∧ GS c m' ∧ RWX c k (xR r (q + 7)) Sr A xs ms ∧ A ≤ n0 ∧ RAN c m' k M S A xs ms Ls := by
  have QL := fun _ : Unit => q_l B q0
  have k8 := G.2.2.1
  have M8 := rm.cg.cn.2.1
  have tb := tw2_b k8.1 k8.2
  intro N
  induction N with
  | zero => intro kx A xs ms Ls m _ _ h; omega
  | succ N ih =>
    intro kx A xs ms Ls m k0 k1 hN f gs X Y
    show ∃ (m' : xw_M) (A : Int) (xs ms : Int → Int) (Ls : Int → List Int), yl296_11 B (xl2 (yl296_11 B) N) q kx m = _ ∧ _
    have IH := ih (kx + 1)
    clear ih
    generalize xl2 (yl296_11 B) N = R11 at IH ⊢
    have fa := fRa_w f
    have xq : xR m q = xR r q := xR_cg (fa.1 q (by omega) (by omega) (by omega) (by omega))
    have x7 : xR m (q + 7) = xR r (q + 7) := xR_cg (fa.1 _ (by omega) (by omega) (by omega) (by omega))
    have A0 := X.1
    unfold yl296_11
    rw [if_pos (QL ()).1, xq, h9]
    by_cases hx : kx < Sr
    · have mb := H.1 kx k0 hx
      rw [if_pos hx, (QL ()).2.1.2.2.2.2.2.2.1, (QL ()).2.2.2.2.2.2.2.2.2.1, if_pos ⟨k0, by omega⟩, if_pos ((QL ()).2.2.1 7 (by decide) (by decide)), x7]
      obtain ⟨g, s, t, n, ⟨tw, e59, e60⟩, e58, E, hg⟩ := gs
      have sv : (s = 590 ∨ s = 591) ∧ (t = 590 ∨ t = 591) := by unfold two at tw; omega
      by_cases z : xR r (q + 7) kx = 0
      · have X' := RWX_zero (x := g 0) dk rm G H k0 hx z X
        have le := RWX_le (c := c) k8 H hc hr n1 cov (by omega) X'
        obtain ⟨m1, e1, f1, h1, r1⟩ := arow_ok (B := B) (m := m) (a := 0) (b := n) (A := A) (μ := 0) dk rm G rc q0 hq N2 fa h19 tw e59 E hg (Int.le_refl _) E.1.1 (Int.le_refl _) (by decide) (by decide) (fun h => absurd rfl h) Y.1 A0 (by omega)
        rw [if_pos z, e58, e1, xB_ret, w32_id (x := kx + 1) (by omega) (by omega)]
        refine IH (A + 1) _ _ (fun a => if a < A then Ls a else rl g 0 n) m1 (by omega) (by omega) (by omega) (fRw_tr f (fRw_a f1)) ⟨g, s, t, n, ⟨tw, by rw [f1.2.1 59 (by decide)]; exact e59, by rw [f1.2.1 60 (by decide)]; exact e60⟩, by rw [xR_fld (f1.2.1 58 (by decide))]; exact e58, E, fun x x0 x1 => by rw [xR_cg (f1.1 s (by omega) (by omega))]; exact hg x x0 x1⟩ X' ⟨h1, fun a a0 a1 => ?_⟩
        by_cases qa : a < A
        · simp only [if_pos qa]
          obtain ⟨y1, y2⟩ := Y.2 a a0 qa
          exact ⟨AW_fr k8.2 M8.2 f1 (by omega) y1, y2⟩
        · simp only [if_neg qa]
          have ea : a = A := by omega
          rw [ea]
          exact ⟨AW_r E.1.1 r1, row_k0 k8 hc hr k0 hx z E⟩
      · obtain ⟨m1, g', s', t', e1, sf1, ⟨tw', e59', e60'⟩, E', hg', W⟩ := sort_r (B := B) (μ := xR r (q + 7) kx) dk rm G rc q0 hq N2 fa tw e59 e60 e58 E hg mb.1 (by omega)
        have sv' : (s' = 590 ∨ s' = 591) ∧ (t' = 590 ∨ t' = 591) := by unfold two at tw'; omega
        have X' := RWX_add dk rm G H k0 hx rfl z E' W X
        have le := RWX_le (c := c) k8 H hc hr n1 cov (by omega) X'
        have fh := fRh_s sf1
        obtain ⟨NN, hNN⟩ : ∃ NN : Nat, NN = 1000000 := ⟨_, rfl⟩
        rw [if_neg z, e1, xB_ret, ← hNN]
        have R0 := W.1
        have nn := E'.1
        obtain ⟨m2, e2, f2, h2, o2, v2⟩ := ans_57 (B := B) (m0 := m1) (A := A) (μ := xR r (q + 7) kx) (kx := kx) (r11 := R11) dk rm G rc q0 hq N2 (fRa_tr fa (fRa_h fh)) h19 tw' e59' E' hg' rfl W k0 (by omega) rfl mb.1 (by omega) A0 (by omega) NN 0 m1 (Int.le_refl _) R0.1 (by omega) ⟨fun _ _ _ => rfl, fun _ _ => rfl⟩ (by rw [xR_fld (fh.2 65 (by decide)), Y.1]; omega) (fun _ _ _ _ _ _ h => h) (fun i i0 i1 => by omega)
        rw [e2]
        have fw : fRw m1 m2 := ⟨fun a a1 _ _ a4 => f2.1 a a1 a4, fun i _ i2 => f2.2 i i2⟩
        refine IH (A + xR m1 536 61) _ _ (fun a => if a < A then Ls a else rl g' (xR m1 592 (a - A)) (xR m1 592 (a - A + 1))) m2 (by omega) (by omega) (by omega) (fRw_tr f (fRw_tr (fRw_h fh) fw)) ⟨g', s', t', n, ⟨tw', by rw [f2.2 59 (by decide)]; exact e59', by rw [f2.2 60 (by decide)]; exact e60'⟩, by rw [xR_fld (f2.2 58 (by decide)), xR_fld (sf1.2 58 (by decide) (by decide) (by decide))]; exact e58, E', fun x x0 x1 => by rw [xR_cg (f2.1 s' (by omega) (by omega))]; exact hg' x x0 x1⟩ X' ⟨h2, fun a a0 a1 => ?_⟩
        by_cases qa : a < A
        · simp only [if_pos qa]
          obtain ⟨y1, y2⟩ := Y.2 a a0 qa
          exact ⟨o2 a _ _ _ a0 qa (AW_s (fun y y0 y1' => fh.1 y (by omega) (by omega) (by omega)) y1), y2⟩
        · simp only [if_neg qa]
          have v := v2 (a - A) (by omega) (by omega)
          rw [show A + (a - A) = a by omega] at v
          exact ⟨v, row_kf dk rm G H hc hr k0 hx rfl z E' W (by omega) (by omega)⟩
    · rw [if_neg hx]
      have ek : kx = Sr := by omega
      rw [ek] at X
      exact ⟨m, A, xs, ms, Ls, rfl, f, gs, X, RWX_le (c := c) k8 H hc hr n1 cov (Int.le_refl _) X, Y⟩
end ANX
