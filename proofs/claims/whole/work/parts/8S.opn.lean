/-! OPEN: weights, the reference arranges all members, sizes -/
/-- the sizes of names of the class's catalog in w are the reference's in m -/
def nm2 (w m : xw_M) (D M : Int) : Prop := xR m 536 14 = D ∧ xR m 536 19 = M ∧ (∀ d, 0 ≤ d → d < D → xR m 538 d = xR w (15 + 26 * d) 10 ∧ xR m 539 d = xR w (15 + 26 * d) 11 ∧ xR m 543 d = xR w (15 + 26 * d) 9 ∧ ∀ l, 0 ≤ l → l < xR w (15 + 26 * d) 10 → xR m 543 (8 + 4 * d + l) = xR w (15 + 26 * d + 7) l) ∧ ∀ k, 0 ≤ k → k < M → xR m 543 (40 + k) = xR w 14 k
theorem cgr_nm2 {w m : xw_M} {D M : Int} (h : cgr w m D M) : nm2 w m D M := ⟨h.r14, h.r19, fun d d0 d1 => by
  obtain ⟨s1, s2, s3, s4, s5, s6⟩ := h.sz d d0 d1
  exact ⟨s2, s3, s4, fun l l0 l1 => (s6 l l0 l1).1⟩, fun k k0 k1 => (h.ms k k0 k1).1⟩
section OPN
variable {B : Nat} {m w : xw_M} {D M : Int}
theorem cweight_w (hc : ctn w D M) (hs : nm2 w m D M) : yf304 B m = some (.inl (8 + dsm w D.toNat + msm w M.toNat), m) := by
  obtain ⟨h14, h19, hd, hm⟩ := hs
  have hD := hc.1
  have hM := hc.2.1
  have dl := dsm_le hc
  have ml := msm_le hc
  unfold yf304
  generalize hN : (1000000 : Nat) = N
  have goal := xH_ex (Q := fun v m' => m' = m ∧ v = 8 + dsm w D.toNat + msm w M.toNat) (xl2_rule (F := yl304_5 B) (fun y1 x m' => m' = m ∧ 0 ≤ x ∧ x ≤ D ∧ y1 = 8 + dsm w x.toNat) (fun _ x _ => (D - x).toNat) ?_ N 8 0 m ⟨rfl, by omega, hD.1, rfl⟩ (by omega))
  · obtain ⟨v, m', e, rfl, h⟩ := goal
    rw [e, h]
  · intro r y1 x m' ⟨b1, x0, x1, b2⟩ ih
    subst b1
    unfold yl304_5
    rw [h14]
    have dx := dl x.toNat (by omega)
    have dx0 := dsm_nn hc x.toNat 0 (by omega)
    rw [Nat.zero_add, show dsm w 0 = 0 from rfl] at dx0
    by_cases hx : x < D
    · obtain ⟨k1, k2, k3, k4⟩ := hd x x0 hx
      obtain ⟨a1, a2, a3, a4⟩ := hc.2.2.2.2.1 x x0 hx
      obtain ⟨sz, hsz⟩ : ∃ sz, sz = xR w (15 + 26 * x) 9 := ⟨_, rfl⟩
      obtain ⟨L, hL⟩ : ∃ L, L = xR w (15 + 26 * x) 10 := ⟨_, rfl⟩
      obtain ⟨n, hn⟩ : ∃ n, n = xR w (15 + 26 * x) 11 := ⟨_, rfl⟩
      obtain ⟨ls, hls⟩ : ∃ ls, ls = xR w (15 + 26 * x + 7) := ⟨_, rfl⟩
      have hdm : dmB w x = 4 + sz + lwB ls n L.toNat := by rw [hsz, hL, hn, hls]; rfl
      rw [← hsz] at k3 a1
      rw [← hL] at k1 k4 a2 a4
      rw [← hn] at k2 a3
      rw [← hls] at k4 a4
      rw [if_pos hx, if_pos ⟨x0, by omega⟩, k3, w32_id (by omega) (by omega)]
      generalize hN' : (1000000 : Nat) = N'
      refine xl3_rule (F := yl304_26 B r) (fun z1 z2 i m2 => m2 = m' ∧ z2 = x ∧ 0 ≤ i ∧ i ≤ L ∧ z1 = y1 + (4 + sz) + lwB ls n i.toNat) (fun _ _ i _ => (L - i).toNat) ?_ N' _ x 0 m' ⟨rfl, rfl, by omega, a2.1, by show _ = y1 + (4 + sz) + 0; omega⟩ (by omega)
      intro r' z1 z2 i m2 ⟨c1, c2, i0, i1, c3⟩ ih'
      subst c1 c2
      have lb := lwB_le (ls := ls) (n := n) a3.2 (L := i.toNat) (fun l hl => (a4 l (by omega) (by omega)).2)
      have lb0 := lwB_mono (ls := ls) a3.1 (L := L.toNat) (fun l hl => (a4 l (by omega) (by omega)).1) i.toNat 0 (by omega)
      rw [Nat.zero_add, show lwB ls n 0 = 0 from rfl] at lb0
      unfold yl304_26
      rw [if_pos ⟨x0, by omega⟩, k1, k2]
      by_cases hi : i < L
      · have q := k4 i i0 hi
        have q2 := a4 i i0 hi
        rw [if_pos hi, if_pos ⟨by omega, by omega⟩, q, w32_id (by omega) (by omega), w32_id (by omega) (by omega)]
        refine ih' _ _ _ _ ⟨rfl, rfl, by omega, by omega, ?_⟩ (by omega)
        rw [show (i + 1).toNat = i.toNat + 1 from by omega]
        show _ = y1 + (4 + sz) + (lwB ls n i.toNat + (1 + ls ((i.toNat : Nat) : Int) + 4 * n))
        rw [Int.toNat_of_nonneg i0]
        omega
      · have ei : i = L := by omega
        rw [if_neg hi, w32_id (by omega) (by omega)]
        refine ih _ _ _ ⟨rfl, by omega, by omega, ?_⟩ (by omega)
        rw [show (z2 + 1).toNat = z2.toNat + 1 from by omega]
        show _ = 8 + (dsm w z2.toNat + dmB w ((z2.toNat : Nat) : Int))
        rw [Int.toNat_of_nonneg x0, hdm, ← ei]
        omega
    · have ex : x = D := by omega
      rw [if_neg hx]
      generalize hN' : (1000000 : Nat) = N'
      refine xl2_rule (F := yl304_77 B) (fun z1 k m2 => m2 = m' ∧ 0 ≤ k ∧ k ≤ M ∧ z1 = y1 + msm w k.toNat) (fun _ k _ => (M - k).toNat) ?_ N' y1 0 m' ⟨rfl, by omega, hM.1, by show _ = y1 + 0; omega⟩ (by omega)
      intro r' z1 k m2 ⟨c1, k0, k1, c2⟩ ih'
      subst c1
      have mk := ml k.toNat (by omega)
      have mk0 := msm_nn hc k.toNat 0 (by omega)
      rw [Nat.zero_add, show msm w 0 = 0 from rfl] at mk0
      unfold yl304_77
      rw [h19]
      by_cases hk : k < M
      · have q := hm k k0 hk
        have q2 := hc.2.2.2.2.2 k k0 hk
        rw [if_pos hk, if_pos ⟨by omega, by omega⟩, q, w32_id (by omega) (by omega), w32_id (by omega) (by omega)]
        refine ih' _ _ _ ⟨rfl, by omega, by omega, ?_⟩ (by omega)
        rw [show (k + 1).toNat = k.toNat + 1 from by omega]
        show _ = y1 + (msm w k.toNat + (1 + xR w 14 ((k.toNat : Nat) : Int)))
        rw [Int.toNat_of_nonneg k0]
        omega
      · have ek : k = M := by omega
        rw [if_neg hk, xH_ret]
        exact ⟨rfl, by rw [c2, b2, ex, ek]⟩
theorem sizes_ok : ∀ d k : Fin 9, xw_iorf ((d : Nat) : Int) (xw_ishlf ((k : Nat) : Int) 8) = ((d : Nat) : Int) + 256 * ((k : Nat) : Int) := by decide +kernel
theorem sizes_eq (hD : 0 ≤ D ∧ D ≤ 8) (hM : 0 ≤ M ∧ M ≤ 8) (h1 : xR m 3 1 = D) (h2 : xR m 3 2 = M) : yf149 B m = some (.inl (D + 256 * M), m) := by
  have q := sizes_ok ⟨D.toNat, by omega⟩ ⟨M.toNat, by omega⟩
  have e1 : ((D.toNat : Nat) : Int) = D := by omega
  have e2 : ((M.toNat : Nat) : Int) = M := by omega
  have q' : xw_iorf ((D.toNat : Nat) : Int) (xw_ishlf ((M.toNat : Nat) : Int) 8) = ((D.toNat : Nat) : Int) + 256 * ((M.toNat : Nat) : Int) := q
  rw [e1, e2] at q'
  unfold yf149
  rw [h1, h2, q']
/-- dimension d of the reference in m', arranged, out of that in m -/
def rarr (m m' : xw_M) (d : Int) : Prop := (∃ π, prm π (xR m 539 d) ∧ ∀ l p, 0 ≤ l → l < 4 → 0 ≤ p → p < xR m 539 d → xR m' 540 (4000 * d + 4 * p + l) = xR m 540 (4000 * d + 4 * π p + l)) ∧ (∀ a b, 0 ≤ a → a < b → b < xR m 539 d → xR m' 540 (4000 * d + 4 * a + 0) ≤ xR m' 540 (4000 * d + 4 * b + 0)) ∧ ∀ l, 0 ≤ l → l < xR m 538 d → ∃ u, RK (fun p => xR m' 540 (4000 * d + 4 * p + l)) (xR m 539 d) (xR m' 574 (4 * d + l)) u (fun p => xR m' 573 (4000 * d + 4 * p + l))
theorem rarr_cg {m1 m2 : xw_M} {d : Int} (d0 : 0 ≤ d) (hn : xR m 539 d ≤ 1000) (hL : xR m 538 d ≤ 4) (h : rarr m m1 d) (e : ∀ k, 4000 * d ≤ k → k < 4000 * d + 4000 → m2 540 k = m1 540 k ∧ m2 573 k = m1 573 k) (e2 : ∀ k, 4 * d ≤ k → k < 4 * d + 4 → m2 574 k = m1 574 k) : rarr m m2 d := by
  obtain ⟨⟨π, p1, p2⟩, s, k⟩ := h
  refine ⟨⟨π, p1, fun l p l0 l1 p0 p1' => ?_⟩, fun a b a0 ab b1 => ?_, fun l l0 l1 => ?_⟩
  · rw [xR_fld (e _ (by omega) (by omega)).1]; exact p2 l p l0 l1 p0 p1'
  · rw [xR_fld (e (4000 * d + 4 * a + 0) (by omega) (by omega)).1, xR_fld (e (4000 * d + 4 * b + 0) (by omega) (by omega)).1]; exact s a b a0 ab b1
  · obtain ⟨u, k1, k2, k3, k4⟩ := k l l0 l1
    have ev : ∀ i, 0 ≤ i → i < xR m 539 d → xR m2 540 (4000 * d + 4 * i + l) = xR m1 540 (4000 * d + 4 * i + l) ∧ xR m2 573 (4000 * d + 4 * i + l) = xR m1 573 (4000 * d + 4 * i + l) := fun i i0 i1 => ⟨xR_fld (e _ (by omega) (by omega)).1, xR_fld (e _ (by omega) (by omega)).2⟩
    have ek : xR m2 574 (4 * d + l) = xR m1 574 (4 * d + l) := xR_fld (e2 _ (by omega) (by omega))
    rw [ek]
    refine ⟨u, k1, k2, fun i i0 i1 => ?_, fun a a0 a1 => ?_⟩
    · show (0 ≤ xR m2 573 (4000 * d + 4 * i + l) ∧ xR m2 573 (4000 * d + 4 * i + l) < xR m1 574 (4 * d + l)) ∧ u (xR m2 573 (4000 * d + 4 * i + l)) = xR m2 540 (4000 * d + 4 * i + l)
      rw [(ev i i0 i1).1, (ev i i0 i1).2]; exact k3 i i0 i1
    · obtain ⟨i, hi, q⟩ := k4 a a0 a1
      exact ⟨i, hi, by show xR m2 540 (4000 * d + 4 * i + l) = u a; rw [(ev i hi.1 hi.2).1]; exact q⟩
/-- the reference arranges all dimensions -/
theorem rsettle_all {x2 : Int} (hD : 0 ≤ D ∧ D ≤ 8) (h14 : xR m 536 14 = D) (hn : ∀ d, 0 ≤ d → d < D → (0 ≤ xR m 539 d ∧ xR m 539 d ≤ 1000) ∧ 0 ≤ xR m 538 d ∧ xR m 538 d ≤ 4) {Q : Int → xw_M → Prop} {X : Nat → xw_M → Prop} (fin : ∀ m', (∀ a, a ≠ 540 → a ≠ 573 → a ≠ 574 → a ≠ 594 → m' a = m a) → (∀ d, 0 ≤ d → d < D → rarr m m' d) → xH (yk303_136 B x2 m') Q X) : xH (xl2 (yl303_117 B) 1000000 x2 0 m) Q X := by
  have gen : ∀ N : Nat, 100 < N → xH (xl2 (yl303_117 B) N x2 0 m) Q X := by
    intro N hN
    refine xl2_rule (F := yl303_117 B) (fun y2 x m' => y2 = x2 ∧ (0 ≤ x ∧ x ≤ D) ∧ (∀ a, a ≠ 540 → a ≠ 573 → a ≠ 574 → a ≠ 594 → m' a = m a) ∧ (∀ d, 0 ≤ d → d < x → rarr m m' d) ∧ ∀ k, 4000 * x ≤ k → m' 540 k = m 540 k) (fun _ x _ => (D - x).toNat) ?_ N x2 0 m ⟨rfl, ⟨Int.le_refl _, hD.1⟩, fun _ _ _ _ _ => rfl, fun d d0 d1 => absurd d1 (Int.not_lt.mpr d0), fun _ _ => rfl⟩ (by omega)
    intro r y2 x m' ⟨e, hx, f1, f2, f3⟩ ih
    subst e
    unfold yl303_117
    rw [xR_cg (f1 536 (by omega) (by omega) (by omega) (by omega)), h14]
    by_cases h : x < D
    · obtain ⟨n1, n2⟩ := hn x hx.1 h
      have q9 : xR m' 539 = xR m 539 := xR_cg (f1 539 (by omega) (by omega) (by omega) (by omega))
      have q8 : xR m' 538 = xR m 538 := xR_cg (f1 538 (by omega) (by omega) (by omega) (by omega))
      obtain ⟨m1, π, z, fm, p1, p2, p3, p4⟩ := rsettle_ok (B := B) (m := m') (d := x) (n := xR m 539 x) (L := xR m 538 x) ⟨hx.1, by omega⟩ n1 n2 (by rw [q9]) (by rw [q8])
      rw [if_pos h, z, xB_ret, w32_id (by omega) (by omega)]
      refine ih _ _ _ ⟨rfl, ⟨by omega, by omega⟩, fun a a1 a2 a3 a4 => by rw [fm.1 a a1 a2 a3 a4]; exact f1 a a1 a2 a3 a4, fun d d0 d1 => ?_, fun k hk => by rw [(fm.2.1 k (by omega)).1]; exact f3 k (by omega)⟩ (by omega)
      by_cases ed : d = x
      · subst ed
        refine ⟨⟨π, p1, fun l p l0 l1 p0 p1' => ?_⟩, p3, p4⟩
        have pp := p1.1 p p0 p1'
        rw [p2 l p l0 l1 p0 p1', xR_fld (f3 (4000 * d + 4 * π p + l) (by omega))]
      · have hd := hn d d0 (by omega)
        exact rarr_cg d0 hd.1.2 hd.2.2 (f2 d d0 (by omega)) (fun k k0 k1 => fm.2.1 k (by omega)) (fun k k0 k1 => fm.2.2 k (by omega))
    · rw [if_neg h]
      have ex : x = D := by omega
      subst ex
      exact fin m' f1 f2
  exact gen 1000000 (by decide)
end OPN
