/-! CHOOSE, by the reference, whole -/
section CRR
variable {B : Nat} {m m1 : xw_M} {c D M tu : Int} {K Rf : Int → Int} {Rv : Int → Int → Int}
theorem choose_rr {k : Int} (h : Inw B c m) (ho : xR m 536 2 = 1 ∧ xR m 536 3 = 0) (F : dsk B m D M tu K Rf Rv) (r : ram m D M tu K) (hk : 0 ≤ k ∧ k ≤ 16) (hV : mpw (xR m 538) D D.toNat ≤ 512) (h16 : xR m 536 39 < 100) (e : ∀ a, 536 ≤ a → a ≠ 604 → m1 a = m a) : ∃ (x : Int) (b Rs : Int → Int) (nb : Int), pkn (xR m 538) D (esf (xR m 538) D (fun d k => xR m 574 (4 * d + k)) (xR m 536 31)) (xR m 536 31) (mpw (xR m 538) D D.toNat).toNat k x ∧ (∀ i, 0 ≤ i → i < x → vbt m D M (pkf (xR m 538) D (esf (xR m 538) D (fun d k => xR m 574 (4 * d + k)) (xR m 536 31)) (xR m 536 31) (mpw (xR m 538) D D.toNat).toNat i.toNat) 0 (xR m 536 31) (Rs i) (b i)) ∧ nb = (if x = 0 then 0 else (8 + rsum b x.toNat + 4095) / 4096) ∧ ((∃ mz, yf330 B k m1 = some (.inl (-2), mz) ∧ full (xR m 587) (xR m 588) (xR m 536 52) B (fun e => !gz 0 1 (xR m 586 e)) nb ∧ crF m1 mz ∧ (∀ q, q = 3 ∨ q = 39 ∨ q = 40 ∨ q = 50 ∨ q = 51 ∨ q = 52 → mz 536 q = m 536 q) ∧ (∀ a, a = 579 ∨ a = 580 ∨ a = 586 ∨ a = 587 ∨ a = 588 → mz a = m a)) ∨ (∃ fi mz, ¬ full (xR m 587) (xR m 588) (xR m 536 52) B (fun e => !gz 0 1 (xR m 586 e)) nb ∧ 2 ≤ fi ∧ (0 < nb → isRoom (xR m 587) (xR m 588) (xR m 536 52) B nb fi ∧ cnt (fun e => !gz 0 1 (xR m 586 e)) (xR m 536 52).toNat < 200) ∧ crF m1 mz ∧ xR mz 536 39 = xR m 536 39 + 1 ∧ ((((xR m 536 51 < 0 ∨ nb + 1 ≤ xR m 536 51) ∧ xR mz 536 40 = x ∧ xR mz 536 50 = xR m 536 50 + nb + 1 ∧ xR mz 536 51 = (if xR m 536 51 < 0 then -1 else xR m 536 51 - (nb + 1)) ∧ led (xR m 586) (xR m 587) (xR m 588) (xR m 536 52) (fun e => !gz 0 1 (xR m 586 e)) nb 2 fi (xR mz 586) (xR mz 587) (xR mz 588) (xR mz 536 52) ∧ (∀ i, 0 ≤ i → i < x → xR mz 579 i = pkf (xR m 538) D (esf (xR m 538) D (fun d k => xR m 574 (4 * d + k)) (xR m 536 31)) (xR m 536 31) (mpw (xR m 538) D D.toNat).toNat i.toNat ∧ xR mz 580 i = Rs i) ∧ ((xR m 536 51 ≠ nb + 1 ∧ xR mz 536 3 = 0 ∧ yf330 B k m1 = some (.inl x, mz)) ∨ (xR m 536 51 = nb + 1 ∧ xR mz 536 3 = 1 ∧ ∃ m2, yf330 B k m1 = some (.inl (-3), m2) ∧ fgR mz m2))) ∨ ((1 ≤ xR m 536 51 ∧ xR m 536 51 ≤ nb) ∧ xR mz 536 40 = xR m 536 40 ∧ xR mz 536 50 = xR m 536 50 + xR m 536 51 ∧ xR mz 536 52 = (xR m 536 52) ∧ xR mz 536 3 = 1 ∧ (∀ a, a = 579 ∨ a = 580 ∨ a = 586 ∨ a = 587 ∨ a = 588 → mz a = m a) ∧ ∃ m2, yf330 B k m1 = some (.inl (-3), m2) ∧ fgR mz m2))))) := by
  have fb := h.cn.fb
  have sg := h.cn.sg
  have ba := h.cn.ba
  have ch := h.cn.ch
  have hw := h.cn.wr
  have hc2 := h.cc.2
  have fu := h.cn.fu ho.2
  obtain ⟨c1, c2, c3, c4⟩ := chs_of F r
  have e536 : m1 536 = m 536 := e 536 (by omega) (by omega)
  have df := df_eq F r
  have rh : rhs (xw_u m1 536 1 0) (xR m 538) D (xR m 536 31) (fun d k => xR m 574 (4 * d + k)) := ⟨c1, c2, by rw [xR_ne (by omega), xR_cg e536]; exact r.cg.r14, fun d _ _ => by rw [xR_cg (xu_c (by omega)), xR_cg (e 538 (by omega) (by omega))], by rw [xR_ne (by omega), xR_cg e536], by omega, fun d k d0 d1 k0 k1 => ⟨by rw [xR_cg (xu_c (by omega)), xR_cg (e 574 (by omega) (by omega))], (df d k d0 d1 k0 k1).2⟩⟩
  have rh1 : rhs m1 (xR m 538) D (xR m 536 31) (fun d k => xR m 574 (4 * d + k)) := ⟨c1, c2, by rw [xR_cg e536]; exact r.cg.r14, fun d _ _ => by rw [xR_cg (e 538 (by omega) (by omega))], by rw [xR_cg e536], by omega, fun d k d0 d1 k0 k1 => ⟨by rw [xR_cg (e 574 (by omega) (by omega))], (df d k d0 d1 k0 k1).2⟩⟩
  obtain ⟨x, m3, z3, f3, g3, x43, pn, v3⟩ := pick_r (B := B) rh hV hk
  have xb := pn.1
  have c3' : ∀ a, a ≠ 536 → a ≠ 581 → (a < 583 ∨ 585 < a) → m3 a = m1 a := fun a a1 a2 a3 => by rw [f3 a a1 a2 a3, xu_c a1]
  have d3 : ∀ q, q ≠ 43 → q ≠ 1 → m3 536 q = m 536 q := fun q q1 q2 => by rw [g3 q q1, xu_ne (by omega), e536]
  have cm : ∀ a, 537 ≤ a → a ≠ 581 → (a < 583 ∨ 585 < a) → a ≠ 604 → m3 a = m a := fun a a0 a1 a2 a3 => by rw [c3' a (by omega) a1 a2, e a (by omega) a3]
  have pkb : ∀ i, 0 ≤ i → i < x → 0 ≤ pkf (xR m 538) D (esf (xR m 538) D (fun d k => xR m 574 (4 * d + k)) (xR m 536 31)) (xR m 536 31) (mpw (xR m 538) D D.toNat).toNat i.toNat := fun i i0 i1 => by
    have q := pn.2.1 i i0 i1
    have q' := (bsf_b (fun v => bnf (xR m 538) D (esf (xR m 538) D (fun d k => xR m 574 (4 * d + k)) (xR m 536 31)) (cSf (xR m 538) D (esf (xR m 538) D (fun d k => xR m 574 (4 * d + k)) (xR m 536 31)) (xR m 536 31) (mpw (xR m 538) D D.toNat).toNat i.toNat) v (mpw (xR m 538) D D.toNat).toNat) (mpw (xR m 538) D D.toNat).toNat).1
    unfold pkf at q ⊢
    omega
  have start : yf330 B k m1 = xl2 (yl330_79 B) 1000000 (if x = 0 then 0 else 8) 0 m3 := by
    unfold yf330
    rw [if_neg (by omega), if_neg (by omega), isOpen_ok, xB_ret, xR_cg e536, isop ho, if_neg (by decide), views_rf rh1, xB_ret, if_neg (by omega), xR_cg e536, if_neg (by omega), z3, xB_ret, x43]
    by_cases hx : x = 0
    · rw [if_pos hx, if_pos hx]
    · rw [if_neg hx, if_neg hx]
  have rc1 : rca m1 D M 0 (xR m 536 31) := rca_of F ⟨m, r.cg⟩ h.pt e ⟨Int.le_refl _, fb.1, by omega⟩ (fun x d x0 x1 d0 d1 => by rw [Int.zero_add]; exact F.pl x d x0 x1 d0 d1)
  have rc3 : rca m3 D M 0 (xR m 536 31) := by
    obtain ⟨q1, q2, q3, q4, q5, q6, q7, q8⟩ := rc1
    exact ⟨q1, q2, by rw [xR_fld (d3 14 (by omega) (by omega)), ← xR_cg e536]; exact q3, by rw [xR_fld (d3 19 (by omega) (by omega)), ← xR_cg e536]; exact q4, by rw [xR_cg (c3' 538 (by omega) (by omega) (by omega))]; exact q5, q6, by rw [xR_cg (c3' 575 (by omega) (by omega) (by omega))]; exact q7, two_m q8 (by rw [d3 59 (by omega) (by omega), e536]) (by rw [d3 60 (by omega) (by omega), e536])⟩
  obtain ⟨b, Rs, nb, V, en, H⟩ := choose_rf (B := B) (m := m3) (D := D) (M := M) (n := xR m 536 31) (x := x) (pk := fun i => pkf (xR m 538) D (esf (xR m 538) D (fun d k => xR m 574 (4 * d + k)) (xR m 536 31)) (xR m 536 31) (mpw (xR m 538) D D.toNat).toNat i.toNat) (E := (xR m 536 52)) (lf := xR m 536 51) (wr := xR m 536 50) rc3 (by rw [xR_fld (g3 1 (by omega))]; exact xR_at (by decide)) (by rw [xR_fld (d3 3 (by omega) (by omega))]; exact ho.2) (xR_fld (d3 31 (by omega) (by omega))) (by rw [xR_fld (d3 39 (by omega) (by omega))]; omega) x43 (by omega) (fun i i0 i1 => ⟨v3 i i0 i1, pkb i i0 i1⟩) (by rw [xR_fld (d3 49 (by omega) (by omega))]; exact h.tp.2.1) h.bd.2 (xR_fld (d3 52 (by omega) (by omega))) (by rw [xR_cg (cm 587 (by omega) (by omega) (by omega) (by omega)), xR_cg (cm 588 (by omega) (by omega) (by omega) (by omega))]; exact F.ex) (xR_fld (d3 51 (by omega) (by omega))) (by omega) (by omega) (xR_fld (d3 50 (by omega) (by omega))) hw.2.1 (by omega)
  have rs3 : rsm m3 m (0 + xR m 536 31) := ⟨(cm 538 (by omega) (by omega) (by omega) (by omega)).symm, (cm 539 (by omega) (by omega) (by omega) (by omega)).symm, (cm 573 (by omega) (by omega) (by omega) (by omega)).symm, fun i _ _ => ⟨by rw [cm 575 (by omega) (by omega) (by omega) (by omega)], by rw [cm 576 (by omega) (by omega) (by omega) (by omega)]⟩⟩
  have cr : ∀ mz, crF m3 mz → crF m1 mz := fun mz ⟨q1, q2, q3, q4⟩ => ⟨fun a a1 a2 a3 => by rw [q1 a a1 a2 a3, c3' a a1 (by omega) (by omega)], fun q r1 r3 r39 r40 r43 r50 r51 r52 r57 r58 r59 r60 r61 => by rw [q2 q r1 r3 r39 r40 r43 r50 r51 r52 r57 r58 r59 r60 r61, d3 q r43 r1, e536], q3, q4⟩
  rw [← start, xR_cg (cm 586 (by omega) (by omega) (by omega) (by omega)), xR_cg (cm 587 (by omega) (by omega) (by omega) (by omega)), xR_cg (cm 588 (by omega) (by omega) (by omega) (by omega)), xR_fld (d3 39 (by omega) (by omega)), xR_fld (d3 40 (by omega) (by omega))] at H
  have cells : ∀ a, a = 579 ∨ a = 580 ∨ a = 586 ∨ a = 587 ∨ a = 588 → m3 a = m a := fun a ha => cm a (by omega) (by omega) (by omega) (by omega)
  refine ⟨x, b, Rs, nb, pn, fun i i0 i1 => vbt_m rs3 r.cg.cn.1 r.cg.cn.2.1 (Int.le_refl _) (Int.le_refl _) (V i i0 i1), en, ?_⟩
  rcases H with ⟨mz, z, fl, L, g1, g2⟩ | ⟨fi, mz, nf, fi2, room, L, x39, H⟩
  · exact Or.inl ⟨mz, z, fl, cr mz L, fun q hq => by rw [g1 q hq, d3 q (by omega) (by omega)], fun a ha => by rw [g2 a ha, cells a ha]⟩
  · refine Or.inr ⟨fi, mz, nf, fi2, room, cr mz L, x39, ?_⟩
    rcases H with H | ⟨hl, y40, y50, y52, y3, yc, H⟩
    · exact Or.inl H
    · exact Or.inr ⟨hl, y40, y50, y52, y3, fun a ha => by rw [yc a ha, cells a ha], H⟩
end CRR
