/-! THE STORE'S INVARIANT: what class (cells below 536) and reference (536 and on) have in common between calls -/
/-- the reference's facts below N, its levels, members and ranks are the same -/
def rsm (m m' : xw_M) (N : Int) : Prop := m' 538 = m 538 ∧ m' 539 = m 539 ∧ m' 573 = m 573 ∧ ∀ i, 0 ≤ i → i < 8 * N → m' 575 i = m 575 i ∧ m' 576 i = m 576 i
/-- the facts f .. f + n - 1 as a part on words, from q to qe -/
def fps (W : Int → Int) (m : xw_M) (D M f n q qe : Int) : Prop := ∃ o, srt (pk m f) D.toNat o n ∧ qe = q + 8 * partB (rT m D f o) n (D + M).toNat ∧ Part W q n (D + M).toNat (rT m D f o)
/-- the views vs of these facts as parts on words -/
def vps (W : Int → Int) (m : xw_M) (D M f n k : Int) (vs Rs : Int → Int) (q qe : Int) : Prop := ∃ (Os Ss : Int → Int → Int) (Q : Int → Int), Q 0 = q ∧ Q k = qe ∧ ∀ i, 0 ≤ i → i < k → vrr m D (vs i) f n (Os i) (Ss i) (Rs i) ∧ Q (i + 1) = Q i + 8 * partB (rV m D (vs i) f (Os i) (Ss i)) (Rs i) (rP m D (vs i) + 1 + 3 * M).toNat ∧ Part W (Q i) (Rs i) (rP m D (vs i) + 1 + 3 * M).toNat (rV m D (vs i) f (Os i) (Ss i))
/-- an extent of facts (2, 4) or of a choice (3) -/
def xtn (W : Int → Int) (m : xw_M) (D M K s ln f n k : Int) (vs Rs : Int → Int) (v : Prop) : Prop := ∃ q, ((K = 2 ∨ K = 4) → fps W m D M f n (s * 32768 + 64) q) ∧ (¬ (K = 2 ∨ K = 4) → q = s * 32768 + 64) ∧ q ≤ (s + ln) * 32768 ∧ (v → ∃ qe, vps W m D M (if K = 3 then 0 else f) (if K = 3 then f else n) k vs Rs q qe ∧ qe ≤ (s + ln) * 32768)
/-- a view's rows in all extents from the last choice on -/
def rws (K : Int → Int) (Rv : Int → Int → Int) (i : Int) : Nat → Int
  | 0 => 0
  | e + 1 => (if K e = 3 then 0 else rws K Rv i e) + (if K e = 1 then 0 else Rv e i)
/-- the class's catalog in w is the reference's in m, but for the members' order -/
def cgr (w m : xw_M) (D M : Int) : Prop := (ctn w D M) ∧ (nm8 w D ∧ ∀ k i, 0 ≤ k → k < M → 0 ≤ i → i < xR w 14 k → w8 (xR w (6 + k) i) = xR w (6 + k) i) ∧ (xR m 536 14 = D) ∧ (xR m 536 19 = M) ∧ (∀ d, 0 ≤ d → d < D → 1 ≤ xR w (15 + 26 * d) 10 ∧ xR m 538 d = xR w (15 + 26 * d) 10 ∧ xR m 539 d = xR w (15 + 26 * d) 11 ∧ xR m 543 d = xR w (15 + 26 * d) 9 ∧ (∀ i, 0 ≤ i → i < xR w (15 + 26 * d) 9 → xR w (15 + 26 * d + 1) i = xR m 542 (40 * d + i)) ∧ ∀ l, 0 ≤ l → l < xR w (15 + 26 * d) 10 → xR m 543 (8 + 4 * d + l) = xR w (15 + 26 * d + 7) l ∧ ∀ i, 0 ≤ i → i < xR w (15 + 26 * d + 7) l → xR w (15 + 26 * d + 3 + l) i = xR m 542 (40 * (8 + 4 * d + l) + i)) ∧ (∀ k, 0 ≤ k → k < M → xR m 543 (40 + k) = xR w 14 k ∧ ∀ i, 0 ≤ i → i < xR w 14 k → xR w (6 + k) i = xR m 542 (40 * (40 + k) + i))
theorem cgr.cn {w m : xw_M} {D M : Int} (h : cgr w m D M) : ctn w D M := h.1
theorem cgr.b8 {w m : xw_M} {D M : Int} (h : cgr w m D M) : nm8 w D ∧ ∀ k i, 0 ≤ k → k < M → 0 ≤ i → i < xR w 14 k → w8 (xR w (6 + k) i) = xR w (6 + k) i := h.2.1
theorem cgr.r14 {w m : xw_M} {D M : Int} (h : cgr w m D M) : xR m 536 14 = D := h.2.2.1
theorem cgr.r19 {w m : xw_M} {D M : Int} (h : cgr w m D M) : xR m 536 19 = M := h.2.2.2.1
theorem cgr.sz {w m : xw_M} {D M : Int} (h : cgr w m D M) : ∀ d, 0 ≤ d → d < D → 1 ≤ xR w (15 + 26 * d) 10 ∧ xR m 538 d = xR w (15 + 26 * d) 10 ∧ xR m 539 d = xR w (15 + 26 * d) 11 ∧ xR m 543 d = xR w (15 + 26 * d) 9 ∧ (∀ i, 0 ≤ i → i < xR w (15 + 26 * d) 9 → xR w (15 + 26 * d + 1) i = xR m 542 (40 * d + i)) ∧ ∀ l, 0 ≤ l → l < xR w (15 + 26 * d) 10 → xR m 543 (8 + 4 * d + l) = xR w (15 + 26 * d + 7) l ∧ ∀ i, 0 ≤ i → i < xR w (15 + 26 * d + 7) l → xR w (15 + 26 * d + 3 + l) i = xR m 542 (40 * (8 + 4 * d + l) + i) := h.2.2.2.2.1
theorem cgr.ms {w m : xw_M} {D M : Int} (h : cgr w m D M) : ∀ k, 0 ≤ k → k < M → xR m 543 (40 + k) = xR w 14 k ∧ ∀ i, 0 ≤ i → i < xR w 14 k → xR w (6 + k) i = xR m 542 (40 * (40 + k) + i) := h.2.2.2.2.2
/-- the members' values are the same, in order by level 0 -/
def vls (w m : xw_M) (D : Int) : Prop := ∀ d, 0 ≤ d → d < D → (∀ l p, 0 ≤ l → l < xR w (15 + 26 * d) 10 → 0 ≤ p → p < xR w (15 + 26 * d) 11 → xR w (15 + 26 * d + 9 + l) p = xR m 540 (4000 * d + 4 * p + l)) ∧ ∀ p p', 0 ≤ p → p < p' → p' < xR w (15 + 26 * d) 11 → xR w (15 + 26 * d + 9) p < xR w (15 + 26 * d + 9) p'
/-- the same at a level: the same at the next one -/
def hie (r : xw_M) (d L n : Int) : Prop := ∀ x y l, 0 ≤ x → x < n → 0 ≤ y → y < n → 0 ≤ l → l + 1 < L → xR r 540 (4000 * d + 4 * x + l) = xR r 540 (4000 * d + 4 * y + l) → xR r 540 (4000 * d + 4 * x + (l + 1)) = xR r 540 (4000 * d + 4 * y + (l + 1))
/-- the reference's ranks -/
def rrk (m : xw_M) (D : Int) : Prop := ∀ d, 0 ≤ d → d < D → (∀ l, 0 ≤ l → l < xR m 538 d → ∃ u, RK (fun p => xR m 540 (4000 * d + 4 * p + l)) (xR m 539 d) (xR m 574 (4 * d + l)) u (fun p => xR m 573 (4000 * d + 4 * p + l))) ∧ hie m d (xR m 538 d) (xR m 539 d)
/-- the disk of a store that was opened, by what the reference says -/
def dsk (B : Nat) (m : xw_M) (D M tu : Int) (K Rf : Int → Int) (Rv : Int → Int → Int) : Prop := (nman (m 516) tu) ∧ (Man (m 516) (tu % 2 * 32768) tu (xR m 536 38) (xR m 536 31) (xR m 536 40) (xR m 536 52) (xR m 579) (xR m 580) K (xR m 587) (xR m 588)) ∧ (exts (xR m 587) (xR m 588) (xR m 536 52) B) ∧ (1 ≤ xR m 536 52) ∧ (∀ e, 0 ≤ e → e < xR m 536 52 → (xR m 586 e = 0 ∧ K e = 1 ∧ e = 0) ∨ (xR m 586 e = 1 ∧ (K e = 2 ∨ K e = 4) ∧ e ≠ 0) ∨ (xR m 586 e = 2 ∧ K e = 3 ∧ e ≠ 0)) ∧ (∀ e e', 0 ≤ e → e < xR m 536 52 → 0 ≤ e' → e' < xR m 536 52 → K e = 3 → K e' = 3 → e = e') ∧ (0 ≤ xR m 536 40 ∧ xR m 536 40 ≤ 16) ∧ (∀ i, 0 ≤ i → i < xR m 536 40 → 0 ≤ xR m 579 i) ∧ (1 ≤ D ∧ 1 ≤ M ∧ ∀ d, 0 ≤ d → d < D → 1 ≤ xR m 539 d) ∧ (∃ w, cgr w m D M ∧ vls w m D ∧ tk (m 516) (xR m 587 0 * 32768 + 32) 32 = msk (D + 256 * M) 32 ∧ Ctl w (m 516) (xR m 587 0 * 32768 + 64) D M ∧ xR m 587 0 * 32768 + 64 + 8 * dsm w D.toNat + 8 * msm w M.toNat ≤ (xR m 587 0 + xR m 588 0) * 32768) ∧ (rrk m D) ∧ (∀ e, 0 ≤ Rf e) ∧ (cfx K Rf (xR m 536 52).toNat = xR m 536 31) ∧ (∀ e, 1 ≤ e → e < xR m 536 52 → xtn (m 516) m D M (K e) (xR m 587 e) (xR m 588 e) (cfx K Rf e.toNat) (Rf e) (xR m 536 40) (xR m 579) (Rv e) (∀ e', e < e' → e' < xR m 536 52 → K e' ≠ 3)) ∧ (∀ i, 0 ≤ i → i < xR m 536 40 → xR m 580 i = rws K Rv i (xR m 536 52).toNat) ∧ (∀ x d, 0 ≤ x → x < xR m 536 31 → 0 ≤ d → d < D → 0 ≤ xR m 575 (8 * x + d) ∧ xR m 575 (8 * x + d) < xR m 539 d) ∧ (∀ e, 0 ≤ e → e < xR m 536 52 → 1 ≤ xR m 588 e)
theorem dsk.nm {B : Nat} {m : xw_M} {D M tu : Int} {K Rf : Int → Int} {Rv : Int → Int → Int} (h : dsk B m D M tu K Rf Rv) : nman (m 516) tu := h.1
theorem dsk.man {B : Nat} {m : xw_M} {D M tu : Int} {K Rf : Int → Int} {Rv : Int → Int → Int} (h : dsk B m D M tu K Rf Rv) : Man (m 516) (tu % 2 * 32768) tu (xR m 536 38) (xR m 536 31) (xR m 536 40) (xR m 536 52) (xR m 579) (xR m 580) K (xR m 587) (xR m 588) := h.2.1
theorem dsk.ex {B : Nat} {m : xw_M} {D M tu : Int} {K Rf : Int → Int} {Rv : Int → Int → Int} (h : dsk B m D M tu K Rf Rv) : exts (xR m 587) (xR m 588) (xR m 536 52) B := h.2.2.1
theorem dsk.e1 {B : Nat} {m : xw_M} {D M tu : Int} {K Rf : Int → Int} {Rv : Int → Int → Int} (h : dsk B m D M tu K Rf Rv) : 1 ≤ xR m 536 52 := h.2.2.2.1
theorem dsk.kd {B : Nat} {m : xw_M} {D M tu : Int} {K Rf : Int → Int} {Rv : Int → Int → Int} (h : dsk B m D M tu K Rf Rv) : ∀ e, 0 ≤ e → e < xR m 536 52 → (xR m 586 e = 0 ∧ K e = 1 ∧ e = 0) ∨ (xR m 586 e = 1 ∧ (K e = 2 ∨ K e = 4) ∧ e ≠ 0) ∨ (xR m 586 e = 2 ∧ K e = 3 ∧ e ≠ 0) := h.2.2.2.2.1
theorem dsk.one {B : Nat} {m : xw_M} {D M tu : Int} {K Rf : Int → Int} {Rv : Int → Int → Int} (h : dsk B m D M tu K Rf Rv) : ∀ e e', 0 ≤ e → e < xR m 536 52 → 0 ≤ e' → e' < xR m 536 52 → K e = 3 → K e' = 3 → e = e' := h.2.2.2.2.2.1
theorem dsk.tn {B : Nat} {m : xw_M} {D M tu : Int} {K Rf : Int → Int} {Rv : Int → Int → Int} (h : dsk B m D M tu K Rf Rv) : 0 ≤ xR m 536 40 ∧ xR m 536 40 ≤ 16 := h.2.2.2.2.2.2.1
theorem dsk.vn {B : Nat} {m : xw_M} {D M tu : Int} {K Rf : Int → Int} {Rv : Int → Int → Int} (h : dsk B m D M tu K Rf Rv) : ∀ i, 0 ≤ i → i < xR m 536 40 → 0 ≤ xR m 579 i := h.2.2.2.2.2.2.2.1
theorem dsk.dm {B : Nat} {m : xw_M} {D M tu : Int} {K Rf : Int → Int} {Rv : Int → Int → Int} (h : dsk B m D M tu K Rf Rv) : 1 ≤ D ∧ 1 ≤ M ∧ ∀ d, 0 ≤ d → d < D → 1 ≤ xR m 539 d := h.2.2.2.2.2.2.2.2.1
theorem dsk.cat {B : Nat} {m : xw_M} {D M tu : Int} {K Rf : Int → Int} {Rv : Int → Int → Int} (h : dsk B m D M tu K Rf Rv) : ∃ w, cgr w m D M ∧ vls w m D ∧ tk (m 516) (xR m 587 0 * 32768 + 32) 32 = msk (D + 256 * M) 32 ∧ Ctl w (m 516) (xR m 587 0 * 32768 + 64) D M ∧ xR m 587 0 * 32768 + 64 + 8 * dsm w D.toNat + 8 * msm w M.toNat ≤ (xR m 587 0 + xR m 588 0) * 32768 := h.2.2.2.2.2.2.2.2.2.1
theorem dsk.rk {B : Nat} {m : xw_M} {D M tu : Int} {K Rf : Int → Int} {Rv : Int → Int → Int} (h : dsk B m D M tu K Rf Rv) : rrk m D := h.2.2.2.2.2.2.2.2.2.2.1
theorem dsk.rf {B : Nat} {m : xw_M} {D M tu : Int} {K Rf : Int → Int} {Rv : Int → Int → Int} (h : dsk B m D M tu K Rf Rv) : ∀ e, 0 ≤ Rf e := h.2.2.2.2.2.2.2.2.2.2.2.1
theorem dsk.sm {B : Nat} {m : xw_M} {D M tu : Int} {K Rf : Int → Int} {Rv : Int → Int → Int} (h : dsk B m D M tu K Rf Rv) : cfx K Rf (xR m 536 52).toNat = xR m 536 31 := h.2.2.2.2.2.2.2.2.2.2.2.2.1
theorem dsk.xt {B : Nat} {m : xw_M} {D M tu : Int} {K Rf : Int → Int} {Rv : Int → Int → Int} (h : dsk B m D M tu K Rf Rv) : ∀ e, 1 ≤ e → e < xR m 536 52 → xtn (m 516) m D M (K e) (xR m 587 e) (xR m 588 e) (cfx K Rf e.toNat) (Rf e) (xR m 536 40) (xR m 579) (Rv e) (∀ e', e < e' → e' < xR m 536 52 → K e' ≠ 3) := h.2.2.2.2.2.2.2.2.2.2.2.2.2.1
theorem dsk.rw {B : Nat} {m : xw_M} {D M tu : Int} {K Rf : Int → Int} {Rv : Int → Int → Int} (h : dsk B m D M tu K Rf Rv) : ∀ i, 0 ≤ i → i < xR m 536 40 → xR m 580 i = rws K Rv i (xR m 536 52).toNat := h.2.2.2.2.2.2.2.2.2.2.2.2.2.2.1
theorem dsk.pl {B : Nat} {m : xw_M} {D M tu : Int} {K Rf : Int → Int} {Rv : Int → Int → Int} (h : dsk B m D M tu K Rf Rv) : ∀ x d, 0 ≤ x → x < xR m 536 31 → 0 ≤ d → d < D → 0 ≤ xR m 575 (8 * x + d) ∧ xR m 575 (8 * x + d) < xR m 539 d := h.2.2.2.2.2.2.2.2.2.2.2.2.2.2.2.1
theorem dsk.ln {B : Nat} {m : xw_M} {D M tu : Int} {K Rf : Int → Int} {Rv : Int → Int → Int} (h : dsk B m D M tu K Rf Rv) : ∀ e, 0 ≤ e → e < xR m 536 52 → 1 ≤ xR m 588 e := h.2.2.2.2.2.2.2.2.2.2.2.2.2.2.2.2
/-- the class's own memory while it is open -/
def ram (m : xw_M) (D M tu : Int) (K : Int → Int) : Prop := (cgr m m D M) ∧ (vls m m D) ∧ (∀ d, 0 ≤ d → d < D → arrd m d (xR m (15 + 26 * d) 10) (xR m (15 + 26 * d) 11)) ∧ (xR m 508 8 = tu) ∧ (xR m 508 9 = xR m 536 38) ∧ (xR m 508 10 = xR m 536 31) ∧ (xR m 508 11 = xR m 536 40) ∧ (xR m 508 14 = xR m 536 52) ∧ (∀ i, 0 ≤ i → i < xR m 536 40 → xR m 511 i = xR m 579 i ∧ xR m 512 i = xR m 580 i) ∧ (∀ e, 0 ≤ e → e < xR m 536 52 → xR m 513 e = K e ∧ xR m 514 e = xR m 587 e ∧ xR m 515 e = xR m 588 e) ∧ (∀ x, 0 ≤ x → x < xR m 536 32 → (∀ d, 0 ≤ d → d < D → xR m (376 + d) x = xR m 575 (8 * (xR m 536 31 + x) + d) ∧ 0 ≤ xR m (376 + d) x ∧ xR m (376 + d) x < xR m 539 d) ∧ ∀ k, 0 ≤ k → k < M → xJ m (385 + k) x = xJ m 576 (8 * (xR m 536 31 + x) + k))
theorem ram.cg {m : xw_M} {D M tu : Int} {K : Int → Int} (h : ram m D M tu K) : cgr m m D M := h.1
theorem ram.vl {m : xw_M} {D M tu : Int} {K : Int → Int} (h : ram m D M tu K) : vls m m D := h.2.1
theorem ram.ar {m : xw_M} {D M tu : Int} {K : Int → Int} (h : ram m D M tu K) : ∀ d, 0 ≤ d → d < D → arrd m d (xR m (15 + 26 * d) 10) (xR m (15 + 26 * d) 11) := h.2.2.1
theorem ram.tu {m : xw_M} {D M tu : Int} {K : Int → Int} (h : ram m D M tu K) : xR m 508 8 = tu := h.2.2.2.1
theorem ram.lo {m : xw_M} {D M tu : Int} {K : Int → Int} (h : ram m D M tu K) : xR m 508 9 = xR m 536 38 := h.2.2.2.2.1
theorem ram.fa {m : xw_M} {D M tu : Int} {K : Int → Int} (h : ram m D M tu K) : xR m 508 10 = xR m 536 31 := h.2.2.2.2.2.1
theorem ram.vi {m : xw_M} {D M tu : Int} {K : Int → Int} (h : ram m D M tu K) : xR m 508 11 = xR m 536 40 := h.2.2.2.2.2.2.1
theorem ram.ex {m : xw_M} {D M tu : Int} {K : Int → Int} (h : ram m D M tu K) : xR m 508 14 = xR m 536 52 := h.2.2.2.2.2.2.2.1
theorem ram.vw {m : xw_M} {D M tu : Int} {K : Int → Int} (h : ram m D M tu K) : ∀ i, 0 ≤ i → i < xR m 536 40 → xR m 511 i = xR m 579 i ∧ xR m 512 i = xR m 580 i := h.2.2.2.2.2.2.2.2.1
theorem ram.le {m : xw_M} {D M tu : Int} {K : Int → Int} (h : ram m D M tu K) : ∀ e, 0 ≤ e → e < xR m 536 52 → xR m 513 e = K e ∧ xR m 514 e = xR m 587 e ∧ xR m 515 e = xR m 588 e := h.2.2.2.2.2.2.2.2.2.1
theorem ram.bt {m : xw_M} {D M tu : Int} {K : Int → Int} (h : ram m D M tu K) : ∀ x, 0 ≤ x → x < xR m 536 32 → (∀ d, 0 ≤ d → d < D → xR m (376 + d) x = xR m 575 (8 * (xR m 536 31 + x) + d) ∧ 0 ≤ xR m (376 + d) x ∧ xR m (376 + d) x < xR m 539 d) ∧ ∀ k, 0 ≤ k → k < M → xJ m (385 + k) x = xJ m 576 (8 * (xR m 536 31 + x) + k) := h.2.2.2.2.2.2.2.2.2.2
/-- the class's catalog before it is open -/
def catN (m : xw_M) (D M : Int) : Prop := (cgr m m D M) ∧ (∀ d, 0 ≤ d → d < D → ∃ ρ, mem2 m d (xR m (15 + 26 * d) 10) (xR m (15 + 26 * d) 11) ρ) ∧ (∀ d, 0 ≤ d → d < D → ∀ x y, 0 ≤ x → x < xR m 539 d → 0 ≤ y → y < xR m 539 d → xR m 540 (4000 * d + 4 * x + 0) = xR m 540 (4000 * d + 4 * y + 0) → x = y) ∧ ∀ d, 0 ≤ d → d < D → hie m d (xR m 538 d) (xR m 539 d)
theorem catN.cg {m : xw_M} {D M : Int} (h : catN m D M) : cgr m m D M := h.1
theorem catN.me {m : xw_M} {D M : Int} (h : catN m D M) : ∀ d, 0 ≤ d → d < D → ∃ ρ, mem2 m d (xR m (15 + 26 * d) 10) (xR m (15 + 26 * d) 11) ρ := h.2.1
theorem catN.di {m : xw_M} {D M : Int} (h : catN m D M) : ∀ d, 0 ≤ d → d < D → ∀ x y, 0 ≤ x → x < xR m 539 d → 0 ≤ y → y < xR m 539 d → xR m 540 (4000 * d + 4 * x + 0) = xR m 540 (4000 * d + 4 * y + 0) → x = y := h.2.2.1
theorem catN.hi {m : xw_M} {D M : Int} (h : catN m D M) : ∀ d, 0 ≤ d → d < D → hie m d (xR m 538 d) (xR m 539 d) := h.2.2.2
/-- never opened -/
def nwS (m : xw_M) : Prop := (tk (m 516) 0 32 = 0) ∧ (tk (m 516) 32768 32 = 0) ∧ (xR m 536 31 = 0 ∧ xR m 536 38 = 0 ∧ xR m 536 40 = 0 ∧ xR m 536 52 = 0 ∧ xR m 536 32 = 0) ∧ (xR m 508 8 = 0 ∧ xR m 508 9 = 0 ∧ xR m 508 10 = 0 ∧ xR m 508 11 = 0 ∧ xR m 508 14 = 0) ∧ (xR m 536 3 = 1 → (xR m 3 1 = 0 ∧ xR m 3 2 = 0) ∧ 0 ≤ xR m 536 14 ∧ xR m 536 14 ≤ 8) ∧ (xR m 536 3 = 0 → ∃ D M, catN m D M)
theorem nwS.m0 {m : xw_M} (h : nwS m) : tk (m 516) 0 32 = 0 := h.1
theorem nwS.m1 {m : xw_M} (h : nwS m) : tk (m 516) 32768 32 = 0 := h.2.1
theorem nwS.rf {m : xw_M} (h : nwS m) : xR m 536 31 = 0 ∧ xR m 536 38 = 0 ∧ xR m 536 40 = 0 ∧ xR m 536 52 = 0 ∧ xR m 536 32 = 0 := h.2.2.1
theorem nwS.cl {m : xw_M} (h : nwS m) : xR m 508 8 = 0 ∧ xR m 508 9 = 0 ∧ xR m 508 10 = 0 ∧ xR m 508 11 = 0 ∧ xR m 508 14 = 0 := h.2.2.2.1
theorem nwS.dn {m : xw_M} (h : nwS m) : xR m 536 3 = 1 → (xR m 3 1 = 0 ∧ xR m 3 2 = 0) ∧ 0 ≤ xR m 536 14 ∧ xR m 536 14 ≤ 8 := h.2.2.2.2.1
theorem nwS.up {m : xw_M} (h : nwS m) : xR m 536 3 = 0 → ∃ D M, catN m D M := h.2.2.2.2.2
/-- pointers that change -/
def ptr (m : xw_M) : Prop := (∃ s t, two s t ∧ m 536 59 = s ∧ m 536 60 = t) ∧ ((m 0 12 = 420 ∧ m 0 13 = 464) ∨ (m 0 12 = 464 ∧ m 0 13 = 420)) ∧ ((m 536 22 = 544 ∧ m 536 23 = 558) ∨ (m 536 22 = 558 ∧ m 536 23 = 544)) ∧ ((m 536 73 = 601 ∧ m 536 74 = 602) ∨ (m 536 73 = 602 ∧ m 536 74 = 601))
/-- a tape with nothing behind it -/
def tpz (t w l : Int) (m : xw_M) : Prop := xR m t 1 = 64 * l ∧ ∃ p, xR m t 2 = p ∧ 0 ≤ p ∧ p ≤ 64 * l ∧ ∀ q, p ≤ q → q < 64 * l → bW (m w) q = false
def tps (B : Nat) (m : xw_M) : Prop := xR m 508 0 = (B : Int) ∧ xR m 536 49 = (B : Int) ∧ tpz 518 517 (B * 512 : Nat) m ∧ tpz 524 509 512 m ∧ ∃ p, rs B m p
def sta (m : xw_M) : Prop := (xR m 536 2 = 0 ∨ xR m 536 2 = 1) ∧ (xR m 536 3 = 0 ∨ xR m 536 3 = 1) ∧ xR m 0 14 = (if xR m 536 3 = 1 then 2 else xR m 536 2)
/-- the text and its fault -/
def txt (m : xw_M) : Prop := (xR m 1 1 = xR m 536 5 ∧ 0 ≤ xR m 1 1 ∧ xR m 1 1 ≤ 65536) ∧ (∀ i, 0 ≤ i → i < xR m 1 1 → xR m 2 i = xR m 537 i) ∧ (∀ i, w8 (xR m 2 i) = xR m 2 i) ∧ xR m 1 6 = xR m 536 6 ∧ xR m 1 7 = xR m 536 7
/-- what is counted; c calls -/
def cnr (c : Int) (m : xw_M) : Prop := (xR m 0 15 = xR m 536 33 ∧ 0 ≤ xR m 536 33 ∧ xR m 536 33 ≤ 20000) ∧ (xR m 0 16 = xR m 536 39 ∧ 0 ≤ xR m 536 39 ∧ xR m 536 39 ≤ 100) ∧ (xR m 508 19 = xR m 536 50 ∧ 0 ≤ xR m 536 50 ∧ xR m 536 50 ≤ 600 * c) ∧ (xR m 373 5 = xR m 536 32 ∧ 0 ≤ xR m 536 32 ∧ xR m 536 32 ≤ 8192) ∧ (0 ≤ xR m 536 31 ∧ xR m 536 31 + xR m 536 32 ≤ xR m 536 33) ∧ (0 ≤ xR m 536 38 ∧ xR m 536 38 ≤ c) ∧ (xR m 536 3 = 0 → xR m 508 18 = xR m 536 51 ∧ (xR m 536 51 = -1 ∨ (1 ≤ xR m 536 51 ∧ xR m 536 51 ≤ 1000))) ∧ (xR m 536 3 = 1 → xR m 536 32 = 0)
theorem cnr.sg {c : Int} {m : xw_M} (h : cnr c m) : xR m 0 15 = xR m 536 33 ∧ 0 ≤ xR m 536 33 ∧ xR m 536 33 ≤ 20000 := h.1
theorem cnr.ch {c : Int} {m : xw_M} (h : cnr c m) : xR m 0 16 = xR m 536 39 ∧ 0 ≤ xR m 536 39 ∧ xR m 536 39 ≤ 100 := h.2.1
theorem cnr.wr {c : Int} {m : xw_M} (h : cnr c m) : xR m 508 19 = xR m 536 50 ∧ 0 ≤ xR m 536 50 ∧ xR m 536 50 ≤ 600 * c := h.2.2.1
theorem cnr.ba {c : Int} {m : xw_M} (h : cnr c m) : xR m 373 5 = xR m 536 32 ∧ 0 ≤ xR m 536 32 ∧ xR m 536 32 ≤ 8192 := h.2.2.2.1
theorem cnr.fb {c : Int} {m : xw_M} (h : cnr c m) : 0 ≤ xR m 536 31 ∧ xR m 536 31 + xR m 536 32 ≤ xR m 536 33 := h.2.2.2.2.1
theorem cnr.lo {c : Int} {m : xw_M} (h : cnr c m) : 0 ≤ xR m 536 38 ∧ xR m 536 38 ≤ c := h.2.2.2.2.2.1
theorem cnr.fu {c : Int} {m : xw_M} (h : cnr c m) : xR m 536 3 = 0 → xR m 508 18 = xR m 536 51 ∧ (xR m 536 51 = -1 ∨ (1 ≤ xR m 536 51 ∧ xR m 536 51 ≤ 1000)) := h.2.2.2.2.2.2.1
theorem cnr.dn {c : Int} {m : xw_M} (h : cnr c m) : xR m 536 3 = 1 → xR m 536 32 = 0 := h.2.2.2.2.2.2.2
/-- the fact in the making -/
def mak (m : xw_M) : Prop := (¬ (xR m 536 2 = 1 ∧ xR m 536 3 = 0) → ∀ k, 0 ≤ k → k < 8 → xR m 577 k = 0 ∧ xJ m 578 k = 0) ∧ (xR m 536 2 = 1 → xR m 536 3 = 0 → ∀ k, 0 ≤ k → k < 8 → xR m 417 k = xR m 577 k ∧ xJ m 418 k = xJ m 578 k ∧ (k < xR m 536 14 → 0 ≤ xR m 577 k ∧ xR m 577 k < xR m 539 k))
theorem mak.z {m : xw_M} (h : mak m) : ¬ (xR m 536 2 = 1 ∧ xR m 536 3 = 0) → ∀ k, 0 ≤ k → k < 8 → xR m 577 k = 0 ∧ xJ m 578 k = 0 := h.1
theorem mak.e {m : xw_M} (h : mak m) : xR m 536 2 = 1 → xR m 536 3 = 0 → ∀ k, 0 ≤ k → k < 8 → xR m 417 k = xR m 577 k ∧ xJ m 418 k = xJ m 578 k ∧ (k < xR m 536 14 → 0 ≤ xR m 577 k ∧ xR m 577 k < xR m 539 k) := h.2
/-- all but the answer -/
def Inw (B : Nat) (c : Int) (m : xw_M) : Prop := (16 ≤ B ∧ B ≤ 512) ∧ (0 ≤ c ∧ c ≤ 600) ∧ (ptr m) ∧ (tps B m) ∧ (sta m) ∧ (txt m) ∧ (cnr c m) ∧ (mak m) ∧ (xR m 536 2 = 0 → nwS m) ∧ (xR m 536 2 = 1 → ∃ D M tu K Rf Rv, dsk B m D M tu K Rf Rv ∧ tu ≤ c ∧ (xR m 536 3 = 0 → ram m D M tu K) ∧ (xR m 536 3 = 1 → xR m 3 1 = 0 ∧ xR m 3 2 = 0 ∧ xR m 508 11 = 0))
theorem Inw.bd {B : Nat} {c : Int} {m : xw_M} (h : Inw B c m) : 16 ≤ B ∧ B ≤ 512 := h.1
theorem Inw.cc {B : Nat} {c : Int} {m : xw_M} (h : Inw B c m) : 0 ≤ c ∧ c ≤ 600 := h.2.1
theorem Inw.pt {B : Nat} {c : Int} {m : xw_M} (h : Inw B c m) : ptr m := h.2.2.1
theorem Inw.tp {B : Nat} {c : Int} {m : xw_M} (h : Inw B c m) : tps B m := h.2.2.2.1
theorem Inw.st {B : Nat} {c : Int} {m : xw_M} (h : Inw B c m) : sta m := h.2.2.2.2.1
theorem Inw.tx {B : Nat} {c : Int} {m : xw_M} (h : Inw B c m) : txt m := h.2.2.2.2.2.1
theorem Inw.cn {B : Nat} {c : Int} {m : xw_M} (h : Inw B c m) : cnr c m := h.2.2.2.2.2.2.1
theorem Inw.mk {B : Nat} {c : Int} {m : xw_M} (h : Inw B c m) : mak m := h.2.2.2.2.2.2.2.1
theorem Inw.nw {B : Nat} {c : Int} {m : xw_M} (h : Inw B c m) : xR m 536 2 = 0 → nwS m := h.2.2.2.2.2.2.2.2.1
theorem Inw.op {B : Nat} {c : Int} {m : xw_M} (h : Inw B c m) : xR m 536 2 = 1 → ∃ D M tu K Rf Rv, dsk B m D M tu K Rf Rv ∧ tu ≤ c ∧ (xR m 536 3 = 0 → ram m D M tu K) ∧ (xR m 536 3 = 1 → xR m 3 1 = 0 ∧ xR m 3 2 = 0 ∧ xR m 508 11 = 0) := h.2.2.2.2.2.2.2.2.2
