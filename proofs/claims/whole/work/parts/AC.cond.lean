/-! THE READERS: a condition, both sides: the state amid it -/
/-- how much there is to read -/
def mu (c : xw_M) : Int := 2 * (xR c 1 1 - xR c 1 2) + (if xR c 1 3 = 0 then 0 else 1)
/-- the class behind a comparison or an end bracket, with what stands there read -/
def PT (B : Nat) (N : Nat) (i : Int) (n3 : Nat) (b j : Int) (c : xw_M) : xP := xB (xl2 (yl83_4 B) n3 b j c) fun v6 m6 => if (xR m6 1 3) = 214 then (yk71_135 B (xl2 (yl71_16 B) N) v6 i m6) else (if (xR m6 1 3) = 215 then (yk71_135 B (xl2 (yl71_16 B) N) v6 i m6) else (yk71_159 B v6 m6))
def LTc (N : Nat) (i : Int) (c : xw_M) : Prop := mu c + 1 ≤ N ∧ 0 ≤ i ∧ i + 3 ≤ xR c 1 2 + (if xR c 1 3 = 0 then 1 else 0)
def PTc (N : Nat) (i : Int) (n3 : Nat) (b j : Int) (c : xw_M) : Prop := mu c ≤ N ∧ 0 ≤ i ∧ i + 3 ≤ xR c 1 2 ∧ 0 ≤ j ∧ j + b ≤ 40 ∧ b < n3
/-- the state: b brackets, n comparisons, p values -/
def CS (c0 r0 : xw_M) (q D g b n p : Int) (c r : xw_M) : Prop := TK c r ∧ CQ c r q D n ∧ LW c n g ∧ SB c n p ∧ (0 ≤ xR r q 11 ∧ xR r q 11 ≤ 43 * n) ∧ xR r 536 25 = b ∧ fCk c0 c ∧ fRk q r0 r ∧ 0 ≤ p ∧ wfR (xR r (q + 8)) (xR r q 11).toNat n
def FZ (c0 r0 : xw_M) (q : Int) (o pp : xP) : Prop := ∃ c w r, o = some (.inr 14, c) ∧ pp = some (.inl w, r) ∧ FL c r ∧ QC c0 c ∧ QR q r0 r
/-- a piece of the condition was read: what waits is ok, the next kind is tk -/
def Rs (B : Nat) (c0 r0 : xw_M) (q D g b n p w : Int) (ok : List Int → Prop) (tk : Int → Prop) (c r : xw_M) (o pp : xP) : Prop := (∃ (c' r' : xw_M) (N : Nat) (i : Int) (n3 : Nat) (j n' : Int) (ops : List Int) (val : (Int → Bool) → Bool) (wv : Int), (o = PT B N i n3 b j c' ∧ pp = some (.inl wv, r') ∧ PTc N i n3 b j c') ∧ n < n' ∧ CS c0 r0 q D g b n' (p + 1 + ops.length) c' r' ∧ (ok ops ∧ tk (xR c' 1 3)) ∧ (pnd c' w ops (xR c' 293 4) ∧ ∀ k, k < w → xR c' 294 k = xR c 294 k) ∧ (∀ v, app ops (SC c' v) = val v :: SC c v) ∧ (∀ v, RS r' q v = val v :: RS r q v) ∧ xR r' q 11 + 1 ≤ xR r q 11 + (n' - n) * (43 - b) ∧ mu c' < mu c) ∨ FZ c0 r0 q o pp
section CND
variable {B : Nat} {c0 r0 c r : xw_M} {q D M g : Int}
theorem nx_mu {c' r' : xw_M} (s : nxQ c r c' r') (k : xR c 1 3 ≠ 0) : mu c' < mu c := by
  have n : xR c' 1 1 = xR c 1 1 := xR_fld (s.2.1.2 1 (by omega))
  have h1 := s.2.2.2.1
  have h2 := s.2.2.2.2
  unfold mu
  rw [n, if_neg k]
  split
  · omega
  · rename_i h
    have := h2 h
    omega
theorem mu_cg {c' : xw_M} (e : c' 1 = c 1) : mu c' = mu c := by
  unfold mu
  rw [xR_cg e]
theorem mu_0 (h : TK c r) : 0 ≤ mu c := by
  have := h.1.2.2.2.1
  unfold mu
  split <;> omega
theorem CQ_fr {c' r' : xw_M} {n : Int} (L4 : ∀ d, 0 ≤ d → d < D → xR c (15 + 26 * d) 10 ≤ 4) (D8 : D ≤ 8) (h : CQ c r q D n) (hc : ∀ a, (15 ≤ a ∧ a < 223) ∨ a = 229 ∨ (231 ≤ a ∧ a < 291) → c' a = c a) (h1 : c' 223 10 = c 223 10) (h2 : r' q 13 = r q 13) (hr : ∀ a, q + 9 ≤ a → a ≤ q + 13 → r' a = r a) : CQ c' r' q D n := by
  obtain ⟨i1, i2, i3, i4, i5⟩ := h
  refine ⟨by rw [xR_fld h1]; exact i1, by rw [xR_fld h2]; exact i2, i3, i4, fun i x0 x1 => ?_⟩
  have := i5 i x0 x1
  unfold CM1 at this ⊢
  obtain ⟨k1, ⟨d, l, k2, k3, k4, k5, k6, k7⟩, k8⟩ := this
  have := L4 d k3 k4
  rw [xR_cg (hr (q + 9) (by omega) (by omega)), xR_cg (hr (q + 10) (by omega) (by omega)), xR_cg (hr (q + 11) (by omega) (by omega)), xR_cg (hr (q + 12) (by omega) (by omega)), xR_cg (hr (q + 13) (by omega) (by omega)), xR_cg (hc 229 (by omega)), xR_cg (hc (231 + i) (by omega))]
  refine ⟨k1, ⟨d, l, k2, k3, k4, k5, ?_⟩, k8⟩
  rw [xR_cg (hc (15 + 26 * d) (by omega)), xR_cg (hc (15 + 26 * d + 9 + l) (by omega))]
  exact ⟨k6, k7⟩
theorem CS_L4 {b n p : Int} (G : cgr c0 r0 D M) (h : CS c0 r0 q D g b n p c r) : (∀ d, 0 ≤ d → d < D → xR c (15 + 26 * d) 10 ≤ 4) ∧ D ≤ 8 := by
  obtain ⟨_, _, _, _, _, _, f, _⟩ := h
  have D8 := G.cn.1
  refine ⟨fun d d0 d1 => ?_, D8.2⟩
  rw [xR_cg (f.1 (15 + 26 * d) (by omega) (by omega) (by omega))]
  exact (G.cn.2.2.2.2.1 d d0 d1).2.1.2
theorem CS_g {b n p : Int} (q0 : q = 544 ∨ q = 558) (G : cgr c0 r0 D M) (h : CS c0 r0 q D g b n p c r) : cgr c r D M := by
  obtain ⟨_, _, _, _, _, _, f, k, _⟩ := h
  exact cgr_fr G (fun a a0 a1 => f.1 a (by omega) (by omega) (by omega)) (fun a ha => k.1 a (by omega) (by omega) (by omega)) (k.2.1 14 (by omega) (by omega)) (k.2.1 19 (by omega) (by omega))
theorem CS_p {b n p : Int} (hq : r0 536 23 = q) (h : CS c0 r0 q D g b n p c r) : r 536 23 = q := by
  rw [h.2.2.2.2.2.2.2.1.2.1 23 (by omega) (by omega)]
  exact hq
/-- one thing more is read -/
theorem CS_x {b n p : Int} {c' r' : xw_M} (q0 : q = 544 ∨ q = 558) (G : cgr c0 r0 D M) (h : CS c0 r0 q D g b n p c r) (s : nxQ c r c' r') : CS c0 r0 q D g b n p c' r' := by
  obtain ⟨L4, D8⟩ := CS_L4 G h
  obtain ⟨h1, h2, h3, h4, h5, h6, h7, h8, h9⟩ := h
  obtain ⟨s1, s2, s3, s4⟩ := s
  refine ⟨s1, CQ_fr L4 D8 h2 (fun a ha => s2.1 a (by omega)) (by rw [s2.1 223 (by omega)]) (by rw [s3.1 q (by omega)]) (fun a a0 a1 => s3.1 a (by omega)), LW_fr h3 (s2.1 292 (by omega)) (s2.1 229 (by omega)) (s2.1 227 (by omega)), SB_fr h4 (s2.1 223 (by omega)) (s2.1 291 (by omega)), by rw [xR_cg (s3.1 q (by omega))]; exact h5, by rw [xR_fld (s3.2 25 (by omega))]; exact h6, fCk_tr h7 (fCk_x s2), fRk_tr h8 (fRk_x q0 s3), h9.1, by rw [xR_cg (s3.1 q (by omega)), xR_cg (s3.1 (q + 8) (by omega))]; exact h9.2⟩
/-- the class's steps and what waits are others -/
theorem CS_w {b n p p' : Int} {c' : xw_M} (G : cgr c0 r0 D M) (h : CS c0 r0 q D g b n p c r) (f : fW c c') (S : SB c' n p') (p0 : 0 ≤ p') : CS c0 r0 q D g b n p' c' r := by
  obtain ⟨L4, D8⟩ := CS_L4 G h
  obtain ⟨h1, h2, h3, h4, h5, h6, h7, h8, h9⟩ := h
  have e1 := f.1 1 (by omega) (by omega) (by omega) (by omega)
  exact ⟨TK_fr h1 (fun k _ _ => by rw [e1]) (f.1 2 (by omega) (by omega) (by omega) (by omega)) (fun _ _ _ => rfl) rfl, CQ_fr L4 D8 h2 (fun a ha => f.1 a (by omega) (by omega) (by omega) (by omega)) (f.2.1 10 (by omega)) rfl (fun _ _ _ => rfl), LW_fr h3 (f.1 292 (by omega) (by omega) (by omega) (by omega)) (f.1 229 (by omega) (by omega) (by omega) (by omega)) (f.1 227 (by omega) (by omega) (by omega) (by omega)), S, h5, h6, fCk_tr h7 ⟨fun a a1 a2 a3 => f.1 a a2 (by omega) (by omega) (by omega), fun k _ => by rw [e1], fun k k1 k2 => f.2.1 k k2⟩, h8, p0, h9.2⟩
/-- the reference says one sign more -/
theorem CS_s {b n p : Int} {r' : xw_M} (q0 : q = 544 ∨ q = 558) (G : cgr c0 r0 D M) (h : CS c0 r0 q D g b n p c r) (f : fSay q r r') (s0 : 0 ≤ xR r' q 11) (s1 : xR r' q 11 ≤ 43 * n) (wr : wfR (xR r' (q + 8)) (xR r' q 11).toNat n) : CS c0 r0 q D g b n p c r' := by
  obtain ⟨L4, D8⟩ := CS_L4 G h
  obtain ⟨h1, h2, h3, h4, h5, h6, h7, h8, h9⟩ := h
  have e5 := f.1 536 (by omega) (by omega)
  exact ⟨TK_fr h1 (fun _ _ _ => rfl) rfl (fun k _ _ => by rw [e5]) (f.1 537 (by omega) (by omega)), CQ_fr L4 D8 h2 (fun _ _ => rfl) rfl (f.2 13 (by omega)) (fun a a0 a1 => f.1 a (by omega) (by omega)), h3, h4, ⟨s0, s1⟩, by rw [xR_cg e5]; exact h6, h7, fRk_tr h8 ⟨fun a a1 a2 a3 => f.1 a a2 (by omega), fun k _ _ => by rw [e5], fun k k1 _ => f.2 k k1⟩, h9.1, wr⟩
/-- another number of brackets -/
theorem CS_b {b b' n p : Int} (q0 : q = 544 ∨ q = 558) (G : cgr c0 r0 D M) (h : CS c0 r0 q D g b n p c r) (b0 : 0 ≤ b') (b1 : b' ≤ 100) : CS c0 r0 q D g b' n p c (xw_u r 536 25 b') := by
  obtain ⟨L4, D8⟩ := CS_L4 G h
  obtain ⟨h1, h2, h3, h4, h5, h6, h7, h8, h9⟩ := h
  have e : ∀ a, a ≠ 536 → xw_u r 536 25 b' a = r a := fun a ha => xu_c ha
  exact ⟨TK_fr h1 (fun _ _ _ => rfl) rfl (fun k _ _ => xu_ne (by omega)) (e 537 (by omega)), CQ_fr L4 D8 h2 (fun _ _ => rfl) rfl (by rw [e q (by omega)]) (fun a a0 a1 => e a (by omega)), h3, h4, by rw [xR_cg (e q (by omega))]; exact h5, xR_at (w32_id (by omega) (by omega)), h7, fRk_tr h8 ⟨fun a a1 a2 a3 => e a a1, fun k _ k1 => xu_ne (by omega), fun k _ _ => by rw [e q (by omega)]⟩, h9.1, by rw [xR_cg (e q (by omega)), xR_cg (e (q + 8) (by omega))]; exact h9.2⟩
theorem CS_Z {b n p : Int} (h : CS c0 r0 q D g b n p c r) : QC c0 c ∧ QR q r0 r := ⟨QC_c h.2.2.2.2.2.2.1, QR_c h.2.2.2.2.2.2.2.1⟩
/-- seen from an earlier state that says the same -/
theorem Rs_m {b n p w : Int} {ok : List Int → Prop} {tk : Int → Prop} {c1 r1 : xw_M} {o pp : xP} (h : Rs B c0 r0 q D g b n p w ok tk c1 r1 o pp) (e1 : ∀ v, SC c1 v = SC c v) (e2 : ∀ v, RS r1 q v = RS r q v) (e3 : ∀ k, k < w → xR c1 294 k = xR c 294 k) (e4 : xR r1 q 11 = xR r q 11) (e5 : mu c1 ≤ mu c) : Rs B c0 r0 q D g b n p w ok tk c r o pp := by
  rcases h with ⟨c', r', N, i, n3, j, n', ops, val, wv, a1, a2, a3, a4, a5, a6, a7, a8, a9⟩ | h
  · exact Or.inl ⟨c', r', N, i, n3, j, n', ops, val, wv, a1, a2, a3, a4, ⟨a5.1, fun k hk => by rw [a5.2 k hk, e3 k hk]⟩, fun v => by rw [a6 v, e1 v], fun v => by rw [a7 v, e2 v], by rw [← e4]; exact a8, by omega⟩
  · exact Or.inr h
/-- say while amid a condition: not, and, or -/
theorem say_cs {b n p x : Int} {v0 : Int → Bool} (hq : r0 536 23 = q) (q0 : q = 544 ∨ q = 558) (G : cgr c0 r0 D M) (h : CS c0 r0 q D g b n p c r) (hx : (x = -1 ∧ 1 ≤ ((RS r q v0).length : Int)) ∨ ((x = -2 ∨ x = -3) ∧ 2 ≤ ((RS r q v0).length : Int))) (s1 : xR r q 11 + 1 ≤ 43 * n) : ∃ r', yf280 B x r = some (.inl 0, r') ∧ CS c0 r0 q D g b n p c r' ∧ xR r' q 11 = xR r q 11 + 1 ∧ ∀ v, RS r' q v = opR v x (RS r q v) := by
  have n60 := h.2.1.2.2.2.1
  have s0 := h.2.2.2.2.1.1
  obtain ⟨r', z, f, e1, e2, e3, e4⟩ := say_ok (B := B) (r := r) (q := q) (x := x) h.1.nf (CS_p hq h) q0 s0 (by omega) (w32_id (by omega) (by omega))
  have ll : ((RS r q v0).length : Int) = lenR (xR r (q + 8)) (xR r q 11).toNat := evR_ln h.2.2.2.2.2.2.2.2.2 _ (Nat.le_refl _)
  have sn : ((xR r q 11).toNat : Int) = xR r q 11 := by omega
  refine ⟨r', z, CS_s q0 G h f (by omega) (by omega) ?_, e1, e2⟩
  rw [e1, show (xR r q 11 + 1).toNat = (xR r q 11).toNat + 1 by omega]
  refine wfR_push h.2.2.2.2.2.2.2.2.2 (Int.le_refl _) (fun i i0 i1 => e4 i (by omega)) (Or.inr ?_)
  rw [sn, e3, ← ll]
  exact hx
end CND
