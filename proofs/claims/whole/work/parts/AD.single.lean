/-! THE READERS: a condition, both sides: a single one (a comparison or what stands in brackets, with its nots) -/
section SGL
variable {B : Nat} {c0 r0 : xw_M} {q D M g : Int}
/-- what an inner condition does, by the function fe of the reference -/
def Eit (B : Nat) (c0 r0 : xw_M) (q D g : Int) (fe : xw_M → xP) (b : Int) : Prop := ∀ (N : Nat) (i n p w : Int) (c r : xw_M), LTc N i c → CS c0 r0 q D g b n p c r → xR c 293 4 = w → 0 ≤ w → w ≤ 4 * b → (w = 0 ∨ xR c 294 (w - 1) = 40) → Rs B c0 r0 q D g b n p w (fun ops => ops.length ≤ 2 ∧ ∀ o ∈ ops, o ≤ 215) (fun K => K ≠ 214 ∧ K ≠ 215) c r (xl2 (yl71_16 B) N b i c) (fe r)
theorem d101 {fe : xw_M → xP} {f : Int} {c r : xw_M} (F : FL c r) : ∃ r', yk276_101 B fe f r = some (.inl 0, r') ∧ FL c r' ∧ QR q r r' := by
  unfold yk276_101
  rw [p266, xB_ret, d258 F.1, xB_ret]
  have F1 : FL c (xw_u r 536 25 (xR r 536 25 - 1)) := fRk_fl (q := q) F (fun k _ => xu_ne (by omega))
  rw [d248 F1.1, xB_ret, d133 F1.1]
  exact ⟨_, rfl, F1, ⟨fun a ha _ => xu_c ha, fun k _ k1 _ => xu_ne (by omega)⟩⟩
/-- the end of a single one: the reference's not -/
theorem end_n {fe : xw_M → xP} {b n p f : Int} {c r : xw_M} (hq : r0 536 23 = q) (q0 : q = 544 ∨ q = 558) (G : cgr c0 r0 D M) (h : CS c0 r0 q D g b n p c r) (hf : f = 0 ∨ f = 1) {v0 : Int → Bool} (l1 : 1 ≤ ((RS r q v0).length : Int)) (s1 : xR r q 11 + f ≤ 43 * n) : ∃ r', yk276_133 B fe f r = some (.inl 0, r') ∧ CS c0 r0 q D g b n p c r' ∧ xR r' q 11 = xR r q 11 + f ∧ ∀ v, RS r' q v = if f = 1 then tN (RS r q v) else RS r q v := by
  unfold yk276_133
  rcases hf with rfl | rfl
  · rw [if_pos rfl]
    exact ⟨r, rfl, h, by omega, fun v => by rw [if_neg (by decide)]⟩
  · rw [if_neg (by decide)]
    obtain ⟨r', z, h', e1, e2⟩ := say_cs (B := B) (x := -1) hq q0 G h (Or.inl ⟨rfl, l1⟩) s1
    rw [z, xB_ret]
    exact ⟨r', rfl, h', e1, fun v => by rw [e2 v]; rfl⟩
theorem ntw_f {c : xw_M} {w f : Int} (h : ntw c w f) : (f = 0 ∨ f = 1) ∧ xR c 293 4 = w + f := by
  rcases h with ⟨rfl, h1, _⟩ | ⟨rfl, h1, _⟩
  · exact ⟨Or.inl rfl, by omega⟩
  · exact ⟨Or.inr rfl, by omega⟩
theorem ntw_cg {c c' : xw_M} {w f : Int} (h : ntw c w f) (e1 : xR c' 293 4 = xR c 293 4) (e2 : ∀ k, k < w + f → xR c' 294 k = xR c 294 k) : ntw c' w f := by
  rcases h with ⟨rfl, h1, h2⟩ | ⟨rfl, h1, h2, h3⟩
  · exact Or.inl ⟨rfl, by omega, by rw [e2 (w - 1) (by omega)]; exact h2⟩
  · exact Or.inr ⟨rfl, by omega, by rw [e2 w (by omega)]; exact h2, by rw [e2 (w - 1) (by omega)]; exact h3⟩
/-- a comparison -/
theorem sgl_cmp {fe : xw_M → xP} {b i f n p w : Int} {N : Nat} {c r : xw_M} (hq : r0 536 23 = q) (q0 : q = 544 ∨ q = 558) (G : cgr c0 r0 D M) (b0 : 0 ≤ b) (b40 : b ≤ 40) (T : mu c ≤ N ∧ 0 ≤ i ∧ i + 3 ≤ xR c 1 2 + 1) (h : CS c0 r0 q D g b n p c r) (hn : ntw c w f) (w0 : 0 ≤ w) (w1 : w ≤ 4 * b + 2) : Rs B c0 r0 q D g b n p w (fun ops => ops = []) (fun _ => True) c r (xB (yf73 B c) fun _ m3 => xB (yf82 B m3) fun _ m4 => xB (yf47 B m4) fun _ m5 => PT B N i 1000000 b 0 m5) (yk276_129 B fe f r) := by
  have G1 := CS_g q0 G h
  have q1 := CS_p hq h
  have hz := CS_Z h
  obtain ⟨ff, hw⟩ := ntw_f hn
  have n60 := h.2.1.2.2.2.1
  have S := h.2.2.2.2.1
  have hc1 : (xB (yf73 B c) fun _ m3 => xB (yf82 B m3) fun _ m4 => xB (yf47 B m4) fun _ m5 => PT B N i 1000000 b 0 m5) = xB (xB (yf73 B c) fun _ m3 => xB (yf82 B m3) fun _ m4 => xB (yf47 B m4) fun _ m5 => some (.inl 0, m5)) fun _ m5 => PT B N i 1000000 b 0 m5 := by
    rw [xB_as]
    refine congrArg (xB _) (funext fun v => funext fun m => ?_)
    rw [xB_as]
    refine congrArg (xB _) (funext fun v => funext fun m => ?_)
    rw [xB_as]
    rfl
  rw [hc1]
  have key := cmp_ok (B := B) (F := fun _ m3 => xB (yf82 B m3) fun _ m4 => xB (yf47 B m4) fun _ m5 => some (.inl 0, m5)) (Q := fun _ c5 _ r5 => n < 60 ∧ CS c0 r0 q D g b (n + 1) (p + 1) c5 r5 ∧ xR c5 293 4 = w ∧ (∀ k, k < w → xR c5 294 k = xR c 294 k) ∧ (∀ v, SC c5 v = (if f = 1 then !(v n) else v n) :: SC c v) ∧ (∀ v, RS r5 q v = v n :: RS r q v) ∧ xR r5 q 11 = xR r q 11 + 1 ∧ mu c5 < mu c ∧ xR c 1 2 < xR c5 1 2) (Z := fun c' w' r' => w' = 0 ∧ QC c0 c' ∧ QR q r0 r') h.1 G1 q1 q0 h.2.1 S.1 (by omega) h.2.2.2.2.2.2.2.2.1 h.2.2.2.1 h.2.2.1 (fun c' r' R => ?_) (fun c' r' _ z1 z2 => ⟨rfl, QC_tr hz.1 z1, QR_tr hz.2 z2⟩)
  · unfold yk276_129
    rcases key with ⟨v, c5, w5, r5, e1, e2, n1, k1, k2, k3, k4, k5, k6, k7, k8⟩ | ⟨c5, w5, r5, e1, e2, F, z0, z1, z2⟩
    · rw [e1, e2, xB_ret, xB_ret]
      obtain ⟨r6, z6, h6, s6, E6⟩ := end_n (B := B) (fe := fe) (f := f) (v0 := fun _ => true) hq q0 G k1 ff (by rw [k5, List.length_cons]; omega) (by omega)
      refine Or.inl ⟨c5, r6, N, i, 1000000, 0, n + 1, [], fun v => if f = 1 then !(v n) else v n, 0, ⟨rfl, z6, by omega, by omega, by omega, by omega, by omega, by omega⟩, by omega, by simpa using h6, ⟨rfl, trivial⟩, ⟨k2, k3⟩, k4, fun v => ?_, ?_, k7⟩
      · rw [E6 v, k5 v]
        show _ = (if f = 1 then !(v n) else v n) :: RS r q v
        by_cases f1 : f = 1
        · rw [if_pos f1, if_pos f1]; rfl
        · rw [if_neg f1, if_neg f1]
      · rw [show n + 1 - n = 1 by omega]
        omega
    · rw [e1, e2, xB_thr, xB_ret, d133 F.1]
      exact Or.inr ⟨c5, 0, r5, rfl, rfl, F, z1, z2⟩
  · obtain ⟨t1, t2, t3, t4, t5, t6, t7, t8, t9, ⟨ta, tb, tc⟩, td⟩ := R
    have hn' : ntw c' w f := ntw_cg hn (by rw [xR_cg ta]) (fun k _ => by rw [xR_cg tb])
    have p0 := h.2.2.2.2.2.2.2.2.1
    have nlt : n + 1 ≤ 60 := t2.2.2.2.1
    obtain ⟨c4, z4, a1, a2, a3, a4, a5⟩ := snot_ok (B := B) w0 (by omega) nlt hn' t4 (by omega)
    have wr : wfR (xR r' (q + 8)) (xR r' q 11).toNat (n + 1) := by
      have sn : ((xR r q 11).toNat : Int) = xR r q 11 := by omega
      rw [t7.1, show (xR r q 11 + 1).toNat = (xR r q 11).toNat + 1 by omega]
      exact wfR_push h.2.2.2.2.2.2.2.2.2 (by omega) (fun i i0 i1 => t7.2.2 i (by omega)) (Or.inl (by rw [sn, t7.2.1]; have := h.2.1.2.2.1; omega))
    have h' : CS c0 r0 q D g b (n + 1) (p + 1) c' r' := ⟨t1, t2, t3, t4, ⟨by rw [t7.1]; omega, by rw [t7.1]; omega⟩, by rw [xR_fld tc]; exact h.2.2.2.2.2.1, fCk_tr h.2.2.2.2.2.2.1 t8, fRk_tr h.2.2.2.2.2.2.2.1 t9, by omega, wr⟩
    have h4 := CS_w G h' a2 a4 (by omega)
    have m1 : c4 1 = c' 1 := a2.1 1 (by omega) (by omega) (by omega) (by omega)
    show duo (xB (yf82 B c') fun _ m4 => xB (yf47 B m4) fun _ m5 => some (.inl 0, m5)) _ _ _
    rw [z4, xB_ret]
    refine duo_B (nx h4.1.1) (fun v c5 w5 r5 s => ?_) (fun c5 w5 r5 F z => ⟨0, r5, rfl, F, rfl, QC_tr (CS_Z h4).1 (QC_y z.1), QR_tr (CS_Z h4).2 (QR_y z.2)⟩)
    have h5 := CS_x q0 G h4 s
    have le := s.2.2.2.1
    rw [xR_cg m1] at le
    have mm : mu c5 < mu c := by
      have n1 : xR c5 1 1 = xR c 1 1 := by rw [xR_fld (s.2.1.2 1 (by omega)), xR_cg m1, xR_fld (t8.2.1 1 (by omega))]
      have lt := s.2.2.2.2
      rw [xR_cg m1] at lt
      unfold mu
      rw [n1]
      by_cases k5 : xR c5 1 3 = 0
      · rw [if_pos k5]; split <;> omega
      · rw [if_neg k5]; split <;> omega
    refine duo_r ⟨by omega, h5, by rw [xR_cg (s.2.1.1 293 (by omega))]; exact a1, fun k _ => by rw [xR_cg (s.2.1.1 294 (by omega)), xR_cg a3, xR_cg tb], fun v => ?_, fun v => by rw [RS_fr (by rw [s.2.2.1.1 q (by omega)]) (fun i _ _ => by rw [xR_cg (s.2.2.1.1 (q + 8) (by omega))]) v, t6 v], by rw [xR_cg (s.2.2.1.1 q (by omega))]; exact t7.1, mm, by omega⟩
    rw [SC_fr (c := c4) (by rw [s.2.1.1 223 (by omega)]) (fun i _ _ => by rw [xR_cg (s.2.1.1 291 (by omega))]) v, a5 v, t5 v]
    by_cases f1 : f = 1
    · rw [if_pos f1, if_pos f1]; rfl
    · rw [if_neg f1, if_neg f1]
end SGL
