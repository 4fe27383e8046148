/-! THE READERS: a condition, both sides: and, or; the whole -/
section EIT
variable {B : Nat} {c0 r0 : xw_M} {q D M g : Int}
theorem PT_out {N n3 : Nat} {i b j : Int} {c : xw_M} (h : 0 < n3) (k : xR c 1 3 ≠ 41) : PT B N i n3 b j c = if (xR c 1 3) = 214 then (yk71_135 B (xl2 (yl71_16 B) N) b i c) else (if (xR c 1 3) = 215 then (yk71_135 B (xl2 (yl71_16 B) N) b i c) else (yk71_159 B b c)) := by
  obtain ⟨n4, rfl⟩ : ∃ n4, n3 = n4 + 1 := ⟨n3 - 1, by omega⟩
  unfold PT
  have e : xl2 (yl83_4 B) (n4 + 1) b j c = some (.inl b, c) := by
    show yl83_4 B (xl2 (yl83_4 B) n4) b j c = _
    unfold yl83_4
    rw [if_neg k]
    exact ifd (ifd rfl rfl) rfl
  rw [e, xB_ret]
/-- the class goes on behind and, or -/
theorem PT_bin {N n3 : Nat} {i b j op w n p : Int} {c : xw_M} {ops : List Int} (hop : op = 214 ∨ op = 215) (k : xR c 1 3 = op) (n0 : 0 < n3) (i0 : 0 ≤ i) (i1 : i < 65536) (w0 : 0 ≤ w) (w1 : w < 164) (n1 : n ≤ 60) (ln : ops.length ≤ 2) (h1 : xR c 293 4 ≤ 164) (hp : pnd c w ops (xR c 293 4)) (ho : ∀ o ∈ ops, o ≤ op) (hb : w = 0 ∨ xR c 294 (w - 1) = 40 ∨ op < xR c 294 (w - 1)) (S : SB c n p) (hl : (ops.length : Int) + 1 ≤ p) : ∃ c1, PT B N i n3 b j c = (xB (yf47 B c1) fun _ m2 => xl2 (yl71_16 B) N b (i + 1) m2) ∧ xR c1 293 4 = w + 1 ∧ xR c1 294 w = op ∧ (∀ i, i ≠ w → c1 294 i = c 294 i) ∧ (∀ v, SC c1 v = app ops (SC c v)) ∧ SB c1 n (p - ops.length) ∧ fW c c1 := by
  obtain ⟨c1, z, e1, e2, e3, e4, e5, e6⟩ := bin_ok (B := B) hop w0 w1 n1 (by omega) h1 hp ho hb S hl
  refine ⟨c1, ?_, e1, e2, e3, e4, e5, e6⟩
  rw [PT_out n0 (by omega)]
  have e : yk71_135 B (xl2 (yl71_16 B) N) b i c = xB (yf47 B c1) fun _ m2 => xl2 (yl71_16 B) N b (i + 1) m2 := by
    unfold yk71_135 yk71_146
    rw [k, z, xB_ret, w32_id (by omega) (by omega)]
  rcases hop with q | q
  · rw [if_pos (by omega)]; exact e
  · rw [if_neg (by omega), if_pos (by omega)]; exact e
theorem LTc_of {N : Nat} {i : Int} {c1 r1 c2 r2 : xw_M} (s : nxQ c1 r1 c2 r2) (k : xR c1 1 3 ≠ 0) (m : mu c1 ≤ N) (i0 : 0 ≤ i) (i1 : i + 3 ≤ xR c1 1 2) : LTc N (i + 1) c2 := by
  have mm := nx_mu s k
  have le := s.2.2.2.1
  have lt := s.2.2.2.2
  refine ⟨by omega, by omega, ?_⟩
  by_cases k2 : xR c2 1 3 = 0
  · rw [if_pos k2]; omega
  · rw [if_neg k2]
    have := lt k2
    omega
theorem mu_b {c r : xw_M} (h : TK c r) : mu c ≤ 131073 := by
  have a := h.1.1.2.2.1
  have b := h.1.2.2.1
  unfold mu
  split <;> omega
/-- further singles, each behind an and -/
theorem both_l {fe : xw_M → xP} {b n p w : Int} {c r : xw_M} (hq : r0 536 23 = q) (q0 : q = 544 ∨ q = 558) (G : cgr c0 r0 D M) (b0 : 0 ≤ b) (b40 : b ≤ 40) (hE : b < 40 → Eit B c0 r0 q D g fe (b + 1)) (w0 : 0 ≤ w) (w1 : w ≤ 4 * b + 1) (hb : w = 0 ∨ xR c 294 (w - 1) = 40 ∨ xR c 294 (w - 1) = 215) (p0 : 0 ≤ p) : ∀ (k N4 : Nat) (c' r' : xw_M) (N : Nat) (i : Int) (n3 : Nat) (j n' : Int) (ops : List Int) (val : (Int → Bool) → Bool), mu c' ≤ k → k + 2 ≤ N4 → PTc N i n3 b j c' → n < n' → CS c0 r0 q D g b n' (p + 1 + ops.length) c' r' → (ops = [] ∨ ops = [214]) → pnd c' w ops (xR c' 293 4) → (∀ k, k < w → xR c' 294 k = xR c 294 k) → (∀ v, app ops (SC c' v) = val v :: SC c v) → (∀ v, RS r' q v = val v :: RS r q v) → xR r' q 11 + 1 ≤ xR r q 11 + (n' - n) * (43 - b) → mu c' < mu c → xR r q 11 ≤ 43 * n → Rs B c0 r0 q D g b n p w (fun ops => ops = [] ∨ ops = [214]) (fun K => K ≠ 214) c r (PT B N i n3 b j c') (xl0 (yl275_4 B fe) N4 r') := by
  intro k
  induction k with
  | zero =>
    intro N4 c' r' N i n3 j n' ops val hk hN P nn h ok pd wl V U sg mm s43
    cases N4 with
    | zero => omega
    | succ N4 =>
    have K0 : xR c' 1 3 = 0 := by
      by_cases e : xR c' 1 3 = 0
      · exact e
      · have := h.1.1.2.2.2.1
        unfold mu at hk
        rw [if_neg e] at hk
        omega
    have e2 : xl0 (yl275_4 B fe) (N4 + 1) r' = some (.inl 0, r') := by
      show yl275_4 B fe _ r' = _
      unfold yl275_4
      rw [if_pos h.1.nf, isw h.1 (by decide) (by decide), xB_ret, if_neg (show ¬ xR c' 1 3 = 200 + 14 by omega), if_pos (show (0 : Int) = 0 from rfl)]
    exact Or.inl ⟨c', r', N, i, n3, j, n', ops, val, 0, ⟨rfl, e2, P⟩, nn, h, ⟨ok, by omega⟩, ⟨pd, wl⟩, V, U, sg, mm⟩
  | succ k ih =>
    intro N4 c' r' N i n3 j n' ops val hk hN P nn h ok pd wl V U sg mm s43
    cases N4 with
    | zero => omega
    | succ N4 =>
    by_cases k14 : xR c' 1 3 = 214
    · have tx := h.1.1.1.2.2.1
      have at1 := h.1.1.2.2.2.1
      obtain ⟨P1, P2, P3, P4, P5, P6⟩ := P
      have n60 := h.2.1.2.2.2.1
      have hlen := pnd_h ops _ pd
      have ol : ops.length ≤ 1 := by rcases ok with e | e <;> rw [e] <;> decide
      have q1 := CS_p hq h
      obtain ⟨c1, z1, a1, a2, a3, a4, a5, a6⟩ := PT_bin (B := B) (N := N) (n3 := n3) (j := j) (b := b) (op := 214) (w := w) (Or.inl rfl) k14 (by omega) P2 (by omega) w0 (by omega) n60 (by omega) (by omega) pd (fun o ho => by rcases ok with e | e <;> rw [e] at ho <;> simp at ho; omega) (by
        by_cases w00 : w = 0
        · exact Or.inl w00
        · rw [wl (w - 1) (by omega)]
          rcases hb with e | e | e
          · exact Or.inl e
          · exact Or.inr (Or.inl e)
          · exact Or.inr (Or.inr (by omega))) h.2.2.2.1 (by omega)
      have pe : p + 1 + (ops.length : Int) - ops.length = p + 1 := by omega
      rw [pe] at a5
      have h1 := CS_w G h a6 a5 (by omega)
      have m1 : c1 1 = c' 1 := a6.1 1 (by omega) (by omega) (by omega) (by omega)
      have e2 : xl0 (yl275_4 B fe) (N4 + 1) r' = xB (yf248 B r') fun _ m2 => xB (yf276 B fe m2) fun _ m3 => xB (yf280 B (-2) m3) fun _ m4 => xl0 (yl275_4 B fe) N4 m4 := by
        show yl275_4 B fe (xl0 (yl275_4 B fe) N4) r' = _
        generalize xl0 (yl275_4 B fe) N4 = R
        unfold yl275_4
        rw [if_pos h.1.nf, isw h.1 (by decide) (by decide), xB_ret, if_pos (show xR c' 1 3 = 200 + 14 by omega), if_neg (show ¬ (1 : Int) = 0 by decide)]
      obtain ⟨N5, rfl⟩ : ∃ N5, N4 = N5 + 1 := ⟨N4 - 1, by omega⟩
      rw [z1, e2]
      rcases nx (B := B) h1.1.1 with ⟨v, c2, w2, r2, y1, y2, s⟩ | ⟨c2, w2, r2, y1, y2, F, z⟩
      · rw [y1, y2, xB_ret, xB_ret]
        have h2 := CS_x q0 G h1 s
        have mm2 := nx_mu s (by rw [xR_cg m1]; omega)
        rw [mu_cg m1] at mm2
        have lc : LTc N (i + 1) c2 := LTc_of s (by rw [xR_cg m1]; omega) (by rw [mu_cg m1]; omega) P2 (by rw [xR_cg m1]; omega)
        have mb := mu_b h2.1
        have nt : ntw c2 (w + 1) 0 := Or.inl ⟨rfl, by rw [xR_cg (s.2.1.1 293 (by omega))]; exact a1, Or.inr (by rw [show w + 1 - 1 = w by omega, xR_cg (s.2.1.1 294 (by omega)), a2]; decide)⟩
        have R := sgl (B := B) (fe := fe) hq q0 G b0 b40 hE 131073 N 1000000 (i + 1) 0 n' (p + 1) (w + 1) c2 r2 (by omega) (by omega) lc h2 nt (by omega) (by omega)
        have e3 : yf276 B fe r2 = xl1 (yl276_2 B fe) 1000000 0 r2 := rfl
        rw [e3]
        rcases R with ⟨c3, r3, N3, i3, n33, j3, n'', ops3, val3, wv, ⟨b1, b1b, b1c⟩, b2, b3, b4, b5, b6, b7, b8, b9⟩ | ⟨c3, w3, r3, b1, b1b, F, z1', z2'⟩
        · rw [b1, b1b, xB_ret]
          have o3 : ops3 = [] := b4.1
          subst o3
          have q3 : xR r2 q 11 = xR r' q 11 := by rw [xR_cg (s.2.2.1.1 q (by omega))]
          have mul : (n' - n) * (43 - b) + (n'' - n') * (43 - b) = (n'' - n) * (43 - b) := by rw [← Int.add_mul]; congr 1; omega
          have ml := mul_l (x := n'' - n) (b := b) (by omega) b0
          have RS2 : ∀ v, RS r2 q v = val v :: RS r q v := fun v => by
            rw [RS_fr (by rw [s.2.2.1.1 q (by omega)]) (fun i _ _ => by rw [xR_cg (s.2.2.1.1 (q + 8) (by omega))]) v, U v]
          obtain ⟨r4, z4, h4, s4, E4⟩ := say_cs (B := B) (x := -2) (v0 := fun _ => true) hq q0 G b3 (Or.inr ⟨by decide, by rw [b7, RS2, List.length_cons, List.length_cons]; omega⟩) (by omega)
          rw [z4, xB_ret]
          have SC2 : ∀ v, SC c2 v = val v :: SC c v := fun v => by
            rw [SC_fr (c := c1) (by rw [s.2.1.1 223 (by omega)]) (fun i _ _ => by rw [xR_cg (s.2.1.1 291 (by omega))]) v, a4 v, V v]
          have w3 : xR c3 293 4 = w + 1 := by
            have : xR c3 293 4 = w + 1 := b5.1
            exact this
          have w3b : xR c3 294 w = 214 := by rw [b5.2 w (by omega), xR_cg (s.2.1.1 294 (by omega))]; exact a2
          refine ih (N5 + 1) c3 r4 N3 i3 n33 j3 n'' [214] (fun v => val v && val3 v) (by omega) (by omega) b1c (by omega) (by
            have : p + 1 + 1 + (([] : List Int).length : Int) = p + 1 + (([214] : List Int).length : Int) := by simp
            rw [this] at h4
            exact h4) (Or.inr rfl) ⟨by rw [w3, show w + 1 - 1 = w by omega]; exact w3b, Or.inl rfl, by rw [w3]; show w + 1 - 1 = w; omega⟩ (fun k hk => by rw [b5.2 k (by omega), xR_cg (s.2.1.1 294 (by omega)), xR_fld (a3 k (by omega)), wl k hk]) (fun v => ?_) (fun v => ?_) (by rw [s4]; omega) (by omega) s43
          · show tA (SC c3 v) = _
            have b6v : SC c3 v = val3 v :: SC c2 v := b6 v
            rw [b6v, SC2 v]
            rfl
          · rw [E4 v, b7 v, RS2 v]
            rfl
        · rw [b1, b1b, xB_ret, d280 F.1, xB_ret, d275l F.1]
          exact Or.inr ⟨c3, 0, r3, rfl, rfl, F, z1', z2'⟩
      · rw [y1, y2, xB_thr, xB_ret, d276f F.1 (by rw [z.2.2 23 (by omega)]; exact q1) q0, xB_ret, d280 F.1, xB_ret, d275l F.1]
        have hz := CS_Z h1
        exact Or.inr ⟨c2, 0, r2, rfl, rfl, F, QC_tr hz.1 (QC_y z.1), QR_tr hz.2 (QR_y z.2)⟩
    · have e2 : xl0 (yl275_4 B fe) (N4 + 1) r' = some (.inl 0, r') := by
        show yl275_4 B fe _ r' = _
        unfold yl275_4
        rw [if_pos h.1.nf, isw h.1 (by decide) (by decide), xB_ret, if_neg (show ¬ xR c' 1 3 = 200 + 14 by omega), if_pos (show (0 : Int) = 0 from rfl)]
      exact Or.inl ⟨c', r', N, i, n3, j, n', ops, val, 0, ⟨rfl, e2, P⟩, nn, h, ⟨ok, k14⟩, ⟨pd, wl⟩, V, U, sg, mm⟩
theorem both_ok {fe : xw_M → xP} {b i n p w : Int} {N : Nat} {c r : xw_M} (hq : r0 536 23 = q) (q0 : q = 544 ∨ q = 558) (G : cgr c0 r0 D M) (b0 : 0 ≤ b) (b40 : b ≤ 40) (hE : b < 40 → Eit B c0 r0 q D g fe (b + 1)) (L : LTc N i c) (h : CS c0 r0 q D g b n p c r) (hw : xR c 293 4 = w) (w0 : 0 ≤ w) (w1 : w ≤ 4 * b + 1) (hb : w = 0 ∨ xR c 294 (w - 1) = 40 ∨ xR c 294 (w - 1) = 215) : Rs B c0 r0 q D g b n p w (fun ops => ops = [] ∨ ops = [214]) (fun K => K ≠ 214) c r (xl2 (yl71_16 B) N b i c) (yf275 B fe r) := by
  have nt : ntw c w 0 := Or.inl ⟨rfl, hw, by rcases hb with e | e | e; exact Or.inl e; exact Or.inr (by omega); exact Or.inr (by omega)⟩
  have mb := mu_b h.1
  have R := sgl (B := B) (fe := fe) hq q0 G b0 b40 hE 131073 N 1000000 i 0 n p w c r (by omega) (by omega) L h nt w0 (by omega)
  have e3 : yf275 B fe r = xB (xl1 (yl276_2 B fe) 1000000 0 r) fun _ m1 => xl0 (yl275_4 B fe) 1000000 m1 := rfl
  rw [e3]
  rcases R with ⟨c3, r3, N3, i3, n33, j3, n'', ops3, val3, wv, ⟨b1, b1b, b1c⟩, b2, b3, b4, b5, b6, b7, b8, b9⟩ | ⟨c3, w3, r3, b1, b1b, F, z1', z2'⟩
  · rw [b1, b1b, xB_ret]
    have o3 : ops3 = [] := b4.1
    subst o3
    exact both_l hq q0 G b0 b40 hE w0 w1 hb h.2.2.2.2.2.2.2.2.1 131073 1000000 c3 r3 N3 i3 n33 j3 n'' [] val3 (by omega) (by omega) b1c b2 b3 (Or.inl rfl) b5.1 b5.2 b6 b7 b8 b9 h.2.2.2.2.1.2
  · rw [b1, b1b, xB_ret]
    generalize hN : (1000000 : Nat) = N1
    obtain ⟨N2, rfl⟩ : ∃ N2, N1 = N2 + 1 := ⟨N1 - 1, by omega⟩
    rw [d275l F.1]
    exact Or.inr ⟨c3, 0, r3, rfl, rfl, F, z1', z2'⟩
/-- further boths, each behind an or -/
theorem eith_l {fe : xw_M → xP} {b n p w : Int} {c r : xw_M} (hq : r0 536 23 = q) (q0 : q = 544 ∨ q = 558) (G : cgr c0 r0 D M) (b0 : 0 ≤ b) (b40 : b ≤ 40) (hE : b < 40 → Eit B c0 r0 q D g fe (b + 1)) (w0 : 0 ≤ w) (w1 : w ≤ 4 * b) (hb : w = 0 ∨ xR c 294 (w - 1) = 40) (p0 : 0 ≤ p) : ∀ (k N4 : Nat) (c' r' : xw_M) (N : Nat) (i : Int) (n3 : Nat) (j n' : Int) (ops : List Int) (val : (Int → Bool) → Bool), mu c' ≤ k → k + 2 ≤ N4 → PTc N i n3 b j c' → n < n' → CS c0 r0 q D g b n' (p + 1 + ops.length) c' r' → (ops.length ≤ 2 ∧ ∀ o ∈ ops, o ≤ 215) → xR c' 1 3 ≠ 214 → pnd c' w ops (xR c' 293 4) → (∀ k, k < w → xR c' 294 k = xR c 294 k) → (∀ v, app ops (SC c' v) = val v :: SC c v) → (∀ v, RS r' q v = val v :: RS r q v) → xR r' q 11 + 1 ≤ xR r q 11 + (n' - n) * (43 - b) → mu c' < mu c → xR r q 11 ≤ 43 * n → Rs B c0 r0 q D g b n p w (fun ops => ops.length ≤ 2 ∧ ∀ o ∈ ops, o ≤ 215) (fun K => K ≠ 214 ∧ K ≠ 215) c r (PT B N i n3 b j c') (xl0 (yl274_4 B fe) N4 r') := by
  intro k
  induction k with
  | zero =>
    intro N4 c' r' N i n3 j n' ops val hk hN P nn h ok t4 pd wl V U sg mm s43
    cases N4 with
    | zero => omega
    | succ N4 =>
    have K0 : xR c' 1 3 = 0 := by
      by_cases e : xR c' 1 3 = 0
      · exact e
      · have := h.1.1.2.2.2.1
        unfold mu at hk
        rw [if_neg e] at hk
        omega
    have e2 : xl0 (yl274_4 B fe) (N4 + 1) r' = some (.inl 0, r') := by
      show yl274_4 B fe _ r' = _
      unfold yl274_4
      rw [if_pos h.1.nf, isw h.1 (by decide) (by decide), xB_ret, if_neg (show ¬ xR c' 1 3 = 200 + 15 by omega), if_pos (show (0 : Int) = 0 from rfl)]
    exact Or.inl ⟨c', r', N, i, n3, j, n', ops, val, 0, ⟨rfl, e2, P⟩, nn, h, ⟨ok, by omega, by omega⟩, ⟨pd, wl⟩, V, U, sg, mm⟩
  | succ k ih =>
    intro N4 c' r' N i n3 j n' ops val hk hN P nn h ok t4 pd wl V U sg mm s43
    cases N4 with
    | zero => omega
    | succ N4 =>
    by_cases k15 : xR c' 1 3 = 215
    · have tx := h.1.1.1.2.2.1
      have at1 := h.1.1.2.2.2.1
      obtain ⟨P1, P2, P3, P4, P5, P6⟩ := P
      have n60 := h.2.1.2.2.2.1
      have hlen := pnd_h ops _ pd
      have q1 := CS_p hq h
      obtain ⟨c1, z1, a1, a2, a3, a4, a5, a6⟩ := PT_bin (B := B) (N := N) (n3 := n3) (j := j) (b := b) (op := 215) (w := w) (Or.inr rfl) k15 (by omega) P2 (by omega) w0 (by omega) n60 (by omega) (by omega) pd ok.2 (by
        by_cases w00 : w = 0
        · exact Or.inl w00
        · rw [wl (w - 1) (by omega)]
          rcases hb with e | e
          · exact Or.inl e
          · exact Or.inr (Or.inl e)) h.2.2.2.1 (by omega)
      have pe : p + 1 + (ops.length : Int) - ops.length = p + 1 := by omega
      rw [pe] at a5
      have h1 := CS_w G h a6 a5 (by omega)
      have m1 : c1 1 = c' 1 := a6.1 1 (by omega) (by omega) (by omega) (by omega)
      have e2 : xl0 (yl274_4 B fe) (N4 + 1) r' = xB (yf248 B r') fun _ m2 => xB (yf275 B fe m2) fun _ m3 => xB (yf280 B (-3) m3) fun _ m4 => xl0 (yl274_4 B fe) N4 m4 := by
        show yl274_4 B fe (xl0 (yl274_4 B fe) N4) r' = _
        generalize xl0 (yl274_4 B fe) N4 = R
        unfold yl274_4
        rw [if_pos h.1.nf, isw h.1 (by decide) (by decide), xB_ret, if_pos (show xR c' 1 3 = 200 + 15 by omega), if_neg (show ¬ (1 : Int) = 0 by decide)]
      obtain ⟨N5, rfl⟩ : ∃ N5, N4 = N5 + 1 := ⟨N4 - 1, by omega⟩
      rw [z1, e2]
      rcases nx (B := B) h1.1.1 with ⟨v, c2, w2, r2, y1, y2, s⟩ | ⟨c2, w2, r2, y1, y2, F, z⟩
      · rw [y1, y2, xB_ret, xB_ret]
        have h2 := CS_x q0 G h1 s
        have mm2 := nx_mu s (by rw [xR_cg m1]; omega)
        rw [mu_cg m1] at mm2
        have lc : LTc N (i + 1) c2 := LTc_of s (by rw [xR_cg m1]; omega) (by rw [mu_cg m1]; omega) P2 (by rw [xR_cg m1]; omega)
        have c2w : xR c2 294 w = 215 := by rw [xR_cg (s.2.1.1 294 (by omega))]; exact a2
        have R := both_ok (B := B) (fe := fe) (n := n') (p := p + 1) (w := w + 1) hq q0 G b0 b40 hE lc h2 (by rw [xR_cg (s.2.1.1 293 (by omega))]; exact a1) (by omega) (by omega) (Or.inr (Or.inr (by rw [show w + 1 - 1 = w by omega]; exact c2w)))
        rcases R with ⟨c3, r3, N3, i3, n33, j3, n'', ops3, val3, wv, ⟨b1, b1b, b1c⟩, b2, b3, b4, b5, b6, b7, b8, b9⟩ | ⟨c3, w3, r3, b1, b1b, F, z1', z2'⟩
        · rw [b1, b1b, xB_ret]
          have q3 : xR r2 q 11 = xR r' q 11 := by rw [xR_cg (s.2.2.1.1 q (by omega))]
          have mul : (n' - n) * (43 - b) + (n'' - n') * (43 - b) = (n'' - n) * (43 - b) := by rw [← Int.add_mul]; congr 1; omega
          have ml := mul_l (x := n'' - n) (b := b) (by omega) b0
          have RS2 : ∀ v, RS r2 q v = val v :: RS r q v := fun v => by
            rw [RS_fr (by rw [s.2.2.1.1 q (by omega)]) (fun i _ _ => by rw [xR_cg (s.2.2.1.1 (q + 8) (by omega))]) v, U v]
          obtain ⟨r4, z4, h4, s4, E4⟩ := say_cs (B := B) (x := -3) (v0 := fun _ => true) hq q0 G b3 (Or.inr ⟨by decide, by rw [b7, RS2, List.length_cons, List.length_cons]; omega⟩) (by omega)
          rw [z4, xB_ret]
          have SC2 : ∀ v, SC c2 v = val v :: SC c v := fun v => by
            rw [SC_fr (c := c1) (by rw [s.2.1.1 223 (by omega)]) (fun i _ _ => by rw [xR_cg (s.2.1.1 291 (by omega))]) v, a4 v, V v]
          have w3b : xR c3 294 w = 215 := by rw [b5.2 w (by omega)]; exact c2w
          have pdn : pnd c3 w (ops3 ++ [215]) (xR c3 293 4) := by
            rcases b4.1 with e | e
            · subst e
              have x : xR c3 293 4 = w + 1 := b5.1
              exact ⟨by rw [x, show w + 1 - 1 = w by omega]; exact w3b, Or.inr rfl, by rw [x]; show w + 1 - 1 = w; omega⟩
            · subst e
              obtain ⟨x1, x2, x3⟩ := b5.1
              have x3 : xR c3 293 4 - 1 = w + 1 := x3
              exact ⟨x1, x2, by rw [show xR c3 293 4 - 1 - 1 = w by omega]; exact w3b, Or.inr rfl, by show xR c3 293 4 - 1 - 1 = w; omega⟩
          have ap : ∀ s, app (ops3 ++ [215]) s = tO (app ops3 s) := fun s => by
            rcases b4.1 with e | e <;> rw [e] <;> rfl
          have ln3 : ((ops3 ++ [215]).length : Int) = ops3.length + 1 := by rw [List.length_append]; simp
          refine ih (N5 + 1) c3 r4 N3 i3 n33 j3 n'' (ops3 ++ [215]) (fun v => val v || val3 v) (by omega) (by omega) b1c (by omega) (by
            rw [ln3]
            have : p + 1 + 1 + (ops3.length : Int) = p + 1 + (ops3.length + 1) := by omega
            rw [this] at h4
            exact h4) ⟨?_, fun o ho => ?_⟩ b4.2 pdn (fun k hk => by rw [b5.2 k (by omega), xR_cg (s.2.1.1 294 (by omega)), xR_fld (a3 k (by omega)), wl k hk]) (fun v => ?_) (fun v => ?_) (by rw [s4]; omega) (by omega) s43
          · rcases b4.1 with e | e <;> rw [e] <;> decide
          · rcases b4.1 with e | e <;> rw [e] at ho <;> simp at ho <;> omega
          · rw [ap, b6 v, SC2 v]
            rfl
          · rw [E4 v, b7 v, RS2 v]
            rfl
        · rw [b1, b1b, xB_ret, d280 F.1, xB_ret, d274l F.1]
          exact Or.inr ⟨c3, 0, r3, rfl, rfl, F, z1', z2'⟩
      · rw [y1, y2, xB_thr, xB_ret, d275f F.1 (by rw [z.2.2 23 (by omega)]; exact q1) q0, xB_ret, d280 F.1, xB_ret, d274l F.1]
        have hz := CS_Z h1
        exact Or.inr ⟨c2, 0, r2, rfl, rfl, F, QC_tr hz.1 (QC_y z.1), QR_tr hz.2 (QR_y z.2)⟩
    · have e2 : xl0 (yl274_4 B fe) (N4 + 1) r' = some (.inl 0, r') := by
        show yl274_4 B fe _ r' = _
        unfold yl274_4
        rw [if_pos h.1.nf, isw h.1 (by decide) (by decide), xB_ret, if_neg (show ¬ xR c' 1 3 = 200 + 15 by omega), if_pos (show (0 : Int) = 0 from rfl)]
      exact Or.inl ⟨c', r', N, i, n3, j, n', ops, val, 0, ⟨rfl, e2, P⟩, nn, h, ⟨ok, t4, k15⟩, ⟨pd, wl⟩, V, U, sg, mm⟩
/-- a condition, to any depth -/
theorem eith_ok (hq : r0 536 23 = q) (q0 : q = 544 ∨ q = 558) (G : cgr c0 r0 D M) : ∀ (k : Nat) (b : Int), 0 ≤ b → b ≤ 40 → 41 - b ≤ k → Eit B c0 r0 q D g (xE B k) b := by
  intro k
  induction k with
  | zero => intro b b0 b1 h; omega
  | succ k ih =>
    intro b b0 b40 hk N i n p w c r L h hw w0 w1 hb
    have hE : b < 40 → Eit B c0 r0 q D g (xE B k) (b + 1) := fun b4 => ih (b + 1) (by omega) (by omega) (by omega)
    have mb := mu_b h.1
    have R := both_ok (B := B) (fe := xE B k) hq q0 G b0 b40 hE L h hw w0 (by omega) (by rcases hb with e | e; exact Or.inl e; exact Or.inr (Or.inl e))
    have e3 : xE B (k + 1) r = xB (yf275 B (xE B k) r) fun _ m1 => xl0 (yl274_4 B (xE B k)) 1000000 m1 := rfl
    rw [e3]
    rcases R with ⟨c3, r3, N3, i3, n33, j3, n'', ops3, val3, wv, ⟨b1, b1b, b1c⟩, b2, b3, b4, b5, b6, b7, b8, b9⟩ | ⟨c3, w3, r3, b1, b1b, F, z1', z2'⟩
    · rw [b1, b1b, xB_ret]
      exact eith_l hq q0 G b0 b40 hE w0 w1 hb h.2.2.2.2.2.2.2.2.1 131073 1000000 c3 r3 N3 i3 n33 j3 n'' ops3 val3 (by omega) (by omega) b1c b2 b3 (by rcases b4.1 with e | e <;> rw [e] <;> exact ⟨by decide, by decide⟩) b4.2 b5.1 b5.2 b6 b7 b8 b9 h.2.2.2.2.1.2
    · rw [b1, b1b, xB_ret]
      generalize hN : (1000000 : Nat) = N1
      obtain ⟨N2, rfl⟩ : ∃ N2, N1 = N2 + 1 := ⟨N1 - 1, by omega⟩
      rw [d274l F.1]
      exact Or.inr ⟨c3, 0, r3, rfl, rfl, F, z1', z2'⟩
end EIT
