/-! THE READERS: between, in, not in; a whole comparison on both sides -/
section CMD
variable {B : Nat} {c r : xw_M}
/-- expect a word -/
def rEW (B : Nat) (w : Int) (r : xw_M) : xP := xB (yf248 B r) fun _ m1 => xB (yf257 B w m1) fun v2 m2 => yf258 B v2 m2
theorem ewd {w K : Int} (h : PS c r) (w0 : 0 ≤ w) (w1 : w ≤ 18) (hK : K = 200 + w) : duo (yf68 B K c) (rEW B w r) (fun _ c' w r' => w = 1 ∧ xR c' 1 3 = K ∧ nxQ c r c' r') (fun c' w r' => w = 0 ∧ fTy c c' ∧ fRy r r') := by
  unfold yf68 rEW
  refine duo_B (nx h) (fun v c1 _ r1 q => ?_) (fun c1 _ r1 f z => ⟨0, r1, by rw [p257, xB_ret, d258 f.1], f, rfl, z⟩)
  rw [isw q.1 w0 w1, xB_ret, ← hK]
  by_cases a : xR c1 1 3 = K
  · rw [if_pos a, if_pos a, ok258 q.1.nf]
    exact duo_r ⟨rfl, a, q⟩
  · rw [if_neg a, if_neg a]
    obtain ⟨c2, r2, z1, z2, F, f1, f2⟩ := fhere (B := B) q.1
    rw [z1, z2, xB_thr]
    exact duo_f F ⟨rfl, fTy_tr (fTy_of q.2.1) f1, fRy_tr (fRy_of q.2.2.1) f2⟩
theorem dEW {w : Int} (d : 0 < xR r 536 6) : rEW B w r = some (.inl 0, r) := by
  unfold rEW
  rw [d248 d, xB_ret, p257, xB_ret, d258 d]
theorem w270b {n : Int} : yk277_270 B n 6 r = xB (rEW B 14 r) fun v3 m3 => if xw_obb 13 (m3 536 23) = true then xB (yf278 B m3) fun v4 m4 => if (0 : Int) ≤ n ∧ n < (xw_le B (xw_rf (m3 536 23) 17)) then if xw_obb 16 (xw_rf (m3 536 23) 17) = true then (yk277_306 B n (xw_u m4 (xw_rf (m3 536 23) 17) n v4)) else none else none else none := by
  unfold yk277_270 rEW
  rw [if_pos rfl, xB_as]
  refine congrArg (xB _) (funext fun v => funext fun m => ?_)
  rw [xB_as]
/-- how is laid down; nothing else is another -/
theorem Md_h {q n d l p g h : Int} {c3 r3 : xw_M} (q0 : q = 544 ∨ q = 558) (n0 : 0 ≤ n) (n1 : n < 60) (h0 : 0 ≤ h) (h8 : h ≤ 8) (M : Md c r q n d l p g c3 r3) : Md c r q n d l p g c3 (xw_u r3 (q + 10) n h) ∧ xR (xw_u r3 (q + 10) n h) (q + 10) n = h := by
  generalize hr4 : xw_u r3 (q + 10) n h = r4
  have e4 : ∀ a, a ≠ q + 10 → r4 a = r3 a := fun a ha => by rw [← hr4]; exact xu_c ha
  have t4 : TK c3 r4 := TK_fr M.2.2.1 (fun _ _ _ => rfl) rfl (fun k _ _ => by rw [e4 536 (by omega)]) (e4 537 (by omega))
  exact ⟨Md_s n0 n1 M (fun _ _ _ => rfl) (fun _ _ => rfl) (fun a _ ha => e4 a (by omega)) (fun k _ => by rw [e4 536 (by omega)]) (fun a i x1 x2 hi => by rw [← hr4]; exact xu_ne (by omega)) (fun i _ => by rw [e4 (q + 13) (by omega)]) q0 t4 (Int.le_refl _), by rw [← hr4]; exact xR_at (w32_id (by omega) (by omega))⟩
theorem cm_btw {q D n d l p g : Int} {c3 r3 : xw_M} {F : Int → xw_M → xP} {Q : Int → xw_M → Int → xw_M → Prop} {Z : xw_M → Int → xw_M → Prop} (hq : r 536 23 = q) (q0 : q = 544 ∨ q = 558) (I : CQ c r q D n) (D8 : D ≤ 8) (L4 : ∀ d, 0 ≤ d → d < D → xR c (15 + 26 * d) 10 ≤ 4) (m1 : xR c (15 + 26 * d) 11 ≤ 1000) (n1 : n < 60) (s0 : 0 ≤ xR r q 11) (s1 : xR r q 11 < 2600) (d0 : 0 ≤ d) (d1 : d < D) (l0 : 0 ≤ l) (l1 : l < xR c (15 + 26 * d) 10) (M : Md c r q n d l p g c3 r3) (zr : ∀ x, 0 ≤ x → x < 1000 → xR c3 (231 + n) x = 0) (hF : ∀ c' r', CR c r q D n p g c' r' → duo (F 0 c') (xB (yf248 B r') fun _ m2 => some (.inl 0, m2)) Q Z) (hZ : ∀ c' r', FL c' r' → QC c c' → QR q r r' → Z c' 0 r') : duo (xB (xB (yf68 B 3 c3) fun _ m6 => xB (yf68 B 214 m6) fun _ m7 => xB (yf68 B 3 m7) fun _ m8 => xB (yf78 B (xR m6 1 5) (xR m8 1 5) m8) fun _ m9 => yk73_205 B 217 m9) F) (yk277_242 B n 6 (xw_u r3 (q + 10) n 6)) Q Z := by
  obtain ⟨i1, i2, n0, i4, i5⟩ := id I
  have l4 := L4 d d0 d1
  obtain ⟨M4, h4⟩ := Md_h (h := 6) q0 n0 n1 (by decide) (by decide) M
  generalize xw_u r3 (q + 10) n 6 = r4 at M4 h4 ⊢
  have q4 := Md_p hq M4
  have qf4 := Md_q q0 n0 n1 M4
  rw [w242 q4 q0 n0 n1 (by decide), xB_as]
  refine duo_B (enm M4.2.2.1.1) (fun v c5 w r5 s => ?_) (fun c5 w r5 f z => ?_)
  · obtain ⟨e5, s, k3⟩ := s
    have M5 := Md_x q0 n0 n1 M4 s
    have ew : w32 w = w := by rw [e5]; exact w32_xR _ _ _
    generalize hr6 : xw_u r5 (q + 11) n w = r6
    have e6 : ∀ a, a ≠ q + 11 → r6 a = r5 a := fun a ha => by rw [← hr6]; exact xu_c ha
    have a6 : xR r6 (q + 11) n = w := by rw [← hr6]; exact xR_at ew
    have h6 : xR r6 (q + 10) n = 6 := by rw [xR_cg (e6 (q + 10) (by omega)), xR_cg (s.2.2.1.1 (q + 10) (by omega))]; exact h4
    have t6 : TK c5 r6 := TK_fr s.1 (fun _ _ _ => rfl) rfl (fun k _ _ => by rw [e6 536 (by omega)]) (e6 537 (by omega))
    have M6 : Md c r q n d l p g c5 r6 := Md_s n0 n1 M5 (fun _ _ _ => rfl) (fun _ _ => rfl) (fun a _ ha => e6 a (by omega)) (fun k _ => by rw [e6 536 (by omega)]) (fun a i x1 x2 hi => by rw [← hr6]; exact xu_ne (by omega)) (fun i _ => by rw [e6 (q + 13) (by omega)]) q0 t6 (Int.le_refl _)
    have q6 := Md_p hq M6
    have qf6 := Md_q q0 n0 n1 M6
    have z5 : ∀ x, 0 ≤ x → x < 1000 → xR c5 (231 + n) x = 0 := fun x x0 x1 => by rw [xR_cg (s.2.1.1 (231 + n) (by omega))]; exact zr x x0 x1
    rw [w270b, xB_as]
    refine duo_B (ewd (w := 14) t6.1 (by decide) (by decide) rfl) (fun v c7 w7 r7 s7 => ?_) (fun c7 w7 r7 f z => ?_)
    · obtain ⟨_, _, s7⟩ := s7
      have M7 := Md_x q0 n0 n1 M6 s7
      have q7 := Md_p hq M7
      have qf7 := Md_q q0 n0 n1 M7
      rw [w270s q7 q0 n0 n1, xB_as]
      refine duo_B (enm s7.1.1) (fun v c8 w8 r8 s8 => ?_) (fun c8 w8 r8 f z => ?_)
      · obtain ⟨e8, s8, _⟩ := s8
        have M8 := Md_x q0 n0 n1 M7 s8
        have ew8 : w32 w8 = w8 := by rw [e8]; exact w32_xR _ _ _
        generalize hr9 : xw_u r8 (q + 12) n w8 = r9
        have e9 : ∀ a, a ≠ q + 12 → r9 a = r8 a := fun a ha => by rw [← hr9]; exact xu_c ha
        have b9 : xR r9 (q + 12) n = w8 := by rw [← hr9]; exact xR_at ew8
        have a9 : xR r9 (q + 11) n = w := by rw [xR_cg (e9 (q + 11) (by omega)), xR_cg (s8.2.2.1.1 (q + 11) (by omega)), xR_cg (s7.2.2.1.1 (q + 11) (by omega))]; exact a6
        have h9 : xR r9 (q + 10) n = 6 := by rw [xR_cg (e9 (q + 10) (by omega)), xR_cg (s8.2.2.1.1 (q + 10) (by omega)), xR_cg (s7.2.2.1.1 (q + 10) (by omega))]; exact h6
        have m8 : ∀ a, a < 223 → a ≠ 1 → c8 a = c a := fun a ha h1 => M8.1.1 a h1 (by omega) (by omega) (by omega) (by omega) (by omega)
        have e11 : xR c8 (15 + 26 * d) 11 = xR c (15 + 26 * d) 11 := by rw [xR_cg (m8 (15 + 26 * d) (by omega) (by omega))]
        have eV : xR c8 (15 + 26 * d + 9 + l) = xR c (15 + 26 * d + 9 + l) := xR_cg (m8 (15 + 26 * d + 9 + l) (by omega) (by omega))
        have z8 : ∀ x, 0 ≤ x → x < 1000 → xR c8 (231 + n) x = 0 := fun x x0 x1 => by rw [xR_cg (s8.2.1.1 (231 + n) (by omega)), xR_cg (s7.2.1.1 (231 + n) (by omega))]; exact z5 x x0 x1
        obtain ⟨c9, z9, f9, g9⟩ := adm_ok (B := B) (c := c8) (lo := xR c5 1 5) (hi := xR c8 1 5) (n := n) (d := d) (l := l) M8.1.2.2.1 n0 n1 M8.1.2.2.2.1 d0 (by omega) l0 (by omega) (by rw [e11]; exact m1)
        rw [e11, eV, ← e5, ← e8] at g9
        have t9 : TK c9 r9 := TK_fr s8.1 (fun k _ _ => by rw [f9 1 (by omega)]) (f9 2 (by omega)) (fun k _ _ => by rw [e9 536 (by omega)]) (e9 537 (by omega))
        have M9 : Md c r q n d l p g c9 r9 := Md_s n0 n1 M8 (fun a _ ha => f9 a ha) (fun k _ => by rw [f9 1 (by omega)]) (fun a _ ha => e9 a (by omega)) (fun k _ => by rw [e9 536 (by omega)]) (fun a i x1 x2 hi => by rw [← hr9]; exact xu_ne (by omega)) (fun i _ => by rw [e9 (q + 13) (by omega)]) q0 t9 (by rw [xR_cg (f9 1 (by omega))]; omega)
        have e205 : yk73_205 B 217 c9 = some (.inl 0, c9) := by
          unfold yk73_205
          rw [if_neg (by decide), if_neg (by decide), if_pos (by decide)]
        rw [xB_as, z9, xB_ret, e205, xB_ret]
        refine cm_end (F := F 0) hq q0 I D8 L4 n1 s0 s1 d0 d1 l0 l1 M9 ⟨fun x x0 x1 => ?_, by rw [h9]; decide, by rw [h9]; exact fun k => absurd k (by decide)⟩ hF
        rw [h9, a9, b9, g9 x, cmv_s (by decide)]
        by_cases e : 0 ≤ x ∧ x < xR c (15 + 26 * d) 11 ∧ w ≤ xR c (15 + 26 * d + 9 + l) x ∧ xR c (15 + 26 * d + 9 + l) x ≤ w8
        · rw [if_pos e]
          exact ⟨Or.inr rfl, fun _ => Or.inr (Or.inr (Or.inr (Or.inr (Or.inr (Or.inr ⟨rfl, e.2.2⟩))))), fun _ => rfl⟩
        · rw [if_neg e, z8 x x0 (Int.lt_of_lt_of_le x1 m1)]
          refine ⟨Or.inl rfl, fun k => absurd k (by decide), fun k => ?_⟩
          rcases k with k | k | k | k | k | k | k
          · exact absurd k.1 (by decide)
          · exact absurd k.1 (by decide)
          · exact absurd k.1 (by decide)
          · exact absurd k.1 (by decide)
          · exact absurd k.1 (by decide)
          · exact absurd k.1 (by decide)
          · exact absurd ⟨x0, x1, k.2⟩ e
      · have f1 : FL c8 (xw_u r8 (q + 12) n w8) := fRk_fl (q := q) f (fun k _ => xu_ne (by omega))
        obtain ⟨r', z', f', g'⟩ := d306 (B := B) (n := n) f1 (by rw [xu_ne (by omega), z.2.2.2 23 (by omega)]; exact q7) q0
        exact ⟨0, r', z', f', hZ c8 r' f' (QC_tr (QC_c qf7.1) (QC_y z.2.1)) (QR_tr (QR_tr (QR_c qf7.2) (QR_y z.2.2)) (QR_tr ⟨fun a ha hb => xu_c (by omega), fun k _ _ _ => xu_ne (by omega)⟩ g'))⟩
    · have q7 : r7 536 23 = q := by rw [z.2.2.2 23 (by omega)]; exact q6
      rw [w270s q7 q0 n0 n1, d278 f.1, xB_ret]
      have f1 : FL c7 (xw_u r7 (q + 12) n 0) := fRk_fl (q := q) f (fun k _ => xu_ne (by omega))
      obtain ⟨r', z', f', g'⟩ := d306 (B := B) (n := n) f1 (by rw [xu_ne (by omega)]; exact q7) q0
      exact ⟨0, r', z', f', hZ c7 r' f' (QC_tr (QC_c qf6.1) (QC_y z.2.1)) (QR_tr (QR_tr (QR_c qf6.2) (QR_y z.2.2)) (QR_tr ⟨fun a ha hb => xu_c (by omega), fun k _ _ _ => xu_ne (by omega)⟩ g'))⟩
  · have f1 : FL c5 (xw_u r5 (q + 11) n w) := fRk_fl (q := q) f (fun k _ => xu_ne (by omega))
    obtain ⟨r', z', f', g'⟩ := d270 (B := B) (n := n) (h := 6) f1 (by rw [xu_ne (by omega), z.2.2.2 23 (by omega)]; exact q4) q0 n0 n1
    exact ⟨0, r', z', f', hZ c5 r' f' (QC_tr (QC_c qf4.1) (QC_y z.2.1)) (QR_tr (QR_tr (QR_c qf4.2) (QR_y z.2.2)) (QR_tr ⟨fun a ha hb => xu_c (by omega), fun k _ _ _ => xu_ne (by omega)⟩ g'))⟩
/-- the list as a whole -/
theorem lst_ok {q n d l p g h0 : Int} {c4 r4 : xw_M} (hq : r 536 23 = q) (q0 : q = 544 ∨ q = 558) (n0 : 0 ≤ n) (n1 : n < 60) (d0 : 0 ≤ d) (d1 : d < 8) (l0 : 0 ≤ l) (l1 : l < 4) (hm : xR c (15 + 26 * d) 11 ≤ 1000) (M : Md c r q n d l p g c4 r4) (zr : ∀ x, 0 ≤ x → x < 1000 → xR c4 (231 + n) x = 0) (h4 : xR r4 (q + 10) n = h0) : duo (yf79 B c4) (yf279 B n r4) (fun _ c' _ r' => ∃ a, 0 ≤ a ∧ a ≤ 40 ∧ xR r' (q + 11) n = a ∧ Li c r q n d l p g h0 a c' r') (fun c' _ r' => QC c c' ∧ QR q r r') := by
  have qf := Md_q q0 n0 n1 M
  unfold yf79 yf279
  generalize hN : (1000000 : Nat) = N
  refine duo_B (esg (K := 40) (g := 40) M.2.2.1.1 rfl (Or.inl rfl)) (fun v c5 w r5 s => ?_) (fun c5 w r5 f z => ?_)
  · obtain ⟨w1, k1, s⟩ := s
    rw [w1]
    have M5 := Md_x q0 n0 n1 M s
    refine lst_l hq q0 n0 n1 d0 d1 l0 l1 hm 41 N N 0 c5 r5 (by omega) (by omega) (by omega) (by omega) (by omega) ⟨M5, by rw [xR_cg (s.2.2.1.1 (q + 10) (by omega))]; exact h4, fun x x0 x1 => Or.inl (by rw [xR_cg (s.2.1.1 (231 + n) (by omega))]; exact zr x x0 x1), fun x x0 x1 => ?_⟩
    rw [xR_cg (s.2.1.1 (231 + n) (by omega)), zr x x0 (by omega)]
    exact ⟨fun k => absurd k (by decide), fun ⟨k, k0, k1, _⟩ => by omega⟩
  · obtain ⟨N1, rfl⟩ : ∃ N1, N = N1 + 1 := ⟨N - 1, by omega⟩
    rw [z.1]
    obtain ⟨w', r', z', f', g'⟩ := dlst (B := B) (c := c5) (r := r5) (q := q) (n := n) (x := 0) (N := N1) f (by rw [z.2.2.2 23 (by omega)]; exact Md_p hq M) q0 n0 n1
    exact ⟨w', r', z', f', QC_tr (QC_c qf.1) (QC_y z.2.1), QR_tr (QR_tr (QR_c qf.2) (QR_y z.2.2)) g'⟩
theorem cmv_7 {a b v : Int} {L : Int → Int} : cmv 7 a b L v ↔ ∃ k, 0 ≤ k ∧ k < a ∧ L k = v := by
  unfold cmv
  constructor
  · rintro (k | k | k | k | k | k | k | k | k)
    · exact absurd k.1 (by decide)
    · exact absurd k.1 (by decide)
    · exact absurd k.1 (by decide)
    · exact absurd k.1 (by decide)
    · exact absurd k.1 (by decide)
    · exact absurd k.1 (by decide)
    · exact absurd k.1 (by decide)
    · exact k.2
    · exact absurd k.1 (by decide)
  · exact fun k => Or.inr (Or.inr (Or.inr (Or.inr (Or.inr (Or.inr (Or.inr (Or.inl ⟨rfl, k⟩)))))))
theorem cmv_8 {a b v : Int} {L : Int → Int} : cmv 8 a b L v ↔ ¬ ∃ k, 0 ≤ k ∧ k < a ∧ L k = v := by
  unfold cmv
  constructor
  · rintro (k | k | k | k | k | k | k | k | k)
    · exact absurd k.1 (by decide)
    · exact absurd k.1 (by decide)
    · exact absurd k.1 (by decide)
    · exact absurd k.1 (by decide)
    · exact absurd k.1 (by decide)
    · exact absurd k.1 (by decide)
    · exact absurd k.1 (by decide)
    · exact absurd k.1 (by decide)
    · exact k.2
  · exact fun k => Or.inr (Or.inr (Or.inr (Or.inr (Or.inr (Or.inr (Or.inr (Or.inr ⟨rfl, k⟩)))))))
/-- in (7), not in (8), from the list on -/
theorem cm_in {q D n d l p g K h : Int} {c4 r4 : xw_M} {F : Int → xw_M → xP} {Q : Int → xw_M → Int → xw_M → Prop} {Z : xw_M → Int → xw_M → Prop} (hq : r 536 23 = q) (q0 : q = 544 ∨ q = 558) (I : CQ c r q D n) (D8 : D ≤ 8) (L4 : ∀ d, 0 ≤ d → d < D → xR c (15 + 26 * d) 10 ≤ 4) (m1 : xR c (15 + 26 * d) 11 ≤ 1000) (n1 : n < 60) (s0 : 0 ≤ xR r q 11) (s1 : xR r q 11 < 2600) (d0 : 0 ≤ d) (d1 : d < D) (l0 : 0 ≤ l) (l1 : l < xR c (15 + 26 * d) 10) (M : Md c r q n d l p g c4 r4) (zr : ∀ x, 0 ≤ x → x < 1000 → xR c4 (231 + n) x = 0) (h4 : xR r4 (q + 10) n = h) (hK : (K = 218 ∧ h = 7) ∨ (K = 216 ∧ h = 8)) (hF : ∀ c' r', CR c r q D n p g c' r' → duo (F 0 c') (xB (yf248 B r') fun _ m2 => some (.inl 0, m2)) Q Z) (hZ : ∀ c' r', FL c' r' → QC c c' → QR q r r' → Z c' 0 r') : duo (xB (yk73_137 B K c4) F) (yk277_242 B n h r4) Q Z := by
  obtain ⟨i1, i2, n0, i4, i5⟩ := id I
  have l4 := L4 d d0 d1
  unfold yk73_137
  rw [xB_as, w242b (by omega)]
  refine duo_B (lst_ok hq q0 n0 n1 d0 (by omega) l0 (by omega) m1 M zr h4) (fun v c5 w r5 s => ?_) (fun c5 w r5 f z => ?_)
  · obtain ⟨a, a0, a1, ea, M5, h5, b1, b2⟩ := s
    rw [w270 (by omega)]
    rcases hK with ⟨rfl, rfl⟩ | ⟨rfl, rfl⟩
    · have e205 : yk73_205 B 218 c5 = some (.inl 0, c5) := by
        unfold yk73_205
        rw [if_neg (by decide), if_neg (by decide), if_pos (by decide)]
      rw [e205, xB_ret]
      refine cm_end (F := F 0) hq q0 I D8 L4 n1 s0 s1 d0 d1 l0 l1 M5 ⟨fun x x0 x1 => ?_, by rw [h5]; decide, fun _ => by rw [ea]; exact ⟨a0, a1⟩⟩ hF
      rw [h5, ea, cmv_7]
      exact ⟨b1 x x0 (Int.lt_of_lt_of_le x1 m1), b2 x x0 x1⟩
    · obtain ⟨c8, z8, f8, g8⟩ := turn_ok (B := B) (c := c5) (n := n) M5.1.2.2.1 n0 n1 b1
      have e205 : yk73_205 B 216 c5 = some (.inl 0, c8) := by
        unfold yk73_205 yk73_224
        rw [if_pos rfl, z8, xB_ret]
      rw [e205, xB_ret]
      have t8 : TK c8 r5 := TK_fr M5.2.2.1 (fun k _ _ => by rw [f8 1 (by omega)]) (f8 2 (by omega)) (fun _ _ _ => rfl) rfl
      have M8 : Md c r q n d l p g c8 r5 := Md_s n0 n1 M5 (fun a _ ha => f8 a ha) (fun k _ => by rw [f8 1 (by omega)]) (fun _ _ _ => rfl) (fun _ _ => rfl) (fun _ _ _ _ _ => rfl) (fun _ _ => rfl) q0 t8 (by rw [xR_cg (f8 1 (by omega))]; omega)
      refine cm_end (F := F 0) hq q0 I D8 L4 n1 s0 s1 d0 d1 l0 l1 M8 ⟨fun x x0 x1 => ?_, by rw [h5]; decide, fun _ => by rw [ea]; exact ⟨a0, a1⟩⟩ hF
      rw [h5, ea, cmv_8, g8 x, if_pos ⟨x0, Int.lt_of_lt_of_le x1 m1⟩, ← b2 x x0 x1]
      have := b1 x x0 (Int.lt_of_lt_of_le x1 m1)
      omega
  · have q5 : r5 536 23 = q := by rw [z.2.2 23 (by omega) (by omega) (by omega)]; exact hq
    obtain ⟨r', z', f', g'⟩ := d270 (B := B) (n := n) (h := h) f q5 q0 n0 n1
    exact ⟨0, r', z', f', hZ c5 r' f' z.1 (QR_tr z.2 g')⟩
end CMD
