/-! THE READERS: a comparison on both sides: readComparison, comparison -/
theorem cmv_cg {h a b v : Int} {L L' : Int → Int} (e : 7 ≤ h → ∀ k, 0 ≤ k → k < a → L' k = L k) : cmv h a b L' v ↔ cmv h a b L v := by
  have t : 7 ≤ h → ((∃ k, 0 ≤ k ∧ k < a ∧ L' k = v) ↔ ∃ k, 0 ≤ k ∧ k < a ∧ L k = v) := fun h7 => ⟨fun ⟨k, k0, k1, k2⟩ => ⟨k, k0, k1, by rw [← e h7 k k0 k1]; exact k2⟩, fun ⟨k, k0, k1, k2⟩ => ⟨k, k0, k1, by rw [e h7 k k0 k1]; exact k2⟩⟩
  unfold cmv
  by_cases h7 : 7 ≤ h
  · rw [t h7]
  · constructor
    · rintro (k | k | k | k | k | k | k | k | k)
      · exact Or.inl k
      · exact Or.inr (Or.inl k)
      · exact Or.inr (Or.inr (Or.inl k))
      · exact Or.inr (Or.inr (Or.inr (Or.inl k)))
      · exact Or.inr (Or.inr (Or.inr (Or.inr (Or.inl k))))
      · exact Or.inr (Or.inr (Or.inr (Or.inr (Or.inr (Or.inl k)))))
      · exact Or.inr (Or.inr (Or.inr (Or.inr (Or.inr (Or.inr (Or.inl k))))))
      · omega
      · omega
    · rintro (k | k | k | k | k | k | k | k | k)
      · exact Or.inl k
      · exact Or.inr (Or.inl k)
      · exact Or.inr (Or.inr (Or.inl k))
      · exact Or.inr (Or.inr (Or.inr (Or.inl k)))
      · exact Or.inr (Or.inr (Or.inr (Or.inr (Or.inl k))))
      · exact Or.inr (Or.inr (Or.inr (Or.inr (Or.inr (Or.inl k)))))
      · exact Or.inr (Or.inr (Or.inr (Or.inr (Or.inr (Or.inr (Or.inl k))))))
      · omega
      · omega
theorem cmv_s {h a b v : Int} {L : Int → Int} (h6 : h ≤ 6) : cmv h a b L v ↔ (h = 0 ∧ v = a) ∨ (h = 1 ∧ v ≠ a) ∨ (h = 2 ∧ v < a) ∨ (h = 3 ∧ v ≤ a) ∨ (h = 4 ∧ a < v) ∨ (h = 5 ∧ a ≤ v) ∨ (h = 6 ∧ a ≤ v ∧ v ≤ b) := by
  unfold cmv
  constructor
  · rintro (k | k | k | k | k | k | k | k | k)
    · exact Or.inl k
    · exact Or.inr (Or.inl k)
    · exact Or.inr (Or.inr (Or.inl k))
    · exact Or.inr (Or.inr (Or.inr (Or.inl k)))
    · exact Or.inr (Or.inr (Or.inr (Or.inr (Or.inl k))))
    · exact Or.inr (Or.inr (Or.inr (Or.inr (Or.inr (Or.inl k)))))
    · exact Or.inr (Or.inr (Or.inr (Or.inr (Or.inr (Or.inr k)))))
    · have := k.1; omega
    · have := k.1; omega
  · rintro (k | k | k | k | k | k | k)
    · exact Or.inl k
    · exact Or.inr (Or.inl k)
    · exact Or.inr (Or.inr (Or.inl k))
    · exact Or.inr (Or.inr (Or.inr (Or.inl k)))
    · exact Or.inr (Or.inr (Or.inr (Or.inr (Or.inl k))))
    · exact Or.inr (Or.inr (Or.inr (Or.inr (Or.inr (Or.inl k)))))
    · exact Or.inr (Or.inr (Or.inr (Or.inr (Or.inr (Or.inr (Or.inl k))))))
/-- the sign's own test, turned or not -/
theorem sgn_p {K h w b lo hi v : Int} {L : Int → Int} (hK : (K = 61 ∧ h = 0) ∨ (K = 102 ∧ h = 1) ∨ (K = 60 ∧ h = 2) ∨ (K = 100 ∧ h = 3) ∨ (K = 62 ∧ h = 4) ∨ (K = 101 ∧ h = 5)) (e : (K = 60 ∨ K = 101) ∧ lo = -2147483648 ∧ hi = w - 1 ∨ (K = 62 ∨ K = 100) ∧ lo = w + 1 ∧ hi = 2147483647 ∨ (K = 61 ∨ K = 102) ∧ lo = w ∧ hi = w) (v0 : -2147483648 ≤ v) (v1 : v < 2147483648) : (100 ≤ K → (cmv h w b L v ↔ ¬ (lo ≤ v ∧ v ≤ hi))) ∧ (K < 100 → (cmv h w b L v ↔ (lo ≤ v ∧ v ≤ hi))) := by
  rcases hK with ⟨rfl, rfl⟩ | ⟨rfl, rfl⟩ | ⟨rfl, rfl⟩ | ⟨rfl, rfl⟩ | ⟨rfl, rfl⟩ | ⟨rfl, rfl⟩ <;> rw [cmv_s (by decide)] <;> constructor <;> intro _ <;> omega
/-- behind a comparison -/
def CR (c r : xw_M) (q D n p g : Int) (c' r' : xw_M) : Prop := TK c' r' ∧ CQ c' r' q D (n + 1) ∧ LW c' (n + 1) g ∧ SB c' (n + 1) (p + 1) ∧ (∀ v, SC c' v = v n :: SC c v) ∧ (∀ v, RS r' q v = v n :: RS r q v) ∧ (xR r' q 11 = xR r q 11 + 1 ∧ xR r' (q + 8) (xR r q 11) = n ∧ ∀ i, i ≠ xR r q 11 → xR r' (q + 8) i = xR r (q + 8) i) ∧ fCk c c' ∧ fRk q r r' ∧ (c' 293 = c 293 ∧ c' 294 = c 294 ∧ r' 536 25 = r 536 25) ∧ xR c 1 2 < xR c' 1 2
section CMC
variable {B : Nat} {c r : xw_M}
/-- the bits of the comparison in the making -/
def bts (c c4 r4 : xw_M) (q n d l : Int) : Prop := (∀ x, 0 ≤ x → x < xR c (15 + 26 * d) 11 → (xR c4 (231 + n) x = 0 ∨ xR c4 (231 + n) x = 1) ∧ (xR c4 (231 + n) x = 1 ↔ cmv (xR r4 (q + 10) n) (xR r4 (q + 11) n) (xR r4 (q + 12) n) (fun k => xR r4 (q + 13) (40 * n + k)) (xR c (15 + 26 * d + 9 + l) x))) ∧ (0 ≤ xR r4 (q + 10) n ∧ xR r4 (q + 10) n ≤ 8) ∧ (7 ≤ xR r4 (q + 10) n → 0 ≤ xR r4 (q + 11) n ∧ xR r4 (q + 11) n ≤ 40)
theorem cm_end {q D n d l p g : Int} {c4 r4 : xw_M} {F : xw_M → xP} {Q : Int → xw_M → Int → xw_M → Prop} {Z : xw_M → Int → xw_M → Prop} (hq : r 536 23 = q) (q0 : q = 544 ∨ q = 558) (I : CQ c r q D n) (D8 : D ≤ 8) (L4 : ∀ d, 0 ≤ d → d < D → xR c (15 + 26 * d) 10 ≤ 4) (n1 : n < 60) (s0 : 0 ≤ xR r q 11) (s1 : xR r q 11 < 2600) (d0 : 0 ≤ d) (d1 : d < D) (l0 : 0 ≤ l) (l1 : l < xR c (15 + 26 * d) 10) (M : Md c r q n d l p g c4 r4) (bt : bts c c4 r4 q n d l) (hF : ∀ c' r', CR c r q D n p g c' r' → duo (F c') (xB (yf248 B r') fun _ m2 => some (.inl 0, m2)) Q Z) : duo (F c4) (yk277_306 B n r4) Q Z := by
  obtain ⟨i1, i2, n0, i4, i5⟩ := I
  have qf := Md_q q0 n0 n1 M
  have q4 := Md_p hq M
  obtain ⟨⟨a1, a2, a3, a4, a5, a6, a7, a8, a9⟩, ⟨b1, b2, b3, b4, b5⟩, t4, lt⟩ := M
  have rq : r4 q = r q := b1 q (by omega) (by omega)
  rw [w306 q4 q0, xR_cg rq, i2]
  generalize hr5 : xw_u r4 q 13 (n + 1) = r5
  have e5 : ∀ a, a ≠ q → r5 a = r4 a := fun a ha => by rw [← hr5]; exact xu_c ha
  have e5q : ∀ k, k ≠ 13 → r5 q k = r4 q k := fun k hk => by rw [← hr5]; exact xu_ne (by omega)
  have n6 : xR r5 536 6 = 0 := by rw [xR_cg (e5 536 (by omega))]; exact t4.nf
  have s5 : xR r5 q 11 = xR r q 11 := by rw [xR_fld (e5q 11 (by omega)), xR_cg rq]
  obtain ⟨r6, z6, f6, c6, E6, H6, K6⟩ := say_ok (B := B) (r := r5) (q := q) (x := n) n6 (by rw [e5 536 (by omega)]; exact q4) q0 (by rw [s5]; exact s0) (by rw [s5]; exact s1) (w32_id (by omega) (by omega))
  rw [z6, xB_ret]
  have r64 : ∀ a, a ≠ q → a ≠ q + 8 → r6 a = r4 a := fun a x1 x2 => by rw [f6.1 a x1 x2, e5 a x1]
  refine hF c4 r6 ⟨TK_fr t4 (fun _ _ _ => rfl) rfl (fun k _ _ => by rw [r64 536 (by omega) (by omega)]) (r64 537 (by omega) (by omega)), ⟨a3, by rw [xR_fld (f6.2 13 (by omega)), ← hr5]; exact xR_at (w32_id (by omega) (by omega)), by omega, by omega, fun i x0 x1 => ?_⟩, a8, a6, a7, fun v => ?_, ⟨by rw [c6, s5], by rw [← s5]; exact H6, fun i hi => by rw [K6 i (by rw [s5]; exact hi), xR_cg (e5 (q + 8) (by omega)), xR_cg (b1 (q + 8) (by omega) (by omega))]⟩, qf.1, ⟨fun a x1 x2 x3 => by rw [r64 a x2 (by omega), b1 a x1 (by omega)], fun k hk _ => by rw [r64 536 (by omega) (by omega), b2 k hk], fun k k1 k2 => by rw [f6.2 k k1, e5q k k2, rq]⟩, ⟨a1 293 (by omega) (by omega) (by omega) (by omega) (by omega) (by omega), a1 294 (by omega) (by omega) (by omega) (by omega) (by omega) (by omega), by rw [r64 536 (by omega) (by omega), b2 25 (by omega)]⟩, lt⟩
  · unfold CM1
    rw [xR_cg (r64 (q + 9) (by omega) (by omega)), xR_cg (r64 (q + 10) (by omega) (by omega)), xR_cg (r64 (q + 11) (by omega) (by omega)), xR_cg (r64 (q + 12) (by omega) (by omega)), xR_cg (r64 (q + 13) (by omega) (by omega))]
    by_cases e : i = n
    · subst e
      refine ⟨by rw [b3, a4], ⟨d, l, a4, d0, d1, l0, by rw [xR_cg (a1 (15 + 26 * d) (by omega) (by omega) (by omega) (by omega) (by omega) (by omega))]; exact l1, ?_⟩, bt.2.1, bt.2.2⟩
      have := L4 d d0 d1
      rw [xR_cg (a1 (15 + 26 * d) (by omega) (by omega) (by omega) (by omega) (by omega) (by omega)), xR_cg (a1 (15 + 26 * d + 9 + l) (by omega) (by omega) (by omega) (by omega) (by omega) (by omega))]
      exact bt.1
    · obtain ⟨k1, ⟨d', l', k2, k3, k4, k5, k6, k7⟩, k8, k9⟩ := i5 i x0 (by omega)
      have := L4 d' k3 k4
      rw [xR_fld (b4 (q + 9) i (by omega) (by omega) e), xR_fld (b4 (q + 10) i (by omega) (by omega) e), xR_fld (b4 (q + 11) i (by omega) (by omega) e), xR_fld (b4 (q + 12) i (by omega) (by omega) e), xR_fld (a5 i e)]
      refine ⟨k1, ⟨d', l', k2, k3, k4, k5, by rw [xR_cg (a1 (15 + 26 * d') (by omega) (by omega) (by omega) (by omega) (by omega) (by omega))]; exact k6, ?_⟩, k8, k9⟩
      rw [xR_cg (a1 (15 + 26 * d') (by omega) (by omega) (by omega) (by omega) (by omega) (by omega)), xR_cg (a1 (15 + 26 * d' + 9 + l') (by omega) (by omega) (by omega) (by omega) (by omega) (by omega)), xR_cg (a1 (231 + i) (by omega) (by omega) (by omega) (by omega) (by omega) (by omega))]
      intro x y0 y1
      refine ⟨(k7 x y0 y1).1, (k7 x y0 y1).2.trans (cmv_cg (fun h7 k z0 z1 => ?_)).symm⟩
      have := k9 h7
      rw [xR_fld (b5 (40 * i + k) (by omega))]
  · rw [E6 v]
    unfold opR
    rw [if_pos n0]
    congr 1
    exact RS_fr (by rw [e5q 11 (by omega), rq]) (fun i _ _ => by rw [xR_cg (e5 (q + 8) (by omega)), xR_cg (b1 (q + 8) (by omega) (by omega))]) v
/-- for = < > and the like -/
theorem cm_sign {q D n d l p g K h : Int} {c3 r3 : xw_M} {F : Int → xw_M → xP} {Q : Int → xw_M → Int → xw_M → Prop} {Z : xw_M → Int → xw_M → Prop} (hq : r 536 23 = q) (q0 : q = 544 ∨ q = 558) (I : CQ c r q D n) (D8 : D ≤ 8) (L4 : ∀ d, 0 ≤ d → d < D → xR c (15 + 26 * d) 10 ≤ 4) (m1 : xR c (15 + 26 * d) 11 ≤ 1000) (n1 : n < 60) (s0 : 0 ≤ xR r q 11) (s1 : xR r q 11 < 2600) (d0 : 0 ≤ d) (d1 : d < D) (l0 : 0 ≤ l) (l1 : l < xR c (15 + 26 * d) 10) (M : Md c r q n d l p g c3 r3) (zr : ∀ x, 0 ≤ x → x < 1000 → xR c3 (231 + n) x = 0) (hK : (K = 61 ∧ h = 0) ∨ (K = 102 ∧ h = 1) ∨ (K = 60 ∧ h = 2) ∨ (K = 100 ∧ h = 3) ∨ (K = 62 ∧ h = 4) ∨ (K = 101 ∧ h = 5)) (hF : ∀ c' r', CR c r q D n p g c' r' → duo (F 0 c') (xB (yf248 B r') fun _ m2 => some (.inl 0, m2)) Q Z) (hZ : ∀ c' r', FL c' r' → QC c c' → QR q r r' → Z c' 0 r') : duo (xB (yk73_174 B K c3) F) (yk277_242 B n h (xw_u r3 (q + 10) n h)) Q Z := by
  obtain ⟨i1, i2, n0, i4, i5⟩ := id I
  have l4 := L4 d d0 d1
  generalize hr4 : xw_u r3 (q + 10) n h = r4
  have e4 : ∀ a, a ≠ q + 10 → r4 a = r3 a := fun a ha => by rw [← hr4]; exact xu_c ha
  have t4 : TK c3 r4 := TK_fr M.2.2.1 (fun _ _ _ => rfl) rfl (fun k _ _ => by rw [e4 536 (by omega)]) (e4 537 (by omega))
  have M4 : Md c r q n d l p g c3 r4 := Md_s n0 n1 M (fun _ _ _ => rfl) (fun _ _ => rfl) (fun a _ ha => e4 a (by omega)) (fun k _ => by rw [e4 536 (by omega)]) (fun a i x1 x2 hi => by rw [← hr4]; exact xu_ne (by omega)) (fun i _ => by rw [e4 (q + 13) (by omega)]) q0 t4 (Int.le_refl _)
  have q4 := Md_p hq M4
  have qf4 := Md_q q0 n0 n1 M4
  have h4 : xR r4 (q + 10) n = h := by rw [← hr4]; exact xR_at (w32_id (by omega) (by omega))
  rw [w242 q4 q0 n0 n1 (by omega)]
  unfold yk73_174
  rw [xB_as]
  refine duo_B (enm t4.1) (fun v c5 w r5 s => ?_) (fun c5 w r5 f z => ?_)
  · obtain ⟨e5, s, k3⟩ := s
    have M5 := Md_x q0 n0 n1 M4 s
    have ew : w32 w = w := by rw [e5]; exact w32_xR _ _ _
    have wr := w32_cg ew
    have wb : -2147483648 ≤ w ∧ w < 2147483648 := wr
    rw [w270 (show h ≠ 6 by omega)]
    generalize hr6 : xw_u r5 (q + 11) n w = r6
    have e6 : ∀ a, a ≠ q + 11 → r6 a = r5 a := fun a ha => by rw [← hr6]; exact xu_c ha
    have a6 : xR r6 (q + 11) n = w := by rw [← hr6]; exact xR_at ew
    have h6 : xR r6 (q + 10) n = h := by rw [xR_cg (e6 (q + 10) (by omega)), xR_cg (s.2.2.1.1 (q + 10) (by omega))]; exact h4
    have m5 : ∀ a, a < 223 → a ≠ 1 → c5 a = c a := fun a ha h1 => M5.1.1 a h1 (by omega) (by omega) (by omega) (by omega) (by omega)
    have e11 : xR c5 (15 + 26 * d) 11 = xR c (15 + 26 * d) 11 := by rw [xR_cg (m5 (15 + 26 * d) (by omega) (by omega))]
    have eV : xR c5 (15 + 26 * d + 9 + l) = xR c (15 + 26 * d + 9 + l) := xR_cg (m5 (15 + 26 * d + 9 + l) (by omega) (by omega))
    have z5 : ∀ x, 0 ≤ x → x < 1000 → xR c5 (231 + n) x = 0 := fun x x0 x1 => by rw [xR_cg (s.2.1.1 (231 + n) (by omega))]; exact zr x x0 x1
    obtain ⟨lo, hi, elh, eq80⟩ : ∃ lo hi : Int, ((K = 60 ∨ K = 101) ∧ lo = -2147483648 ∧ hi = w - 1 ∨ (K = 62 ∨ K = 100) ∧ lo = w + 1 ∧ hi = 2147483647 ∨ (K = 61 ∨ K = 102) ∧ lo = w ∧ hi = w) ∧ yf80 B K (xR c5 1 5) c5 = xB (yf78 B lo hi c5) fun _ m1 => some (.inl 0, m1) := by
      rw [← e5]
      unfold yf80 yk80_12 yk80_40
      rcases hK with k | k | k | k | k | k
      · exact ⟨w, w, by omega, by rw [if_neg (by omega), if_neg (by omega), if_neg (by omega), if_neg (by omega)]⟩
      · exact ⟨w, w, by omega, by rw [if_neg (by omega), if_neg (by omega), if_neg (by omega), if_neg (by omega)]⟩
      · exact ⟨-2147483648, w - 1, by omega, by rw [if_pos (by omega), w64_id (by omega) (by omega)]⟩
      · exact ⟨w + 1, 2147483647, by omega, by rw [if_neg (by omega), if_neg (by omega), if_neg (by omega), if_pos (by omega), w64_id (by omega) (by omega)]⟩
      · exact ⟨w + 1, 2147483647, by omega, by rw [if_neg (by omega), if_neg (by omega), if_pos (by omega), w64_id (by omega) (by omega)]⟩
      · exact ⟨-2147483648, w - 1, by omega, by rw [if_neg (by omega), if_pos (by omega), w64_id (by omega) (by omega)]⟩
    obtain ⟨c7, z7, f7, g7⟩ := adm_ok (B := B) (c := c5) (lo := lo) (hi := hi) (n := n) (d := d) (l := l) M5.1.2.2.1 n0 n1 M5.1.2.2.2.1 d0 (by omega) l0 (by omega) (by rw [e11]; exact m1)
    rw [e11, eV] at g7
    rw [eq80, xB_as, z7, xB_ret, xB_ret]
    have t7 : TK c7 r6 := TK_fr s.1 (fun k _ _ => by rw [f7 1 (by omega)]) (f7 2 (by omega)) (fun k _ _ => by rw [e6 536 (by omega)]) (e6 537 (by omega))
    have M7 : Md c r q n d l p g c7 r6 := Md_s n0 n1 M5 (fun a _ ha => f7 a ha) (fun k _ => by rw [f7 1 (by omega)]) (fun a _ ha => e6 a (by omega)) (fun k _ => by rw [e6 536 (by omega)]) (fun a i x1 x2 hi => by rw [← hr6]; exact xu_ne (by omega)) (fun i _ => by rw [e6 (q + 13) (by omega)]) q0 t7 (by rw [xR_cg (f7 1 (by omega))]; omega)
    have bb : ∀ x, 0 ≤ x → x < 1000 → xR c7 (231 + n) x = 0 ∨ xR c7 (231 + n) x = 1 := fun x x0 x1 => by
      rw [g7 x]
      split
      · exact Or.inr rfl
      · exact Or.inl (z5 x x0 x1)
    have VB : ∀ x, -2147483648 ≤ xR c (15 + 26 * d + 9 + l) x ∧ xR c (15 + 26 * d + 9 + l) x < 2147483648 := fun x => w32_cg (w32_xR _ _ _)
    by_cases tn : 100 ≤ K
    · obtain ⟨c8, z8, f8, g8⟩ := turn_ok (B := B) (c := c7) (n := n) M7.1.2.2.1 n0 n1 bb
      have e205 : yk73_205 B K c7 = some (.inl 0, c8) := by
        unfold yk73_205 yk73_224
        rw [if_neg (by omega), if_neg (by omega), if_neg (by omega), z8, xB_ret]
      rw [e205, xB_ret]
      have t8 : TK c8 r6 := TK_fr t7 (fun k _ _ => by rw [f8 1 (by omega)]) (f8 2 (by omega)) (fun _ _ _ => rfl) rfl
      have M8 : Md c r q n d l p g c8 r6 := Md_s n0 n1 M7 (fun a _ ha => f8 a ha) (fun k _ => by rw [f8 1 (by omega)]) (fun _ _ _ => rfl) (fun _ _ => rfl) (fun _ _ _ _ _ => rfl) (fun _ _ => rfl) q0 t8 (by rw [xR_cg (f8 1 (by omega))]; omega)
      refine cm_end (F := F 0) hq q0 I D8 L4 n1 s0 s1 d0 d1 l0 l1 M8 ⟨fun x x0 x1 => ?_, by rw [h6]; omega, by rw [h6]; omega⟩ hF
      have sp := (sgn_p (b := xR r6 (q + 12) n) (L := fun k => xR r6 (q + 13) (40 * n + k)) hK elh (VB x).1 (VB x).2).1 tn
      rw [h6, a6, g8 x, if_pos ⟨x0, Int.lt_of_lt_of_le x1 m1⟩, g7 x, sp]
      by_cases e : 0 ≤ x ∧ x < xR c (15 + 26 * d) 11 ∧ lo ≤ xR c (15 + 26 * d + 9 + l) x ∧ xR c (15 + 26 * d + 9 + l) x ≤ hi
      · rw [if_pos e]
        exact ⟨Or.inl rfl, fun k => absurd k (by decide), fun k => absurd e.2.2 k⟩
      · rw [if_neg e, z5 x x0 (Int.lt_of_lt_of_le x1 m1)]
        exact ⟨Or.inr rfl, fun _ k => e ⟨x0, x1, k⟩, fun _ => rfl⟩
    · have e205 : yk73_205 B K c7 = some (.inl 0, c7) := by
        unfold yk73_205
        rw [if_neg (by omega), if_pos (by omega)]
      rw [e205, xB_ret]
      refine cm_end (F := F 0) hq q0 I D8 L4 n1 s0 s1 d0 d1 l0 l1 M7 ⟨fun x x0 x1 => ?_, by rw [h6]; omega, by rw [h6]; omega⟩ hF
      have sp := (sgn_p (b := xR r6 (q + 12) n) (L := fun k => xR r6 (q + 13) (40 * n + k)) hK elh (VB x).1 (VB x).2).2 (Int.not_le.mp tn)
      rw [h6, a6, g7 x, sp]
      by_cases e : 0 ≤ x ∧ x < xR c (15 + 26 * d) 11 ∧ lo ≤ xR c (15 + 26 * d + 9 + l) x ∧ xR c (15 + 26 * d + 9 + l) x ≤ hi
      · rw [if_pos e]
        exact ⟨Or.inr rfl, fun _ => e.2.2, fun _ => rfl⟩
      · rw [if_neg e, z5 x x0 (Int.lt_of_lt_of_le x1 m1)]
        exact ⟨Or.inl rfl, fun k => absurd k (by decide), fun k => absurd ⟨x0, x1, k⟩ e⟩
  · have f1 : FL c5 (xw_u r5 (q + 11) n w) := fRk_fl (q := q) f (fun k _ => xu_ne (by omega))
    obtain ⟨r', z', f', g'⟩ := d270 (B := B) (n := n) (h := h) f1 (by rw [xu_ne (by omega), z.2.2.2 23 (by omega)]; exact q4) q0 n0 n1
    exact ⟨0, r', z', f', hZ c5 r' f' (QC_tr (QC_c qf4.1) (QC_y z.2.1)) (QR_tr (QR_tr (QR_c qf4.2) (QR_y z.2.2)) (QR_tr ⟨fun a ha hb => xu_c (by omega), fun k _ _ _ => xu_ne (by omega)⟩ g'))⟩
end CMC
