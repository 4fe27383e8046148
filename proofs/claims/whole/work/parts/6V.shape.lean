/-! A TABLE'S SHAPE: shapeAsFacts, shapeAsView -/
theorem hd_ex (hv : Int → Bool) (N : Nat) : ∃ hd : Int → Int, (∀ c, 0 ≤ c → c < cnt hv N → (0 ≤ hd c ∧ hd c < N) ∧ hv (hd c) = true ∧ cnt hv (hd c).toNat = c) ∧ ∀ d : Int, 0 ≤ d → d < N → hv d = true → hd (cnt hv d.toNat) = d := by
  induction N with
  | zero =>
    refine ⟨fun _ => 0, fun c h0 h1 => ?_, fun d h0 h1 => ?_⟩
    · have : cnt hv 0 = 0 := rfl
      omega
    · have h1 : d < 0 := h1
      omega
  | succ N ih =>
    obtain ⟨hd, h1, h2⟩ := ih
    have hN := cnt_b hv N
    by_cases hb : hv N = true
    · have e : cnt hv (N + 1) = cnt hv N + 1 := by
        show cnt hv N + _ = _
        rw [if_pos hb]
      refine ⟨fun c => if c = cnt hv N then (N : Int) else hd c, fun c c0 c1 => ?_, fun d d0 d1 hd1 => ?_⟩
      · dsimp only
        by_cases ec : c = cnt hv N
        · rw [if_pos ec]
          exact ⟨⟨by omega, by omega⟩, hb, by rw [Int.toNat_natCast, ec]⟩
        · rw [if_neg ec]
          obtain ⟨q1, q2, q3⟩ := h1 c c0 (by omega)
          exact ⟨⟨q1.1, by omega⟩, q2, q3⟩
      · dsimp only
        by_cases ed : d = N
        · rw [ed, Int.toNat_natCast, if_pos rfl]
        · have := cnt_lt (P := hv) (i := d.toNat) (n := N) (by omega) (by rw [Int.toNat_of_nonneg d0]; exact hd1)
          rw [if_neg (by omega)]
          exact h2 d d0 (by omega) hd1
    · have e : cnt hv (N + 1) = cnt hv N := by
        show cnt hv N + _ = _
        rw [if_neg hb, Int.add_zero]
      refine ⟨hd, fun c c0 c1 => ?_, fun d d0 d1 hd1 => ?_⟩
      · obtain ⟨q1, q2, q3⟩ := h1 c c0 (by omega)
        exact ⟨⟨q1.1, by omega⟩, q2, q3⟩
      · by_cases ed : d = N
        · rw [ed] at hd1
          exact absurd hd1 hb
        · exact h2 d d0 (by omega) hd1
/-- which dimension a view's column is of -/
noncomputable def hdf (hv : Int → Bool) (N : Nat) : Int → Int := Classical.choose (hd_ex hv N)
theorem hdf_1 (hv : Int → Bool) (N : Nat) : ∀ c, 0 ≤ c → c < cnt hv N → (0 ≤ hdf hv N c ∧ hdf hv N c < N) ∧ hv (hdf hv N c) = true ∧ cnt hv (hdf hv N c).toNat = c := (Classical.choose_spec (hd_ex hv N)).1
theorem hdf_2 (hv : Int → Bool) (N : Nat) : ∀ d : Int, 0 ≤ d → d < N → hv d = true → hdf hv N (cnt hv d.toNat) = d := (Classical.choose_spec (hd_ex hv N)).2
/-- only a table's shape is another -/
def fS (m m' : xw_M) : Prop := (∀ a, a ≠ 302 → a ≠ 371 → a ≠ 372 → m' a = m a) ∧ ∀ k, k ≠ 5 → k ≠ 6 → k ≠ 7 → m' 302 k = m 302 k
section SHAPE
variable {B : Nat} {m : xw_M} {D M : Int}
theorem shapeF_ok (hD : 0 ≤ D ∧ D ≤ 8) (hM : 0 ≤ M ∧ M ≤ 8) (h31 : xR m 3 1 = D) (h32 : xR m 3 2 = M) : ∃ m', yf105 B m = some (.inl 0, m') ∧ fS m m' ∧ xR m' 302 5 = D ∧ xR m' 302 6 = D + M ∧ xR m' 302 7 = 0 ∧ ∀ d, 0 ≤ d → d < D → xR m' 371 d = 0 ∧ xR m' 372 d = d := by
  unfold yf105
  have goal := xH_ex (Q := fun v m' => v = 0 ∧ fS m m' ∧ xR m' 302 5 = D ∧ xR m' 302 6 = D + M ∧ xR m' 302 7 = 0 ∧ ∀ d, 0 ≤ d → d < D → xR m' 371 d = 0 ∧ xR m' 372 d = d) (xl1_rule (F := yl105_18 B) (fun x0 m' => 0 ≤ x0 ∧ x0 ≤ D ∧ fS m m' ∧ xR m' 302 5 = D ∧ xR m' 302 7 = 0 ∧ ∀ d, 0 ≤ d → d < x0 → xR m' 371 d = 0 ∧ xR m' 372 d = d) (fun x0 _ => (D - x0).toNat) ?_ 1000000 0 (xw_u (xw_u m 302 7 0) 302 5 (xR m 3 1)) ⟨by omega, by omega, ⟨fun a a1 _ _ => by rw [xu_c a1, xu_c a1], fun k k1 k2 k3 => by unfold xw_u; rw [if_neg (fun e => k1 e.2), if_neg (fun e => k3 e.2)]⟩, by rw [xR_u, if_pos ⟨rfl, rfl⟩, h31]; exact w32_id (by omega) (by omega), by rw [xR_u, if_neg (by decide), xR_u, if_pos ⟨rfl, rfl⟩]; rfl, fun d d0 d1 => by omega⟩ (by omega))
  · obtain ⟨v, m', e, rfl, h⟩ := goal
    exact ⟨m', e, h⟩
  · intro r x0 m1 ⟨a0, a1, F, q5, q7, V⟩ ih
    unfold yl105_18
    rw [q5]
    by_cases hx : x0 < D
    · rw [if_pos hx, if_pos ⟨a0, by omega⟩, w32_id (by omega) (by omega)]
      refine ih _ _ ⟨by omega, by omega, ⟨fun a b1 b2 b3 => by rw [xu_c b3, xu_c b2]; exact F.1 a b1 b2 b3, fun k k1 k2 k3 => by rw [xu_c (by decide), xu_c (by decide)]; exact F.2 k k1 k2 k3⟩, by rw [xR_cg (xu_c (by decide)), xR_cg (xu_c (by decide))]; exact q5, by rw [xR_cg (xu_c (by decide)), xR_cg (xu_c (by decide))]; exact q7, fun d d0 d1 => ?_⟩ (by omega)
      rw [xR_cg (xu_c (show (371 : Int) ≠ 372 by decide)), xR_u, xR_u]
      by_cases e : d = x0
      · rw [if_pos ⟨rfl, e⟩, if_pos ⟨rfl, e⟩, e]
        exact ⟨rfl, w32_id (by omega) (by omega)⟩
      · rw [if_neg (fun h => e h.2), if_neg (fun h => e h.2), xR_cg (xu_c (show (372 : Int) ≠ 371 by decide))]
        exact V d d0 (by omega)
    · have q32 : xR m1 3 2 = M := by rw [xR_cg (F.1 3 (by decide) (by decide) (by decide))]; exact h32
      rw [if_neg hx, xH_ret, q32]
      refine ⟨rfl, ⟨fun a b1 b2 b3 => by rw [xu_c b1]; exact F.1 a b1 b2 b3, fun k k1 k2 k3 => by unfold xw_u; rw [if_neg (fun e => k2 e.2)]; exact F.2 k k1 k2 k3⟩, by rw [xR_u, if_neg (by decide)]; exact q5, by rw [xR_u, if_pos ⟨rfl, rfl⟩]; exact w32_id (by omega) (by omega), by rw [xR_u, if_neg (by decide)]; exact q7, fun d d0 d1 => ?_⟩
      rw [xR_cg (xu_c (by decide)), xR_cg (xu_c (by decide))]
      exact V d d0 (by omega)
/-- which dimensions a view has -/
def vhas (lv : Int → Int) (D v : Int) (d : Int) : Bool := decide (vdg lv D v d < lv d)
theorem shapeV_ok (hD : 0 ≤ D ∧ D ≤ 8) (hM : 0 ≤ M ∧ M ≤ 8) (h31 : xR m 3 1 = D) (h32 : xR m 3 2 = M) {v : Int} (hv : 0 ≤ v ∧ v < 2147483648) (hl : ∀ d, 0 ≤ d → d < D → 0 ≤ xR m (15 + 26 * d) 10 ∧ xR m (15 + 26 * d) 10 ≤ 4) : ∃ m', yf109 B v m = some (.inl 0, m') ∧ fS m m' ∧ vsh m' D M (cnt (vhas (fun d => xR m (15 + 26 * d) 10) D v) D.toNat) (hdf (vhas (fun d => xR m (15 + 26 * d) 10) D v) D.toNat) ∧ xR m' 302 7 = 1 ∧ ∀ d, 0 ≤ d → d < D → xR m' 371 d = vdg (fun d => xR m (15 + 26 * d) 10) D v d ∧ (vhas (fun d => xR m (15 + 26 * d) 10) D v d = true ↔ xR m' 372 d ≠ -1) := by
  generalize hlv : (fun d => xR m (15 + 26 * d) 10) = lv at *
  have hlv2 : ∀ d, xR m (15 + 26 * d) 10 = lv d := fun d => by rw [← hlv]
  generalize hvf : vhas lv D v = hs at *
  have hs2 : ∀ d, hs d = decide (vdg lv D v d < lv d) := fun d => by rw [← hvf]; rfl
  unfold yf109
  have goal := xH_ex (Q := fun w m' => w = 0 ∧ fS m m' ∧ xR m' 302 5 = cnt hs D.toNat ∧ xR m' 302 6 = cnt hs D.toNat + 1 + 3 * M ∧ xR m' 302 7 = 1 ∧ ∀ d, 0 ≤ d → d < D → xR m' 371 d = vdg lv D v d ∧ xR m' 372 d = (if hs d = true then cnt hs d.toNat else -1)) (xl2_rule (F := yl109_12 B) (fun x0 x1 m' => x0 = v ∧ 0 ≤ x1 ∧ x1 ≤ D ∧ fS m m' ∧ xR m' 302 5 = cnt hs x1.toNat ∧ xR m' 302 7 = 1 ∧ ∀ d, 0 ≤ d → d < x1 → xR m' 371 d = vdg lv D v d ∧ xR m' 372 d = (if hs d = true then cnt hs d.toNat else -1)) (fun _ x1 _ => (D - x1).toNat) ?_ 1000000 v 0 (xw_u (xw_u m 302 7 1) 302 5 0) ⟨rfl, by omega, by omega, ⟨fun a a1 _ _ => by rw [xu_c a1, xu_c a1], fun k k1 k2 k3 => by unfold xw_u; rw [if_neg (fun e => k1 e.2), if_neg (fun e => k3 e.2)]⟩, by rw [xR_u, if_pos ⟨rfl, rfl⟩]; rfl, by rw [xR_u, if_neg (by decide), xR_u, if_pos ⟨rfl, rfl⟩]; rfl, fun d d0 d1 => by omega⟩ (by omega))
  · obtain ⟨w, m', e, rfl, F, q5, q6, q7, V⟩ := goal
    have hPb : cnt hs D.toNat ≤ D := by have := (cnt_b hs D.toNat).2; omega
    have hP0 := (cnt_b hs D.toNat).1
    have H1 := hdf_1 hs D.toNat
    have H2 := hdf_2 hs D.toNat
    refine ⟨m', e, F, ⟨hD, hM, ⟨hP0, hPb⟩, by rw [xR_cg (F.1 3 (by decide) (by decide) (by decide))]; exact h31, by rw [xR_cg (F.1 3 (by decide) (by decide) (by decide))]; exact h32, q5, q6, fun d d0 d1 => ?_, fun c c0 c1 => ?_⟩, q7, fun d d0 d1 => ⟨(V d d0 d1).1, ?_⟩⟩
    · rw [(V d d0 d1).2]
      by_cases hb : hs d = true
      · rw [if_pos hb]
        have q1 := cnt_b hs d.toNat
        have q2 := cnt_lt (P := hs) (i := d.toNat) (n := D.toNat) (by omega) (by rw [Int.toNat_of_nonneg d0]; exact hb)
        exact Or.inr ⟨⟨q1.1, q2⟩, H2 d d0 (by omega) hb⟩
      · rw [if_neg hb]
        exact Or.inl rfl
    · obtain ⟨g1, g2, g3⟩ := H1 c c0 c1
      refine ⟨⟨g1.1, by omega⟩, ?_⟩
      rw [(V _ g1.1 (by omega)).2, if_pos g2, g3]
    · rw [(V d d0 d1).2]
      by_cases hb : hs d = true
      · rw [if_pos hb]
        have q1 := (cnt_b hs d.toNat).1
        exact ⟨fun _ => by omega, fun _ => hb⟩
      · rw [if_neg hb]
        exact ⟨fun h => absurd h hb, fun h => absurd rfl h⟩
  · intro r x0 x1 m1 ⟨b0, a0, a1, F, q5, q7, V⟩ ih
    subst b0
    have q31 : xR m1 3 1 = D := by rw [xR_cg (F.1 3 (by decide) (by decide) (by decide))]; exact h31
    have elv : ∀ d, 0 ≤ d → d < D → xR m1 (15 + 26 * d) 10 = lv d := fun d d0 d1 => by rw [xR_cg (F.1 (15 + 26 * d) (by omega) (by omega) (by omega)), hlv2]
    unfold yl109_12
    rw [q31]
    by_cases hx : x1 < D
    · have hcb := cnt_b hs x1.toNat
      have hl1 : ∀ d, 0 ≤ d → d < D → 0 ≤ xR m1 (15 + 26 * d) 10 ∧ xR m1 (15 + 26 * d) 10 ≤ 4 := fun d d0 d1 => by rw [elv d d0 d1, ← hlv2]; exact hl d d0 d1
      have eL := levelIn_ok (B := B) (m := m1) (v := x0) (d := x1) hD.2 q31 hv hl1 a0 hx
      rw [vdg_cg (lv' := lv) a0 hx elv] at eL
      have hvb := vdg_b (lv := lv) (D := D) (v := x0) (d := x1) (fun d d0 d1 => by rw [← hlv2]; exact hl d d0 d1) a0 hx
      have hlb : lv x1 ≤ 4 := by rw [← hlv2]; exact (hl x1 a0 hx).2
      have es : cnt hs (x1 + 1).toNat = cnt hs x1.toNat + (if hs x1 = true then 1 else 0) := by
        rw [show (x1 + 1).toNat = x1.toNat + 1 from by omega]
        show cnt hs x1.toNat + (if hs ((x1.toNat : Nat) : Int) = true then 1 else 0) = _
        rw [Int.toNat_of_nonneg a0]
      rw [if_pos hx, eL, xB_ret, if_pos ⟨a0, by omega⟩, if_pos (dm_f B a0 (by omega)).1, elv x1 a0 hx, q5, w32_id (x := x1 + 1) (by omega) (by omega)]
      by_cases hh : vdg lv D x0 x1 < lv x1
      · have hb : hs x1 = true := by rw [hs2]; exact decide_eq_true hh
        rw [if_pos hb] at es
        rw [if_pos hh]
        refine ih _ _ _ ⟨rfl, by omega, by omega, ⟨fun a b1 b2 b3 => by rw [xu_c b1, xu_c b3, xu_c b2]; exact F.1 a b1 b2 b3, fun k k1 k2 k3 => by unfold xw_u; rw [if_neg (fun e => k1 e.2), if_neg (by omega), if_neg (by omega)]; exact F.2 k k1 k2 k3⟩, by rw [xR_u, if_pos ⟨rfl, rfl⟩, es]; exact w32_id (by omega) (by omega), by rw [xR_u, if_neg (by decide), xR_cg (xu_c (by decide)), xR_cg (xu_c (by decide))]; exact q7, fun d d0 d1 => ?_⟩ (by omega)
        rw [xR_cg (xu_c (show (371 : Int) ≠ 302 by decide)), xR_cg (xu_c (show (371 : Int) ≠ 372 by decide)), xR_cg (xu_c (show (372 : Int) ≠ 302 by decide)), xR_u, xR_u]
        by_cases e : d = x1
        · rw [if_pos ⟨rfl, e⟩, if_pos ⟨rfl, e⟩, e, if_pos hb]
          exact ⟨w32_id (by omega) (by omega), w32_id (by omega) (by omega)⟩
        · rw [if_neg (fun h => e h.2), if_neg (fun h => e h.2), xR_cg (xu_c (show (372 : Int) ≠ 371 by decide))]
          exact V d d0 (by omega)
      · have hb : ¬ hs x1 = true := by rw [hs2]; simpa using hh
        rw [if_neg hb] at es
        rw [if_neg hh]
        refine ih _ _ _ ⟨rfl, by omega, by omega, ⟨fun a b1 b2 b3 => by rw [xu_c b1, xu_c b3, xu_c b2]; exact F.1 a b1 b2 b3, fun k k1 k2 k3 => by unfold xw_u; rw [if_neg (fun e => k1 e.2), if_neg (by omega), if_neg (by omega)]; exact F.2 k k1 k2 k3⟩, by rw [xR_u, if_pos ⟨rfl, rfl⟩, es]; exact w32_id (by omega) (by omega), by rw [xR_u, if_neg (by decide), xR_cg (xu_c (by decide)), xR_cg (xu_c (by decide))]; exact q7, fun d d0 d1 => ?_⟩ (by omega)
        rw [xR_cg (xu_c (show (371 : Int) ≠ 302 by decide)), xR_cg (xu_c (show (371 : Int) ≠ 372 by decide)), xR_cg (xu_c (show (372 : Int) ≠ 302 by decide)), xR_u, xR_u]
        by_cases e : d = x1
        · rw [if_pos ⟨rfl, e⟩, if_pos ⟨rfl, e⟩, e, if_neg hb]
          exact ⟨w32_id (by omega) (by omega), rfl⟩
        · rw [if_neg (fun h => e h.2), if_neg (fun h => e h.2), xR_cg (xu_c (show (372 : Int) ≠ 371 by decide))]
          exact V d d0 (by omega)
    · have q32 : xR m1 3 2 = M := by rw [xR_cg (F.1 3 (by decide) (by decide) (by decide))]; exact h32
      have ex : x1 = D := by omega
      subst ex
      have hcb := cnt_b hs x1.toNat
      rw [if_neg hx, xH_ret, q32, q5]
      refine ⟨rfl, ⟨fun a b1 b2 b3 => by rw [xu_c b1]; exact F.1 a b1 b2 b3, fun k k1 k2 k3 => by unfold xw_u; rw [if_neg (fun e => k2 e.2)]; exact F.2 k k1 k2 k3⟩, by rw [xR_u, if_neg (by decide)]; exact q5, by rw [xR_u, if_pos ⟨rfl, rfl⟩]; exact w32_id (by omega) (by omega), by rw [xR_u, if_neg (by decide)]; exact q7, fun d d0 d1 => ?_⟩
      rw [xR_cg (xu_c (by decide)), xR_cg (xu_c (by decide))]
      exact V d d0 d1
end SHAPE
