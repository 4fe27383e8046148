/-! ROOM ON THE DISK: markHolders, roomFor, blocksInTwo; mark, placeFor -/
/-- whether a block is in the extent e -/
def inx (S Ln : Int → Int) (x e : Int) : Bool := decide (S e ≤ x ∧ x < S e + Ln e)
/-- extents within the blocks, none in two -/
def exts (S Ln : Int → Int) (E b : Int) : Prop := (0 ≤ E ∧ E ≤ 200) ∧ (∀ e, 0 ≤ e → e < E → 2 ≤ S e ∧ 0 ≤ Ln e ∧ S e + Ln e ≤ b) ∧ ∀ e e', 0 ≤ e → e < E → 0 ≤ e' → e' < E → e ≠ e' → S e + Ln e ≤ S e' ∨ S e' + Ln e' ≤ S e
/-- a free block -/
def frx (S Ln : Int → Int) (E x : Int) : Prop := ∀ e, 0 ≤ e → e < E → ¬ (S e ≤ x ∧ x < S e + Ln e)
theorem cnt_0 {P : Int → Bool} {n : Nat} : cnt P n = 0 ↔ ∀ i : Nat, i < n → P i = false := by
  induction n with
  | zero => exact ⟨fun _ i h => absurd h (Nat.not_lt_zero _), fun _ => rfl⟩
  | succ n ih =>
    have hb := cnt_b P n
    show cnt P n + _ = 0 ↔ _
    constructor
    · intro h i hi
      by_cases hp : P n = true
      · rw [if_pos hp] at h
        omega
      · rw [if_neg hp] at h
        by_cases e : i = n
        · rw [e]
          simpa using hp
        · exact ih.mp (by omega) i (by omega)
    · intro h
      rw [if_neg (by rw [h n (by omega)]; decide), ih.mpr (fun i hi => h i (by omega))]
      rfl
theorem frx_cnt {S Ln : Int → Int} {E x : Int} (hE : 0 ≤ E) : cnt (inx S Ln x) E.toNat = 0 ↔ frx S Ln E x := by
  rw [cnt_0]
  constructor
  · intro h e e0 e1
    have := h e.toNat (by omega)
    unfold inx at this
    rw [Int.toNat_of_nonneg e0] at this
    exact of_decide_eq_false this
  · intro h i hi
    exact decide_eq_false (h i (by omega) (by omega))
theorem exts_le1 {S Ln : Int → Int} {E b x : Int} (h : exts S Ln E b) : ∀ n : Nat, (n : Int) ≤ E → cnt (inx S Ln x) n ≤ 1 := by
  intro n
  induction n with
  | zero => intro _; show (0 : Int) ≤ 1; decide
  | succ n ih =>
    intro hn
    have q := ih (by omega)
    show cnt (inx S Ln x) n + _ ≤ 1
    by_cases hp : inx S Ln x n = true
    · have hp' := of_decide_eq_true hp
      have : cnt (inx S Ln x) n = 0 := cnt_0.mpr (fun i hi => decide_eq_false (fun hc => by
        have := h.2.2 i n (by omega) (by omega) (by omega) (by omega) (by omega)
        omega))
      rw [if_pos hp, this]
      decide
    · rw [if_neg hp]
      omega
/-- the foremost place for n blocks, or -1 -/
def isRoom (S Ln : Int → Int) (E b n v : Int) : Prop := (v = -1 ∧ ∀ s, 2 ≤ s → s + n ≤ b → ∃ x, (s ≤ x ∧ x < s + n) ∧ ¬ frx S Ln E x) ∨ ((2 ≤ v ∧ v + n ≤ b) ∧ (∀ x, v ≤ x → x < v + n → frx S Ln E x) ∧ ∀ s, 2 ≤ s → s < v → ∃ x, (s ≤ x ∧ x < s + n) ∧ ¬ frx S Ln E x)
theorem isRoom_uniq {S Ln : Int → Int} {E b n v v' : Int} (h : isRoom S Ln E b n v) (h' : isRoom S Ln E b n v') : v = v' := by
  rcases h with ⟨h1, h2⟩ | ⟨h1, h2, h3⟩
  · rcases h' with ⟨k1, k2⟩ | ⟨k1, k2, k3⟩
    · omega
    · obtain ⟨x, hx, hf⟩ := h2 v' k1.1 k1.2
      exact absurd (k2 x hx.1 hx.2) hf
  · rcases h' with ⟨k1, k2⟩ | ⟨k1, k2, k3⟩
    · obtain ⟨x, hx, hf⟩ := k2 v h1.1 h1.2
      exact absurd (h2 x hx.1 hx.2) hf
    · rcases Int.lt_trichotomy v v' with c | c | c
      · obtain ⟨x, hx, hf⟩ := k3 v h1.1 c
        exact absurd (h2 x hx.1 hx.2) hf
      · exact c
      · obtain ⟨x, hx, hf⟩ := h3 v' k1.1 c
        exact absurd (k2 x hx.1 hx.2) hf
section ROOM
variable {B : Nat} {m : xw_M} {E b : Int}
theorem holders_ok (hb : b ≤ 512) (hE : xR m 508 14 = E) (hx : exts (xR m 514) (xR m 515) E b) : ∃ m', yf158 B m = some (.inl 0, m') ∧ (∀ a, a ≠ 510 → m' a = m a) ∧ ∀ x, 0 ≤ x → x < 512 → xR m' 510 x = cnt (inx (xR m 514) (xR m 515) x) E.toNat := by
  obtain ⟨⟨E0, E1⟩, h2, h3⟩ := hx
  generalize hSf : xR m 514 = S at *
  generalize hLf : xR m 515 = Ln at *
  unfold yf158
  have e510 : xw_le B 510 = 512 := rfl
  rw [fill31 (a := 510) (by decide) (by rw [e510]; decide) (by rw [e510]; decide), xB_ret]
  have goal := xH_ex (Q := fun v m' => v = 0 ∧ (∀ a, a ≠ 510 → m' a = m a) ∧ ∀ x, 0 ≤ x → x < 512 → xR m' 510 x = cnt (inx S Ln x) E.toNat) (xl1_rule (F := yl158_10 B) (fun x0 m' => 0 ≤ x0 ∧ x0 ≤ E ∧ (∀ a, a ≠ 510 → m' a = m a) ∧ ∀ x, 0 ≤ x → x < 512 → xR m' 510 x = cnt (inx S Ln x) x0.toNat) (fun x0 _ => (E - x0).toNat) ?_ 1000000 0 (xfill m 510 0 (xw_le B 510) 0) ⟨by omega, by omega, fun a ha => xfill_ne ha, fun x x0 x1 => by unfold xR; rw [xfill_at x0 (by show x < (512 : Int); exact x1)]; rfl⟩ (by omega))
  · obtain ⟨v, m', e, rfl, h⟩ := goal
    exact ⟨m', e, h⟩
  · intro r x0 m1 ⟨a0, a1, F, V⟩ ih
    have q14 : xR m1 508 14 = E := by rw [xR_cg (F 508 (by decide))]; exact hE
    unfold yl158_10
    rw [q14]
    by_cases hx0 : x0 < E
    · obtain ⟨k1, k2, k3⟩ := h2 x0 a0 hx0
      have eS : xR m1 514 = S := by rw [xR_cg (F 514 (by decide))]; exact hSf
      rw [if_pos hx0, if_pos ⟨a0, by omega⟩, eS]
      refine xl2_rule (F := yl158_25 B r) (fun y0 y1 m' => y0 = x0 ∧ S x0 ≤ y1 ∧ y1 ≤ S x0 + Ln x0 ∧ (∀ a, a ≠ 510 → m' a = m a) ∧ ∀ x, 0 ≤ x → x < 512 → xR m' 510 x = cnt (inx S Ln x) x0.toNat + (if S x0 ≤ x ∧ x < y1 then 1 else 0)) (fun _ y1 _ => (S x0 + Ln x0 - y1).toNat) ?_ 1000000 x0 (S x0) m1 ⟨rfl, by omega, by omega, F, fun x q0 q1 => by rw [V x q0 q1, if_neg (by omega), Int.add_zero]⟩ (by omega)
      intro r' y0 y1 m2 ⟨b0, b1, b2, F2, V2⟩ ih'
      subst b0
      have eS2 : xR m2 514 = S := by rw [xR_cg (F2 514 (by decide))]; exact hSf
      have eL2 : xR m2 515 = Ln := by rw [xR_cg (F2 515 (by decide))]; exact hLf
      unfold yl158_25
      rw [if_pos ⟨a0, by omega⟩, eS2, eL2, w32_id (x := S y0 + Ln y0) (by omega) (by omega)]
      by_cases hy : y1 < S y0 + Ln y0
      · have hcb := cnt_b (inx S Ln y1) y0.toNat
        rw [if_pos hy, if_pos ⟨by omega, by omega⟩, w32_id (by omega) (by omega)]
        refine ih' _ _ _ ⟨rfl, by omega, by omega, fun a ha => by rw [xu_c ha]; exact F2 a ha, fun x q0 q1 => ?_⟩ (by omega)
        rw [xR_u]
        by_cases e : x = y1
        · rw [if_pos ⟨rfl, e⟩, V2 y1 (by omega) (by omega), if_neg (by omega), if_pos (by omega), e, w32_id (by omega) (by omega), Int.add_zero]
        · rw [if_neg (fun h => e h.2), V2 x q0 q1]
          by_cases c : S y0 ≤ x ∧ x < y1
          · rw [if_pos c, if_pos (by omega)]
          · rw [if_neg c, if_neg (by omega)]
      · rw [if_neg hy, w32_id (by omega) (by omega)]
        refine ih _ _ ⟨by omega, by omega, F2, fun x q0 q1 => ?_⟩ (by omega)
        rw [V2 x q0 q1, show (y0 + 1).toNat = y0.toNat + 1 from by omega]
        show _ = cnt (inx S Ln x) y0.toNat + (if inx S Ln x ((y0.toNat : Nat) : Int) = true then 1 else 0)
        rw [Int.toNat_of_nonneg a0]
        unfold inx
        by_cases c : S y0 ≤ x ∧ x < S y0 + Ln y0
        · rw [if_pos (by omega), if_pos (decide_eq_true c)]
        · rw [if_neg (by omega), if_neg (by simpa using c)]
    · have ex : x0 = E := by omega
      subst ex
      rw [if_neg hx0, xH_ret]
      exact ⟨rfl, F, V⟩
theorem room_ok (hb : b ≤ 512) (hE : xR m 508 14 = E) (h0 : xR m 508 0 = b) (hx : exts (xR m 514) (xR m 515) E b) (hov : xR m 518 3 = 0) {n : Int} (hn : 1 ≤ n) (hn2 : n ≤ 1000000) : ∃ m' v, yf157 B n m = some (.inl v, m') ∧ (∀ a, a ≠ 510 → m' a = m a) ∧ isRoom (xR m 514) (xR m 515) E b n v := by
  obtain ⟨m1, e1, F1, V1⟩ := holders_ok (B := B) hb hE hx
  have E0 := hx.1.1
  unfold yf157
  rw [hov, if_pos rfl, e1, xB_ret]
  generalize hSf : xR m 514 = S at *
  generalize hLf : xR m 515 = Ln at *
  have q0 : xR m1 508 0 = b := by rw [xR_cg (F1 508 (by decide))]; exact h0
  have fr0 : ∀ x, 0 ≤ x → x < 512 → (xR m1 510 x = 0 ↔ frx S Ln E x) := fun x x0 x1 => by rw [V1 x x0 x1]; exact frx_cnt E0
  have goal := xH_ex (Q := fun v m' => m' = m1 ∧ isRoom S Ln E b n v) (xl3_rule (F := yl157_20 B) (fun x0 x1 x2 m' => x0 = n ∧ m' = m1 ∧ 0 ≤ x1 ∧ x1 < n ∧ 2 ≤ x2 ∧ x1 ≤ x2 - 2 ∧ (x2 ≤ b ∨ x2 = 2) ∧ (∀ x, x2 - x1 ≤ x → x < x2 → frx S Ln E x) ∧ (x2 - x1 = 2 ∨ ¬ frx S Ln E (x2 - x1 - 1)) ∧ ∀ s, 2 ≤ s → s + n ≤ x2 → ∃ x, (s ≤ x ∧ x < s + n) ∧ ¬ frx S Ln E x) (fun _ _ x2 _ => (b + 2 - x2).toNat) ?_ 1000000 n 0 2 m1 ⟨rfl, rfl, by omega, by omega, by omega, by omega, by omega, fun x h1 h2 => by omega, by omega, fun s h1 h2 => by omega⟩ (by omega))
  · obtain ⟨v, m', e, rfl, h⟩ := goal
    exact ⟨m', v, e, F1, h⟩
  · intro r x0 x1 x2 m' ⟨a0, a1, a2, a3, a4, a5, a6, A1, A2, A3⟩ ih
    subst a0 a1
    unfold yl157_20
    rw [q0]
    by_cases hx2 : x2 < b
    · rw [if_pos hx2, if_pos ⟨by omega, by omega⟩]
      by_cases hf : xR m' 510 x2 = 0
      · have hfr := (fr0 x2 (by omega) (by omega)).mp hf
        rw [if_pos hf, w32_id (x := x1 + 1) (by omega) (by omega)]
        by_cases hl : x1 + 1 < x0
        · rw [if_pos hl, w32_id (by omega) (by omega)]
          refine ih _ _ _ _ ⟨rfl, rfl, by omega, hl, by omega, by omega, by omega, fun x h1 h2 => ?_, by rw [show x2 + 1 - (x1 + 1) = x2 - x1 from by omega]; exact A2, fun s h1 h2 => ?_⟩ (by omega)
          · by_cases e : x = x2
            · rw [e]; exact hfr
            · exact A1 x (by omega) (by omega)
          · by_cases hs : s + x0 ≤ x2
            · exact A3 s h1 hs
            · rcases A2 with c | c
              · omega
              · exact ⟨x2 - x1 - 1, ⟨by omega, by omega⟩, c⟩
        · rw [if_neg hl, xH_ret, w32_id (by omega) (by omega)]
          refine ⟨rfl, Or.inr ⟨⟨by omega, by omega⟩, fun x h1 h2 => ?_, fun s h1 h2 => A3 s h1 (by omega)⟩⟩
          by_cases e : x = x2
          · rw [e]; exact hfr
          · exact A1 x (by omega) (by omega)
      · have hfr : ¬ frx S Ln E x2 := fun h => hf ((fr0 x2 (by omega) (by omega)).mpr h)
        rw [if_neg hf, if_pos (by omega), w32_id (by omega) (by omega)]
        refine ih _ _ _ _ ⟨rfl, rfl, by omega, by omega, by omega, by omega, by omega, fun x h1 h2 => by omega, Or.inr (by rw [show x2 + 1 - 0 - 1 = x2 from by omega]; exact hfr), fun s h1 h2 => ?_⟩ (by omega)
        by_cases hs : s + x0 ≤ x2
        · exact A3 s h1 hs
        · exact ⟨x2, ⟨by omega, by omega⟩, hfr⟩
    · rw [if_neg hx2, xH_ret]
      refine ⟨rfl, Or.inl ⟨rfl, fun s h1 h2 => ?_⟩⟩
      by_cases hs : s + x0 ≤ x2
      · exact A3 s h1 hs
      · omega
theorem two_ok (hb : b ≤ 512) (hE : xR m 508 14 = E) (h0 : xR m 508 0 = b) (hx : exts (xR m 514) (xR m 515) E b) : ∃ m', yf237 B m = some (.inl 0, m') ∧ ∀ a, a ≠ 510 → m' a = m a := by
  obtain ⟨m1, e1, F1, V1⟩ := holders_ok (B := B) hb hE hx
  unfold yf237
  rw [e1, xB_ret]
  refine ⟨m1, ?_, F1⟩
  refine xl2_eq (F := yl237_8 B) (fun _ _ _ => some (.inl 0, m1)) (fun x0 x1 m' => x0 = 0 ∧ m' = m1 ∧ 0 ≤ x1) (fun _ x1 _ => (b - x1).toNat) ?_ 1000000 0 0 m1 ⟨rfl, rfl, by omega⟩ (by omega)
  intro r x0 x1 m' ⟨a0, a1, a2⟩ ih
  subst a0 a1
  unfold yl237_8
  rw [show xR m' 508 0 = b from by rw [xR_cg (F1 508 (by decide))]; exact h0]
  by_cases h : x1 < b
  · have := exts_le1 (x := x1) hx E.toNat (by have := hx.1.1; omega)
    rw [if_pos h, if_pos ⟨a2, by omega⟩, V1 x1 a2 (by omega), if_neg (by omega), w32_id (by omega) (by omega), ih _ _ _ ⟨rfl, rfl, by omega⟩ (by omega)]
  · rw [if_neg h]
end ROOM
