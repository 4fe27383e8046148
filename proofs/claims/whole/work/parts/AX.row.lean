/-! THE ANSWER, by the class: the row for a key (rowFor) -/
theorem an_f (B : Nat) {t : Int} (h : t = 420 ∨ t = 464) : xw_obb 9 t = true ∧ (xw_rf t 0 = t + 1 ∧ xw_rf t 1 = t + 39 ∧ xw_rf t 2 = t + 40 ∧ xw_rf t 3 = t + 41 ∧ xw_rf t 4 = t + 42 ∧ xw_rf t 5 = t + 43) ∧ (xw_obb 8 (t + 1) = true ∧ xw_obb 17 (t + 39) = true ∧ xw_obb 16 (t + 40) = true ∧ xw_obb 16 (t + 41) = true ∧ xw_obb 16 (t + 42) = true ∧ xw_obb 16 (t + 43) = true) ∧ (xw_le B (t + 39) = 4000 ∧ xw_le B (t + 40) = 4000 ∧ xw_le B (t + 41) = 8192 ∧ xw_le B (t + 42) = 8 ∧ xw_le B (t + 43) = 8) ∧ (xw_rf (t + 1) 0 = t + 3 ∧ xw_rf (t + 1) 1 = t + 12 ∧ xw_rf (t + 1) 2 = t + 37 ∧ xw_rf (t + 1) 3 = t + 38 ∧ xw_rf (t + 1) 4 = t + 2) ∧ (xw_obb 20 (t + 3) = true ∧ xw_obb 21 (t + 12) = true) ∧ (xw_le B (t + 3) = 8 ∧ xw_le B (t + 12) = 24) := by
  rcases h with rfl | rfl <;> exact ⟨rfl, ⟨rfl, rfl, rfl, rfl, rfl, rfl⟩, ⟨rfl, rfl, rfl, rfl, rfl, rfl⟩, ⟨rfl, rfl, rfl, rfl, rfl⟩, ⟨rfl, rfl, rfl, rfl, rfl⟩, ⟨rfl, rfl⟩, ⟨rfl, rfl⟩⟩
theorem an_g (B : Nat) {t g : Int} (h : t = 420 ∨ t = 464) (g0 : 0 ≤ g) (g1 : g < 8) : 5 ≤ xw_kd (t + 3) g ∧ xw_rf (t + 3) g = t + 4 + g ∧ xw_obb 16 (t + 4 + g) = true ∧ xw_le B (t + 4 + g) = 4000 := by
  have e : g = 0 ∨ g = 1 ∨ g = 2 ∨ g = 3 ∨ g = 4 ∨ g = 5 ∨ g = 6 ∨ g = 7 := by omega
  rcases h with rfl | rfl <;> rcases e with rfl | rfl | rfl | rfl | rfl | rfl | rfl | rfl <;> exact ⟨by decide, rfl, rfl, rfl⟩
theorem an_i (B : Nat) {t i : Int} (h : t = 420 ∨ t = 464) (i0 : 0 ≤ i) (i1 : i < 24) : 5 ≤ xw_kd (t + 12) i ∧ xw_rf (t + 12) i = t + 13 + i ∧ xw_obb 17 (t + 13 + i) = true ∧ xw_le B (t + 13 + i) = 4000 := by
  have h1 : ∀ j : Nat, j < 24 → 5 ≤ xw_kd 432 (j : Int) ∧ xw_rf 432 (j : Int) = 433 + (j : Int) ∧ xw_obb 17 (433 + (j : Int)) = true ∧ (xw_ly (433 + j)).2.1 = 4000 := by decide
  have h2 : ∀ j : Nat, j < 24 → 5 ≤ xw_kd 476 (j : Int) ∧ xw_rf 476 (j : Int) = 477 + (j : Int) ∧ xw_obb 17 (477 + (j : Int)) = true ∧ (xw_ly (477 + j)).2.1 = 4000 := by decide
  obtain ⟨j, rfl⟩ : ∃ j : Nat, i = j := ⟨i.toNat, by omega⟩
  have le : ∀ s : Nat, (s = 433 ∨ s = 477) → (xw_ly (s + j)).2.1 = 4000 → xw_le B ((s : Int) + (j : Int)) = 4000 := fun s hs e => by
    have e1 : ((s : Int) + (j : Int)).toNat = s + j := by omega
    have n1 : Nat.beq (s + j) 516 = false := by
      rw [Bool.eq_false_iff]; intro h; have := Nat.eq_of_beq_eq_true h; omega
    have n2 : Nat.beq (s + j) 517 = false := by
      rw [Bool.eq_false_iff]; intro h; have := Nat.eq_of_beq_eq_true h; omega
    unfold xw_le xw_ln
    rw [e1, n1, n2, e]
    rfl
  rcases h with rfl | rfl
  · obtain ⟨a, b, d, e⟩ := h1 j (by omega)
    exact ⟨a, b, d, le 433 (Or.inl rfl) e⟩
  · obtain ⟨a, b, d, e⟩ := h2 j (by omega)
    exact ⟨a, b, d, le 477 (Or.inr rfl) e⟩
/-- a key's hash -/
def khs (κ : Int → Int) : Nat → Int
  | 0 => 0
  | g + 1 => w32 ((khs κ g + κ g) * (-1640531535))
def khh (κ : Int → Int) (k : Int) : Int := xw_iushrf (khs κ k.toNat) 19
theorem khs_cg {κ κ' : Int → Int} : ∀ n : Nat, (∀ i : Int, 0 ≤ i → i < n → κ' i = κ i) → khs κ' n = khs κ n := by
  intro n
  induction n with
  | zero => exact fun _ => rfl
  | succ n ih =>
    intro h
    show w32 ((khs κ' n + κ' n) * (-1640531535)) = w32 ((khs κ n + κ n) * (-1640531535))
    rw [ih (fun i i0 i1 => h i i0 (by omega)), h n (by omega) (by omega)]
theorem ush19 (x : Int) : 0 ≤ xw_iushrf x 19 ∧ xw_iushrf x 19 < 8192 := by
  unfold xw_iushrf
  show 0 ≤ (((Int32.ofInt x).toUInt32 >>> ((Int32.ofInt 19).toUInt32 &&& Int32.toUInt32 31)).toInt32).toInt ∧ (((Int32.ofInt x).toUInt32 >>> ((Int32.ofInt 19).toUInt32 &&& Int32.toUInt32 31)).toInt32).toInt < 8192
  generalize (Int32.ofInt x).toUInt32 = y
  have e : ((Int32.ofInt 19).toUInt32 &&& Int32.toUInt32 31) = 19 := by decide
  rw [e]
  have h : (y >>> 19).toNat < 8192 := by
    rw [UInt32.toNat_shiftRight]
    have := y.toNat_lt
    show y.toNat >>> (19 % 32) < 8192
    rw [Nat.shiftRight_eq_div_pow, show 2 ^ (19 % 32) = 524288 from rfl]
    omega
  have t : (y >>> 19).toInt32.toInt = ((y >>> 19).toNat : Int) := by
    rw [show (y >>> 19).toInt32.toInt = ((y >>> 19).toNat : Int).bmod 4294967296 from by
      show (y >>> 19).toInt32.toBitVec.toInt = _
      show (y >>> 19).toBitVec.toInt = _
      rw [BitVec.toInt_eq_toNat_bmod]
      rfl]
    unfold Int.bmod
    dsimp only
    split <;> omega
  rw [t]
  omega
/-- the key of a set's row: what stands in ranks for columns of the set, lasts for others -/
def kyf (m : xw_M) (t mask g : Int) : Int := if xw_iandf (xw_ishrf mask g) 1 = 0 then xR m (t + 43) g else xR m (t + 42) g
section ROW
variable {B : Nat}
theorem hash_l {m : xw_M} {t mask k : Int} (h : t = 420 ∨ t = 464) (h6 : xR m 223 6 = k) (k8 : k ≤ 8) : ∀ (N : Nat) (g : Int), 0 ≤ g → g ≤ k → (k - g).toNat < N → xl4 (yl99_5 B) N t mask (khs (kyf m t mask) g.toNat) g m = xl4 (yl99_61 B) 1000000 t mask (khh (kyf m t mask) k) 0 m := by
  intro N
  induction N with
  | zero => intro g _ _ hN; omega
  | succ N ih =>
    intro g g0 g1 hN
    show yl99_5 B (xl4 (yl99_5 B) N) t mask (khs (kyf m t mask) g.toNat) g m = _
    have IH := ih (g + 1)
    have e1 : (g + 1).toNat = g.toNat + 1 := by omega
    have gg : ((g.toNat : Nat) : Int) = g := by omega
    rw [e1] at IH
    generalize xl4 (yl99_5 B) N = R at IH ⊢
    unfold yl99_5
    rw [h6]
    by_cases e : g < k
    · have I := IH (by omega) (by omega) (by omega)
      have ks : khs (kyf m t mask) (g.toNat + 1) = w32 ((khs (kyf m t mask) g.toNat + kyf m t mask g) * (-1640531535)) := by
        show w32 ((khs (kyf m t mask) g.toNat + kyf m t mask ((g.toNat : Nat) : Int)) * (-1640531535)) = _
        rw [gg]
      rw [ks] at I
      have gb : 0 ≤ g ∧ g < 8 := ⟨g0, by omega⟩
      have wg : w32 (g + 1) = g + 1 := w32_id (by omega) (by omega)
      clear hN
      obtain ⟨o, ⟨_, _, _, _, f4, f5⟩, ⟨_, _, _, _, o4, o5⟩, ⟨_, _, _, l4, l5⟩, _⟩ := an_f B h
      rw [if_pos e, wg, f4, f5, l4, l5, if_pos o, if_pos gb, if_pos gb, if_pos o4, if_pos o5]
      unfold kyf at I
      by_cases b : xw_iandf (xw_ishrf mask g) 1 = 0
      · rw [if_pos b] at I ⊢; exact I
      · rw [if_neg b] at I ⊢
        rw [if_pos o]; exact I
    · rw [if_neg e]
      have : g = k := by omega
      rw [this]
      rfl
/-- is row j the one with this key -/
theorem isrow_l {m : xw_M} {t mask k j : Int} (h : t = 420 ∨ t = 464) (h6 : xR m 223 6 = k) (k8 : k ≤ 8) (j0 : 0 ≤ j) (j1 : j < 4000) : ∀ (N : Nat) (g : Int), 0 ≤ g → g ≤ k → (k - g).toNat < N → ∃ v, (v = 0 ∨ v = 1) ∧ xl4 (yl100_3 B) N t j mask g m = some (.inl v, m) ∧ (v = 1 ↔ ∀ i, g ≤ i → i < k → xR m (t + 4 + i) j = kyf m t mask i) := by
  intro N
  induction N with
  | zero => intro g _ _ hN; omega
  | succ N ih =>
    intro g g0 g1 hN
    show ∃ v, (v = 0 ∨ v = 1) ∧ yl100_3 B (xl4 (yl100_3 B) N) t j mask g m = _ ∧ _
    have ge' : g < k → g + 1 ≤ k ∧ (k - (g + 1)).toNat < N ∧ g < 8 := fun _ => by omega
    have wg : 0 ≤ g → g ≤ 8 → w32 (g + 1) = g + 1 := fun _ _ => w32_id (by omega) (by omega)
    have IH := ih (g + 1) (by omega)
    generalize xl4 (yl100_3 B) N = R at IH ⊢
    unfold yl100_3
    rw [h6]
    by_cases e : g < k
    · have ge := (ge' e).1
      have gn := (ge' e).2.1
      have gb : 0 ≤ g ∧ g < 8 := ⟨g0, (ge' e).2.2⟩
      have jb : 0 ≤ j ∧ j < 4000 := ⟨j0, j1⟩
      have wg := wg g0 (Int.le_of_lt gb.2)
      have un : (if xw_iandf (xw_ishrf mask g) 1 = 0 then (if xR m (t + 4 + g) j = xR m (t + 43) g then R t j mask (g + 1) m else some (.inl 0, m)) else (if xR m (t + 4 + g) j = xR m (t + 42) g then R t j mask (g + 1) m else some (.inl 0, m))) = if xR m (t + 4 + g) j = kyf m t mask g then R t j mask (g + 1) m else some (.inl 0, m) := by
        unfold kyf
        by_cases b : xw_iandf (xw_ishrf mask g) 1 = 0
        · rw [if_pos b, if_pos b]
        · rw [if_neg b, if_neg b]
      have red : ∀ x : xP, (if xw_obb 9 t = true then if xw_obb 8 (xw_rf t 0) = true then if (0 : Int) ≤ g ∧ g < (xw_le B (xw_rf (xw_rf t 0) 0)) then if 5 ≤ xw_kd (xw_rf (xw_rf t 0) 0) g then if xw_obb 20 (xw_rf (xw_rf t 0) 0) = true then if (0 : Int) ≤ j ∧ j < (xw_le B (xw_rf (xw_rf (xw_rf t 0) 0) g)) then if xw_obb 16 (xw_rf (xw_rf (xw_rf t 0) 0) g) = true then x else none else none else none else none else none else none else none) = x := fun x => by
        obtain ⟨o, ⟨f0, _⟩, ⟨o1, _⟩, _, ⟨r0, _⟩, ⟨p0, _⟩, ⟨l0, _⟩⟩ := an_f B h
        obtain ⟨a, b, d, l⟩ := an_g B h gb.1 gb.2
        rw [if_pos o, f0, if_pos o1, r0, l0, if_pos gb, if_pos a, if_pos p0, b, l, if_pos jb, if_pos d]
      have red5 : ∀ x : xP, (if (0 : Int) ≤ g ∧ g < (xw_le B (xw_rf t 5)) then if xw_obb 16 (xw_rf t 5) = true then x else none else none) = x := fun x => by
        obtain ⟨_, ⟨_, _, _, _, _, f5⟩, ⟨_, _, _, _, _, o5⟩, ⟨_, _, _, _, l5⟩, _⟩ := an_f B h
        rw [f5, l5, if_pos gb, if_pos o5]
      have red4 : ∀ x : xP, (if (0 : Int) ≤ g ∧ g < (xw_le B (xw_rf t 4)) then if xw_obb 16 (xw_rf t 4) = true then x else none else none) = x := fun x => by
        obtain ⟨_, ⟨_, _, _, _, f4, _⟩, ⟨_, _, _, _, o4, _⟩, ⟨_, _, _, l4, _⟩, _⟩ := an_f B h
        rw [f4, l4, if_pos gb, if_pos o4]
      have adr : xw_rf (xw_rf (xw_rf t 0) 0) g = t + 4 + g ∧ xw_rf t 5 = t + 43 ∧ xw_rf t 4 = t + 42 := by
        obtain ⟨_, ⟨f0, _, _, _, f4, f5⟩, _, _, ⟨r0, _⟩, _⟩ := an_f B h
        obtain ⟨_, b, _⟩ := an_g B h gb.1 gb.2
        exact ⟨by rw [f0, r0, b], f5, f4⟩
      rw [if_pos e, wg, red, red5, red4, adr.1, adr.2.1, adr.2.2, un]
      clear red red5 red4 un
      by_cases q : xR m (t + 4 + g) j = kyf m t mask g
      · rw [if_pos q]
        obtain ⟨v, v1, z, p⟩ := IH ge gn
        refine ⟨v, v1, z, p.trans ⟨fun hh i i0 i1 => ?_, fun hh i i0 i1 => hh i (by omega) i1⟩⟩
        by_cases w : i = g
        · rw [w]; exact q
        · exact hh i (by omega) i1
      · rw [if_neg q]
        exact ⟨0, Or.inl rfl, rfl, ⟨fun hh => absurd hh (by decide), fun hh => absurd (hh g (Int.le_refl _) e) q⟩⟩
    · rw [if_neg e]
      exact ⟨1, Or.inr rfl, rfl, ⟨fun _ i i0 i1 => by omega, fun _ => rfl⟩⟩
end ROW
