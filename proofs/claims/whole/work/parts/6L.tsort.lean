/-! A TABLE'S SORT: by all its dimensions, those alike as they stood -/
theorem dm_f (B : Nat) {d : Int} (h0 : 0 ≤ d) (h1 : d < 8) : xw_obb 3 (15 + 26 * d) = true ∧ (xw_rf (15 + 26 * d) 0 = 15 + 26 * d + 1 ∧ xw_rf (15 + 26 * d) 1 = 15 + 26 * d + 2 ∧ xw_rf (15 + 26 * d) 2 = 15 + 26 * d + 7 ∧ xw_rf (15 + 26 * d) 3 = 15 + 26 * d + 8 ∧ xw_rf (15 + 26 * d) 4 = 15 + 26 * d + 13 ∧ xw_rf (15 + 26 * d) 5 = 15 + 26 * d + 18 ∧ xw_rf (15 + 26 * d) 6 = 15 + 26 * d + 23 ∧ xw_rf (15 + 26 * d) 7 = 15 + 26 * d + 24 ∧ xw_rf (15 + 26 * d) 8 = 15 + 26 * d + 25) ∧ (xw_obb 18 (15 + 26 * d + 1) = true ∧ xw_obb 22 (15 + 26 * d + 2) = true ∧ xw_obb 16 (15 + 26 * d + 7) = true ∧ xw_obb 20 (15 + 26 * d + 8) = true ∧ xw_obb 20 (15 + 26 * d + 13) = true ∧ xw_obb 20 (15 + 26 * d + 18) = true ∧ xw_obb 16 (15 + 26 * d + 23) = true ∧ xw_obb 16 (15 + 26 * d + 24) = true ∧ xw_obb 16 (15 + 26 * d + 25) = true) ∧ (xw_le B (15 + 26 * d + 1) = 40 ∧ xw_le B (15 + 26 * d + 2) = 4 ∧ xw_le B (15 + 26 * d + 7) = 4 ∧ xw_le B (15 + 26 * d + 8) = 4 ∧ xw_le B (15 + 26 * d + 13) = 4 ∧ xw_le B (15 + 26 * d + 18) = 4 ∧ xw_le B (15 + 26 * d + 23) = 4 ∧ xw_le B (15 + 26 * d + 24) = 1000 ∧ xw_le B (15 + 26 * d + 25) = 1000) := by
  have key : ∀ n : Nat, n < 8 → xw_obb 3 (15 + 26 * (n : Int)) = true ∧ (xw_rf (15 + 26 * (n : Int)) 0 = 15 + 26 * (n : Int) + 1 ∧ xw_rf (15 + 26 * (n : Int)) 1 = 15 + 26 * (n : Int) + 2 ∧ xw_rf (15 + 26 * (n : Int)) 2 = 15 + 26 * (n : Int) + 7 ∧ xw_rf (15 + 26 * (n : Int)) 3 = 15 + 26 * (n : Int) + 8 ∧ xw_rf (15 + 26 * (n : Int)) 4 = 15 + 26 * (n : Int) + 13 ∧ xw_rf (15 + 26 * (n : Int)) 5 = 15 + 26 * (n : Int) + 18 ∧ xw_rf (15 + 26 * (n : Int)) 6 = 15 + 26 * (n : Int) + 23 ∧ xw_rf (15 + 26 * (n : Int)) 7 = 15 + 26 * (n : Int) + 24 ∧ xw_rf (15 + 26 * (n : Int)) 8 = 15 + 26 * (n : Int) + 25) ∧ (xw_obb 18 (15 + 26 * (n : Int) + 1) = true ∧ xw_obb 22 (15 + 26 * (n : Int) + 2) = true ∧ xw_obb 16 (15 + 26 * (n : Int) + 7) = true ∧ xw_obb 20 (15 + 26 * (n : Int) + 8) = true ∧ xw_obb 20 (15 + 26 * (n : Int) + 13) = true ∧ xw_obb 20 (15 + 26 * (n : Int) + 18) = true ∧ xw_obb 16 (15 + 26 * (n : Int) + 23) = true ∧ xw_obb 16 (15 + 26 * (n : Int) + 24) = true ∧ xw_obb 16 (15 + 26 * (n : Int) + 25) = true) ∧ (xw_le 0 (15 + 26 * (n : Int) + 1) = 40 ∧ xw_le 0 (15 + 26 * (n : Int) + 2) = 4 ∧ xw_le 0 (15 + 26 * (n : Int) + 7) = 4 ∧ xw_le 0 (15 + 26 * (n : Int) + 8) = 4 ∧ xw_le 0 (15 + 26 * (n : Int) + 13) = 4 ∧ xw_le 0 (15 + 26 * (n : Int) + 18) = 4 ∧ xw_le 0 (15 + 26 * (n : Int) + 23) = 4 ∧ xw_le 0 (15 + 26 * (n : Int) + 24) = 1000 ∧ xw_le 0 (15 + 26 * (n : Int) + 25) = 1000) := by decide +kernel
  have q := key d.toNat (by omega)
  rw [Int.toNat_of_nonneg h0] at q
  rw [le_B B (a := 15 + 26 * d + 1) (by omega) (by omega) (by omega), le_B B (a := 15 + 26 * d + 2) (by omega) (by omega) (by omega), le_B B (a := 15 + 26 * d + 7) (by omega) (by omega) (by omega), le_B B (a := 15 + 26 * d + 8) (by omega) (by omega) (by omega), le_B B (a := 15 + 26 * d + 13) (by omega) (by omega) (by omega), le_B B (a := 15 + 26 * d + 18) (by omega) (by omega) (by omega), le_B B (a := 15 + 26 * d + 23) (by omega) (by omega) (by omega), le_B B (a := 15 + 26 * d + 24) (by omega) (by omega) (by omega), le_B B (a := 15 + 26 * d + 25) (by omega) (by omega) (by omega)]
  exact q
/-- the rows of a dimension by level: values (8), ranks (13), bearers (18) -/
theorem dm_l (B : Nat) {d l : Int} (h0 : 0 ≤ d) (h1 : d < 8) (l0 : 0 ≤ l) (l1 : l < 4) : (5 ≤ xw_kd (15 + 26 * d + 8) l ∧ xw_rf (15 + 26 * d + 8) l = 15 + 26 * d + 9 + l ∧ xw_obb 16 (15 + 26 * d + 9 + l) = true ∧ xw_le B (15 + 26 * d + 9 + l) = 1000) ∧ (5 ≤ xw_kd (15 + 26 * d + 13) l ∧ xw_rf (15 + 26 * d + 13) l = 15 + 26 * d + 14 + l ∧ xw_obb 16 (15 + 26 * d + 14 + l) = true ∧ xw_le B (15 + 26 * d + 14 + l) = 1000) ∧ (5 ≤ xw_kd (15 + 26 * d + 18) l ∧ xw_rf (15 + 26 * d + 18) l = 15 + 26 * d + 19 + l ∧ xw_obb 16 (15 + 26 * d + 19 + l) = true ∧ xw_le B (15 + 26 * d + 19 + l) = 1000) ∧ (5 ≤ xw_kd (15 + 26 * d + 2) l ∧ xw_rf (15 + 26 * d + 2) l = 15 + 26 * d + 3 + l ∧ xw_obb 18 (15 + 26 * d + 3 + l) = true ∧ xw_le B (15 + 26 * d + 3 + l) = 40) := by
  have key : ∀ n : Nat, n < 8 → ∀ k : Nat, k < 4 → (5 ≤ xw_kd (15 + 26 * (n : Int) + 8) k ∧ xw_rf (15 + 26 * (n : Int) + 8) k = 15 + 26 * (n : Int) + 9 + (k : Int) ∧ xw_obb 16 (15 + 26 * (n : Int) + 9 + (k : Int)) = true ∧ xw_le 0 (15 + 26 * (n : Int) + 9 + (k : Int)) = 1000) ∧ (5 ≤ xw_kd (15 + 26 * (n : Int) + 13) k ∧ xw_rf (15 + 26 * (n : Int) + 13) k = 15 + 26 * (n : Int) + 14 + (k : Int) ∧ xw_obb 16 (15 + 26 * (n : Int) + 14 + (k : Int)) = true ∧ xw_le 0 (15 + 26 * (n : Int) + 14 + (k : Int)) = 1000) ∧ (5 ≤ xw_kd (15 + 26 * (n : Int) + 18) k ∧ xw_rf (15 + 26 * (n : Int) + 18) k = 15 + 26 * (n : Int) + 19 + (k : Int) ∧ xw_obb 16 (15 + 26 * (n : Int) + 19 + (k : Int)) = true ∧ xw_le 0 (15 + 26 * (n : Int) + 19 + (k : Int)) = 1000) ∧ (5 ≤ xw_kd (15 + 26 * (n : Int) + 2) k ∧ xw_rf (15 + 26 * (n : Int) + 2) k = 15 + 26 * (n : Int) + 3 + (k : Int) ∧ xw_obb 18 (15 + 26 * (n : Int) + 3 + (k : Int)) = true ∧ xw_le 0 (15 + 26 * (n : Int) + 3 + (k : Int)) = 40) := by decide +kernel
  have q := key d.toNat (by omega) l.toNat (by omega)
  rw [Int.toNat_of_nonneg h0, Int.toNat_of_nonneg l0] at q
  rw [le_B B (a := 15 + 26 * d + 9 + l) (by omega) (by omega) (by omega), le_B B (a := 15 + 26 * d + 14 + l) (by omega) (by omega) (by omega), le_B B (a := 15 + 26 * d + 19 + l) (by omega) (by omega) (by omega), le_B B (a := 15 + 26 * d + 3 + l) (by omega) (by omega) (by omega)]
  exact q
/-- before, by j keys from d on, then by the place itself -/
def kl (κ : Int → Int → Int) : Nat → Int → Int → Int → Prop
  | 0, _, a, b => a < b
  | j + 1, d, a, b => κ d a < κ d b ∨ (κ d a = κ d b ∧ kl κ j (d + 1) a b)
theorem kl_anti {κ : Int → Int → Int} {j : Nat} {d a b : Int} (h1 : kl κ j d a b) (h2 : kl κ j d b a) : False := by
  induction j generalizing d with
  | zero =>
    have h1 : a < b := h1
    have h2 : b < a := h2
    omega
  | succ j ih =>
    rcases h1 with h1 | ⟨h1, h3⟩
    · rcases h2 with h2 | ⟨h2, _⟩ <;> omega
    · rcases h2 with h2 | ⟨h2, h4⟩
      · omega
      · exact ih h3 h4
theorem kl_cg {κ κ' : Int → Int → Int} {j : Nat} {d a b a' b' : Int} (ha : ∀ e, d ≤ e → e < d + j → κ e a = κ' e a' ∧ κ e b = κ' e b') (hab : a < b → a' < b') (h : kl κ j d a b) : kl κ' j d a' b' := by
  induction j generalizing d with
  | zero => exact hab h
  | succ j ih =>
    obtain ⟨q1, q2⟩ := ha d (by omega) (by omega)
    rcases h with h | ⟨h, h3⟩
    · exact Or.inl (by omega)
    · exact Or.inr ⟨by omega, ih (fun e h1 h2 => ha e (by omega) (by omega)) h3⟩
/-- a strict order: the rows of places that keep it are the same -/
def srt (κ : Int → Int → Int) (D : Nat) (o : Int → Int) (n : Int) : Prop := prm o n ∧ ∀ q q', 0 ≤ q → q < q' → q' < n → kl κ D 0 (o q) (o q')
theorem lst_pair {R : Int → Int → Prop} {f : Int → Int} {n : Nat} (h : ∀ i j : Nat, i < j → j < n → R (f i) (f j)) : (lst f n).Pairwise R := by
  induction n with
  | zero => exact List.Pairwise.nil
  | succ n ih =>
    rw [lst_s, List.pairwise_append]
    refine ⟨ih (fun i j h1 h2 => h i j h1 (by omega)), List.pairwise_singleton _ _, ?_⟩
    intro a ha b hb
    rw [List.mem_singleton] at hb
    obtain ⟨k, hk, hk2⟩ := lst_mem.mp ha
    rw [hb, ← hk2]
    exact h k n hk (by omega)
theorem lst_get {f g : Int → Int} {n : Nat} (h : lst f n = lst g n) : ∀ i : Nat, i < n → f i = g i := by
  intro i hi
  have h1 : (lst f n)[i]? = some (f i) := by
    unfold lst
    rw [List.getElem?_map, List.getElem?_range hi]
    rfl
  have h2 : (lst g n)[i]? = some (g i) := by
    unfold lst
    rw [List.getElem?_map, List.getElem?_range hi]
    rfl
  rw [h, h2] at h1
  exact (Option.some.inj h1).symm
theorem srt_uniq {κ : Int → Int → Int} {D : Nat} {o o' : Int → Int} {n : Int} (h : srt κ D o n) (h' : srt κ D o' n) : ∀ i, 0 ≤ i → i < n → o i = o' i := by
  have e : lst o n.toNat = lst o' n.toNat := by
    refine List.Perm.eq_of_pairwise (le := fun a b => kl κ D 0 a b) (fun a b _ _ h1 h2 => (kl_anti h1 h2).elim) (lst_pair (fun i j h1 h2 => h.2 i j (by omega) (by omega) (by omega))) (lst_pair (fun i j h1 h2 => h'.2 i j (by omega) (by omega) (by omega))) ((prm_perm h.1).trans (prm_perm h'.1).symm)
  intro i h0 h1
  have := lst_get e i.toNat (by omega)
  rw [Int.toNat_of_nonneg h0] at this
  exact this
/-- arrange -/
theorem arrange_ok {B : Nat} {m : xw_M} {r W cap n : Int} (hr : rwo r W cap) (hn : 0 ≤ n) (hn2 : n ≤ cap) (h5 : xR m r 5 = n) : ∃ m', yf130 B r m = some (.inl 0, m') ∧ (∀ i, 0 ≤ i → i < n → xR m' (r + 12 + W) i = i) ∧ (∀ a, a ≠ r + 12 + W → m' a = m a) := by
  have hb := rw_b hr
  obtain ⟨f1, ⟨f2, f3, f4, f5, f6⟩, ⟨f7, f8, f9, f10, f11⟩, ⟨f12, f13, f14, f15, f16⟩⟩ := rw_f B hr
  have goal := xH_ex (Q := fun v m' => v = 0 ∧ (∀ i, 0 ≤ i → i < n → xR m' (r + 12 + W) i = i) ∧ (∀ a, a ≠ r + 12 + W → m' a = m a)) (xl2_rule (F := yl130_2 B) (fun x0 x1 m' => x0 = r ∧ 0 ≤ x1 ∧ x1 ≤ n ∧ (∀ i, 0 ≤ i → i < x1 → xR m' (r + 12 + W) i = i) ∧ (∀ a, a ≠ r + 12 + W → m' a = m a)) (fun _ x1 _ => (n - x1).toNat) ?_ 1000000 r 0 m ⟨rfl, by omega, by omega, fun i h1 h2 => by omega, fun _ _ => rfl⟩ (by omega))
  · obtain ⟨v, m', e, rfl, h⟩ := goal
    exact ⟨m', e, h⟩
  · intro q x0 x1 m1 ⟨a0, a1, a2, V, F⟩ ih
    subst a0
    unfold yl130_2
    have r5 : xR m1 x0 5 = n := by rw [xR_cg (F x0 (by omega))]; exact h5
    rw [if_pos f1, r5, f4]
    by_cases hx : x1 < n
    · rw [if_pos hx, if_pos ⟨a1, by omega⟩, if_pos f7, w32_id (by omega) (by omega)]
      refine ih _ _ _ ⟨rfl, by omega, by omega, fun i h1 h2 => ?_, fun a ha => by rw [xu_c ha]; exact F a ha⟩ (by omega)
      rw [xR_u]
      by_cases e : i = x1
      · rw [if_pos ⟨rfl, e⟩, w32_id (by omega) (by omega), e]
      · rw [if_neg (fun h => e h.2)]
        exact V i h1 (by omega)
    · rw [if_neg hx, xH_ret]
      have ex : x1 = n := by omega
      subst ex
      exact ⟨rfl, V, F⟩
/-- the key of a row's fact at a dimension: the rank at the table's level, 0 where it has none -/
def tkey (m : xw_M) (r : Int) (d i : Int) : Int := if xR m 372 d = -1 then 0 else xR m (15 + 26 * d + 14 + xR m 371 d) (xR m (r + 3 + d) i)
/-- what a table's sort needs -/
def tsok (m : xw_M) (r : Int) (D n : Int) : Prop := ∀ d, 0 ≤ d → d < D → xR m 372 d ≠ -1 → (0 ≤ xR m 371 d ∧ xR m 371 d < 4) ∧ (0 ≤ xR m (15 + 26 * d + 23) (xR m 371 d) ∧ xR m (15 + 26 * d + 23) (xR m 371 d) ≤ 1000) ∧ ∀ i, 0 ≤ i → i < n → (0 ≤ xR m (r + 3 + d) i ∧ xR m (r + 3 + d) i < 1000) ∧ 0 ≤ tkey m r d i ∧ tkey m r d i < xR m (15 + 26 * d + 23) (xR m 371 d)
theorem tsort_ok {B : Nat} {m : xw_M} {r W cap D n : Int} (hr : rwo r W cap) (hD : 0 ≤ D) (hD8 : D ≤ 8) (h31 : xR m 3 1 = D) (hn : 0 ≤ n) (hn2 : n ≤ cap) (h5 : xR m r 5 = n) (hs : tsok m r D n) :
    ∃ m', yf180 B r m = some (.inl 0, m') ∧ srt (tkey m r) D.toNat (xR m' (r + 12 + W)) n ∧ (∀ a, a ≠ r + 1 → a ≠ r + 13 + W → a ≠ r + 12 + W → m' a = m a) := by
  have hb := rw_b hr
  obtain ⟨f1, _⟩ := rw_f B hr
  obtain ⟨m1, e1, V1, F1⟩ := arrange_ok (B := B) hr hn hn2 h5
  unfold yf180
  have r31 : xR m1 3 1 = D := by rw [xR_cg (F1 3 (by omega))]; exact h31
  rw [if_pos f1, e1, xB_ret, r31, w32_id (by omega) (by omega)]
  have goal := xH_ex (Q := fun v m' => v = 0 ∧ srt (tkey m r) D.toNat (xR m' (r + 12 + W)) n ∧ (∀ a, a ≠ r + 1 → a ≠ r + 13 + W → a ≠ r + 12 + W → m' a = m a)) (xl2_rule (F := yl180_14 B) (fun x0 x1 m' => x0 = r ∧ -1 ≤ x1 ∧ x1 < D ∧ (∀ a, a ≠ r + 1 → a ≠ r + 13 + W → a ≠ r + 12 + W → m' a = m a) ∧ prm (xR m' (r + 12 + W)) n ∧ ∀ q q', 0 ≤ q → q < q' → q' < n → kl (tkey m r) (D - 1 - x1).toNat (x1 + 1) (xR m' (r + 12 + W) q) (xR m' (r + 12 + W) q')) (fun _ x1 _ => (x1 + 1).toNat) ?_ 1000000 r (D - 1) m1 ⟨rfl, by omega, by omega, fun a _ _ h3 => F1 a h3, ⟨fun i h0 h1 => by rw [V1 i h0 h1]; exact ⟨h0, h1⟩, fun i j h0 h1 h2 h3 e => by rw [V1 i h0 h1, V1 j h2 h3] at e; exact e⟩, fun q q' h0 h1 h2 => by
    rw [show (D - 1 - (D - 1)).toNat = 0 from by omega, V1 q h0 (by omega), V1 q' (by omega) h2]
    exact h1⟩ (by omega))
  · obtain ⟨v, m', e, rfl, h⟩ := goal
    exact ⟨m', e, h⟩
  · intro q x0 x1 m2 ⟨a0, a1, a2, F2, P2, K2⟩ ih
    subst a0
    unfold yl180_14
    by_cases hx : x1 < 0
    · rw [if_pos hx, xH_ret]
      have ex : x1 = -1 := by omega
      subst ex
      refine ⟨rfl, ⟨P2, fun q q' h0 h1 h2 => ?_⟩, F2⟩
      have := K2 q q' h0 h1 h2
      rw [show (D - 1 - -1).toNat = D.toNat from by omega] at this
      exact this
    · have r372 : xR m2 372 x1 = xR m 372 x1 := by rw [xR_cg (F2 372 (by omega) (by omega) (by omega))]
      have r371 : xR m2 371 x1 = xR m 371 x1 := by rw [xR_cg (F2 371 (by omega) (by omega) (by omega))]
      rw [if_neg hx, if_pos ⟨by omega, by omega⟩, r372, r371, w32_id (by omega) (by omega)]
      by_cases hp : xR m 372 x1 = -1
      · rw [if_pos hp]
        refine ih _ _ _ ⟨rfl, by omega, by omega, F2, P2, fun q q' h0 h1 h2 => ?_⟩ (by omega)
        rw [show (D - 1 - (x1 + -1)).toNat = (D - 1 - x1).toNat + 1 from by omega, show x1 + -1 + 1 = x1 from by omega]
        refine Or.inr ⟨?_, K2 q q' h0 h1 h2⟩
        unfold tkey
        rw [if_pos hp, if_pos hp]
      · obtain ⟨s1, s2, s3⟩ := hs x1 (by omega) a2 hp
        obtain ⟨g1, ⟨_, _, _, _, g2, _, g3, _, _⟩, ⟨_, _, _, _, g4, _, g5, _, _⟩, ⟨_, _, _, _, g6, _, g7, _, _⟩⟩ := dm_f B (d := x1) (by omega) (by omega)
        obtain ⟨_, ⟨g8, g9, g10, g11⟩, _, _⟩ := dm_l B (d := x1) (by omega) (by omega) s1.1 s1.2
        have rK : xR m2 (15 + 26 * x1 + 23) = xR m (15 + 26 * x1 + 23) := xR_cg (F2 _ (by omega) (by omega) (by omega))
        have rR : xR m2 (15 + 26 * x1 + 14 + xR m 371 x1) = xR m (15 + 26 * x1 + 14 + xR m 371 x1) := xR_cg (F2 _ (by omega) (by omega) (by omega))
        have rP : xR m2 (x0 + 3 + x1) = xR m (x0 + 3 + x1) := xR_cg (F2 _ (by omega) (by omega) (by omega))
        have r5 : xR m2 x0 5 = n := by rw [xR_cg (F2 x0 (by omega) (by omega) (by omega))]; exact h5
        have ek : ∀ i, xR m2 (15 + 26 * x1 + 14 + xR m 371 x1) (xR m2 (x0 + 3 + x1) i) = tkey m x0 x1 i := fun i => by
          rw [rR, rP]
          unfold tkey
          rw [if_neg hp]
        obtain ⟨m3, e3, S3, F3⟩ := sort131 (B := B) (m := m2) (rk := 15 + 26 * x1 + 14 + xR m 371 x1) (K := xR m (15 + 26 * x1 + 23) (xR m 371 x1)) (d := x1) hr ⟨by omega, by omega⟩ s2.1 (by omega) hn hn2 r5 g10 ⟨by omega, by omega⟩ (fun i h0 h1 => by rw [rP, g11]; exact (s3 i h0 h1).1) (fun i h0 h1 => by rw [ek]; exact (s3 i h0 h1).2) P2
        rw [if_neg hp, if_pos g1, g2, g3, g6, g7, if_pos s1, if_pos g8, if_pos g4, if_pos s1, if_pos g5, if_pos f1, g9, rK, e3, xB_ret]
        refine ih _ _ _ ⟨rfl, by omega, by omega, fun a h1 h2 h3 => by rw [F3 a h1 h2 h3]; exact F2 a h1 h2 h3, S3.1, fun q q' h0 h1 h2 => ?_⟩ (by omega)
        rw [show (D - 1 - (x1 + -1)).toNat = (D - 1 - x1).toNat + 1 from by omega, show x1 + -1 + 1 = x1 from by omega]
        obtain ⟨i, i', hi, hi', w1, w2, w3⟩ := S3.2 q q' h0 h1 h2
        dsimp only at w3
        rw [ek, ek] at w3
        rw [w1, w2]
        rcases w3 with w3 | ⟨w3, w4⟩
        · exact Or.inl w3
        · exact Or.inr ⟨w3, K2 i i' hi.1 w4 hi'.2⟩
