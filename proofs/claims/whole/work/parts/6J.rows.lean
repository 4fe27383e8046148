/-! ROWS: the four of them (batch 373, readFacts 395, the answers' 421 and 465), by address, width, room -/
def rwo (r W cap : Int) : Prop := (r = 373 ∧ W = 8 ∧ cap = 8192) ∨ (r = 395 ∧ W = 8 ∧ cap = 20000) ∨ (r = 421 ∧ W = 24 ∧ cap = 4000) ∨ (r = 465 ∧ W = 24 ∧ cap = 4000)
theorem le_B (B : Nat) {a : Int} (h0 : 0 ≤ a) (h1 : a ≠ 516) (h2 : a ≠ 517) : xw_le B a = xw_le 0 a := by
  unfold xw_le xw_ln
  have e1 : Nat.beq a.toNat 516 = false := by
    cases hq : Nat.beq a.toNat 516
    · rfl
    · have := Nat.eq_of_beq_eq_true hq; omega
  have e2 : Nat.beq a.toNat 517 = false := by
    cases hq : Nat.beq a.toNat 517
    · rfl
    · have := Nat.eq_of_beq_eq_true hq; omega
  rw [e1, e2]
  simp
theorem rw_b {r W cap : Int} (h : rwo r W cap) : (373 ≤ r ∧ r + 13 + W < 503) ∧ (8 ≤ W ∧ W ≤ 24) ∧ (4000 ≤ cap ∧ cap ≤ 20000) := by rcases h with h | h | h | h <;> omega
theorem rw_f (B : Nat) {r W cap : Int} (h : rwo r W cap) : xw_obb 8 r = true ∧ (xw_rf r 0 = r + 2 ∧ xw_rf r 1 = r + 11 ∧ xw_rf r 2 = r + 12 + W ∧ xw_rf r 3 = r + 13 + W ∧ xw_rf r 4 = r + 1) ∧ (xw_obb 16 (r + 12 + W) = true ∧ xw_obb 16 (r + 13 + W) = true ∧ xw_obb 16 (r + 1) = true ∧ xw_obb 20 (r + 2) = true ∧ xw_obb 21 (r + 11) = true) ∧ (xw_le B (r + 12 + W) = cap ∧ xw_le B (r + 13 + W) = cap ∧ xw_le B (r + 1) = 1002 ∧ xw_le B (r + 2) = 8 ∧ xw_le B (r + 11) = W) := by
  have hb := rw_b h
  rw [le_B B (a := r + 12 + W) (by omega) (by omega) (by omega), le_B B (a := r + 13 + W) (by omega) (by omega) (by omega), le_B B (a := r + 1) (by omega) (by omega) (by omega), le_B B (a := r + 2) (by omega) (by omega) (by omega), le_B B (a := r + 11) (by omega) (by omega) (by omega)]
  rcases h with ⟨rfl, rfl, rfl⟩ | ⟨rfl, rfl, rfl⟩ | ⟨rfl, rfl, rfl⟩ | ⟨rfl, rfl, rfl⟩ <;> decide +kernel
theorem rw_p (B : Nat) {r W cap d : Int} (h : rwo r W cap) (h0 : 0 ≤ d) (h1 : d < 8) : 5 ≤ xw_kd (r + 2) d ∧ xw_rf (r + 2) d = r + 3 + d ∧ xw_obb 16 (r + 3 + d) = true ∧ xw_le B (r + 3 + d) = cap := by
  have hb := rw_b h
  rw [le_B B (a := r + 3 + d) (by omega) (by omega) (by omega)]
  have key : ∀ d : Nat, d < 8 → (5 ≤ xw_kd (373 + 2) d ∧ xw_rf (373 + 2) d = 373 + 3 + (d : Int) ∧ xw_obb 16 (373 + 3 + (d : Int)) = true ∧ xw_le 0 (373 + 3 + (d : Int)) = 8192) ∧ (5 ≤ xw_kd (395 + 2) d ∧ xw_rf (395 + 2) d = 395 + 3 + (d : Int) ∧ xw_obb 16 (395 + 3 + (d : Int)) = true ∧ xw_le 0 (395 + 3 + (d : Int)) = 20000) ∧ (5 ≤ xw_kd (421 + 2) d ∧ xw_rf (421 + 2) d = 421 + 3 + (d : Int) ∧ xw_obb 16 (421 + 3 + (d : Int)) = true ∧ xw_le 0 (421 + 3 + (d : Int)) = 4000) ∧ (5 ≤ xw_kd (465 + 2) d ∧ xw_rf (465 + 2) d = 465 + 3 + (d : Int) ∧ xw_obb 16 (465 + 3 + (d : Int)) = true ∧ xw_le 0 (465 + 3 + (d : Int)) = 4000) := by decide +kernel
  obtain ⟨q1, q2, q3, q4⟩ := key d.toNat (by omega)
  rw [Int.toNat_of_nonneg h0] at q1 q2 q3 q4
  rcases h with ⟨rfl, rfl, rfl⟩ | ⟨rfl, rfl, rfl⟩ | ⟨rfl, rfl, rfl⟩ | ⟨rfl, rfl, rfl⟩
  · exact q1
  · exact q2
  · exact q3
  · exact q4
theorem rw_a (B : Nat) {r W cap d : Int} (h : rwo r W cap) (h0 : 0 ≤ d) (h1 : d < W) : 5 ≤ xw_kd (r + 11) d ∧ xw_rf (r + 11) d = r + 12 + d ∧ xw_obb 17 (r + 12 + d) = true ∧ xw_le B (r + 12 + d) = cap := by
  have hb := rw_b h
  rw [le_B B (a := r + 12 + d) (by omega) (by omega) (by omega)]
  have key : ∀ d : Nat, d < 8 → (5 ≤ xw_kd (373 + 11) d ∧ xw_rf (373 + 11) d = 373 + 12 + (d : Int) ∧ xw_obb 17 (373 + 12 + (d : Int)) = true ∧ xw_le 0 (373 + 12 + (d : Int)) = 8192) ∧ (5 ≤ xw_kd (395 + 11) d ∧ xw_rf (395 + 11) d = 395 + 12 + (d : Int) ∧ xw_obb 17 (395 + 12 + (d : Int)) = true ∧ xw_le 0 (395 + 12 + (d : Int)) = 20000) := by decide +kernel
  have key2 : ∀ d : Nat, d < 24 → (5 ≤ xw_kd (421 + 11) d ∧ xw_rf (421 + 11) d = 421 + 12 + (d : Int) ∧ xw_obb 17 (421 + 12 + (d : Int)) = true ∧ xw_le 0 (421 + 12 + (d : Int)) = 4000) ∧ (5 ≤ xw_kd (465 + 11) d ∧ xw_rf (465 + 11) d = 465 + 12 + (d : Int) ∧ xw_obb 17 (465 + 12 + (d : Int)) = true ∧ xw_le 0 (465 + 12 + (d : Int)) = 4000) := by decide +kernel
  have q5 := key d.toNat
  have q6 := key2 d.toNat
  rw [Int.toNat_of_nonneg h0] at q5 q6
  rcases h with ⟨rfl, rfl, rfl⟩ | ⟨rfl, rfl, rfl⟩ | ⟨rfl, rfl, rfl⟩ | ⟨rfl, rfl, rfl⟩
  · exact (q5 (by omega)).1
  · exact (q5 (by omega)).2
  · exact (q6 (by omega)).1
  · exact (q6 (by omega)).2
/-! counting -/
def cnt (P : Int → Bool) : Nat → Int
  | 0 => 0
  | k + 1 => cnt P k + (if P k = true then 1 else 0)
theorem cnt_b (P : Int → Bool) (k : Nat) : 0 ≤ cnt P k ∧ cnt P k ≤ k := by
  induction k with
  | zero => exact ⟨Int.le_refl 0, Int.le_refl 0⟩
  | succ k ih => unfold cnt; split <;> omega
theorem cnt_mono (P : Int → Bool) (k j : Nat) : cnt P k ≤ cnt P (k + j) := by
  induction j with
  | zero => exact Int.le_refl _
  | succ j ih =>
    show cnt P k ≤ cnt P (k + j) + _
    split <;> omega
theorem cnt_lt {P : Int → Bool} {i n : Nat} (hi : i < n) (hP : P i = true) : cnt P i < cnt P n := by
  have := cnt_mono P (i + 1) (n - (i + 1))
  rw [show i + 1 + (n - (i + 1)) = n from by omega] at this
  have e : cnt P (i + 1) = cnt P i + 1 := by
    show cnt P i + _ = _
    rw [if_pos hP]
  omega
theorem cnt_cg {P Q : Int → Bool} (k : Nat) (h : ∀ i : Nat, i < k → P i = Q i) : cnt P k = cnt Q k := by
  induction k with
  | zero => rfl
  | succ k ih =>
    show cnt P k + _ = cnt Q k + _
    rw [ih (fun i hi => h i (by omega)), h k (by omega)]
theorem cnt_add {P Q R : Int → Bool} (k : Nat) (h : ∀ i : Nat, i < k → (if R i = true then (1 : Int) else 0) = (if P i = true then 1 else 0) + (if Q i = true then 1 else 0)) : cnt R k = cnt P k + cnt Q k := by
  induction k with
  | zero => rfl
  | succ k ih =>
    show cnt R k + _ = cnt P k + _ + (cnt Q k + _)
    rw [ih (fun i hi => h i (by omega)), h k (by omega)]
    omega
theorem cnt_le {P Q : Int → Bool} (k : Nat) (h : ∀ i : Nat, i < k → P i = true → Q i = true) : cnt P k ≤ cnt Q k := by
  induction k with
  | zero => exact Int.le_refl _
  | succ k ih =>
    have := ih (fun i hi => h i (by omega))
    show cnt P k + _ ≤ cnt Q k + _
    by_cases hp : P k = true
    · rw [if_pos hp, if_pos (h k (by omega) hp)]
      omega
    · rw [if_neg hp]
      split <;> omega
/-- a row of places: each of 0 .. n - 1 once -/
def prm (o : Int → Int) (n : Int) : Prop := (∀ i, 0 ≤ i → i < n → 0 ≤ o i ∧ o i < n) ∧ ∀ i j, 0 ≤ i → i < n → 0 ≤ j → j < n → o i = o j → i = j
def lst (f : Int → Int) (n : Nat) : List Int := (List.range n).map (fun k : Nat => f k)
theorem lst_mem {f : Int → Int} {n : Nat} {x : Int} : x ∈ lst f n ↔ ∃ k : Nat, k < n ∧ f k = x := by
  unfold lst
  rw [List.mem_map]
  constructor
  · rintro ⟨k, h1, h2⟩
    exact ⟨k, List.mem_range.mp h1, h2⟩
  · rintro ⟨k, h1, h2⟩
    exact ⟨k, List.mem_range.mpr h1, h2⟩
theorem lst_s (f : Int → Int) (n : Nat) : lst f (n + 1) = lst f n ++ [f n] := by
  unfold lst
  rw [List.range_succ, List.map_append]
  rfl
theorem lst_nodup {f : Int → Int} {n : Nat} (h : ∀ i j : Nat, i < n → j < n → f i = f j → i = j) : (lst f n).Nodup := by
  induction n with
  | zero => exact List.nodup_nil
  | succ n ih =>
    rw [lst_s, List.nodup_append]
    refine ⟨ih (fun i j hi hj => h i j (by omega) (by omega)), by simp, ?_⟩
    intro a ha b hb e
    rw [List.mem_singleton] at hb
    obtain ⟨k, hk, hk2⟩ := lst_mem.mp ha
    have := h k n (by omega) (by omega) (by rw [hk2, e, hb])
    omega
theorem lst_len (f : Int → Int) (n : Nat) : (lst f n).length = n := by
  unfold lst
  rw [List.length_map, List.length_range]
/-- one that goes from 0 .. n - 1 into it, none twice, reaches all -/
theorem prm_onto {o : Int → Int} {n : Int} (h : prm o n) : ∀ q, 0 ≤ q → q < n → ∃ i, (0 ≤ i ∧ i < n) ∧ o i = q := by
  intro q h0 h1
  refine Classical.byContradiction (fun hn => ?_)
  have hnd : (lst o n.toNat).Nodup := lst_nodup (fun i j hi hj e => by have := h.2 i j (by omega) (by omega) (by omega) (by omega) e; omega)
  have hq : q ∉ lst o n.toNat := fun hm => by
    obtain ⟨k, hk, hk2⟩ := lst_mem.mp hm
    exact hn ⟨k, ⟨by omega, by omega⟩, hk2⟩
  have hnd2 : (q :: lst o n.toNat).Nodup := List.nodup_cons.mpr ⟨hq, hnd⟩
  have hsub : (q :: lst o n.toNat) ⊆ lst (fun k => k) n.toNat := by
    intro x hx
    rcases List.mem_cons.mp hx with rfl | hx
    · exact lst_mem.mpr ⟨x.toNat, by omega, by show ((x.toNat : Nat) : Int) = x; omega⟩
    · obtain ⟨k, hk, hk2⟩ := lst_mem.mp hx
      have := h.1 k (by omega) (by omega)
      exact lst_mem.mpr ⟨x.toNat, by omega, by show ((x.toNat : Nat) : Int) = x; omega⟩
  have := hnd2.length_le_of_subset hsub
  rw [List.length_cons, lst_len, lst_len] at this
  omega
theorem prm_perm {o : Int → Int} {n : Int} (h : prm o n) : (lst o n.toNat).Perm (lst (fun k => k) n.toNat) := by
  refine (List.perm_ext_iff_of_nodup (lst_nodup (fun i j hi hj e => by have := h.2 i j (by omega) (by omega) (by omega) (by omega) e; omega)) (lst_nodup (fun i j hi hj e => by have e : (i : Int) = j := e; omega))).mpr (fun x => ?_)
  rw [lst_mem, lst_mem]
  constructor
  · rintro ⟨k, hk, e⟩
    have := h.1 k (by omega) (by omega)
    exact ⟨x.toNat, by omega, by show ((x.toNat : Nat) : Int) = x; omega⟩
  · rintro ⟨k, hk, e⟩
    have e : (k : Int) = x := e
    obtain ⟨i, hi, hi2⟩ := prm_onto h x (by omega) (by omega)
    exact ⟨i.toNat, by omega, by rw [Int.toNat_of_nonneg hi.1]; exact hi2⟩
theorem cnt_lst (P : Int → Bool) (f : Int → Int) (n : Nat) : cnt (fun i => P (f i)) n = ((lst f n).countP P : Nat) := by
  induction n with
  | zero => rfl
  | succ n ih =>
    rw [lst_s, List.countP_append, Int.natCast_add, ← ih]
    show cnt (fun i => P (f i)) n + _ = _
    congr 1
    rw [List.countP_singleton]
    split
    · rfl
    · rfl
/-- counting goes through a row of places -/
theorem cnt_prm {o : Int → Int} {n : Int} (h : prm o n) (P : Int → Bool) : cnt (fun i => P (o i)) n.toNat = cnt P n.toNat := by
  have h1 := cnt_lst P o n.toNat
  have h2 := cnt_lst P (fun k => k) n.toNat
  rw [h1, (prm_perm h).countP_eq P, ← h2]
