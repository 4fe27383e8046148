/-! THE COUNTING SORT (Rows.sortBy) -/
def clK (f : Int → Int) (n : Nat) (κ : Int) : Int := cnt (fun i => decide (f i < κ)) n
def ceK (f : Int → Int) (i : Nat) (κ : Int) : Int := cnt (fun j => decide (f j = κ)) i
theorem clK_b (f : Int → Int) (n : Nat) (κ : Int) : 0 ≤ clK f n κ ∧ clK f n κ ≤ n := cnt_b _ _
theorem ceK_b (f : Int → Int) (n : Nat) (κ : Int) : 0 ≤ ceK f n κ ∧ ceK f n κ ≤ n := cnt_b _ _
def pos (f : Int → Int) (n : Nat) (i : Int) : Int := clK f n (f i) + ceK f i.toNat (f i)
theorem clK_s (f : Int → Int) (n : Nat) (κ : Int) : clK f n (κ + 1) = clK f n κ + ceK f n κ := by
  unfold clK ceK
  refine cnt_add n (fun i hi => ?_)
  by_cases h1 : f i < κ
  · rw [decide_eq_true (by omega : f i < κ + 1), decide_eq_true h1, decide_eq_false (by omega : ¬ f i = κ)]
    rfl
  · by_cases h2 : f i = κ
    · rw [decide_eq_true (by omega : f i < κ + 1), decide_eq_false h1, decide_eq_true h2]
      rfl
    · rw [decide_eq_false (by omega : ¬ f i < κ + 1), decide_eq_false h1, decide_eq_false h2]
      rfl
theorem clK_mono {f : Int → Int} {n : Nat} {κ μ : Int} (h : κ ≤ μ) : clK f n κ ≤ clK f n μ := by
  unfold clK
  refine cnt_le n (fun i hi hp => ?_)
  have : f i < κ := of_decide_eq_true hp
  exact decide_eq_true (by omega)
theorem pos_up {f : Int → Int} {n : Nat} {i : Int} (h0 : 0 ≤ i) (h1 : i < n) : pos f n i < clK f n (f i + 1) := by
  unfold pos
  rw [clK_s]
  have : ceK f i.toNat (f i) < ceK f n (f i) := cnt_lt (by omega) (decide_eq_true (by rw [Int.toNat_of_nonneg h0]))
  omega
theorem pos_b {f : Int → Int} {n : Nat} {i : Int} (h0 : 0 ≤ i) (h1 : i < n) : 0 ≤ pos f n i ∧ pos f n i < n := by
  have h2 := pos_up (f := f) h0 h1
  have h3 := (cnt_b (fun j => decide (f j < f i + 1)) n).2
  have h4 := (cnt_b (fun j => decide (f j < f i)) n).1
  have h5 := (cnt_b (fun j => decide (f j = f i)) i.toNat).1
  unfold clK at h2
  unfold pos clK ceK at *
  omega
theorem pos_lt {f : Int → Int} {n : Nat} {i j : Int} (h0 : 0 ≤ i) (h1 : i < n) (h2 : 0 ≤ j) (h3 : j < n) (h : f i < f j ∨ (f i = f j ∧ i < j)) : pos f n i < pos f n j := by
  rcases h with h | ⟨h, hij⟩
  · have q1 := pos_up (f := f) h0 h1
    have q2 := clK_mono (f := f) (n := n) (show f i + 1 ≤ f j by omega)
    have q3 := (cnt_b (fun k => decide (f k = f j)) j.toNat).1
    unfold pos at *
    unfold ceK at *
    omega
  · unfold pos
    rw [h]
    have : ceK f i.toNat (f j) < ceK f j.toNat (f j) := cnt_lt (by omega) (decide_eq_true (by rw [Int.toNat_of_nonneg h0]; exact h))
    omega
theorem pos_prm (f : Int → Int) (n : Nat) : prm (pos f n) n := by
  refine ⟨fun i h0 h1 => pos_b h0 h1, fun i j h0 h1 h2 h3 e => ?_⟩
  rcases Int.lt_trichotomy (f i) (f j) with h | h | h
  · have := pos_lt h0 h1 h2 h3 (Or.inl h)
    omega
  · rcases Int.lt_trichotomy i j with q | q | q
    · have := pos_lt h0 h1 h2 h3 (Or.inr ⟨h, q⟩)
      omega
    · exact q
    · have := pos_lt h2 h3 h0 h1 (Or.inr ⟨h.symm, q⟩)
      omega
  · have := pos_lt h2 h3 h0 h1 (Or.inl h)
    omega
/-- what a sort by one key leaves: the new order o', of the old one o, by the keys -/
def sby (o o' key : Int → Int) (n : Int) : Prop := prm o' n ∧ ∀ q q', 0 ≤ q → q < q' → q' < n → ∃ i i', (0 ≤ i ∧ i < n) ∧ (0 ≤ i' ∧ i' < n) ∧ o' q = o i ∧ o' q' = o i' ∧ (key (o i) < key (o i') ∨ (key (o i) = key (o i') ∧ i < i'))
theorem sby_of {o o' key : Int → Int} {n : Int} (hn : 0 ≤ n) (ho : prm o n) (h : ∀ i, 0 ≤ i → i < n → o' (pos (fun i => key (o i)) n.toNat i) = o i) : sby o o' key n := by
  have hp := pos_prm (fun i => key (o i)) n.toNat
  rw [Int.toNat_of_nonneg hn] at hp
  have onto := prm_onto hp
  refine ⟨⟨fun q h0 h1 => ?_, fun q q' h0 h1 h2 h3 e => ?_⟩, fun q q' h0 h1 h2 => ?_⟩
  · obtain ⟨i, hi, e⟩ := onto q h0 h1
    rw [← e, h i hi.1 hi.2]
    exact ho.1 i hi.1 hi.2
  · obtain ⟨i, hi, ei⟩ := onto q h0 h1
    obtain ⟨j, hj, ej⟩ := onto q' h2 h3
    rw [← ei, ← ej, h i hi.1 hi.2, h j hj.1 hj.2] at e
    rw [← ei, ← ej, ho.2 i j hi.1 hi.2 hj.1 hj.2 e]
  · obtain ⟨i, hi, ei⟩ := onto q h0 (by omega)
    obtain ⟨j, hj, ej⟩ := onto q' (by omega) h2
    refine ⟨i, j, hi, hj, by rw [← ei]; exact h i hi.1 hi.2, by rw [← ej]; exact h j hj.1 hj.2, ?_⟩
    rcases Int.lt_trichotomy (key (o i)) (key (o j)) with hk | hk | hk
    · exact Or.inl hk
    · rcases Int.lt_trichotomy i j with hq | hq | hq
      · exact Or.inr ⟨hk, hq⟩
      · rw [hq] at ei
        omega
      · have := pos_lt (f := fun i => key (o i)) (n := n.toNat) hj.1 (by omega) hi.1 (by omega) (Or.inr ⟨hk.symm, hq⟩)
        omega
    · have := pos_lt (f := fun i => key (o i)) (n := n.toNat) hj.1 (by omega) hi.1 (by omega) (Or.inl hk)
      omega
theorem sort131 {B : Nat} {m : xw_M} {r W cap rk K d n : Int} (hr : rwo r W cap) (hd : 0 ≤ d ∧ d < 8) (hK : 0 ≤ K) (hK2 : K ≤ 1001) (hn : 0 ≤ n) (hn2 : n ≤ cap) (h5 : xR m r 5 = n) (hrk : xw_obb 16 rk = true) (hrl : 0 ≤ rk ∧ rk < 373) (hpr : ∀ i, 0 ≤ i → i < n → 0 ≤ xR m (r + 3 + d) i ∧ xR m (r + 3 + d) i < xw_le B rk) (hkey : ∀ i, 0 ≤ i → i < n → 0 ≤ xR m rk (xR m (r + 3 + d) i) ∧ xR m rk (xR m (r + 3 + d) i) < K) (ho : prm (xR m (r + 12 + W)) n) :
    ∃ m', yf131 B r d rk K m = some (.inl 0, m') ∧ sby (xR m (r + 12 + W)) (xR m' (r + 12 + W)) (fun i => xR m rk (xR m (r + 3 + d) i)) n ∧ (∀ a, a ≠ r + 1 → a ≠ r + 13 + W → a ≠ r + 12 + W → m' a = m a) := by
  have hb := rw_b hr
  obtain ⟨f1, ⟨f2, f3, f4, f5, f6⟩, ⟨f7, f8, f9, f10, f11⟩, ⟨f12, f13, f14, f15, f16⟩⟩ := rw_f B hr
  obtain ⟨p1, p2, p3, p4⟩ := rw_p B hr hd.1 hd.2
  generalize hpl : r + 3 + d = pl at *
  generalize ht : r + 1 = t at *
  generalize hs : r + 13 + W = s at *
  generalize hod : r + 12 + W = od at *
  generalize hkf : (fun i => xR m rk (xR m pl i)) = key
  have hkf2 : ∀ i, xR m rk (xR m pl i) = key i := fun i => by rw [← hkf]
  have hkey2 : ∀ i, 0 ≤ i → i < n → 0 ≤ key i ∧ key i < K := fun i h0 h1 => by rw [← hkf2]; exact hkey i h0 h1
  generalize hof : xR m od = o at *
  -- the last row of steps
  have fin : ∀ m1, (∀ a, a ≠ t → m1 a = m a) → (∀ κ, 0 ≤ κ → κ ≤ K → xR m1 t κ = cnt (fun i => decide (key i < κ)) n.toNat) → xH (xl4 (yl131_105 B) 1000000 r rk pl 0 m1) (fun v m' => v = 0 ∧ (∀ i, 0 ≤ i → i < n → xR m' od (pos (fun i => key (o i)) n.toNat i) = o i) ∧ ∀ a, a ≠ t → a ≠ s → a ≠ od → m' a = m a) (fun _ _ => False) := by
    intro m1 F1 V1
    have hcl : ∀ κ, clK (fun i => key (o i)) n.toNat κ = cnt (fun i => decide (key i < κ)) n.toNat := fun κ => cnt_prm ho (fun i => decide (key i < κ))
    refine xl4_rule (F := yl131_105 B) (fun z0 z1 z2 z3 m' => z0 = r ∧ z1 = rk ∧ z2 = pl ∧ 0 ≤ z3 ∧ z3 ≤ n ∧ (∀ a, a ≠ t → a ≠ s → m' a = m a) ∧ (∀ κ, 0 ≤ κ → κ < K → xR m' t κ = clK (fun i => key (o i)) n.toNat κ + ceK (fun i => key (o i)) z3.toNat κ) ∧ ∀ i, 0 ≤ i → i < z3 → xR m' s (pos (fun i => key (o i)) n.toNat i) = o i) (fun _ _ _ z3 _ => (n - z3).toNat) ?_ 1000000 r rk pl 0 m1 ⟨rfl, rfl, rfl, by omega, by omega, fun a h1 _ => F1 a h1, fun κ h1 h2 => by rw [V1 κ h1 (by omega), hcl, show ceK (fun i => key (o i)) (0 : Int).toNat κ = 0 from rfl, Int.add_zero], fun i h1 h2 => by omega⟩ (by omega)
    intro q z0 z1 z2 z3 m2 ⟨b0, b1, b2, c0, c1, F2, V2, P2⟩ ih
    subst b0 b1 b2
    unfold yl131_105
    have r5 : xR m2 z0 5 = n := by rw [xR_cg (F2 z0 (by omega) (by omega))]; exact h5
    have ro : xR m2 od = o := by rw [xR_cg (F2 od (by omega) (by omega)), hof]
    rw [if_pos f1, r5, f4, f5, f6]
    by_cases hz : z3 < n
    · have hoi := ho.1 z3 c0 hz
      have hk := hkey2 (o z3) hoi.1 hoi.2
      have rk2 : xR m2 z1 (xR m2 z2 (o z3)) = key (o z3) := by
        rw [xR_cg (F2 z1 (by omega) (by omega)), xR_cg (F2 z2 (by omega) (by omega))]
        exact hkf2 _
      have rp2 : xR m2 z2 (o z3) = xR m z2 (o z3) := by rw [xR_cg (F2 z2 (by omega) (by omega))]
      have hpos : xR m2 t (key (o z3)) = pos (fun i => key (o i)) n.toNat z3 := V2 _ hk.1 hk.2
      have hpb := pos_b (f := fun i => key (o i)) (n := n.toNat) c0 (show z3 < ((n.toNat : Nat) : Int) by omega)
      rw [if_pos hz, if_pos ⟨c0, by omega⟩, if_pos f7, ro, if_pos ⟨hoi.1, by omega⟩, if_pos p3, if_pos (by rw [rp2]; exact hpr _ hoi.1 hoi.2), if_pos hrk, rk2, if_pos ⟨hk.1, by omega⟩, if_pos f9, hpos, if_pos ⟨hpb.1, by omega⟩, if_pos f8, w32_id (by omega) (by omega)]
      have st : t ≠ s := by omega
      refine ih _ _ _ _ _ ⟨rfl, rfl, rfl, by omega, by omega, fun a h1 h2 => by rw [xu_c h2, xu_c h1]; exact F2 a h1 h2, fun κ h1 h2 => ?_, fun i h1 h2 => ?_⟩ (by omega)
      · rw [xR_cg (xu_c st), xR_u]
        have es : ceK (fun i => key (o i)) (z3 + 1).toNat κ = ceK (fun i => key (o i)) z3.toNat κ + (if key (o z3) = κ then 1 else 0) := by
          rw [show (z3 + 1).toNat = z3.toNat + 1 from by omega]
          show ceK (fun i => key (o i)) z3.toNat κ + (if decide (key (o ((z3.toNat : Nat) : Int)) = κ) = true then 1 else 0) = _
          rw [Int.toNat_of_nonneg c0]
          by_cases e : key (o z3) = κ
          · rw [if_pos e, if_pos (decide_eq_true e)]
          · rw [if_neg e, if_neg (by simpa using e)]
        rw [es]
        by_cases e : κ = key (o z3)
        · rw [if_pos ⟨rfl, e⟩, if_pos e.symm, ← hpos, ← e, V2 κ h1 h2, w32_id]
          · omega
          · have q1 := clK_b (fun i => key (o i)) n.toNat κ
            have q2 := ceK_b (fun i => key (o i)) z3.toNat κ
            omega
          · have q1 := clK_b (fun i => key (o i)) n.toNat κ
            have q2 := ceK_b (fun i => key (o i)) z3.toNat κ
            omega
        · rw [if_neg (fun h => e h.2), if_neg (fun h => e h.symm), V2 κ h1 h2]
          omega
      · rw [xR_u]
        by_cases e : i = z3
        · rw [e, if_pos ⟨rfl, rfl⟩]
          exact w32_id (by omega) (by omega)
        · rw [if_neg (fun h => ?_), xR_cg (xu_c (fun e => st e.symm))]
          · exact P2 i h1 (by omega)
          · have := (pos_prm (fun i => key (o i)) n.toNat).2 i z3 h1 (by omega) c0 (by omega) h.2
            exact e this
    · have ez : z3 = n := by omega
      subst ez
      rw [if_neg hz, f12, f13, if_pos ⟨by omega, by omega, by omega, by omega, by omega⟩, if_pos f8, if_pos f7, xH_ret]
      refine ⟨rfl, fun i h1 h2 => ?_, fun a h1 h2 h3 => ?_⟩
      · have hpb := pos_b (f := fun i => key (o i)) (n := z3.toNat) h1 (show i < ((z3.toNat : Nat) : Int) by omega)
        have : xR (xw_cp m2 s 0 od 0 z3) od (pos (fun i => key (o i)) z3.toNat i) = xR m2 s (pos (fun i => key (o i)) z3.toNat i) := by
          unfold xR xw_cp
          rw [if_pos ⟨rfl, by omega, by omega⟩, Int.sub_zero, Int.add_zero]
        rw [this]
        exact P2 i h1 h2
      · have : (xw_cp m2 s 0 od 0 z3) a = m2 a := by
          funext k
          unfold xw_cp
          rw [if_neg (fun e => h3 e.1)]
        rw [this]
        exact F2 a h1 h2
  -- sums
  have mid : ∀ m1, (∀ a, a ≠ t → m1 a = m a) → (∀ κ, 0 ≤ κ → κ ≤ K → xR m1 t κ = (if κ = 0 then 0 else cnt (fun i => decide (key i = κ - 1)) n.toNat)) → xH (xl5 (yl131_71 B) 1000000 r rk K pl 1 m1) (fun v m' => v = 0 ∧ (∀ i, 0 ≤ i → i < n → xR m' od (pos (fun i => key (o i)) n.toNat i) = o i) ∧ ∀ a, a ≠ t → a ≠ s → a ≠ od → m' a = m a) (fun _ _ => False) := by
    intro m1 F1 V1
    have cl0 : cnt (fun i => decide (key i < 0)) n.toNat = 0 := by
      have h := cnt_le (P := fun i => decide (key i < 0)) (Q := fun _ => false) n.toNat (fun i hi hp => by
        have : key i < 0 := of_decide_eq_true hp
        have := (hkey2 i (by omega) (by omega)).1
        omega)
      have h2 : ∀ k : Nat, cnt (fun _ => false) k = 0 := by
        intro k
        induction k with
        | zero => rfl
        | succ k ih =>
          show cnt (fun _ => false) k + (if false = true then 1 else 0) = 0
          rw [ih]
          rfl
      rw [h2] at h
      have := (cnt_b (fun i => decide (key i < 0)) n.toNat).1
      omega
    refine xl5_rule (F := yl131_71 B) (fun y0 y1 y2 y3 y4 m' => y0 = r ∧ y1 = rk ∧ y2 = K ∧ y3 = pl ∧ 1 ≤ y4 ∧ y4 ≤ K + 1 ∧ (∀ a, a ≠ t → m' a = m a) ∧ (∀ κ, 0 ≤ κ → κ < y4 → xR m' t κ = cnt (fun i => decide (key i < κ)) n.toNat) ∧ ∀ κ, y4 ≤ κ → κ ≤ K → xR m' t κ = cnt (fun i => decide (key i = κ - 1)) n.toNat) (fun _ _ _ _ y4 _ => (K + 1 - y4).toNat) ?_ 1000000 r rk K pl 1 m1 ⟨rfl, rfl, rfl, rfl, by omega, by omega, F1, fun κ h1 h2 => by rw [V1 κ h1 (by omega), if_pos (by omega), show κ = 0 from by omega, cl0], fun κ h1 h2 => by rw [V1 κ (by omega) h2, if_neg (by omega)]⟩ (by omega)
    intro q y0 y1 y2 y3 y4 m2 ⟨a0, a1, a2, a3, c0, c1, F2, V2, P2⟩ ih
    subst a0 a1 a2 a3
    unfold yl131_71
    by_cases hz : y2 < y4
    · rw [if_pos hz]
      exact fin m2 F2 (fun κ h1 h2 => V2 κ h1 (by omega))
    · rw [if_neg hz, if_pos f1, f6, if_pos ⟨by omega, by omega⟩, if_pos f9, if_pos ⟨by omega, by omega⟩, w32_id (by omega) (by omega)]
      refine ih _ _ _ _ _ _ ⟨rfl, rfl, rfl, rfl, by omega, by omega, fun a h1 => by rw [xu_c h1]; exact F2 a h1, fun κ h1 h2 => ?_, fun κ h1 h2 => ?_⟩ (by omega)
      · rw [xR_u]
        by_cases e : κ = y4
        · rw [if_pos ⟨rfl, e⟩, P2 y4 (by omega) (by omega), V2 (y4 - 1) (by omega) (by omega), e]
          have hs2 := clK_s key n.toNat (y4 - 1)
          unfold clK ceK at hs2
          rw [show y4 - 1 + 1 = y4 from by omega] at hs2
          have q1 := cnt_b (fun i => decide (key i < y4)) n.toNat
          rw [hs2]
          rw [w32_id (by omega) (by omega)]
          omega
        · rw [if_neg (fun h => e h.2)]
          exact V2 κ h1 (by omega)
      · rw [xR_u, if_neg (fun h => by omega)]
        exact P2 κ (by omega) h2
  unfold yf131
  rw [if_pos f1, f2, f15, if_pos hd, if_pos p1, if_pos f10, p2, f6, w32_id (by omega) (by omega), fill132 f9 (by omega) (by omega) (by omega) (by omega), xB_ret]
  have goal := xH_ex (Q := fun v m' => v = 0 ∧ (∀ i, 0 ≤ i → i < n → xR m' od (pos (fun i => key (o i)) n.toNat i) = o i) ∧ ∀ a, a ≠ t → a ≠ s → a ≠ od → m' a = m a) (xl5_rule (F := yl131_23 B) (fun x0 x1 x2 x3 x4 m' => x0 = r ∧ x1 = rk ∧ x2 = K ∧ x3 = pl ∧ 0 ≤ x4 ∧ x4 ≤ n ∧ (∀ a, a ≠ t → m' a = m a) ∧ ∀ κ, 0 ≤ κ → κ ≤ K → xR m' t κ = (if κ = 0 then 0 else cnt (fun i => decide (key i = κ - 1)) x4.toNat)) (fun _ _ _ _ x4 _ => (n - x4).toNat) ?_ 1000000 r rk K pl 0 (xfill m t 0 (K + 1) 0) ⟨rfl, rfl, rfl, rfl, by omega, by omega, fun a h1 => xfill_ne h1, fun κ h1 h2 => ?_⟩ (by omega))
  · obtain ⟨v, m', e, rfl, h1, h2⟩ := goal
    refine ⟨m', e, ?_, h2⟩
    exact sby_of hn ho h1
  · intro q x0 x1 x2 x3 x4 m2 ⟨a0, a1, a2, a3, c0, c1, F2, V2⟩ ih
    subst a0 a1 a2 a3
    unfold yl131_23
    have r5 : xR m2 x0 5 = n := by rw [xR_cg (F2 x0 (by omega))]; exact h5
    rw [if_pos f1, r5]
    by_cases hz : x4 < n
    · have hk := hkey2 x4 c0 hz
      have rk2 : xR m2 x1 (xR m2 x3 x4) = key x4 := by
        rw [xR_cg (F2 x1 (by omega)), xR_cg (F2 x3 (by omega))]
        exact hkf2 _
      have rp2 : xR m2 x3 x4 = xR m x3 x4 := by rw [xR_cg (F2 x3 (by omega))]
      rw [if_pos hz, if_pos ⟨c0, by omega⟩, if_pos p3, if_pos (by rw [rp2]; exact hpr _ c0 hz), if_pos hrk, rk2, f6, if_pos ⟨by omega, by omega⟩, if_pos f9, w32_id (by omega) (by omega)]
      refine ih _ _ _ _ _ _ ⟨rfl, rfl, rfl, rfl, by omega, by omega, fun a h1 => by rw [xu_c h1]; exact F2 a h1, fun κ h1 h2 => ?_⟩ (by omega)
      rw [xR_u]
      have es : cnt (fun i => decide (key i = κ - 1)) (x4 + 1).toNat = cnt (fun i => decide (key i = κ - 1)) x4.toNat + (if key x4 = κ - 1 then 1 else 0) := by
        rw [show (x4 + 1).toNat = x4.toNat + 1 from by omega]
        show cnt (fun i => decide (key i = κ - 1)) x4.toNat + (if decide (key ((x4.toNat : Nat) : Int) = κ - 1) = true then 1 else 0) = _
        rw [Int.toNat_of_nonneg c0]
        by_cases e : key x4 = κ - 1
        · rw [if_pos e, if_pos (decide_eq_true e)]
        · rw [if_neg e, if_neg (by simpa using e)]
      by_cases e : κ = key x4 + 1
      · rw [if_pos ⟨rfl, e⟩, ← e, V2 κ h1 h2, if_neg (by omega), if_neg (by omega), es, if_pos (by omega)]
        have := cnt_b (fun i => decide (key i = κ - 1)) x4.toNat
        rw [w32_id (by omega) (by omega)]
      · rw [if_neg (fun h => e h.2), V2 κ h1 h2, es, if_neg (show ¬ key x4 = κ - 1 by omega), Int.add_zero]
    · rw [if_neg hz]
      have ez : x4 = n := by omega
      subst ez
      exact mid m2 F2 V2
  · have : xR (xfill m t 0 (K + 1) 0) t κ = 0 := by
      unfold xR
      rw [xfill_at h1 (by omega)]
      rfl
    rw [this]
    split
    · rfl
    · rfl
theorem sort131n {B : Nat} {m : xw_M} {r W cap K d n : Int} (hr : rwo r W cap) (hd : 0 ≤ d ∧ d < 8) (hK : 0 ≤ K) (hK2 : K ≤ 1001) (hn : 0 ≤ n) (hn2 : n ≤ cap) (h5 : xR m r 5 = n) (hkey : ∀ i, 0 ≤ i → i < n → 0 ≤ xR m (r + 3 + d) i ∧ xR m (r + 3 + d) i < K) (ho : prm (xR m (r + 12 + W)) n) :
    ∃ m', yf131n B r d K m = some (.inl 0, m') ∧ sby (xR m (r + 12 + W)) (xR m' (r + 12 + W)) (fun i => xR m (r + 3 + d) i) n ∧ (∀ a, a ≠ r + 1 → a ≠ r + 13 + W → a ≠ r + 12 + W → m' a = m a) := by
  have hb := rw_b hr
  obtain ⟨f1, ⟨f2, f3, f4, f5, f6⟩, ⟨f7, f8, f9, f10, f11⟩, ⟨f12, f13, f14, f15, f16⟩⟩ := rw_f B hr
  obtain ⟨p1, p2, p3, p4⟩ := rw_p B hr hd.1 hd.2
  generalize hpl : r + 3 + d = pl at *
  generalize ht : r + 1 = t at *
  generalize hs : r + 13 + W = s at *
  generalize hod : r + 12 + W = od at *
  generalize hkf : (fun i => xR m pl i) = key
  have hkf2 : ∀ i, xR m pl i = key i := fun i => by rw [← hkf]
  have hkey2 : ∀ i, 0 ≤ i → i < n → 0 ≤ key i ∧ key i < K := fun i h0 h1 => by rw [← hkf2]; exact hkey i h0 h1
  generalize hof : xR m od = o at *
  -- the last row of steps
  have fin : ∀ m1, (∀ a, a ≠ t → m1 a = m a) → (∀ κ, 0 ≤ κ → κ ≤ K → xR m1 t κ = cnt (fun i => decide (key i < κ)) n.toNat) → xH (xl3 (yl131n_105 B) 1000000 r pl 0 m1) (fun v m' => v = 0 ∧ (∀ i, 0 ≤ i → i < n → xR m' od (pos (fun i => key (o i)) n.toNat i) = o i) ∧ ∀ a, a ≠ t → a ≠ s → a ≠ od → m' a = m a) (fun _ _ => False) := by
    intro m1 F1 V1
    have hcl : ∀ κ, clK (fun i => key (o i)) n.toNat κ = cnt (fun i => decide (key i < κ)) n.toNat := fun κ => cnt_prm ho (fun i => decide (key i < κ))
    refine xl3_rule (F := yl131n_105 B) (fun z0 z1 z2 m' => z0 = r ∧ z1 = pl ∧ 0 ≤ z2 ∧ z2 ≤ n ∧ (∀ a, a ≠ t → a ≠ s → m' a = m a) ∧ (∀ κ, 0 ≤ κ → κ < K → xR m' t κ = clK (fun i => key (o i)) n.toNat κ + ceK (fun i => key (o i)) z2.toNat κ) ∧ ∀ i, 0 ≤ i → i < z2 → xR m' s (pos (fun i => key (o i)) n.toNat i) = o i) (fun _ _ z2 _ => (n - z2).toNat) ?_ 1000000 r pl 0 m1 ⟨rfl, rfl, by omega, by omega, fun a h1 _ => F1 a h1, fun κ h1 h2 => by rw [V1 κ h1 (by omega), hcl, show ceK (fun i => key (o i)) (0 : Int).toNat κ = 0 from rfl, Int.add_zero], fun i h1 h2 => by omega⟩ (by omega)
    intro q z0 z1 z2 m2 ⟨b0, b1, c0, c1, F2, V2, P2⟩ ih
    subst b0 b1
    unfold yl131n_105
    have r5 : xR m2 z0 5 = n := by rw [xR_cg (F2 z0 (by omega) (by omega))]; exact h5
    have ro : xR m2 od = o := by rw [xR_cg (F2 od (by omega) (by omega)), hof]
    rw [if_pos f1, r5, f4, f5, f6]
    by_cases hz : z2 < n
    · have hoi := ho.1 z2 c0 hz
      have hk := hkey2 (o z2) hoi.1 hoi.2
      have rk2 : xR m2 z1 (o z2) = key (o z2) := by
        rw [xR_cg (F2 z1 (by omega) (by omega))]
        exact hkf2 _
      skip
      have hpos : xR m2 t (key (o z2)) = pos (fun i => key (o i)) n.toNat z2 := V2 _ hk.1 hk.2
      have hpb := pos_b (f := fun i => key (o i)) (n := n.toNat) c0 (show z2 < ((n.toNat : Nat) : Int) by omega)
      rw [if_pos hz, if_pos ⟨c0, by omega⟩, if_pos f7, ro, if_pos ⟨hoi.1, by omega⟩, if_pos p3, rk2, if_pos ⟨hk.1, by omega⟩, if_pos f9, hpos, if_pos ⟨hpb.1, by omega⟩, if_pos f8, w32_id (by omega) (by omega)]
      have st : t ≠ s := by omega
      refine ih _ _ _ _ ⟨rfl, rfl, by omega, by omega, fun a h1 h2 => by rw [xu_c h2, xu_c h1]; exact F2 a h1 h2, fun κ h1 h2 => ?_, fun i h1 h2 => ?_⟩ (by omega)
      · rw [xR_cg (xu_c st), xR_u]
        have es : ceK (fun i => key (o i)) (z2 + 1).toNat κ = ceK (fun i => key (o i)) z2.toNat κ + (if key (o z2) = κ then 1 else 0) := by
          rw [show (z2 + 1).toNat = z2.toNat + 1 from by omega]
          show ceK (fun i => key (o i)) z2.toNat κ + (if decide (key (o ((z2.toNat : Nat) : Int)) = κ) = true then 1 else 0) = _
          rw [Int.toNat_of_nonneg c0]
          by_cases e : key (o z2) = κ
          · rw [if_pos e, if_pos (decide_eq_true e)]
          · rw [if_neg e, if_neg (by simpa using e)]
        rw [es]
        by_cases e : κ = key (o z2)
        · rw [if_pos ⟨rfl, e⟩, if_pos e.symm, ← hpos, ← e, V2 κ h1 h2, w32_id]
          · omega
          · have q1 := clK_b (fun i => key (o i)) n.toNat κ
            have q2 := ceK_b (fun i => key (o i)) z2.toNat κ
            omega
          · have q1 := clK_b (fun i => key (o i)) n.toNat κ
            have q2 := ceK_b (fun i => key (o i)) z2.toNat κ
            omega
        · rw [if_neg (fun h => e h.2), if_neg (fun h => e h.symm), V2 κ h1 h2]
          omega
      · rw [xR_u]
        by_cases e : i = z2
        · rw [e, if_pos ⟨rfl, rfl⟩]
          exact w32_id (by omega) (by omega)
        · rw [if_neg (fun h => ?_), xR_cg (xu_c (fun e => st e.symm))]
          · exact P2 i h1 (by omega)
          · have := (pos_prm (fun i => key (o i)) n.toNat).2 i z2 h1 (by omega) c0 (by omega) h.2
            exact e this
    · have ez : z2 = n := by omega
      subst ez
      rw [if_neg hz, f12, f13, if_pos ⟨by omega, by omega, by omega, by omega, by omega⟩, if_pos f8, if_pos f7, xH_ret]
      refine ⟨rfl, fun i h1 h2 => ?_, fun a h1 h2 h3 => ?_⟩
      · have hpb := pos_b (f := fun i => key (o i)) (n := z2.toNat) h1 (show i < ((z2.toNat : Nat) : Int) by omega)
        have : xR (xw_cp m2 s 0 od 0 z2) od (pos (fun i => key (o i)) z2.toNat i) = xR m2 s (pos (fun i => key (o i)) z2.toNat i) := by
          unfold xR xw_cp
          rw [if_pos ⟨rfl, by omega, by omega⟩, Int.sub_zero, Int.add_zero]
        rw [this]
        exact P2 i h1 h2
      · have : (xw_cp m2 s 0 od 0 z2) a = m2 a := by
          funext k
          unfold xw_cp
          rw [if_neg (fun e => h3 e.1)]
        rw [this]
        exact F2 a h1 h2
  -- sums
  have mid : ∀ m1, (∀ a, a ≠ t → m1 a = m a) → (∀ κ, 0 ≤ κ → κ ≤ K → xR m1 t κ = (if κ = 0 then 0 else cnt (fun i => decide (key i = κ - 1)) n.toNat)) → xH (xl4 (yl131n_71 B) 1000000 r K pl 1 m1) (fun v m' => v = 0 ∧ (∀ i, 0 ≤ i → i < n → xR m' od (pos (fun i => key (o i)) n.toNat i) = o i) ∧ ∀ a, a ≠ t → a ≠ s → a ≠ od → m' a = m a) (fun _ _ => False) := by
    intro m1 F1 V1
    have cl0 : cnt (fun i => decide (key i < 0)) n.toNat = 0 := by
      have h := cnt_le (P := fun i => decide (key i < 0)) (Q := fun _ => false) n.toNat (fun i hi hp => by
        have : key i < 0 := of_decide_eq_true hp
        have := (hkey2 i (by omega) (by omega)).1
        omega)
      have h2 : ∀ k : Nat, cnt (fun _ => false) k = 0 := by
        intro k
        induction k with
        | zero => rfl
        | succ k ih =>
          show cnt (fun _ => false) k + (if false = true then 1 else 0) = 0
          rw [ih]
          rfl
      rw [h2] at h
      have := (cnt_b (fun i => decide (key i < 0)) n.toNat).1
      omega
    refine xl4_rule (F := yl131n_71 B) (fun y0 y1 y2 y3 m' => y0 = r ∧ y1 = K ∧ y2 = pl ∧ 1 ≤ y3 ∧ y3 ≤ K + 1 ∧ (∀ a, a ≠ t → m' a = m a) ∧ (∀ κ, 0 ≤ κ → κ < y3 → xR m' t κ = cnt (fun i => decide (key i < κ)) n.toNat) ∧ ∀ κ, y3 ≤ κ → κ ≤ K → xR m' t κ = cnt (fun i => decide (key i = κ - 1)) n.toNat) (fun _ _ _ y3 _ => (K + 1 - y3).toNat) ?_ 1000000 r K pl 1 m1 ⟨rfl, rfl, rfl, by omega, by omega, F1, fun κ h1 h2 => by rw [V1 κ h1 (by omega), if_pos (by omega), show κ = 0 from by omega, cl0], fun κ h1 h2 => by rw [V1 κ (by omega) h2, if_neg (by omega)]⟩ (by omega)
    intro q y0 y1 y2 y3 m2 ⟨a0, a1, a2, c0, c1, F2, V2, P2⟩ ih
    subst a0 a1 a2
    unfold yl131n_71
    by_cases hz : y1 < y3
    · rw [if_pos hz]
      exact fin m2 F2 (fun κ h1 h2 => V2 κ h1 (by omega))
    · rw [if_neg hz, if_pos f1, f6, if_pos ⟨by omega, by omega⟩, if_pos f9, if_pos ⟨by omega, by omega⟩, w32_id (by omega) (by omega)]
      refine ih _ _ _ _ _ ⟨rfl, rfl, rfl, by omega, by omega, fun a h1 => by rw [xu_c h1]; exact F2 a h1, fun κ h1 h2 => ?_, fun κ h1 h2 => ?_⟩ (by omega)
      · rw [xR_u]
        by_cases e : κ = y3
        · rw [if_pos ⟨rfl, e⟩, P2 y3 (by omega) (by omega), V2 (y3 - 1) (by omega) (by omega), e]
          have hs2 := clK_s key n.toNat (y3 - 1)
          unfold clK ceK at hs2
          rw [show y3 - 1 + 1 = y3 from by omega] at hs2
          have q1 := cnt_b (fun i => decide (key i < y3)) n.toNat
          rw [hs2]
          rw [w32_id (by omega) (by omega)]
          omega
        · rw [if_neg (fun h => e h.2)]
          exact V2 κ h1 (by omega)
      · rw [xR_u, if_neg (fun h => by omega)]
        exact P2 κ (by omega) h2
  unfold yf131n
  rw [if_pos f1, f2, f15, if_pos hd, if_pos p1, if_pos f10, p2, f6, w32_id (by omega) (by omega), fill132 f9 (by omega) (by omega) (by omega) (by omega), xB_ret]
  have goal := xH_ex (Q := fun v m' => v = 0 ∧ (∀ i, 0 ≤ i → i < n → xR m' od (pos (fun i => key (o i)) n.toNat i) = o i) ∧ ∀ a, a ≠ t → a ≠ s → a ≠ od → m' a = m a) (xl4_rule (F := yl131n_23 B) (fun x0 x1 x2 x3 m' => x0 = r ∧ x1 = K ∧ x2 = pl ∧ 0 ≤ x3 ∧ x3 ≤ n ∧ (∀ a, a ≠ t → m' a = m a) ∧ ∀ κ, 0 ≤ κ → κ ≤ K → xR m' t κ = (if κ = 0 then 0 else cnt (fun i => decide (key i = κ - 1)) x3.toNat)) (fun _ _ _ x3 _ => (n - x3).toNat) ?_ 1000000 r K pl 0 (xfill m t 0 (K + 1) 0) ⟨rfl, rfl, rfl, by omega, by omega, fun a h1 => xfill_ne h1, fun κ h1 h2 => ?_⟩ (by omega))
  · obtain ⟨v, m', e, rfl, h1, h2⟩ := goal
    refine ⟨m', e, ?_, h2⟩
    exact sby_of hn ho h1
  · intro q x0 x1 x2 x3 m2 ⟨a0, a1, a2, c0, c1, F2, V2⟩ ih
    subst a0 a1 a2
    unfold yl131n_23
    have r5 : xR m2 x0 5 = n := by rw [xR_cg (F2 x0 (by omega))]; exact h5
    rw [if_pos f1, r5]
    by_cases hz : x3 < n
    · have hk := hkey2 x3 c0 hz
      have rk2 : xR m2 x2 x3 = key x3 := by
        rw [xR_cg (F2 x2 (by omega))]
        exact hkf2 _
      skip
      rw [if_pos hz, if_pos ⟨c0, by omega⟩, if_pos p3, rk2, f6, if_pos ⟨by omega, by omega⟩, if_pos f9, w32_id (by omega) (by omega)]
      refine ih _ _ _ _ _ ⟨rfl, rfl, rfl, by omega, by omega, fun a h1 => by rw [xu_c h1]; exact F2 a h1, fun κ h1 h2 => ?_⟩ (by omega)
      rw [xR_u]
      have es : cnt (fun i => decide (key i = κ - 1)) (x3 + 1).toNat = cnt (fun i => decide (key i = κ - 1)) x3.toNat + (if key x3 = κ - 1 then 1 else 0) := by
        rw [show (x3 + 1).toNat = x3.toNat + 1 from by omega]
        show cnt (fun i => decide (key i = κ - 1)) x3.toNat + (if decide (key ((x3.toNat : Nat) : Int) = κ - 1) = true then 1 else 0) = _
        rw [Int.toNat_of_nonneg c0]
        by_cases e : key x3 = κ - 1
        · rw [if_pos e, if_pos (decide_eq_true e)]
        · rw [if_neg e, if_neg (by simpa using e)]
      by_cases e : κ = key x3 + 1
      · rw [if_pos ⟨rfl, e⟩, ← e, V2 κ h1 h2, if_neg (by omega), if_neg (by omega), es, if_pos (by omega)]
        have := cnt_b (fun i => decide (key i = κ - 1)) x3.toNat
        rw [w32_id (by omega) (by omega)]
      · rw [if_neg (fun h => e h.2), V2 κ h1 h2, es, if_neg (show ¬ key x3 = κ - 1 by omega), Int.add_zero]
    · rw [if_neg hz]
      have ez : x3 = n := by omega
      subst ez
      exact mid m2 F2 V2
  · have : xR (xfill m t 0 (K + 1) 0) t κ = 0 := by
      unfold xR
      rw [xfill_at h1 (by omega)]
      rfl
    rw [this]
    split
    · rfl
    · rfl
