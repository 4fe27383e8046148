/-! THE LIST of a column's different cells (listCells) -/
theorem xR_cg {m m' : xw_M} {a : Int} (h : m' a = m a) : xR m' a = xR m a := by
  funext k
  unfold xR
  rw [h]
theorem xJ_cg {m m' : xw_M} {a : Int} (h : m' a = m a) : xJ m' a = xJ m a := by
  funext k
  unfold xJ
  rw [h]
def hsh (T x : Int) : Int := (xw_lushrf (x * (-7046029254386353131)) 40) % T
theorem hsh_b (x : Int) : 0 ≤ xw_lushrf x 40 ∧ xw_lushrf x 40 < 16777216 := by
  have e : xw_lushrf x 40 = (x % 18446744073709551616) / ((2 ^ 40 : Nat) : Int) := lushr_d x (s := 40) (by decide) (by decide)
  rw [e]
  show 0 ≤ x % 18446744073709551616 / 1099511627776 ∧ x % 18446744073709551616 / 1099511627776 < 16777216
  omega
/-- the list as far as i cells -/
def LC (m0 m : xw_M) (c T i : Int) : Prop :=
  ((∀ a, a ≠ 518 → a ≠ 519 → a ≠ 520 → a ≠ 521 → m a = m0 a) ∧ (∀ k, k ≠ 9 → m 518 k = m0 518 k)) ∧
  xR m 518 9 = dst (xJ m0 c) i.toNat ∧
  HT (xR m 519) T (dst (xJ m0 c) i.toNat : Nat) (fun j => hsh T (xJ m 520 j)) ∧
  (∀ j : Int, 0 ≤ j → j < (dst (xJ m0 c) i.toNat : Nat) → ∃ i' : Nat, i' < i.toNat ∧ xJ m 520 j = xJ m0 c i') ∧
  (∀ j j' : Int, 0 ≤ j → j < (dst (xJ m0 c) i.toNat : Nat) → 0 ≤ j' → j' < (dst (xJ m0 c) i.toNat : Nat) → xJ m 520 j = xJ m 520 j' → j = j') ∧
  (∀ i' : Int, 0 ≤ i' → i' < i → (0 ≤ xR m 521 i' ∧ xR m 521 i' < (dst (xJ m0 c) i.toNat : Nat)) ∧ xJ m 520 (xR m 521 i') = xJ m0 c i')
/-- where the search of a cell may end -/
def LE (m : xw_M) (T s0 v slot : Int) : Prop := ∃ r : Nat, slot = (s0 + r) % T ∧ (∀ r' : Nat, r' < r → xR m 519 ((s0 + r') % T) ≠ -1 ∧ xJ m 520 (xR m 519 ((s0 + r') % T)) ≠ v) ∧ (xR m 519 slot = -1 ∨ (xR m 519 slot ≠ -1 ∧ xJ m 520 (xR m 519 slot) = v))
theorem list_probe {B : Nat} {m : xw_M} {c n i s0 d : Int} {k : Nat} {h : Int → Int} {r29 : Int → Int → Int → Int → Int → xw_M → xP} {Q : Int → xw_M → Prop} {X : Nat → xw_M → Prop}
    (hc : xw_obb 17 c = true) (hle : xw_le B c = 1024) (hk : k ≤ 10) (hi : 0 ≤ i) (hi2 : i < 1024) (hH : HT (xR m 519) (4 * (2 ^ k : Nat)) d h) (hd0 : 0 ≤ d) (hd : d < 4 * (2 ^ k : Nat)) (hd2 : d ≤ 1024) (hs : 0 ≤ s0 ∧ s0 < 4 * (2 ^ k : Nat))
    (hr : ∀ slot : Int, 0 ≤ slot → slot < 4 * (2 ^ k : Nat) → LE m (4 * (2 ^ k : Nat)) s0 (xJ m c i) slot → xH (yk185_110 B r29 518 c n (4 * (2 ^ k : Nat) - 1) i slot m) Q X) :
    xH (xl7 (yl185_54 B r29) 1000000 518 c n (4 * (2 ^ k : Nat) - 1) i s0 0 m) Q X := by
  obtain ⟨rs, hrs, hrs2⟩ := HT_free hH hd hd0 s0
  have hp : (2 : Nat) ^ k ≤ 2 ^ 10 := Nat.pow_le_pow_right (by omega) hk
  have hp0 : 0 < 2 ^ k := Nat.two_pow_pos k
  have e2 : 2 ^ (k + 2) = 4 * 2 ^ k := by rw [Nat.pow_add]; omega
  generalize hT : (4 * ((2 ^ k : Nat) : Int)) = T at *
  refine xl7_rule (F := yl185_54 B r29) (fun x0 x1 x2 x3 x4 x5 x6 m' => x0 = 518 ∧ x1 = c ∧ x2 = n ∧ x3 = T - 1 ∧ x4 = i ∧ m' = m ∧ 0 ≤ x6 ∧ x6 ≤ rs ∧ x5 = (s0 + x6) % T ∧ (∀ r' : Nat, (r' : Int) < x6 → xR m 519 ((s0 + r') % T) ≠ -1 ∧ xJ m 520 (xR m 519 ((s0 + r') % T)) ≠ xJ m c i)) (fun _ _ _ _ _ _ x6 _ => (4096 - x6).toNat) ?_ 1000000 518 c n (T - 1) i s0 0 m ⟨rfl, rfl, rfl, rfl, rfl, rfl, by omega, by omega, (by rw [Int.add_zero]; exact (Int.emod_eq_of_lt hs.1 hs.2).symm), fun r' hr' => by omega⟩ (by omega)
  intro r x0 x1 x2 x3 x4 x5 x6 m' ⟨a0, a1, a2, a3, a4, a5, a6, a7, a8, a9⟩ ih
  subst a0 a1 a2 a3 a4 a5
  have b5 : 0 ≤ x5 ∧ x5 < T := by rw [a8]; exact ⟨Int.emod_nonneg _ (by omega), Int.emod_lt_of_pos _ (by omega)⟩
  unfold yl185_54
  rw [if_pos (by omega), if_pos (by decide), show xw_rf 518 4 = 519 from by decide, show xw_le B 519 = 4096 from rfl, if_pos ⟨by omega, by omega⟩, if_pos (by decide)]
  have ex6 : ((x6.toNat : Nat) : Int) = x6 := by omega
  split
  · next he =>
    refine hr x5 b5.1 b5.2 ⟨x6.toNat, by rw [ex6]; exact a8, fun r' hr' => a9 r' (by omega), Or.inl he⟩
  · next he =>
    have b6 := (hH.1 x5 b5.1 b5.2).resolve_left he
    rw [show xw_rf 518 5 = 520 from by decide, show xw_le B 520 = 1024 from rfl, if_pos ⟨by omega, by omega⟩, if_pos (by decide), if_pos ⟨by omega, by omega⟩]
    split
    · next hv =>
      exact hr x5 b5.1 b5.2 ⟨x6.toNat, by rw [ex6]; exact a8, fun r' hr' => a9 r' (by omega), Or.inr ⟨he, hv⟩⟩
    · next hv =>
      have hne : x6 ≠ rs := by
        intro e
        rw [a8, e] at he
        exact he hrs2
      rw [w32_id (by omega) (by omega), iand_m (k := k + 2) (by omega) (by omega) (by omega) (by omega)]
      refine ih _ _ _ _ _ _ _ _ ⟨rfl, rfl, rfl, rfl, rfl, rfl, by omega, by omega, ?_, ?_⟩ (by omega)
      · rw [a8, show (((2 ^ (k + 2) : Nat)) : Int) = T from by omega, Int.emod_add_emod, Int.add_assoc]
      · intro r' hr'
        by_cases e : (r' : Int) = x6
        · rw [e, ← a8]
          exact ⟨he, hv⟩
        · exact a9 r' (by omega)
theorem hsh_s {B : Nat} {k : Nat} (hk : k ≤ 10) (x : Int) : xw_iandf (xw_lushrf (x * (-7046029254386353131)) 40) (4 * (2 ^ k : Nat) - 1) = hsh (4 * (2 ^ k : Nat)) x := by
  have hb := hsh_b (x * (-7046029254386353131))
  have hp0 : 0 < 2 ^ k := Nat.two_pow_pos k
  have e2 : 2 ^ (k + 2) = 4 * 2 ^ k := by rw [Nat.pow_add]; omega
  rw [iand_m (k := k + 2) (by omega) (by omega) (by omega) (by omega)]
  unfold hsh
  rw [show (((2 ^ (k + 2) : Nat)) : Int) = 4 * ((2 ^ k : Nat) : Int) from by omega]
theorem hsh_r {T : Int} (hT : 0 < T) (x : Int) : 0 ≤ hsh T x ∧ hsh T x < T := ⟨Int.emod_nonneg _ (by omega), Int.emod_lt_of_pos _ hT⟩
theorem list_ok {B : Nat} {m : xw_M} {c n : Int} (hc : xw_obb 17 c = true) (hle : xw_le B c = 1024) (hcn : c ≠ 518 ∧ c ≠ 519 ∧ c ≠ 520 ∧ c ≠ 521) (hn : 1 ≤ n) (hn2 : n ≤ 1024) : ∃ m' T, yf185 B 518 c n m = some (.inl 0, m') ∧ LC m m' c T n := by
  obtain ⟨k, hk, hk1, hk2, hk3⟩ := hob_ok (B := B) (m := m) hn hn2
  have hp : (2 : Nat) ^ k ≤ 2 ^ 10 := Nat.pow_le_pow_right (by omega) hk
  have hp0 : 0 < 2 ^ k := Nat.two_pow_pos k
  have e1 : 2 ^ (k + 1) = 2 * 2 ^ k := by rw [Nat.pow_add]; omega
  unfold yf185
  rw [hk3]
  simp only [xB_ret]
  rw [if_pos (by decide), show xw_rf 518 4 = 519 from by decide, w32_id (x := 4 * ((2 ^ k : Nat) : Int) - 1) (by omega) (by omega), w32_id (by omega) (by omega), Int.sub_add_cancel, fill132 (by decide) (by omega) (by omega) (by show _ ≤ (4096 : Int); omega) (by show (4096 : Int) ≤ _; decide)]
  simp only [xB_ret]
  have goal := xH_ex (Q := fun v m' => v = 0 ∧ LC m m' c (4 * (2 ^ k : Nat)) n) (xl5_rule (F := yl185_29 B) (fun x0 x1 x2 x3 x4 m' => x0 = 518 ∧ x1 = c ∧ x2 = n ∧ x3 = 4 * (2 ^ k : Nat) - 1 ∧ 0 ≤ x4 ∧ x4 ≤ n ∧ LC m m' c (4 * (2 ^ k : Nat)) x4) (fun _ _ _ _ x4 _ => (n - x4).toNat) ?_ 1000000 518 c n (4 * (2 ^ k : Nat) - 1) 0 (xw_u (xfill m 519 0 (4 * (2 ^ k : Nat)) (-1)) 518 9 0) ⟨rfl, rfl, rfl, rfl, by omega, by omega, ?_⟩ (by omega))
  · obtain ⟨v, m', e, rfl, h⟩ := goal
    exact ⟨m', _, e, h⟩
  · intro r x0 x1 x2 x3 x4 m1 ⟨a0, a1, a2, a3, a4, a5, L⟩ ih
    subst a0 a1 a2 a3
    unfold yl185_29
    split
    · next h =>
      rw [if_pos ⟨a4, by omega⟩, hsh_s (B := B) hk]
      obtain ⟨⟨f1, f2⟩, l1, l2, l3, l4, l5⟩ := L
      have hdle := dst_le (xJ m x1) x4.toNat
      have rd : ∀ i, xJ m1 x1 i = xJ m x1 i := fun i => by unfold xJ; rw [f1 x1 hcn.1 hcn.2.1 hcn.2.2.1 hcn.2.2.2]
      refine list_probe hc hle hk a4 (by omega) l2 (by omega) (by omega) (by omega) (hsh_r (by omega) _) ?_
      intro slot hs0 hs1 ⟨q, g1, g2, g3⟩
      rw [rd] at g2 g3
      rw [rd] at g1
      have et : (x4 + 1).toNat = x4.toNat + 1 := by omega
      have ec : ((x4.toNat : Nat) : Int) = x4 := by omega
      unfold yk185_110
      rw [if_pos (by decide), show xw_rf 518 4 = 519 from by decide, show xw_le B 519 = 4096 from rfl, if_pos ⟨hs0, by omega⟩, if_pos (by decide)]
      rcases g3 with g3 | ⟨g3, g4⟩
      · -- a new one
        rw [if_pos g3, if_pos ⟨a4, by omega⟩, if_pos hc, show xw_rf 518 5 = 520 from by decide, show xw_le B 520 = 1024 from rfl, l1, if_pos ⟨by omega, by omega⟩, if_pos (by decide)]
        have hnew : ¬ ∃ j : Nat, j < x4.toNat ∧ xJ m x1 j = xJ m x1 (x4.toNat : Nat) := by
          rintro ⟨j, hj, e⟩
          rw [ec] at e
          obtain ⟨b1, b2⟩ := l5 j (by omega) (by omega)
          refine HT_not l2 (r := q) (s0 := hsh (4 * ((2 ^ k : Nat) : Int)) (xJ m x1 x4)) (by rw [← g1]; exact g3) (P := fun j => xJ m1 520 j = xJ m x1 x4) (fun r' hr' => (g2 r' hr').2) (fun j _ _ hj => by show hsh _ (xJ m1 520 j) = _; rw [hj]) _ b1.1 b1.2 (b2.trans e)
        have hdst : dst (xJ m x1) (x4 + 1).toNat = dst (xJ m x1) x4.toNat + 1 := by
          rw [et]
          show dst (xJ m x1) x4.toNat + _ = _
          rw [if_neg (by rw [dst_any]; exact hnew)]
        have hd0 : (0 : Int) ≤ (dst (xJ m x1) x4.toNat : Nat) := by omega
        generalize hD : (dst (xJ m x1) x4.toNat : Nat) = D at *
        unfold yk185_152
        rw [if_pos (by decide), show xw_rf 518 4 = 519 from by decide, show xw_le B 519 = 4096 from rfl, if_pos ⟨hs0, by omega⟩, if_pos (by decide), show xw_rf 518 6 = 521 from by decide, show xw_le B 521 = 1024 from rfl, if_pos ⟨a4, by omega⟩, if_pos (by decide), w32_id (by omega) (by omega)]
        have s1 : ∀ s, xR (xw_u (xw_u (xw_u m1 519 slot (D : Int)) 518 9 ((D : Int) + 1)) 520 (D : Int) (xJ m1 x1 x4)) 519 s = if s = slot then (D : Int) else xR m1 519 s := by
          intro s
          simp only [xR_u]
          simp
          split
          · exact w32_id (by omega) (by omega)
          · rfl
        have s2 : ∀ s, xR (xw_u (xw_u (xw_u (xw_u m1 519 slot (D : Int)) 518 9 ((D : Int) + 1)) 520 (D : Int) (xJ m1 x1 x4)) 521 x4 (D : Int)) 519 s = if s = slot then (D : Int) else xR m1 519 s := by
          intro s
          simp only [xR_u]
          simp
          split
          · exact w32_id (by omega) (by omega)
          · rfl
        have s3 : ∀ j, xJ (xw_u (xw_u (xw_u (xw_u m1 519 slot (D : Int)) 518 9 ((D : Int) + 1)) 520 (D : Int) (xJ m1 x1 x4)) 521 x4 (D : Int)) 520 j = if j = D then xJ m x1 x4 else xJ m1 520 j := by
          intro j
          simp only [xJ_u]
          simp
          split
          · rw [rd]
            exact w64_w _
          · rfl
        have s4 : ∀ i', xR (xw_u (xw_u (xw_u (xw_u m1 519 slot (D : Int)) 518 9 ((D : Int) + 1)) 520 (D : Int) (xJ m1 x1 x4)) 521 x4 (D : Int)) 521 i' = if i' = x4 then (D : Int) else xR m1 521 i' := by
          intro i'
          simp only [xR_u]
          simp
          split
          · exact w32_id (by omega) (by omega)
          · rfl
        rw [s1, if_pos rfl]
        refine ih _ _ _ _ _ _ ⟨rfl, rfl, rfl, rfl, by omega, by omega, ⟨⟨?_, ?_⟩, ?_, ?_, ?_, ?_, ?_⟩⟩ (by omega)
        · intro a h1 h2 h3 h4
          rw [xu_c h4, xu_c h3, xu_c h1, xu_c h2]
          exact f1 a h1 h2 h3 h4
        · intro j hj
          rw [xu_c (by decide), xu_c (by decide)]
          unfold xw_u
          rw [if_neg (fun e => hj e.2), if_neg (by omega)]
          exact f2 j hj
        · rw [hdst]
          simp only [xR_u]
          simp
          exact w32_id (by omega) (by omega)
        · rw [hdst, show (((D + 1 : Nat)) : Int) = (D : Int) + 1 from by omega]
          have hA := HT_add (h' := fun j => hsh (4 * ((2 ^ k : Nat) : Int)) (if j = D then xJ m x1 x4 else xJ m1 520 j)) l2 hd0 (by omega) (s0 := hsh (4 * ((2 ^ k : Nat) : Int)) (xJ m x1 x4)) (r := q) (by rw [← g1]; exact g3) (fun r' hr' => (g2 r' hr').1) (fun j h1 h2 => by show hsh _ (if j = D then _ else _) = _; rw [if_neg (by omega)]) (by show hsh _ (if (D : Int) = D then _ else _) = _; rw [if_pos rfl])
          refine HT_cg (by omega) hA (fun s _ _ => ?_) (fun j _ _ => ?_)
          · rw [s2, ← g1]
          · show hsh _ _ = hsh _ _
            rw [s3]
        · intro j h1 h2
          rw [s3]
          by_cases e : j = D
          · rw [if_pos e]
            exact ⟨x4.toNat, by omega, by rw [ec]⟩
          · rw [if_neg e]
            obtain ⟨i', h3, h4⟩ := l3 j h1 (by omega)
            exact ⟨i', by omega, h4⟩
        · intro j j' h1 h2 h3 h4 e
          rw [s3, s3] at e
          by_cases e1 : j = D
          · by_cases e2 : j' = D
            · omega
            · rw [if_pos e1, if_neg e2] at e
              obtain ⟨i', h5, h6⟩ := l3 j' h3 (by omega)
              exact absurd ⟨i', h5, by rw [ec, e, h6]⟩ hnew
          · by_cases e2 : j' = D
            · rw [if_pos e2, if_neg e1] at e
              obtain ⟨i', h5, h6⟩ := l3 j h1 (by omega)
              exact absurd ⟨i', h5, by rw [ec, ← e, h6]⟩ hnew
            · rw [if_neg e1, if_neg e2] at e
              exact l4 j j' h1 (by omega) h3 (by omega) e
        · intro i' h1 h2
          rw [s4]
          by_cases e : i' = x4
          · rw [if_pos e, s3, if_pos rfl, e]
            exact ⟨⟨by omega, by omega⟩, rfl⟩
          · rw [if_neg e]
            obtain ⟨b1, b2⟩ := l5 i' h1 (by omega)
            rw [s3, if_neg (by omega)]
            exact ⟨⟨b1.1, by omega⟩, b2⟩
      · -- one that is there
        rw [if_neg g3]
        have hb := (l2.1 slot hs0 hs1).resolve_left g3
        have hold : ∃ j : Nat, j < x4.toNat ∧ xJ m x1 j = xJ m x1 (x4.toNat : Nat) := by
          obtain ⟨i', h5, h6⟩ := l3 _ hb.1 hb.2
          exact ⟨i', h5, by rw [ec, ← h6, g4]⟩
        have hdst : dst (xJ m x1) (x4 + 1).toNat = dst (xJ m x1) x4.toNat := by
          rw [et]
          show dst (xJ m x1) x4.toNat + _ = _
          rw [if_pos (by rw [dst_any]; exact hold)]
          rfl
        unfold yk185_152
        rw [if_pos (by decide), show xw_rf 518 4 = 519 from by decide, show xw_le B 519 = 4096 from rfl, if_pos ⟨hs0, by omega⟩, if_pos (by decide), show xw_rf 518 6 = 521 from by decide, show xw_le B 521 = 1024 from rfl, if_pos ⟨a4, by omega⟩, if_pos (by decide), w32_id (by omega) (by omega)]
        have s2 : ∀ a, a ≠ 521 → (xw_u m1 521 x4 (xR m1 519 slot)) a = m1 a := fun a ha => xu_c ha
        have t1 : xR (xw_u m1 521 x4 (xR m1 519 slot)) 519 = xR m1 519 := xR_cg (s2 519 (by decide))
        have t2 : xJ (xw_u m1 521 x4 (xR m1 519 slot)) 520 = xJ m1 520 := xJ_cg (s2 520 (by decide))
        have t3 : xR (xw_u m1 521 x4 (xR m1 519 slot)) 518 = xR m1 518 := xR_cg (s2 518 (by decide))
        refine ih _ _ _ _ _ _ ⟨rfl, rfl, rfl, rfl, by omega, by omega, ⟨⟨?_, ?_⟩, ?_, ?_, ?_, ?_, ?_⟩⟩ (by omega)
        · intro a h1 h2 h3 h4
          rw [s2 a h4]
          exact f1 a h1 h2 h3 h4
        · intro j hj
          rw [s2 518 (by decide)]
          exact f2 j hj
        · rw [hdst, t3]
          exact l1
        · rw [hdst, t1, t2]
          exact l2
        · rw [hdst, t2]
          intro j h1 h2
          obtain ⟨i', h3, h4⟩ := l3 j h1 h2
          exact ⟨i', by omega, h4⟩
        · rw [hdst, t2]
          exact l4
        · intro i' h1 h2
          rw [hdst, t2, xR_u]
          by_cases e : i' = x4
          · rw [if_pos ⟨rfl, e⟩, w32_xR, e]
            exact ⟨hb, g4⟩
          · rw [if_neg (fun q => e q.2)]
            exact l5 i' h1 (by omega)
    · next h =>
      rw [xH_ret]
      have : x4 = x2 := by omega
      subst this
      exact ⟨rfl, L⟩
  · have e0 : dst (xJ m c) (0 : Int).toNat = 0 := rfl
    refine ⟨⟨?_, ?_⟩, ?_, ?_, ?_, ?_, ?_⟩
    · intro a h1 h2 h3 h4
      rw [xu_c h1, xfill_ne h2]
    · intro j hj
      unfold xw_u
      rw [if_neg (fun e => hj e.2), xfill_ne (by decide)]
    · rw [e0, xR_u, if_pos ⟨rfl, rfl⟩]
      rfl
    · rw [e0]
      refine HT_0 (fun s h1 h2 => ?_)
      unfold xR
      rw [xu_c (by decide), xfill_at h1 h2]
      rfl
    · intro j h1 h2
      rw [e0] at h2
      omega
    · intro j j' h1 h2
      rw [e0] at h2
      omega
    · intro i' h1 h2
      omega
