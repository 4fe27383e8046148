/-! THE REFERENCE: a table's cells (cellOf) -/
/-- what the comparisons of a table find in the memory m: which dimensions it has, their keys, of the facts g -/
def kin (B : Nat) (m : xw_M) (tb N : Int) (hv : Int → Bool) (κ : Int → Int → Int) (g : Int → Int) (n : Int) : Prop := ((tb < -1 → xw_obb 13 (m 536 23) = true ∧ xR m (m 536 23) 4 = N) ∧ (-1 ≤ tb → xR m 536 14 = N)) ∧ ∀ i, 0 ≤ i → i < N → yf294 B tb i m = some (.inl (if hv i = true then 1 else 0), m) ∧ (hv i = false → ∀ x, κ i x = 0) ∧ (hv i = true → ∀ x, 0 ≤ x → x < n → yf295 B (g x) tb i m = some (.inl (κ i x), m))
theorem kin_kspec {B : Nat} {m : xw_M} {tb N : Int} {hv : Int → Bool} {κ : Int → Int → Int} {g : Int → Int} {n : Int} (h : ∀ m', sfr m m' → kin B m' tb N hv κ g n) : kspec B m tb N κ g n := by
  intro m' hs
  obtain ⟨h1, h2⟩ := h m' hs
  refine ⟨h1, fun i h0 hN => ?_⟩
  obtain ⟨q1, q2, q3⟩ := h2 i h0 hN
  cases hb : hv i with
  | false =>
    rw [hb] at q1
    exact Or.inl ⟨q1, q2 hb⟩
  | true =>
    rw [hb] at q1
    exact Or.inr ⟨q1, q3 hb⟩
/-- the facts' table (-1) -/
theorem kin_facts {B : Nat} {m : xw_M} {D n : Int} {g : Int → Int} (h14 : xR m 536 14 = D) (hD : D ≤ 8) (hg : ∀ x, 0 ≤ x → x < n → 0 ≤ g x ∧ g x < 20000) : kin B m (-1) D (fun _ => true) (fun d x => xR m 575 (8 * g x + d)) g n := by
  refine ⟨⟨fun h => by omega, fun _ => h14⟩, fun i h0 h1 => ⟨?_, fun h => absurd (show true = false from h) (by decide), fun _ x hx0 hx1 => ?_⟩⟩
  · unfold yf294
    rw [if_neg (by decide), if_pos (by decide)]
    rfl
  · have := hg x hx0 hx1
    unfold yf295
    rw [if_neg (by decide), if_pos ⟨by omega, by omega⟩, if_pos (by decide)]
/-- a view's table -/
theorem kin_view {B : Nat} {m : xw_M} {D tb n : Int} {g dg : Int → Int} (h14 : xR m 536 14 = D) (hD : D ≤ 8) (htb : 0 ≤ tb) (hg : ∀ x, 0 ≤ x → x < n → 0 ≤ g x ∧ g x < 20000) (hdg : ∀ d, 0 ≤ d → d < D → xR m 603 d = dg d ∧ 0 ≤ dg d ∧ dg d ≤ 4) (hl : ∀ d, 0 ≤ d → d < D → xR m 538 d ≤ 4) (hp : ∀ d x, 0 ≤ d → d < D → 0 ≤ x → x < n → 0 ≤ xR m 575 (8 * g x + d) ∧ xR m 575 (8 * g x + d) < 1000) : kin B m tb D (fun d => decide (dg d < xR m 538 d)) (fun d x => if dg d < xR m 538 d then xR m 573 (4000 * d + 4 * xR m 575 (8 * g x + d) + dg d) else 0) g n := by
  refine ⟨⟨fun h => by omega, fun _ => h14⟩, fun i h0 h1 => ⟨?_, fun h x => ?_, fun h x hx0 hx1 => ?_⟩⟩
  · unfold yf294
    rw [if_neg (by omega), if_neg (by omega), if_pos ⟨h0, by omega⟩, (hdg i h0 h1).1]
    by_cases e : dg i < xR m 538 i
    · rw [if_pos e, if_pos (decide_eq_true e)]
    · rw [if_neg e, if_neg (by simpa using e)]
  · exact if_neg (of_decide_eq_false h)
  · have e := of_decide_eq_true h
    have q1 := hg x hx0 hx1
    have q2 := hp i x h0 h1 hx0 hx1
    have q3 := hdg i h0 h1
    have q4 := hl i h0 h1
    unfold yf295
    rw [if_neg (by omega), if_pos ⟨by omega, by omega⟩, if_neg (by omega), if_pos ⟨h0, by omega⟩, q3.1, if_pos ⟨by omega, by omega⟩]
    show _ = some (Sum.inl (if dg i < xR m 538 i then _ else 0), m)
    rw [if_pos e]
/-- a table's rows as the reference has them: of the facts' table or of a view's -/
def Tref (tb : Int) (κ A : Int → Int → Int) (P : Int) (hd o st : Int → Int) (c j : Int) : Int := if tb < 0 then (if c < P then κ (hd c) (o (st j)) else A (c - P) (o (st j))) else Tvw κ A P hd o st c j
section CELL
variable {B : Nat} {m : xw_M} {tb N n R P : Int} {hv : Int → Bool} {κ : Int → Int → Int} {g o hd : Int → Int}
theorem cell_ok (htb : -1 ≤ tb) (hN : 0 ≤ N ∧ N ≤ 8) (hk : kin B m tb N hv κ g n) (hn : n ≤ 20000) (hg : ∀ x, 0 ≤ x → x < n → 0 ≤ g x ∧ g x < 20000) (hO : ORD m g o n) (hp : prm o n) (hS : SR tb N κ o (xR m 592) n R) (hhd : ∀ c, 0 ≤ c → c < P → (0 ≤ hd c ∧ hd c < N) ∧ hv (hd c) = true ∧ cnt hv (hd c).toNat = c) (hP : P ≤ 8) {row c : Int} (hr : 0 ≤ row ∧ row < R) (hc : 0 ≤ c ∧ c < P + (if tb < 0 then 8 else 25)) : yf325 B row c tb P m = some (.inl (Tref tb κ (fun k x => xJ m 576 (8 * g x + k)) P hd o (xR m 592) c row), m) := by
  obtain ⟨s, t, hst, h59, h60, hval⟩ := hO
  obtain ⟨t1, t2, t3, t4⟩ := two_f B hst
  obtain ⟨s1, s2, s3, s4, s5⟩ := hS
  have hS : SR tb N κ o (xR m 592) n R := ⟨s1, s2, s3, s4, s5⟩
  have mono := SR_mono hS
  have hn0 : 0 < n := by omega
  have hst0 : ∀ j, 0 ≤ j → j ≤ R → 0 ≤ xR m 592 j ∧ xR m 592 j ≤ n := by
    intro j h0 h1
    have q1 := mono j.toNat 0 (by omega) (by omega)
    have q2 := mono (R - j).toNat j h0 (by omega)
    rw [(s3 hn0).2, show (0 : Int) + (j.toNat : Nat) = j from by omega] at q1
    rw [show j + ((R - j).toNat : Nat) = R from by omega, s4] at q2
    omega
  have ha := hst0 row hr.1 (by omega)
  have hb := hst0 (row + 1) (by omega) (by omega)
  have hab := (s5 row hr.1 hr.2).1
  have hoa := hp.1 (xR m 592 row) ha.1 (by omega)
  have hga := hg _ hoa.1 hoa.2
  have hP9 : c - P < 25 := by split at hc <;> omega
  unfold yf325
  rw [if_pos ⟨hr.1, by omega⟩, h59, t3, if_pos ⟨ha.1, by omega⟩, if_pos t1, hval _ ha.1 (by omega), w32_id (x := c - P) (by split at hc <;> omega) (by omega)]
  by_cases hcP : c < P
  · rw [if_pos (by omega)]
    obtain ⟨d1, d2, d3⟩ := hhd c hc.1 hcP
    have hres : Tref tb κ (fun k x => xJ m 576 (8 * g x + k)) P hd o (xR m 592) c row = κ (hd c) (o (xR m 592 row)) := by
      unfold Tref Tvw Tvp
      split <;> rfl
    rw [hres]
    refine xl4_eq (F := yl325_30 B) (fun _ _ _ _ _ => some (.inl (κ (hd c) (o (xR m 592 row))), m)) (fun x0 x1 x2 x3 m' => x0 = tb ∧ x1 = g (o (xR m 592 row)) ∧ 0 ≤ x2 ∧ x2 ≤ hd c ∧ x3 = c - cnt hv x2.toNat ∧ m' = m) (fun _ _ x2 _ _ => (hd c - x2).toNat) ?_ 1000000 tb (g (o (xR m 592 row))) 0 c m ⟨rfl, rfl, by omega, by omega, by rw [show cnt hv (0 : Int).toNat = 0 from rfl, Int.sub_zero], rfl⟩ (by omega)
    intro r x0 x1 x2 x3 m' ⟨a0, a1, a2, a3, a4, a5⟩ ih
    subst a0 a1 a4 a5
    obtain ⟨k1, k2, k3⟩ := hk.2 x2 a2 (by omega)
    have es : cnt hv (x2 + 1).toNat = cnt hv x2.toNat + (if hv x2 = true then 1 else 0) := by
      rw [show (x2 + 1).toNat = x2.toNat + 1 from by omega]
      show cnt hv x2.toNat + (if hv ((x2.toNat : Nat) : Int) = true then 1 else 0) = _
      rw [Int.toNat_of_nonneg a2]
    have hm := cnt_mono hv x2.toNat ((hd c).toNat - x2.toNat)
    rw [show x2.toNat + ((hd c).toNat - x2.toNat) = (hd c).toNat from by omega, d3] at hm
    have hcb := cnt_b hv x2.toNat
    unfold yl325_30 yk325_45
    by_cases hx : x2 = hd c
    · subst hx
      rw [k1, xB_ret, if_pos d2, if_neg (by decide), d3, if_neg (by omega), k3 d2 _ hoa.1 hoa.2, xB_ret]
    · have hx2 : x2 < hd c := by omega
      have hcond : hv x2 = true → 0 < c - cnt hv x2.toNat := fun h => by
        have := cnt_lt (P := hv) (i := x2.toNat) (n := (hd c).toNat) (by omega) (by rw [Int.toNat_of_nonneg a2]; exact h)
        omega
      rw [k1, xB_ret]
      by_cases hh : hv x2 = true
      · rw [if_pos hh] at es ⊢
        rw [if_neg (by decide), if_pos (hcond hh), k1, xB_ret, if_pos hh, if_neg (by decide), w32_id (x := x2 + 1) (by omega) (by omega), w32_id (by omega) (by omega), ih _ _ _ _ _ ⟨rfl, rfl, by omega, by omega, by rw [es]; omega, rfl⟩ (by omega)]
      · rw [if_neg hh] at es ⊢
        rw [if_pos rfl, k1, xB_ret, if_neg hh, if_pos rfl, w32_id (x := x2 + 1) (by omega) (by omega), w32_id (by omega) (by omega), ih _ _ _ _ _ ⟨rfl, rfl, by omega, by omega, by rw [es]; omega, rfl⟩ (by omega)]
  · rw [if_neg (by omega)]
    by_cases ht : tb < 0
    · rw [if_pos ht] at hc
      rw [if_pos ht, if_pos ⟨by omega, by omega⟩]
      unfold Tref
      rw [if_pos ht, if_neg hcP]
    · rw [if_neg ht] at hc
      rw [if_neg ht]
      unfold Tref
      rw [if_neg ht]
      unfold Tvw Tvp
      rw [if_neg hcP]
      by_cases hcp : c = P
      · rw [if_pos (by omega), if_pos ⟨by omega, by omega⟩, if_pos hcp, w32_id (by omega) (by omega)]
        exact congrArg (fun z => some (Sum.inl z, m)) (by omega)
      · rw [if_neg (by omega), if_neg hcp, w32_id (x := c - P - 1) (by omega) (by omega), if_pos (by omega)]
        generalize hw : (c - P - 1) % 3 = w
        generalize hq : (c - P - 1) / 3 = k
        have hwb : 0 ≤ w ∧ w < 3 := by omega
        have hkb : 0 ≤ k ∧ k < 8 := by omega
        -- the loop
        have loop : ∀ t0, t0 = (if w = 0 then 0 else xJ m 576 (8 * g (o (xR m 592 row)) + k)) → xl5 (yl325_170 B) 1000000 row k w t0 (xR m 592 row) m = some (.inl (ga w (fun x => xJ m 576 (8 * g x + k)) o (xR m 592 row) (xR m 592 (row + 1) - 1 - xR m 592 row).toNat), m) := by
          intro t0 ht0
          refine xl5_eq (F := yl325_170 B) (fun _ _ _ _ _ _ => some (.inl (ga w (fun x => xJ m 576 (8 * g x + k)) o (xR m 592 row) (xR m 592 (row + 1) - 1 - xR m 592 row).toNat), m)) (fun x0 x1 x2 x3 x4 m' => x0 = row ∧ x1 = k ∧ x2 = w ∧ m' = m ∧ xR m 592 row ≤ x4 ∧ x4 ≤ xR m 592 (row + 1) ∧ x3 = (if x4 = xR m 592 row then t0 else ga w (fun x => xJ m 576 (8 * g x + k)) o (xR m 592 row) (x4 - 1 - xR m 592 row).toNat)) (fun _ _ _ _ x4 _ => (xR m 592 (row + 1) - x4).toNat) ?_ 1000000 row k w t0 (xR m 592 row) m ⟨rfl, rfl, rfl, rfl, by omega, by omega, by rw [if_pos rfl]⟩ (by omega)
          intro r x0 x1 x2 x3 x4 m' ⟨a0, a1, a2, a3, a4, a5, a6⟩ ih
          subst a0 a1 a2 a3
          unfold yl325_170
          rw [if_pos ⟨by omega, by omega⟩]
          by_cases hx : x4 < xR m' 592 (x0 + 1)
          · have hox := hp.1 x4 (by omega) (by omega)
            have hgx := hg _ hox.1 hox.2
            have nxt : (if x4 + 1 = xR m' 592 x0 then t0 else ga x2 (fun x => xJ m' 576 (8 * g x + x1)) o (xR m' 592 x0) (x4 + 1 - 1 - xR m' 592 x0).toNat) = gop x2 x3 (xJ m' 576 (8 * g (o x4) + x1)) := by
              rw [if_neg (by omega)]
              by_cases e4 : x4 = xR m' 592 x0
              · rw [a6, if_pos e4, e4, show (xR m' 592 x0 + 1 - 1 - xR m' 592 x0).toNat = 0 from by omega, ht0]
                show xJ m' 576 (8 * g (o (xR m' 592 x0)) + x1) = _
                unfold gop
                by_cases w0 : x2 = 0
                · rw [if_pos w0, if_pos w0, Int.zero_add, w64_xJ]
                · rw [if_neg w0, if_neg w0]
                  split <;> omega
              · rw [a6, if_neg e4, show (x4 + 1 - 1 - xR m' 592 x0).toNat = (x4 - 1 - xR m' 592 x0).toNat + 1 from by omega]
                show gop x2 _ (xJ m' 576 (8 * g (o (xR m' 592 x0 + ((((x4 - 1 - xR m' 592 x0).toNat : Nat) : Int) + 1))) + x1)) = _
                rw [show xR m' 592 x0 + ((((x4 - 1 - xR m' 592 x0).toNat : Nat) : Int) + 1) = x4 from by omega]
            rw [if_pos hx, h59, t3, if_pos ⟨by omega, by omega⟩, if_pos t1, hval x4 (by omega) (by omega), if_pos ⟨by omega, by omega⟩, w32_id (x := x4 + 1) (by omega) (by omega)]
            unfold gop at nxt
            by_cases w0 : x2 = 0
            · rw [if_pos w0] at nxt ⊢
              rw [ih _ _ _ _ _ _ ⟨rfl, rfl, rfl, rfl, by omega, by omega, nxt.symm⟩ (by omega)]
            · rw [if_neg w0] at nxt ⊢
              by_cases w1 : x2 = 1
              · rw [if_pos w1] at nxt ⊢
                rw [ih _ _ _ _ _ _ ⟨rfl, rfl, rfl, rfl, by omega, by omega, nxt.symm⟩ (by omega)]
              · rw [if_neg w1] at nxt ⊢
                rw [ih _ _ _ _ _ _ ⟨rfl, rfl, rfl, rfl, by omega, by omega, nxt.symm⟩ (by omega)]
          · have e4 : x4 = xR m' 592 (x0 + 1) := by omega
            rw [if_neg hx, a6, if_neg (by omega), e4]
        by_cases w0 : w = 0
        · rw [if_pos w0]
          exact loop 0 (by rw [if_pos w0])
        · rw [if_neg w0, if_pos ⟨by omega, by omega⟩]
          exact loop _ (by rw [if_neg w0])
end CELL
