/-! THE REFERENCE: a part's weight (partWeight) -/
/-- only what a weighing makes is another -/
def pf (m m' : xw_M) : Prop := (∀ a, a ≠ 536 → a ≠ 603 → (a < 590 ∨ 594 < a) → m' a = m a) ∧ (∀ k, k ≠ 58 → k ≠ 59 → k ≠ 60 → k ≠ 61 → m' 536 k = m 536 k)
theorem pf_refl (m : xw_M) : pf m m := ⟨fun _ _ _ _ => rfl, fun _ _ _ _ _ => rfl⟩
theorem pf_trans {m m1 m2 : xw_M} (h : pf m m1) (h2 : pf m1 m2) : pf m m2 := ⟨fun a a1 a2 a3 => (h2.1 a a1 a2 a3).trans (h.1 a a1 a2 a3), fun k k1 k2 k3 k4 => (h2.2 k k1 k2 k3 k4).trans (h.2 k k1 k2 k3 k4)⟩
theorem sfr_pf {m m' : xw_M} (h : sfr m m') : pf m m' := ⟨fun a a1 _ a3 => h.1 a a1 (by omega) (by omega) (by omega), fun k k1 k2 k3 k4 => h.2 k k2 k3 k4⟩
theorem pf_u {m m1 : xw_M} {a i v : Int} (h : pf m m1) (ha : (590 ≤ a ∧ a ≤ 594) ∨ a = 603) : pf m (xw_u m1 a i v) := ⟨fun b b1 b2 b3 => by rw [xu_c (by omega)]; exact h.1 b b1 b2 b3, fun k k1 k2 k3 k4 => by rw [xu_c (by omega)]; exact h.2 k k1 k2 k3 k4⟩
theorem f594_pf {m m' : xw_M} (h : f594 m m') : pf m m' := ⟨fun a _ _ a3 => h a (by omega), fun k _ _ _ _ => by rw [h 536 (by decide)]⟩
/-- the sort as it is called: the digits first -/
theorem sort_call {B : Nat} {m : xw_M} {tb N n : Int} {hv : Int → Bool} {κ : Int → Int → Int} {g dg : Int → Int} (hN : 0 ≤ N ∧ N ≤ 8) (htb : -1 ≤ tb) (h14 : xR m 536 14 = N) (hn : 0 ≤ n ∧ n ≤ 20000) (h58 : xR m 536 58 = n) (hg : ∀ x, 0 ≤ x → x < n → xw_rg (g x)) (hO : ORD m g (fun k => k) n) (hdg : 0 ≤ tb → ∀ m', pf m m' → ∀ d, 0 ≤ d → d < N → yf291 B tb d m' = some (.inl (dg d), m') ∧ xw_rg (dg d)) (hk : ∀ m', pf m m' → (0 ≤ tb → ∀ d, 0 ≤ d → d < N → xR m' 603 d = dg d) → kin B m' tb N hv κ g n) :
    ∃ m' o, yf290 B tb m = some (.inl 0, m') ∧ pf m m' ∧ (0 ≤ tb → ∀ d, 0 ≤ d → d < N → xR m' 603 d = dg d) ∧ ORD m' g o n ∧ srt κ N.toNat o n ∧ SR tb N κ o (xR m' 592) n (xR m' 536 61) ∧ xR m' 536 58 = n := by
  have pass : ∀ m1, pf m m1 → xR m1 536 58 = n → ORD m1 g (fun k => k) n → (0 ≤ tb → ∀ d, 0 ≤ d → d < N → xR m1 603 d = dg d) → ∃ m' o, xl2 (yl290_34 B) 1000000 tb 1 m1 = some (.inl 0, m') ∧ pf m m' ∧ (0 ≤ tb → ∀ d, 0 ≤ d → d < N → xR m' 603 d = dg d) ∧ ORD m' g o n ∧ srt κ N.toNat o n ∧ SR tb N κ o (xR m' 592) n (xR m' 536 61) ∧ xR m' 536 58 = n := by
    intro m1 p1 q58 qO qd
    have ks : kspec B m1 tb N κ g n := kin_kspec (hv := hv) (fun m' hs => hk m' (pf_trans p1 (sfr_pf hs)) (fun h d d0 d1 => by rw [xR_cg (hs.1 603 (by decide) (by decide) (by decide) (by decide))]; exact qd h d d0 d1))
    obtain ⟨m', o, e, s1, s2, s3, s4⟩ := passes_ok hN ks hn q58 hg qO
    exact ⟨m', o, e, pf_trans p1 (sfr_pf s1), fun h d d0 d1 => by rw [xR_cg (s1.1 603 (by decide) (by decide) (by decide) (by decide))]; exact qd h d d0 d1, s2, s3, s4, by unfold xR; rw [s1.2 58 (by decide) (by decide) (by decide)]; exact q58⟩
  unfold yf290
  have goal := xH_ex (Q := fun v m' => v = 0 ∧ ∃ o, pf m m' ∧ (0 ≤ tb → ∀ d, 0 ≤ d → d < N → xR m' 603 d = dg d) ∧ ORD m' g o n ∧ srt κ N.toNat o n ∧ SR tb N κ o (xR m' 592) n (xR m' 536 61) ∧ xR m' 536 58 = n) (xl2_rule (F := yl290_2 B) (fun x0 x1 m' => x0 = tb ∧ 0 ≤ x1 ∧ x1 ≤ N ∧ (∀ a, a ≠ 603 → m' a = m a) ∧ (0 ≤ tb → ∀ d, 0 ≤ d → d < x1 → xR m' 603 d = dg d)) (fun _ x1 _ => (N - x1).toNat) ?_ 1000000 tb 0 m ⟨rfl, by omega, by omega, fun _ _ => rfl, fun _ d d0 d1 => by omega⟩ (by omega))
  · obtain ⟨v, m', e, rfl, o, h⟩ := goal
    exact ⟨m', o, e, h⟩
  · intro r x0 x1 m1 ⟨a0, a1, a2, F, V⟩ ih
    subst a0
    have p1 : pf m m1 := ⟨fun a _ b _ => F a b, fun k _ _ _ _ => by rw [F 536 (by decide)]⟩
    have q58 : xR m1 536 58 = n := by rw [xR_cg (F 536 (by decide))]; exact h58
    have q14 : xR m1 536 14 = N := by rw [xR_cg (F 536 (by decide))]; exact h14
    have qO : ORD m1 g (fun k => k) n := by
      obtain ⟨s, t, h1, h2, h3, h4⟩ := hO
      have hs : s ≠ 603 := by rcases h1 with q | q <;> omega
      exact ⟨s, t, h1, by rw [F 536 (by decide)]; exact h2, by rw [F 536 (by decide)]; exact h3, fun k k0 k1 => by rw [xR_cg (F s hs)]; exact h4 k k0 k1⟩
    unfold yl290_2
    rw [q14]
    by_cases hx : x1 < N
    · rw [if_pos hx]
      by_cases ht : x0 < 0
      · obtain ⟨m', o, e, h⟩ := pass m1 p1 q58 qO (fun h => by omega)
        rw [if_pos ht, e, xH_ret]
        exact ⟨rfl, o, h⟩
      · obtain ⟨d1, d2⟩ := hdg (by omega) m1 p1 x1 a1 hx
        rw [if_neg ht, d1, xB_ret, if_pos ⟨a1, by omega⟩, w32_id (by omega) (by omega)]
        refine ih _ _ _ ⟨rfl, by omega, by omega, fun a ha => by rw [xu_c ha]; exact F a ha, fun h d e0 e1 => ?_⟩ (by omega)
        rw [xR_u]
        by_cases ed : d = x1
        · rw [if_pos ⟨rfl, ed⟩, w32_of d2, ed]
        · rw [if_neg (fun q => ed q.2)]
          exact V h d e0 (by omega)
    · obtain ⟨m', o, e, h⟩ := pass m1 p1 q58 qO (fun h d e0 e1 => V h d e0 (by omega))
      rw [if_neg hx, e, xH_ret]
      exact ⟨rfl, o, h⟩
section PW
variable {B : Nat} {m : xw_M} {tb N M n f P : Int} {hv : Int → Bool} {κ : Int → Int → Int} {dg hd : Int → Int}
theorem pweight_ok (hN : 0 ≤ N ∧ N ≤ 8) (hM : 0 ≤ M ∧ M ≤ 8) (htb : -1 ≤ tb) (h14 : xR m 536 14 = N) (h19 : xR m 536 19 = M) (hf : 0 ≤ f) (hn : 0 ≤ n) (hfn : f + n ≤ 20000) (hO : ∃ s t, two s t ∧ m 536 59 = s ∧ m 536 60 = t) (hdg : 0 ≤ tb → ∀ m', pf m m' → ∀ d, 0 ≤ d → d < N → yf291 B tb d m' = some (.inl (dg d), m') ∧ xw_rg (dg d)) (hk : ∀ m', pf m m' → (0 ≤ tb → ∀ d, 0 ≤ d → d < N → xR m' 603 d = dg d) → kin B m' tb N hv κ (fun x => f + x) n) (hP : P = cnt hv N.toNat) (hhd : ∀ c, 0 ≤ c → c < P → (0 ≤ hd c ∧ hd c < N) ∧ hv (hd c) = true ∧ cnt hv (hd c).toNat = c) (hκ : ∀ d x, w64 (κ d x) = κ d x) :
    ∃ m' o, yf324 B f (f + n) tb m = some (.inl (partB (Tref tb κ (fun k x => xJ m 576 (8 * (f + x) + k)) P hd o (xR m' 592)) (xR m' 536 61) (P + (if tb < 0 then M else 1 + 3 * M)).toNat), m') ∧ pf m m' ∧ (∃ s t, two s t ∧ m' 536 59 = s ∧ m' 536 60 = t) ∧ srt κ N.toNat o n ∧ SR tb N κ o (xR m' 592) n (xR m' 536 61) := by
  obtain ⟨s, t, hst, h59, h60⟩ := hO
  obtain ⟨t1, t2, t3, t4⟩ := two_f B hst
  have hs0 : s = 590 ∨ s = 591 := by rcases hst with q | q <;> omega
  have hPb := cnt_b hv N.toNat
  unfold yf324
  rw [show f + n - f = n from by omega]
  have goal := xH_ex (Q := fun v m' => ∃ o, v = partB (Tref tb κ (fun k x => xJ m 576 (8 * (f + x) + k)) P hd o (xR m' 592)) (xR m' 536 61) (P + (if tb < 0 then M else 1 + 3 * M)).toNat ∧ pf m m' ∧ (∃ s t, two s t ∧ m' 536 59 = s ∧ m' 536 60 = t) ∧ srt κ N.toNat o n ∧ SR tb N κ o (xR m' 592) n (xR m' 536 61)) (xl3_rule (F := yl324_10 B) (fun x0 x1 x2 m' => x0 = f ∧ x1 = tb ∧ 0 ≤ x2 ∧ x2 ≤ n ∧ pf m m' ∧ xR m' 536 58 = n ∧ m' 536 59 = s ∧ m' 536 60 = t ∧ ∀ k, 0 ≤ k → k < x2 → xR m' s k = f + k) (fun _ _ x2 _ => (n - x2).toNat) ?_ 1000000 f tb 0 (xw_u m 536 58 n) ⟨rfl, rfl, by omega, by omega, ⟨fun a a1 _ _ => xu_c a1, fun k k1 _ _ _ => by unfold xw_u; rw [if_neg (fun e => k1 e.2)]⟩, by rw [xR_u, if_pos ⟨rfl, rfl⟩]; exact w32_id (by omega) (by omega), by unfold xw_u; rw [if_neg (by decide)]; exact h59, by unfold xw_u; rw [if_neg (by decide)]; exact h60, fun k k0 k1 => by omega⟩ (by omega))
  · obtain ⟨v, m', e, o, rfl, h⟩ := goal
    exact ⟨m', o, e, h⟩
  · intro r x0 x1 x2 m1 ⟨a0, a1, a2, a3, p1, q58, b59, b60, V⟩ ih
    subst a0 a1
    unfold yl324_10
    rw [q58]
    by_cases hx : x2 < n
    · rw [if_pos hx, b59, t3, if_pos ⟨a2, by omega⟩, if_pos t1, w32_id (by omega) (by omega)]
      refine ih _ _ _ _ ⟨rfl, rfl, by omega, by omega, pf_u p1 (by omega), ?_, ?_, ?_, fun k k0 k1 => ?_⟩ (by omega)
      · rw [xR_cg (xu_c (by omega))]
        exact q58
      · rw [xu_c (by omega)]
        exact b59
      · rw [xu_c (by omega)]
        exact b60
      · rw [xR_u]
        by_cases e : k = x2
        · rw [if_pos ⟨rfl, e⟩, w32_id (by omega) (by omega), e]
        · rw [if_neg (fun h => e h.2)]
          exact V k k0 (by omega)
    · have ex : x2 = n := by omega
      subst ex
      have g14 : xR m1 536 14 = N := by unfold xR; rw [p1.2 14 (by decide) (by decide) (by decide) (by decide)]; exact h14
      obtain ⟨m2, o, e2, p2, d2, O2, S2, R2, n2⟩ := sort_call (B := B) (m := m1) (g := fun x => x0 + x) hN htb g14 ⟨hn, by omega⟩ q58 (fun x h0 h1 => by unfold xw_rg; omega) ⟨s, t, hst, b59, b60, V⟩ (fun h m' hm => hdg h m' (pf_trans p1 hm)) (fun m' hm hd2 => hk m' (pf_trans p1 hm) hd2)
      rw [if_neg hx, e2, xB_ret]
      have pm2 : pf m m2 := pf_trans p1 p2
      -- how many keys
      refine xl3_rule (F := yl324_47 B) (fun y0 y1 y2 m' => y0 = x1 ∧ 0 ≤ y2 ∧ y2 ≤ N ∧ y1 = cnt hv y2.toNat ∧ m' = m2) (fun _ _ y2 _ => (N - y2).toNat) ?_ 1000000 x1 0 0 m2 ⟨rfl, by omega, by omega, rfl, rfl⟩ (by omega)
      intro r47 y0 y1 y2 m' ⟨c0, c1, c2, c3, c4⟩ ih47
      subst c0 c3 c4
      have K2 := hk m' pm2 d2
      have g14' : xR m' 536 14 = N := by unfold xR; rw [pm2.2 14 (by decide) (by decide) (by decide) (by decide)]; exact h14
      have g19' : xR m' 536 19 = M := by unfold xR; rw [pm2.2 19 (by decide) (by decide) (by decide) (by decide)]; exact h19
      unfold yl324_47
      rw [g14']
      by_cases hy : y2 < N
      · have es : cnt hv (y2 + 1).toNat = cnt hv y2.toNat + (if hv y2 = true then 1 else 0) := by
          rw [show (y2 + 1).toNat = y2.toNat + 1 from by omega]
          show cnt hv y2.toNat + (if hv ((y2.toNat : Nat) : Int) = true then 1 else 0) = _
          rw [Int.toNat_of_nonneg c1]
        have hcb := cnt_b hv y2.toNat
        rw [if_pos hy, (K2.2 y2 c1 hy).1, xB_ret, w32_id (x := y2 + 1) (by omega) (by omega)]
        by_cases hh : hv y2 = true
        · rw [if_pos hh] at es ⊢
          rw [if_neg (by decide), w32_id (by omega) (by omega)]
          exact ih47 _ _ _ _ ⟨rfl, by omega, by omega, es.symm, rfl⟩ (by omega)
        · rw [if_neg hh] at es ⊢
          rw [if_pos rfl, w32_id (by omega) (by omega)]
          exact ih47 _ _ _ _ ⟨rfl, by omega, by omega, es.symm, rfl⟩ (by omega)
      · have ey : y2 = N := by omega
        subst ey
        rw [if_neg hy, ← hP, g19']
        -- the table
        have hTw : cwd (Tref y0 κ (fun k x => xJ m 576 (8 * (x0 + x) + k)) P hd o (xR m' 592)) := by
          intro c j
          unfold Tref
          split
          · split
            · exact hκ _ _
            · exact w64_xJ _ _ _
          · exact Tvw_w hκ (fun k x => w64_xJ _ _ _) (fun j => w32_rg _) c j
        generalize hRf : xR m' 536 61 = R at *
        generalize hTf : Tref y0 κ (fun k x => xJ m 576 (8 * (x0 + x) + k)) P hd o (xR m' 592) = T at *
        have hk33 : (P + (if y0 < 0 then M else 1 + 3 * M)).toNat ≤ 33 := by split <;> omega
        have hkc : ((P + (if y0 < 0 then M else 1 + 3 * M)).toNat : Int) = P + (if y0 < 0 then M else 1 + 3 * M) := by split <;> omega
        generalize hkf : (P + (if y0 < 0 then M else 1 + 3 * M)).toNat = k at *
        have R2' := R2
        obtain ⟨s1, s2, s3, s4, s5⟩ := R2'
        have hss := ssum_nn hTw hk33 (R := R) (s := nseg R) (by unfold nseg; omega)
        have segs : xH (xl5 (yl324_112 B) 1000000 y0 P (k : Int) 4 0 m') (fun v m'_1 => ∃ o, v = partB (Tref y0 κ (fun k x => xJ m 576 (8 * (x0 + x) + k)) P hd o (xR m'_1 592)) (xR m'_1 536 61) k ∧ pf m m'_1 ∧ (∃ s t, two s t ∧ m'_1 536 59 = s ∧ m'_1 536 60 = t) ∧ srt κ y2.toNat o x2 ∧ SR y0 y2 κ o (xR m'_1 592) x2 (xR m'_1 536 61)) (fun _ _ => False) := by
          refine xl5_rule (F := yl324_112 B) (fun z0 z1 z2 z3 z4 m3 => z0 = y0 ∧ z1 = P ∧ z2 = (k : Int) ∧ (∀ a, a ≠ 593 → a ≠ 594 → m3 a = m' a) ∧ ∃ q : Nat, z4 = 1024 * (q : Int) ∧ 1024 * (q : Int) < R + 1024 ∧ z3 = 4 + ssum T R k q) (fun _ _ _ _ z4 _ => (R + 1024 - z4).toNat) ?_ 1000000 y0 P (k : Int) 4 0 m' ⟨rfl, rfl, rfl, fun _ _ _ => rfl, 0, by omega, by omega, by rw [show ssum T R k 0 = 0 from rfl]; rfl⟩ (by omega)
          intro r112 z0 z1 z2 z3 z4 m3 ⟨j0, j1, j2, F3, q, j4, j5, j6⟩ ih112
          subst j0 j1 j2 j4 j6
          have g61 : xR m3 536 61 = R := by rw [xR_cg (F3 536 (by decide) (by decide))]; exact hRf
          unfold yl324_112
          rw [g61]
          by_cases hz : 1024 * (q : Int) < R
          · have hnr : 1 ≤ nrow R q ∧ nrow R q ≤ 1024 ∧ 1024 * (q : Int) + nrow R q ≤ R := by unfold nrow; omega
            have hsq := ssum_nn hTw hk33 (R := R) (s := q) (by omega)
            have es : ssum T R k (q + 1) = ssum T R k q + (2 + csum (Tseg T q) (nrow R q) k) := rfl
            have mono := ssum_mono hTw hk33 (R := R) (q + 1) (nseg R - (q + 1)) (by unfold nseg; omega)
            rw [show q + 1 + (nseg R - (q + 1)) = nseg R from by unfold nseg; omega] at mono
            have ub : ∀ j : Nat, 1024 * (j : Int) < R + 1024 → ssum T R k j ≤ 300002 * j := by
              intro j
              induction j with
              | zero => intro _; exact Int.le_refl _
              | succ j ihj =>
                intro hj
                have h1 := ihj (by omega)
                have h2 := (ssum_step hTw hk33 (R := R) (s := j) (by omega)).2
                omega
            have ubq := ub q (by omega)
            have cbk := csum_b (Tseg_w hTw q) (n := nrow R q) hnr.1 hnr.2.1 hk33
            rw [if_pos hz, w32_id (x := 4 + ssum T R k q + 2) (by omega) (by omega), w32_id (x := R - 1024 * (q : Int)) (by omega) (by omega), show min 1024 (R - 1024 * (q : Int)) = nrow R q from rfl]
            refine xl7_rule (F := yl324_142 B r112) (fun u0 u1 u2 u3 u4 u5 u6 m4 => u0 = z0 ∧ u1 = z1 ∧ u2 = (k : Int) ∧ u4 = 1024 * (q : Int) ∧ u5 = nrow R q ∧ (∀ a, a ≠ 593 → a ≠ 594 → m4 a = m' a) ∧ 0 ≤ u6 ∧ u6 ≤ k ∧ u3 = 4 + ssum T R k q + 2 + csum (Tseg T q) (nrow R q) u6.toNat) (fun _ _ _ _ _ _ u6 _ => ((k : Int) - u6).toNat) ?_ 1000000 z0 z1 (k : Int) (4 + ssum T R k q + 2) (1024 * (q : Int)) (nrow R q) 0 m3 ⟨rfl, rfl, rfl, rfl, rfl, F3, by omega, by omega, by rw [show csum (Tseg T q) (nrow R q) (0 : Int).toNat = 0 from rfl, Int.add_zero]⟩ (by omega)
            intro r142 u0 u1 u2 u3 u4 u5 u6 m4 ⟨v0, v1, v2, v4, v5, F4, v6, v7, v8⟩ ih142
            subst v0 v1 v2 v4 v5 v8
            unfold yl324_142
            by_cases hu : u6 < (k : Int)
            · have et : (u6 + 1).toNat = u6.toNat + 1 := by omega
              have ec : ((u6.toNat : Nat) : Int) = u6 := by omega
              have ecs : csum (Tseg T q) (nrow R q) (u6 + 1).toNat = csum (Tseg T q) (nrow R q) u6.toNat + (20 + colB (Tseg T q u6) (nrow R q)) := by
                rw [et]
                show csum (Tseg T q) (nrow R q) u6.toNat + (20 + colB (Tseg T q (u6.toNat : Nat)) (nrow R q)) = _
                rw [ec]
              have cb1 := csum_b (Tseg_w hTw q) (n := nrow R q) hnr.1 hnr.2.1 (k := u6.toNat) (by omega)
              have cb2 := colB_b ((Tseg_w hTw q) u6) hnr.1 hnr.2.1
              rw [if_pos hu]
              refine xl8_rule (F := yl324_152 B r112 r142) (fun w0 w1 w2 w3 w4 w5 w6 w7 m5 => w0 = u0 ∧ w1 = u1 ∧ w2 = (k : Int) ∧ w3 = 4 + ssum T R k q + 2 + csum (Tseg T q) (nrow R q) u6.toNat ∧ w4 = 1024 * (q : Int) ∧ w5 = nrow R q ∧ w6 = u6 ∧ 0 ≤ w7 ∧ w7 ≤ nrow R q ∧ (∀ a, a ≠ 593 → a ≠ 594 → m5 a = m' a) ∧ ∀ i, 0 ≤ i → i < w7 → xJ m5 593 i = Tseg T q u6 i) (fun _ _ _ _ _ _ _ w7 _ => (nrow R q - w7).toNat) ?_ 1000000 u0 u1 (k : Int) (4 + ssum T R k q + 2 + csum (Tseg T q) (nrow R q) u6.toNat) (1024 * (q : Int)) (nrow R q) u6 0 m4 ⟨rfl, rfl, rfl, rfl, rfl, rfl, rfl, by omega, by omega, F4, fun i i0 i1 => by omega⟩ (by omega)
              intro r152 w0 w1 w2 w3 w4 w5 w6 w7 m5 ⟨l0, l1, l2, l3, l4, l5, l6, l7, l8, F5, V5⟩ ih152
              subst l0 l1 l2 l3 l4 l5 l6
              have pm5 : pf m m5 := pf_trans pm2 ⟨fun a _ _ a3 => F5 a (by omega) (by omega), fun j _ _ _ _ => by rw [F5 536 (by decide) (by decide)]⟩
              have d5 : 0 ≤ w0 → ∀ d, 0 ≤ d → d < y2 → xR m5 603 d = dg d := fun h d d0 d1 => by rw [xR_cg (F5 603 (by decide) (by decide))]; exact d2 h d d0 d1
              have e592 : xR m5 592 = xR m' 592 := xR_cg (F5 592 (by decide) (by decide))
              have O5 : ORD m5 (fun x => x0 + x) o x2 := by
                obtain ⟨s', t', h1, h2, h3, h4⟩ := O2
                have hs' : s' = 590 ∨ s' = 591 := by rcases h1 with q | q <;> omega
                exact ⟨s', t', h1, by rw [F5 536 (by decide) (by decide)]; exact h2, by rw [F5 536 (by decide) (by decide)]; exact h3, fun j j0 j1 => by rw [xR_cg (F5 s' (by omega) (by omega))]; exact h4 j j0 j1⟩
              unfold yl324_152
              by_cases hw : w7 < nrow R q
              · have hc := cell_ok (B := B) (m := m5) (tb := w0) (N := y2) (n := x2) (R := R) (P := w1) (hv := hv) (κ := κ) (g := fun x => x0 + x) (o := o) (hd := hd) htb hN (hk m5 pm5 d5) (by omega) (fun x h0 h1 => ⟨by omega, by omega⟩) O5 S2.1 (by rw [e592]; exact R2) hhd (by omega) (row := 1024 * (q : Int) + w7) (c := w6) ⟨by omega, by omega⟩ ⟨v6, by rw [hkc] at hu; split at hu <;> split <;> omega⟩
                have eT : Tref w0 κ (fun k x => xJ m5 576 (8 * (x0 + x) + k)) w1 hd o (xR m5 592) w6 (1024 * (q : Int) + w7) = Tseg T q w6 w7 := by
                  rw [e592]
                  have : xJ m5 576 = xJ m 576 := by rw [xJ_cg (F5 576 (by decide) (by decide)), xJ_cg (pm2.1 576 (by decide) (by decide) (by omega))]
                  rw [this, hTf]
                  rfl
                rw [eT] at hc
                rw [if_pos hw, w32_id (x := 1024 * (q : Int) + w7) (by omega) (by omega), hc, xB_ret, if_pos ⟨l7, by omega⟩, w32_id (by omega) (by omega)]
                refine ih152 _ _ _ _ _ _ _ _ _ ⟨rfl, rfl, rfl, rfl, rfl, rfl, rfl, by omega, by omega, fun a a1 a2 => by rw [xu_c a1]; exact F5 a a1 a2, fun i i0 i1 => ?_⟩ (by omega)
                rw [xJ_u]
                by_cases ei : i = w7
                · rw [if_pos ⟨rfl, ei⟩, ei]
                  exact (Tseg_w hTw q) _ _
                · rw [if_neg (fun h => ei h.2)]
                  exact V5 i i0 (by omega)
              · have ew : w7 = nrow R q := by omega
                subst ew
                obtain ⟨m6, e6, F6⟩ := shortest_ok (B := B) (m := m5) hnr.1 hnr.2.1
                rw [colB_cg hnr.1 V5] at e6
                rw [if_neg hw, e6, xB_ret, w32_id (by omega) (by omega), w32_id (by omega) (by omega)]
                refine ih142 _ _ _ _ _ _ _ _ ⟨rfl, rfl, rfl, rfl, rfl, fun a a1 a2 => by rw [F6 a a2]; exact F5 a a1 a2, by omega, by omega, by rw [ecs]; omega⟩ (by omega)
            · have eu : u6 = (k : Int) := by omega
              subst eu
              rw [if_neg hu, Int.toNat_natCast, w32_id (by omega) (by omega)]
              exact ih112 _ _ _ _ _ _ ⟨rfl, rfl, rfl, F4, q + 1, by omega, by omega, by rw [es]; omega⟩ (by omega)
          · have eq : q = nseg R := by unfold nseg; omega
            rw [if_neg hz, xH_ret]
            have e592 : xR m3 592 = xR m' 592 := xR_cg (F3 592 (by decide) (by decide))
            refine ⟨o, ?_, pf_trans pm2 ⟨fun a _ _ a3 => F3 a (by omega) (by omega), fun j _ _ _ _ => by rw [F3 536 (by decide) (by decide)]⟩, ?_, S2, ?_⟩
            · rw [e592, g61, hTf]
              unfold partB
              rw [← eq]
            · obtain ⟨s', t', h1, h2, h3, h4⟩ := O2
              exact ⟨s', t', h1, by rw [F3 536 (by decide) (by decide)]; exact h2, by rw [F3 536 (by decide) (by decide)]; exact h3⟩
            · rw [e592, g61]
              exact R2
        by_cases ht : y0 < 0
        · rw [if_pos ht] at hkc
          rw [if_pos ht, w32_id (by omega) (by omega), ← hkc]
          exact segs
        · rw [if_neg ht] at hkc
          rw [if_neg ht, w32_id (by omega) (by omega), ← hkc]
          exact segs
end PW
