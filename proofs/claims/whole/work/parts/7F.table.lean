/-! ONE TABLE OUT OF TWO ORDERS: facts, views -/
theorem kl_tie {κ κ' : Int → Int → Int} {j : Nat} {d a b a' b' : Int} (ha : ∀ e, d ≤ e → e < d + j → κ e a = κ' e a' ∧ κ e b = κ' e b') (hab : (∀ e, d ≤ e → e < d + j → κ e a = κ e b) → a < b → a' < b') (h : kl κ j d a b) : kl κ' j d a' b' := by
  induction j generalizing d with
  | zero => exact hab (fun e h1 h2 => by omega) h
  | succ j ih =>
    obtain ⟨q1, q2⟩ := ha d (by omega) (by omega)
    rcases h with h | ⟨h, h3⟩
    · exact Or.inl (by omega)
    · refine Or.inr ⟨by omega, ih (fun e h1 h2 => ha e (by omega) (by omega)) (fun hh => hab (fun e h1 h2 => ?_)) h3⟩
      by_cases he : e = d
      · rw [he]; exact h
      · exact hh e (by omega) (by omega)
theorem prm_comp {p o : Int → Int} {n : Int} (hp : prm p n) (ho : prm o n) : prm (fun i => p (o i)) n := ⟨fun i h0 h1 => hp.1 _ (ho.1 i h0 h1).1 (ho.1 i h0 h1).2, fun i j i0 i1 j0 j1 e => ho.2 i j i0 i1 j0 j1 (hp.2 _ _ (ho.1 i i0 i1).1 (ho.1 i i0 i1).2 (ho.1 j j0 j1).1 (ho.1 j j0 j1).2 e)⟩
section TWO
variable {κ κ' A A' : Int → Int → Int} {D : Nat} {o o' π : Int → Int} {n : Int}
theorem facts_same (h : srt κ D o n) (h' : srt κ' D o' n) (hπ : prm π n) (hk : ∀ e x, 0 ≤ e → e < (D : Int) → 0 ≤ x → x < n → κ e x = κ' e (π x)) (ht : ∀ x y, 0 ≤ x → x < y → y < n → (∀ e, 0 ≤ e → e < (D : Int) → κ e x = κ e y) → π x < π y) : ∀ i, 0 ≤ i → i < n → o' i = π (o i) := by
  have s : srt κ' D (fun i => π (o i)) n := ⟨prm_comp hπ h.1, fun q q' h0 h1 h2 => by
    obtain ⟨a0, a1⟩ := h.1.1 q h0 (by omega)
    obtain ⟨b0, b1⟩ := h.1.1 q' (by omega) h2
    exact kl_tie (fun e e0 e1 => ⟨hk e _ e0 (by omega) a0 a1, hk e _ e0 (by omega) b0 b1⟩) (fun hh hl => ht _ _ a0 hl b1 (fun e e0 e1 => hh e e0 (by omega))) (h.2 q q' h0 h1 h2)⟩
  exact srt_uniq h' s
theorem view_same {st st' hd : Int → Int} {tb tb' R R' P : Int} (htb : tb ≠ -1) (htb' : tb' ≠ -1) (h : srt κ D o n) (h' : srt κ' D o' n) (hπ : prm π n) (hk : ∀ e x, 0 ≤ e → e < (D : Int) → 0 ≤ x → x < n → κ e x = κ' e (π x)) (hA : ∀ k x, 0 ≤ k → k < 8 → 0 ≤ x → x < n → A k x = A' k (π x)) (wA : ∀ k x, w64 (A k x) = A k x) (wA' : ∀ k x, w64 (A' k x) = A' k x) (S : SR tb D κ o st n R) (S' : SR tb' D κ' o' st' n R') (hhd : ∀ c, 0 ≤ c → c < P → 0 ≤ hd c ∧ hd c < (D : Int)) : R = R' ∧ (∀ j, 0 ≤ j → j ≤ R → st j = st' j) ∧ ∀ c j, 0 ≤ c → c < P + 25 → 0 ≤ j → j < R → Tvw κ A P hd o st c j = Tvw κ' A' P hd o' st' c j := by
  have hp : prm (fun i => π (o i)) n := prm_comp hπ h.1
  have kk : ∀ i, 0 ≤ i → i < n → ∀ d, 0 ≤ d → d < (D : Int) → κ d (o i) = κ' d (π (o i)) := fun i i0 i1 d d0 d1 => hk d _ d0 d1 (h.1.1 i i0 i1).1 (h.1.1 i i0 i1).2
  have wk : ∀ i j, 0 ≤ i → i < j → j < n → kwk κ' D 0 (π (o i)) (π (o j)) := fun i j i0 i1 i2 => kw_cg (fun e e0 e1 => ⟨kk i i0 (by omega) e e0 (by omega), kk j (by omega) i2 e e0 (by omega)⟩) (kl_kw (h.2 i j i0 i1 i2))
  have wk' : ∀ i j, 0 ≤ i → i < j → j < n → kwk κ' D 0 (o' i) (o' j) := fun i j i0 i1 i2 => kl_kw (h'.2 i j i0 i1 i2)
  have ks := keys_same hp h'.1 wk wk'
  have kc : ∀ i, 0 ≤ i → i < n → ∀ d, 0 ≤ d → d < (D : Int) → κ d (o i) = κ' d (o' i) := fun i i0 i1 d d0 d1 => (kk i i0 i1 d d0 d1).trans (ks i i0 i1 d d0 d1)
  have ev : ∀ q, 0 < q → q < n → (eqv tb D κ o (q - 1) q ↔ eqv tb' D κ' o' (q - 1) q) := by
    intro q q0 q1
    constructor
    · rintro ⟨_, h2⟩
      exact ⟨htb', fun i i0 i1 => by rw [← kc (q - 1) (by omega) (by omega) i i0 i1, ← kc q (by omega) q1 i i0 i1]; exact h2 i i0 i1⟩
    · rintro ⟨_, h2⟩
      exact ⟨htb, fun i i0 i1 => by rw [kc (q - 1) (by omega) (by omega) i i0 i1, kc q (by omega) q1 i i0 i1]; exact h2 i i0 i1⟩
  obtain ⟨eR, es⟩ := SR_same S S' ev
  refine ⟨eR, es, fun c j c0 c1 j0 j1 => ?_⟩
  have a0 : 0 ≤ st j := by
    have := SR_mono S j.toNat 0 (by omega) (by omega)
    by_cases hn : 0 < n
    · rw [(S.2.2.1 hn).2, Int.zero_add, Int.toNat_of_nonneg j0] at this
      omega
    · have := S.1
      have := S.2.1
      omega
  have bn : st (j + 1) ≤ n := by
    have := SR_mono S (R - (j + 1)).toNat (j + 1) (by omega) (by omega)
    rw [show j + 1 + ((R - (j + 1)).toNat : Int) = R from by omega, S.2.2.2.1] at this
    omega
  obtain ⟨ab, si, sb⟩ := S.2.2.2.2 j j0 j1
  unfold Tvw Tvp
  rw [← es j j0 (by omega), ← es (j + 1) (by omega) (by omega)]
  obtain ⟨a, ha⟩ : ∃ a, a = st j := ⟨_, rfl⟩
  obtain ⟨b, hb⟩ : ∃ b, b = st (j + 1) := ⟨_, rfl⟩
  rw [← ha] at a0 ab si sb ⊢
  rw [← hb] at bn ab si ⊢
  by_cases cP : c < P
  · rw [if_pos cP, if_pos cP]
    exact kc a a0 (by omega) _ (hhd c c0 cP).1 (hhd c c0 cP).2
  · rw [if_neg cP, if_neg cP]
    by_cases cE : c = P
    · rw [if_pos cE, if_pos cE]
    · rw [if_neg cE, if_neg cE]
      -- all places of the stretch have the key of its first, and no other has it
      have inn : ∀ k : Nat, a + (k : Int) < b → ∀ d, 0 ≤ d → d < (D : Int) → κ' d (o' (a + k)) = κ' d (o' a) := by
        intro k
        induction k with
        | zero =>
          intro _ d _ _
          rw [show a + ((0 : Nat) : Int) = a from by omega]
        | succ k ih =>
          intro hk d d0 d1
          have := (ev (a + ((k + 1 : Nat) : Int)) (by omega) (by omega)).mp (si _ (by omega) hk)
          have e2 := this.2 d d0 d1
          rw [show a + ((k + 1 : Nat) : Int) - 1 = a + (k : Int) from by omega] at e2
          rw [← e2]
          exact ih (by omega) d d0 d1
      have bL : ∀ q, 0 ≤ q → q < a → ¬ ∀ d, 0 ≤ d → d < (D : Int) → κ' d (o' q) = κ' d (o' a) := by
        intro q q0 q1 hq
        have jp : 0 < j := by
          rcases Int.lt_or_le 0 j with hj | hj
          · exact hj
          · exfalso
            have : j = 0 := by omega
            rw [this] at ha
            rw [(S.2.2.1 (by omega)).2] at ha
            omega
        refine sb jp ((ev a (by omega) (by omega)).mpr ⟨htb', ?_⟩)
        have w2 := wk' (a - 1) a (by omega) (by omega) (by omega)
        have w3 : kwk κ' D 0 (o' a) (o' (a - 1)) := by
          by_cases hq' : q = a - 1
          · subst hq'
            exact kw_cg (fun e e0 e1 => ⟨hq e e0 (by omega), (hq e e0 (by omega)).symm⟩) w2
          · exact kw_cg (fun e e0 e1 => ⟨hq e e0 (by omega), rfl⟩) (wk' q (a - 1) q0 (by omega) (by omega))
        have an := kw_anti w2 w3
        exact fun i i0 i1 => an i i0 (by omega)
      have bR : ∀ q, b ≤ q → q < n → ¬ ∀ d, 0 ≤ d → d < (D : Int) → κ' d (o' q) = κ' d (o' a) := by
        intro q q0 q1 hq
        have jl : j + 1 < R := by
          rcases Int.lt_or_le (j + 1) R with hj | hj
          · exact hj
          · exfalso
            have e1 : j + 1 = R := by omega
            rw [e1, S.2.2.2.1] at hb
            omega
        have sb2 := (S.2.2.2.2 (j + 1) (by omega) jl).2.2 (by omega)
        rw [← hb] at sb2
        refine sb2 ((ev b (by omega) (by omega)).mpr ⟨htb', ?_⟩)
        have kb := inn (b - 1 - a).toNat (by omega)
        rw [show a + ((b - 1 - a).toNat : Int) = b - 1 from by omega] at kb
        have w2 := wk' (b - 1) b (by omega) (by omega) (by omega)
        have w3 : kwk κ' D 0 (o' b) (o' (b - 1)) := by
          by_cases hq' : q = b
          · subst hq'
            exact kw_cg (fun e e0 e1 => ⟨(kb e e0 (by omega)).trans (hq e e0 (by omega)).symm, (hq e e0 (by omega)).trans (kb e e0 (by omega)).symm⟩) w2
          · exact kw_cg (fun e e0 e1 => ⟨rfl, (hq e e0 (by omega)).trans (kb e e0 (by omega)).symm⟩) (wk' b q (by omega) (by omega) q1)
        have an := kw_anti w2 w3
        exact fun i i0 i1 => an i i0 (by omega)
      have mem : ∀ q, 0 ≤ q → q < n → ((∀ d, 0 ≤ d → d < (D : Int) → κ' d (o' q) = κ' d (o' a)) ↔ a ≤ q ∧ q < b) := by
        intro q q0 q1
        constructor
        · intro hq
          refine ⟨?_, ?_⟩
          · rcases Int.lt_or_le q a with hl | hl
            · exact absurd hq (bL q q0 hl)
            · exact hl
          · rcases Int.lt_or_le q b with hl | hl
            · exact hl
            · exact absurd hq (bR q hl q1)
        · rintro ⟨h1, h2⟩
          have := inn (q - a).toNat (by omega)
          rw [show a + ((q - a).toNat : Int) = q from by omega] at this
          exact this
      have Lp : (lst (fun i => π (o (a + i))) ((b - 1 - a).toNat + 1)).Perm (lst (fun i => o' (a + i)) ((b - 1 - a).toNat + 1)) := by
        refine (List.perm_ext_iff_of_nodup (lst_nodup (fun i j hi hj e => ?_)) (lst_nodup (fun i j hi hj e => ?_))).mpr (fun x => ?_)
        · have := hp.2 (a + i) (a + j) (by omega) (by omega) (by omega) (by omega) e
          omega
        · have := h'.1.2 (a + i) (a + j) (by omega) (by omega) (by omega) (by omega) e
          omega
        · rw [lst_mem, lst_mem]
          constructor
          · rintro ⟨i, hi, e⟩
            have e : π (o (a + (i : Int))) = x := e
            have xr := hp.1 (a + i) (by omega) (by omega)
            rw [show (fun i => π (o i)) (a + (i : Int)) = x from e] at xr
            obtain ⟨q, hq, eq⟩ := prm_onto h'.1 x xr.1 xr.2
            have kx : ∀ d, 0 ≤ d → d < (D : Int) → κ' d (o' q) = κ' d (o' a) := by
              intro d d0 d1
              rw [eq, ← e, ks (a + i) (by omega) (by omega) d d0 d1]
              exact inn i (by omega) d d0 d1
            have := (mem q hq.1 hq.2).mp kx
            exact ⟨(q - a).toNat, by omega, by
              show o' (a + (((q - a).toNat : Nat) : Int)) = x
              rw [show a + (((q - a).toNat : Nat) : Int) = q from by omega]
              exact eq⟩
          · rintro ⟨i, hi, e⟩
            have e : o' (a + (i : Int)) = x := e
            have xr := h'.1.1 (a + i) (by omega) (by omega)
            rw [e] at xr
            obtain ⟨q, hq, eq⟩ := prm_onto hp x xr.1 xr.2
            have eq : π (o q) = x := eq
            have kx : ∀ d, 0 ≤ d → d < (D : Int) → κ' d (o' q) = κ' d (o' a) := by
              intro d d0 d1
              rw [← ks q hq.1 hq.2 d d0 d1]
              show κ' d (π (o q)) = _
              rw [eq, ← e]
              exact inn i (by omega) d d0 d1
            have := (mem q hq.1 hq.2).mp kx
            exact ⟨(q - a).toNat, by omega, by
              show π (o (a + (((q - a).toNat : Nat) : Int))) = x
              rw [show a + (((q - a).toNat : Nat) : Int) = q from by omega]
              exact eq⟩
      have q8 : 0 ≤ (c - P - 1) / 3 ∧ (c - P - 1) / 3 < 8 := by omega
      refine ga_same (wA _) (wA' _) (by omega) ?_
      have l1 : lst (fun i => A ((c - P - 1) / 3) (o (a + i))) ((b - 1 - a).toNat + 1) = (lst (fun i => π (o (a + i))) ((b - 1 - a).toNat + 1)).map (A' ((c - P - 1) / 3)) := by
        unfold lst
        rw [List.map_map]
        refine List.map_congr_left (fun i hi => ?_)
        rw [List.mem_range] at hi
        have := h.1.1 (a + i) (by omega) (by omega)
        exact hA _ _ q8.1 q8.2 this.1 this.2
      have l2 : lst (fun i => A' ((c - P - 1) / 3) (o' (a + i))) ((b - 1 - a).toNat + 1) = (lst (fun i => o' (a + i)) ((b - 1 - a).toNat + 1)).map (A' ((c - P - 1) / 3)) := by
        unfold lst
        rw [List.map_map]
        rfl
      rw [l1, l2]
      exact Lp.map _
end TWO
