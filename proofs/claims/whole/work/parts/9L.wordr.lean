/-! THE LEXER: which reserved word a word is, by the reference: one word, all words -/
section WDS
variable {B : Nat} {m : xw_M} {s e n : Int}
theorem one_rf {r4 : Int → Int → xw_M → xP} {x1 x2 : Int} {w rest : List Nat} (h5 : xR m 536 5 = n) (n1 : n ≤ 65536) (h9 : xR m 536 9 = s) (h8 : xR m 536 8 = e) (s0 : 0 ≤ s) (se : s ≤ e) (en : e ≤ n) (hb : ∀ i, 0 ≤ i → i < n → w8 (xR m 537 i) = xR m 537 i) (hT : ∀ i, 0 ≤ i → i < e - s → ub (xR m 537 (s + i)) ≠ 32) (hd : (xw_sl 2).drop (x2 + 1).toNat = w ++ 32 :: rest) (a0 : 0 ≤ x2) (a1 : x2 + 1 + ((w.length : Nat) : Int) < 109) (hw : ∀ c ∈ w, (c : Int) ≠ 32) (x0 : 0 ≤ x1) (x1' : x1 < 100) {Q : Int → xw_M → Prop} {X : Nat → xw_M → Prop} (hm : ((w.length : Nat) : Int) = e - s ∧ mtc (fun i => ub (xR m 537 (s + i))) 0 w = true → Q x1 m) (hn : ¬ (((w.length : Nat) : Int) = e - s ∧ mtc (fun i => ub (xR m 537 (s + i))) 0 w = true) → xH (r4 (x1 + 1) (x2 + 1 + ((w.length : Nat) : Int)) m) Q X) : xH (xl3 (yl252_17 B r4) 1000000 x1 x2 0 m) Q X := by
  have gen : ∀ N : Nat, 70000 < N → xH (xl3 (yl252_17 B r4) N x1 x2 0 m) Q X := by
    intro N hN
    refine xl3_rule (F := yl252_17 B r4) (fun y1 y2 y3 m' => y1 = x1 ∧ y2 = x2 ∧ m' = m ∧ (0 ≤ y3 ∧ y3 ≤ e - s ∧ y3 ≤ ((w.length : Nat) : Int)) ∧ ∀ j : Nat, (j : Int) < y3 → ub (xR m 537 (s + j)) = ((w.getD j 0 : Nat) : Int)) (fun _ _ y3 _ => (65536 - y3).toNat) ?_ N x1 x2 0 m ⟨rfl, rfl, rfl, by omega, fun j hj => by omega⟩ (by omega)
    intro r y1 y2 y3 m' ⟨e1, e2, e3, e4, e5⟩ ih
    subst e1 e2 e3
    have ch := chr_drop (k := 2) (j := y3) hd (by omega) e4.1
    have w9 : w32 (xR m' 536 9 + y3) = s + y3 := by rw [h9]; exact w32_id (by omega) (by omega)
    have skip : ¬ (((w.length : Nat) : Int) = e - s ∧ mtc (fun i => ub (xR m' 537 (s + i))) 0 w = true) → xH (xl2 (yl252_92 B r4) 1000000 y1 (w32 (y2 + 1)) m') Q X := fun no => by
      rw [w32_id (by omega) (by omega)]
      exact nxt_rf hd (by omega) a1 hw x0 x1' (hn no)
    unfold yl252_17 yk252_59
    rw [w9, h8]
    by_cases hl : y3 < e - s
    · have cR := rch_ok (B := B) (m := m') (p := s + y3) h5 n1 (by omega) (fun hp => hb _ (by omega) hp)
      rw [if_pos (by omega)] at cR
      rw [if_pos (by omega), if_pos ⟨by omega, by omega⟩, cR, xB_ret, ch, w9, h8]
      by_cases hq : y3 < ((w.length : Nat) : Int)
      · have lt : y3.toNat < w.length := by omega
        rw [getD_in lt]
        by_cases hc : ((w.getD y3.toNat 0 : Nat) : Int) = ub (xR m' 537 (s + y3))
        · rw [if_pos hc, w32_id (by omega) (by omega)]
          refine ih _ _ _ _ ⟨rfl, rfl, rfl, by omega, fun j hj => ?_⟩ (by omega)
          by_cases ej : (j : Int) = y3
          · have ej' : j = y3.toNat := by omega
            rw [ej, ej', hc]
          · exact e5 j (by omega)
        · rw [if_neg hc, if_neg (by omega)]
          refine skip (fun no => hc ?_)
          have q := (mtc_iff w 0).mp no.2 y3.toNat lt
          rw [Int.zero_add, Int.toNat_of_nonneg e4.1] at q
          exact q.symm
      · have el : y3.toNat = w.length := by omega
        rw [el, getD_at, if_neg (fun q => hT y3 e4.1 hl q.symm), if_neg (by omega)]
        exact skip (fun no => by omega)
    · rw [if_neg (by omega), if_pos (by omega), if_pos ⟨by omega, by omega⟩, ch]
      by_cases hq : y3 < ((w.length : Nat) : Int)
      · have lt : y3.toNat < w.length := by omega
        rw [getD_in lt, if_neg (hw _ (getD_mem lt))]
        exact skip (fun no => by omega)
      · have el : y3.toNat = w.length := by omega
        rw [el, getD_at, if_pos (show ((32 : Nat) : Int) = 32 from rfl), xH_ret]
        refine hm ⟨by omega, (mtc_iff w 0).mpr (fun j hj => ?_)⟩
        rw [Int.zero_add]
        exact e5 j (by omega)
  exact gen 1000000 (by decide)
theorem jnw_len : ∀ (w : List Nat) (ws : List (List Nat)), (jnw (w :: ws)).length = w.length + 1 + (jnw ws).length := by
  intro w ws
  show (w ++ 32 :: jnw ws).length = _
  rw [List.length_append, List.length_cons]
  omega
/-- the reference's word -/
theorem word_no (h5 : xR m 536 5 = n) (n1 : n ≤ 65536) (h9 : xR m 536 9 = s) (h8 : xR m 536 8 = e) (s0 : 0 ≤ s) (se : s ≤ e) (en : e ≤ n) (hb : ∀ i, 0 ≤ i → i < n → w8 (xR m 537 i) = xR m 537 i) (hT : ∀ i, 0 ≤ i → i < e - s → ub (xR m 537 (s + i)) ≠ 32) : yf252 B m = some (.inl (fwd (e - s) (fun i => ub (xR m 537 (s + i))) rsv 0), m) := by
  unfold yf252
  have len : (xw_sl 2).length = 109 := by decide
  have gen : ∀ N : Nat, 1000 < N → xl2 (yl252_4 B) N 0 0 m = some (.inl (fwd (e - s) (fun i => ub (xR m 537 (s + i))) rsv 0), m) := by
    intro N hN
    have := xH_ex (xl2_rule (F := yl252_4 B) (Q := fun v m' => v = fwd (e - s) (fun i => ub (xR m 537 (s + i))) rsv 0 ∧ m' = m) (X := fun _ _ => False) (fun y1 y2 m' => m' = m ∧ (0 ≤ y1 ∧ y1 ≤ y2) ∧ (0 ≤ y2 ∧ y2 < 109) ∧ ∃ ws : List (List Nat), (∀ w ∈ ws, ∀ c : Nat, c ∈ w → (c : Int) ≠ 32) ∧ (y1 + ((ws.length : Nat) : Int) = 19) ∧ (xw_sl 2).drop y2.toNat = 32 :: jnw ws ∧ fwd (e - s) (fun i => ub (xR m 537 (s + i))) ws y1 = fwd (e - s) (fun i => ub (xR m 537 (s + i))) rsv 0) (fun _ y2 _ => (109 - y2).toNat) (by
      intro r y1 y2 m' ⟨em, a1, a2, ws, b1, b2, b3, b4⟩ ih
      subst em
      have l1 : 109 - y2.toNat = 1 + (jnw ws).length := by
        have q := congrArg List.length b3
        rw [List.length_drop, len, List.length_cons] at q
        omega
      have dr : (xw_sl 2).drop (y2 + 1).toNat = jnw ws := by
        have q := congrArg (List.drop 1) b3
        rw [List.drop_drop] at q
        rw [show (y2 + 1).toNat = y2.toNat + 1 by omega, q]
        rfl
      unfold yl252_4
      rw [w32_id (by omega) (by omega)]
      cases ws with
      | nil =>
        have z : (jnw []).length = 0 := rfl
        rw [if_neg (by omega), xH_ret]
        exact ⟨b4, rfl⟩
      | cons w ws =>
        have z := jnw_len w ws
        rw [if_pos (by omega)]
        rw [List.length_cons] at b2
        refine one_rf (w := w) (rest := jnw ws) h5 n1 h9 h8 s0 se en hb hT dr a2.1 (by omega) (b1 w (List.mem_cons_self ..)) a1.1 (by omega) (fun hm => ⟨?_, rfl⟩) (fun hn => ?_)
        · rw [← b4]
          show y1 = if ((w.length : Nat) : Int) = e - s ∧ mtc (fun i => ub (xR m' 537 (s + i))) 0 w = true then y1 else _
          rw [if_pos hm]
        · refine ih _ _ _ ⟨rfl, by omega, by omega, ws, fun v hv => b1 v (List.mem_cons_of_mem _ hv), by omega, ?_, ?_⟩ (by omega)
          · have q := congrArg (List.drop w.length) dr
            rw [List.drop_drop, show (y2 + 1).toNat + w.length = (y2 + 1 + ((w.length : Nat) : Int)).toNat by omega] at q
            rw [q]
            show List.drop w.length (w ++ 32 :: jnw ws) = _
            rw [List.drop_left]
          · rw [← b4]
            show _ = if ((w.length : Nat) : Int) = e - s ∧ mtc (fun i => ub (xR m' 537 (s + i))) 0 w = true then y1 else fwd (e - s) (fun i => ub (xR m' 537 (s + i))) ws (y1 + 1)
            rw [if_neg hn]) N 0 0 m ⟨rfl, by omega, by omega, rsv, by decide, by decide, rsv_2, rfl⟩ (by omega))
    obtain ⟨v, m', z, rfl, rfl⟩ := this
    exact z
  exact gen 1000000 (by decide)
end WDS
