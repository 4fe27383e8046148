/-! THE ANSWER, by the reference: serving -/
section SRY
variable {B : Nat} {m : xw_M} {D q : Int}
theorem tn_d {x : Int} (h : x ≤ 16) : (x - ((0 : Nat) : Int)).toNat < 1000000 := by omega
theorem tell_ok {k n v : Int} (q0 : q = 544 ∨ q = 558) (hD : D ≤ 8) (h14 : xR m 536 14 = D) (hl : ∀ d, 0 ≤ d → d < D → 0 ≤ xR m 538 d ∧ xR m 538 d ≤ 4) (hk : xR m q 4 = k) (k0 : 0 ≤ k) (k1 : k ≤ 8) (hg : ∀ i, 0 ≤ i → i < k → 0 ≤ xR m (q + 4) i ∧ xR m (q + 4) i < 4 * D) (hn : xR m q 13 = n) (n0 : 0 ≤ n) (n1 : n ≤ 60) (hc : ∀ i, 0 ≤ i → i < n → 0 ≤ xR m (q + 9) i ∧ xR m (q + 9) i < 4 * D) (v1 : 0 ≤ v ∧ v < 2147483648) : ∃ b : Bool, yf301 B v q m = some (.inl (b01 b), m) ∧ (b = true ↔ fitr m q D k n v) := by
  unfold yf301
  obtain ⟨b, e1, e2⟩ := tell1_l (B := B) q0 hD h14 v1 hl hk k1 hg hn n0 n1 hc 1000000 0 1 (by omega) k0 (by omega) (Or.inr rfl)
  exact ⟨b, e1, e2.trans ⟨fun h => h.2, fun h => ⟨rfl, h⟩⟩⟩
theorem serve_l {F nv : Int} {rz : Int → Int} (fit : Int → Prop) (TL : ∀ v, 0 ≤ v ∧ v < 2147483648 → ∃ b : Bool, yf301 B v q m = some (.inl (b01 b), m) ∧ (b = true ↔ fit v)) (hnv : xR m 536 40 = nv) (nv1 : nv ≤ 16) (hv : ∀ i, 0 ≤ i → i < nv → (0 ≤ xR m 579 i ∧ xR m 579 i < 2147483648) ∧ xR m 580 i = rz i) : ∀ (N i : Nat), (i : Int) ≤ nv → (nv - i).toNat < N → xl4 (yl300_10 B) N q (btb (fun i => fit (xR m 579 i)) rz F i).1 (btb (fun i => fit (xR m 579 i)) rz F i).2 i m = some (.inl (btb (fun i => fit (xR m 579 i)) rz F nv.toNat).1, m) := by
  intro N
  induction N with
  | zero => intro i _ h; omega
  | succ N ih =>
    intro i i1 hN
    rw [xl4_s]
    have IH := ih (i + 1)
    clear ih
    generalize xl4 (yl300_10 B) N = G at IH ⊢
    unfold yl300_10
    rw [hnv]
    by_cases c : (i : Int) < nv
    · have ib : (0 : Int) ≤ i ∧ (i : Int) < 16 := by omega
      have wi : w32 ((i : Int) + 1) = ((i + 1 : Nat) : Int) := by rw [w32_id (by omega) (by omega)]; omega
      have IH2 := IH (by omega) (by omega)
      obtain ⟨v1, v2⟩ := hv i (by omega) c
      rw [if_pos c, if_pos ib, wi, v2]
      by_cases a : rz i < (btb (fun i => fit (xR m 579 i)) rz F i).2
      · obtain ⟨b, e1, e2⟩ := TL _ v1
        rw [if_pos a, e1, xB_ret]
        cases hb : b with
        | true =>
          rw [if_neg (by decide), v2]
          rw [btb_t a (e2.mp hb)] at IH2
          exact IH2
        | false =>
          rw [if_pos (by decide)]
          rw [btb_f (fun h => by have := e2.mpr h.2; rw [hb] at this; simp at this)] at IH2
          exact IH2
      · rw [if_neg a]
        rw [btb_f (fun h => a h.1)] at IH2
        exact IH2
    · rw [if_neg c, show nv.toNat = i from by omega]
theorem serve_ok {k n F nv : Int} {rz : Int → Int} (q0 : q = 544 ∨ q = 558) (hD : D ≤ 8) (h14 : xR m 536 14 = D) (hl : ∀ d, 0 ≤ d → d < D → 0 ≤ xR m 538 d ∧ xR m 538 d ≤ 4) (hk : xR m q 4 = k) (k0 : 0 ≤ k) (k1 : k ≤ 8) (hg : ∀ i, 0 ≤ i → i < k → 0 ≤ xR m (q + 4) i ∧ xR m (q + 4) i < 4 * D) (hn : xR m q 13 = n) (n0 : 0 ≤ n) (n1 : n ≤ 60) (hc : ∀ i, 0 ≤ i → i < n → 0 ≤ xR m (q + 9) i ∧ xR m (q + 9) i < 4 * D) (hF : xR m 536 31 = F) (hnv : xR m 536 40 = nv) (nv0 : 0 ≤ nv) (nv1 : nv ≤ 16) (hv : ∀ i, 0 ≤ i → i < nv → (0 ≤ xR m 579 i ∧ xR m 579 i < 2147483648) ∧ xR m 580 i = rz i) : yf300 B q m = some (.inl (btb (fun i => fitr m q D k n (xR m 579 i)) rz F nv.toNat).1, m) := by
  unfold yf300
  rw [hF]
  exact serve_l (B := B) (m := m) (q := q) (F := F) (rz := rz) (fun v => fitr m q D k n v) (fun v hv => tell_ok q0 hD h14 hl hk k0 k1 hg hn n0 n1 hc hv) hnv nv1 hv 1000000 0 nv0 (tn_d nv1)
end SRY
