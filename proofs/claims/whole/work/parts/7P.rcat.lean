/-! THE REFERENCE'S catalogWeight IS THE CLASS'S BYTES -/
/-- the sizes of names are the same on both sides -/
def nms (m : xw_M) (D M : Int) : Prop := xR m 536 14 = D ∧ xR m 536 19 = M ∧ (∀ d, 0 ≤ d → d < D → xR m 538 d = xR m (15 + 26 * d) 10 ∧ xR m 539 d = xR m (15 + 26 * d) 11 ∧ xR m 543 d = xR m (15 + 26 * d) 9 ∧ ∀ l, 0 ≤ l → l < xR m (15 + 26 * d) 10 → xR m 543 (8 + 4 * d + l) = xR m (15 + 26 * d + 7) l) ∧ ∀ k, 0 ≤ k → k < M → xR m 543 (40 + k) = xR m 14 k
section RCAT
variable {B : Nat} {m : xw_M} {D M : Int}
theorem lwB_le {ls : Int → Int} {n : Int} (hn : n ≤ 1000) {L : Nat} (hl : ∀ l : Nat, l < L → ls l ≤ 40) : lwB ls n L ≤ 4041 * L := by
  induction L with
  | zero => show (0 : Int) ≤ _; omega
  | succ L ih =>
    have a := ih (fun l h => hl l (by omega))
    have b := hl L (by omega)
    show lwB ls n L + (1 + ls L + 4 * n) ≤ _
    omega
theorem dsm_le (h : ctn m D M) : ∀ i : Nat, (i : Int) ≤ D → dsm m i ≤ 20000 * i := by
  intro i
  induction i with
  | zero => intro _; show (0 : Int) ≤ _; omega
  | succ i ih =>
    intro hi
    have a := ih (by omega)
    obtain ⟨a1, a2, a3, a4⟩ := h.2.2.2.2.1 i (by omega) (by omega)
    have b := lwB_le (ls := xR m (15 + 26 * (i : Int) + 7)) (n := xR m (15 + 26 * (i : Int)) 11) a3.2 (L := (xR m (15 + 26 * (i : Int)) 10).toNat) (fun l hl => (a4 l (by omega) (by omega)).2)
    show dsm m i + dmB m i ≤ _
    unfold dmB
    omega
theorem msm_le (h : ctn m D M) : ∀ i : Nat, (i : Int) ≤ M → msm m i ≤ 41 * i := by
  intro i
  induction i with
  | zero => intro _; show (0 : Int) ≤ _; omega
  | succ i ih =>
    intro hi
    have a := ih (by omega)
    have b := h.2.2.2.2.2 i (by omega) (by omega)
    show msm m i + (1 + xR m 14 i) ≤ _
    omega
theorem cweight_ok (hc : ctn m D M) (hs : nms m D M) : yf304 B m = some (.inl (8 + dsm m D.toNat + msm m M.toNat), m) := by
  obtain ⟨h14, h19, hd, hm⟩ := hs
  have hD := hc.1
  have hM := hc.2.1
  have dl := dsm_le hc
  have ml := msm_le hc
  unfold yf304
  generalize hN : (1000000 : Nat) = N
  have goal := xH_ex (Q := fun v m' => m' = m ∧ v = 8 + dsm m D.toNat + msm m M.toNat) (xl2_rule (F := yl304_5 B) (fun y1 x m' => m' = m ∧ 0 ≤ x ∧ x ≤ D ∧ y1 = 8 + dsm m x.toNat) (fun _ x _ => (D - x).toNat) ?_ N 8 0 m ⟨rfl, by omega, hD.1, rfl⟩ (by omega))
  · obtain ⟨v, m', e, rfl, h⟩ := goal
    rw [e, h]
  · intro r y1 x m' ⟨b1, x0, x1, b2⟩ ih
    subst b1
    unfold yl304_5
    rw [h14]
    have dx := dl x.toNat (by omega)
    have dx0 := dsm_nn hc x.toNat 0 (by omega)
    rw [Nat.zero_add, show dsm m' 0 = 0 from rfl] at dx0
    by_cases hx : x < D
    · obtain ⟨k1, k2, k3, k4⟩ := hd x x0 hx
      obtain ⟨a1, a2, a3, a4⟩ := hc.2.2.2.2.1 x x0 hx
      obtain ⟨sz, hsz⟩ : ∃ sz, sz = xR m' (15 + 26 * x) 9 := ⟨_, rfl⟩
      obtain ⟨L, hL⟩ : ∃ L, L = xR m' (15 + 26 * x) 10 := ⟨_, rfl⟩
      obtain ⟨n, hn⟩ : ∃ n, n = xR m' (15 + 26 * x) 11 := ⟨_, rfl⟩
      obtain ⟨ls, hls⟩ : ∃ ls, ls = xR m' (15 + 26 * x + 7) := ⟨_, rfl⟩
      have hdm : dmB m' x = 4 + sz + lwB ls n L.toNat := by rw [hsz, hL, hn, hls]; rfl
      rw [← hsz] at k3 a1
      rw [← hL] at k1 k4 a2 a4
      rw [← hn] at k2 a3
      rw [← hls] at k4 a4
      rw [if_pos hx, if_pos ⟨x0, by omega⟩, k3, w32_id (by omega) (by omega)]
      generalize hN' : (1000000 : Nat) = N'
      refine xl3_rule (F := yl304_26 B r) (fun z1 z2 i m2 => m2 = m' ∧ z2 = x ∧ 0 ≤ i ∧ i ≤ L ∧ z1 = y1 + (4 + sz) + lwB ls n i.toNat) (fun _ _ i _ => (L - i).toNat) ?_ N' _ x 0 m' ⟨rfl, rfl, by omega, a2.1, by show _ = y1 + (4 + sz) + 0; omega⟩ (by omega)
      intro r' z1 z2 i m2 ⟨c1, c2, i0, i1, c3⟩ ih'
      subst c1 c2
      have lb := lwB_le (ls := ls) (n := n) a3.2 (L := i.toNat) (fun l hl => (a4 l (by omega) (by omega)).2)
      have lb0 := lwB_mono (ls := ls) a3.1 (L := L.toNat) (fun l hl => (a4 l (by omega) (by omega)).1) i.toNat 0 (by omega)
      rw [Nat.zero_add, show lwB ls n 0 = 0 from rfl] at lb0
      unfold yl304_26
      rw [if_pos ⟨x0, by omega⟩, k1, k2]
      by_cases hi : i < L
      · have q := k4 i i0 hi
        have q2 := a4 i i0 hi
        rw [if_pos hi, if_pos ⟨by omega, by omega⟩, q, w32_id (by omega) (by omega), w32_id (by omega) (by omega)]
        refine ih' _ _ _ _ ⟨rfl, rfl, by omega, by omega, ?_⟩ (by omega)
        rw [show (i + 1).toNat = i.toNat + 1 from by omega]
        show _ = y1 + (4 + sz) + (lwB ls n i.toNat + (1 + ls ((i.toNat : Nat) : Int) + 4 * n))
        rw [Int.toNat_of_nonneg i0]
        omega
      · have ei : i = L := by omega
        rw [if_neg hi, w32_id (by omega) (by omega)]
        refine ih _ _ _ ⟨rfl, by omega, by omega, ?_⟩ (by omega)
        rw [show (z2 + 1).toNat = z2.toNat + 1 from by omega]
        show _ = 8 + (dsm m2 z2.toNat + dmB m2 ((z2.toNat : Nat) : Int))
        rw [Int.toNat_of_nonneg x0, hdm, ← ei]
        omega
    · have ex : x = D := by omega
      rw [if_neg hx]
      generalize hN' : (1000000 : Nat) = N'
      refine xl2_rule (F := yl304_77 B) (fun z1 k m2 => m2 = m' ∧ 0 ≤ k ∧ k ≤ M ∧ z1 = y1 + msm m' k.toNat) (fun _ k _ => (M - k).toNat) ?_ N' y1 0 m' ⟨rfl, by omega, hM.1, by show _ = y1 + 0; omega⟩ (by omega)
      intro r' z1 k m2 ⟨c1, k0, k1, c2⟩ ih'
      subst c1
      have mk := ml k.toNat (by omega)
      have mk0 := msm_nn hc k.toNat 0 (by omega)
      rw [Nat.zero_add, show msm m2 0 = 0 from rfl] at mk0
      unfold yl304_77
      rw [h19]
      by_cases hk : k < M
      · have q := hm k k0 hk
        have q2 := hc.2.2.2.2.2 k k0 hk
        rw [if_pos hk, if_pos ⟨by omega, by omega⟩, q, w32_id (by omega) (by omega), w32_id (by omega) (by omega)]
        refine ih' _ _ _ ⟨rfl, by omega, by omega, ?_⟩ (by omega)
        rw [show (k + 1).toNat = k.toNat + 1 from by omega]
        show _ = y1 + (msm m2 k.toNat + (1 + xR m2 14 ((k.toNat : Nat) : Int)))
        rw [Int.toNat_of_nonneg k0]
        omega
      · have ek : k = M := by omega
        rw [if_neg hk, xH_ret]
        exact ⟨rfl, by rw [c2, b2, ex, ek]⟩
end RCAT
