/-! A TABLE'S WEIGHT DEPENDS ON ITS CELLS ALONE; writeFactsPart -/
theorem ssum_cg {T T' : Int → Int → Int} {R : Int} {k : Nat} (h : ∀ c j : Int, 0 ≤ c → c < k → 0 ≤ j → j < R → T c j = T' c j) : ∀ s : Nat, 1024 * (s : Int) < R + 1024 → ssum T R k s = ssum T' R k s := by
  intro s
  induction s with
  | zero => intro _; rfl
  | succ s ih =>
    intro hs
    show ssum T R k s + (2 + csum (Tseg T s) (nrow R s) k) = ssum T' R k s + (2 + csum (Tseg T' s) (nrow R s) k)
    rw [ih (by omega)]
    congr 2
    refine csum_cg (by unfold nrow; omega) k (fun c i c0 c1 i0 i1 => ?_)
    unfold nrow at i1
    exact h c _ c0 c1 (by omega) (by omega)
theorem partB_cg {T T' : Int → Int → Int} {R : Int} {k : Nat} (hR : 0 ≤ R) (h : ∀ c j : Int, 0 ≤ c → c < k → 0 ≤ j → j < R → T c j = T' c j) : partB T R k = partB T' R k := by
  unfold partB
  rw [ssum_cg h (nseg R) (by unfold nseg; omega)]
theorem Part_f {W : Int → Int} {p R : Int} {k : Nat} {T T' : Int → Int → Int} (h : ∀ c j : Int, 0 ≤ c → c < k → 0 ≤ j → j < R → T c j = T' c j) (hP : Part W p R k T) : Part W p R k T' := by
  refine ⟨hP.1, hP.2.1, fun s hs => ?_⟩
  have q := hP.2.2 s hs
  rw [ssum_cg h s (by omega)] at q
  refine ⟨q.1, fun c hc => ?_⟩
  have hr : 1 ≤ nrow R s := by unfold nrow; omega
  have hcell : ∀ c' i : Int, 0 ≤ c' → c' < k → 0 ≤ i → i < nrow R s → Tseg T s c' i = Tseg T' s c' i := fun c' i c0 c1 i0 i1 => by
    unfold nrow at i1
    exact h c' _ c0 c1 (by omega) (by omega)
  have q2 := q.2 c hc
  rw [csum_cg hr c (fun c' i c0 c1 i0 i1 => hcell c' i c0 (by omega) i0 i1), colB_cg hr (fun i i0 i1 => hcell c i (by omega) (by omega) i0 i1)] at q2
  exact Col_f hr (fun i i0 i1 => hcell c i (by omega) (by omega) i0 i1) q2
theorem srt_cg {κ κ' : Int → Int → Int} {D : Nat} {o : Int → Int} {n : Int} (h : srt κ D o n) (hk : ∀ d x, 0 ≤ d → d < (D : Int) → 0 ≤ x → x < n → κ d x = κ' d x) : srt κ' D o n := ⟨h.1, fun q q' h0 h1 h2 => kl_cg (fun e e0 e1 => ⟨hk e _ e0 (by omega) (h.1.1 q h0 (by omega)).1 (h.1.1 q h0 (by omega)).2, hk e _ e0 (by omega) (h.1.1 q' (by omega) h2).1 (h.1.1 q' (by omega) h2).2⟩) id (h.2 q q' h0 h1 h2)⟩
/-- the catalog, arranged: levels, members, ranks within bounds -/
def ctk (m : xw_M) (D M : Int) : Prop := (0 ≤ D ∧ D ≤ 8) ∧ (0 ≤ M ∧ M ≤ 8) ∧ xR m 3 1 = D ∧ xR m 3 2 = M ∧ ∀ d, 0 ≤ d → d < D → (1 ≤ xR m (15 + 26 * d) 10 ∧ xR m (15 + 26 * d) 10 ≤ 4) ∧ (0 ≤ xR m (15 + 26 * d) 11 ∧ xR m (15 + 26 * d) 11 ≤ 1000) ∧ ∀ l, 0 ≤ l → l < xR m (15 + 26 * d) 10 → (0 ≤ xR m (15 + 26 * d + 23) l ∧ xR m (15 + 26 * d + 23) l ≤ 1000) ∧ ∀ p, 0 ≤ p → p < xR m (15 + 26 * d) 11 → 0 ≤ xR m (15 + 26 * d + 14 + l) p ∧ xR m (15 + 26 * d + 14 + l) p < xR m (15 + 26 * d + 23) l
theorem ctk_cg {m m' : xw_M} {D M : Int} (h : ctk m D M) (hc : ∀ a, a < 302 → m' a = m a) : ctk m' D M := by
  obtain ⟨h1, h2, h3, h4, h5⟩ := h
  refine ⟨h1, h2, by rw [xR_cg (hc 3 (by decide))]; exact h3, by rw [xR_cg (hc 3 (by decide))]; exact h4, fun d d0 d1 => ?_⟩
  obtain ⟨k1, k2, k3⟩ := h5 d d0 d1
  rw [xR_cg (hc (15 + 26 * d) (by omega))]
  refine ⟨k1, k2, fun l l0 l1 => ?_⟩
  rw [xR_cg (hc (15 + 26 * d + 23) (by omega)), xR_cg (hc (15 + 26 * d + 14 + l) (by omega))]
  exact k3 l l0 l1
/-- the rows' places are members -/
def rok (m : xw_M) (r D n : Int) : Prop := ∀ d i, 0 ≤ d → d < D → 0 ≤ i → i < n → 0 ≤ xR m (r + 3 + d) i ∧ xR m (r + 3 + d) i < xR m (15 + 26 * d) 11
/-- what the writers may change -/
def fP (m m' : xw_M) (r W p : Int) : Prop := (∀ a, (a < 302 ∨ 336 < a) → a ≠ 371 → a ≠ 372 → (a < 517 ∨ 523 < a) → a ≠ r + 1 → a ≠ r + 12 + W → a ≠ r + 13 + W → m' a = m a) ∧ ∀ q, 0 ≤ q → q < p → bW (m' 517) q = bW (m 517) q
theorem tst_cg {B : Nat} {m m' : xw_M} {p : Int} (h : tst B m p) (h1 : m' 518 = m 518) (h2 : m' 517 = m 517) : tst B m' p := by
  unfold tst ws ov at *
  rw [xR_cg h1, h2]
  exact h
section WPART
variable {B : Nat} {m : xw_M} {r W cap D M n : Int}
/-- the facts' keys: ranks at level 0 -/
def k0 (m : xw_M) (r d x : Int) : Int := xR m (15 + 26 * d + 14) (xR m (r + 3 + d) x)
theorem wr_fpart (hB : B ≤ 512) (hr : rwo r W cap) (hc : ctk m D M) (hn : 0 ≤ n ∧ n ≤ cap) (h5 : xR m r 5 = n) (hk : rok m r D n) {p : Int} (hp : 0 ≤ p) (hw : tst B m p) : ∃ m' o, yf179 B r m = some (.inl 0, m') ∧ fP m m' r W p ∧ srt (k0 m r) D.toNat o n ∧ tst B m' (p + 8 * partB (Tfac m r D o) n (D + M).toNat) ∧ (ws B m' (p + 8 * partB (Tfac m r D o) n (D + M).toNat) → Part (m' 517) p n (D + M).toNat (Tfac m r D o)) := by
  have hb := rw_b hr
  obtain ⟨cD, cM, c31, c32, c5⟩ := hc
  obtain ⟨m1, e1, F1, s5, s6, s7, sd⟩ := shapeF_ok (B := B) cD cM c31 c32
  have A1 : ∀ a, a ≠ 302 → a ≠ 371 → a ≠ 372 → m1 a = m a := F1.1
  have tkk : ∀ d i, 0 ≤ d → d < D → tkey m1 r d i = k0 m r d i := by
    intro d i d0 d1
    unfold tkey k0
    obtain ⟨a1, a2⟩ := sd d d0 d1
    rw [a1, a2, if_neg (by omega), Int.add_zero, xR_cg (A1 (15 + 26 * d + 14) (by omega) (by omega) (by omega)), xR_cg (A1 (r + 3 + d) (by omega) (by omega) (by omega))]
  have ts1 : tsok m1 r D n := by
    intro d d0 d1 _
    obtain ⟨a1, a2⟩ := sd d d0 d1
    obtain ⟨k1, k2, k3⟩ := c5 d d0 d1
    obtain ⟨q1, q2⟩ := k3 0 (by decide) (by omega)
    rw [a1, xR_cg (A1 (15 + 26 * d + 23) (by omega) (by omega) (by omega))]
    refine ⟨⟨by decide, by decide⟩, q1, fun i i0 i1 => ?_⟩
    obtain ⟨z1, z2⟩ := hk d i d0 d1 i0 i1
    rw [tkk d i d0 d1, xR_cg (A1 (r + 3 + d) (by omega) (by omega) (by omega))]
    have := q2 _ z1 z2
    rw [Int.add_zero] at this
    exact ⟨⟨z1, by omega⟩, this⟩
  obtain ⟨m2, e2, S2, F2⟩ := tsort_ok (B := B) (m := m1) hr cD.1 cD.2 (by rw [xR_cg (A1 3 (by decide) (by decide) (by decide))]; exact c31) hn.1 hn.2 (by rw [xR_cg (A1 r (by omega) (by omega) (by omega))]; exact h5) ts1
  obtain ⟨m3, e3, F3, t3, P3⟩ := wr_facts (B := B) (m := m2) hB hr cD cM hn (by rw [xR_cg (F2 r (by omega) (by omega) (by omega)), xR_cg (A1 r (by omega) (by omega) (by omega))]; exact h5) S2.1 (by rw [xR_cg (F2 302 (by omega) (by omega) (by omega))]; exact s5) (by rw [xR_cg (F2 302 (by omega) (by omega) (by omega)), s6]; omega) (by rw [xR_cg (F2 3 (by omega) (by omega) (by omega)), xR_cg (A1 3 (by decide) (by decide) (by decide))]; exact c32) hp (tst_cg hw ((F2 518 (by omega) (by omega) (by omega)).trans (A1 518 (by decide) (by decide) (by decide))) ((F2 517 (by omega) (by omega) (by omega)).trans (A1 517 (by decide) (by decide) (by decide))))
  have cells : ∀ c j : Int, 0 ≤ c → c < ((D + M).toNat : Int) → 0 ≤ j → j < n → Tfac m2 r D (xR m2 (r + 12 + W)) c j = Tfac m r D (xR m2 (r + 12 + W)) c j := by
    intro c j c0 c1 _ _
    unfold Tfac
    by_cases h : c < D
    · rw [if_pos h, if_pos h, xR_cg (F2 (r + 3 + c) (by omega) (by omega) (by omega)), xR_cg (A1 (r + 3 + c) (by omega) (by omega) (by omega))]
    · rw [if_neg h, if_neg h, xJ_cg (F2 (r + 12 + (c - D)) (by omega) (by omega) (by omega)), xJ_cg (A1 (r + 12 + (c - D)) (by omega) (by omega) (by omega))]
  rw [partB_cg hn.1 cells] at t3 P3
  unfold yf179
  rw [e1, xB_ret, e2, xB_ret, e3, xB_ret]
  refine ⟨m3, xR m2 (r + 12 + W), rfl, ⟨fun a a1 a2 a3 a4 a5 a6 a7 => ((F3.1 a a1 a4).trans (F2 a a5 a7 a6)).trans (A1 a (by omega) a2 a3), fun q q0 q1 => ?_⟩, srt_cg S2 (fun d x d0 d1 _ _ => tkk d x d0 (by omega)), t3, fun hws => Part_f cells (P3 hws)⟩
  rw [F3.2.2 q q0 q1, F2 517 (by omega) (by omega) (by omega), A1 517 (by decide) (by decide) (by decide)]
end WPART
