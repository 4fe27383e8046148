/-! THE LEXER: next, both sides at once: the class in memory c, the reference in memory r -/
/-- the same text -/
def TX (c r : xw_M) : Prop := xR r 536 5 = xR c 1 1 ∧ 0 ≤ xR c 1 1 ∧ xR c 1 1 ≤ 65536 ∧ ∀ i, 0 ≤ i → i < xR c 1 1 → xR c 2 i = xR r 537 i ∧ w8 (xR c 2 i) = xR c 2 i
/-- the same place, no fault -/
def PS (c r : xw_M) : Prop := TX c r ∧ xR r 536 8 = xR c 1 2 ∧ 0 ≤ xR c 1 2 ∧ xR c 1 2 ≤ xR c 1 1 ∧ xR c 1 6 = 0 ∧ xR c 1 7 = -1 ∧ xR r 536 6 = 0 ∧ xR r 536 7 = -1
/-- a sign's number by the reference -/
def sgr (K : Int) : Int := if K = 100 then 15421 else if K = 101 then 15933 else if K = 102 then 15422 else K
/-- the kinds of what was read: class K, reference t, w, g; L long -/
def kdr (K t w g L x y : Int) : Prop := (K = 0 ∧ t = 0) ∨ (K = (if 40 < L then 2 else if w = -1 then 1 else 200 + w) ∧ t = 1 ∧ -1 ≤ w ∧ w ≤ 18 ∧ (w ≠ -1 → L ≤ 40)) ∨ (K = 3 ∧ t = 2 ∧ x = y) ∨ (t = 3 ∧ g = sgr K ∧ (sg1 K = true ∨ K = 100 ∨ K = 101 ∨ K = 102))
def TK (c r : xw_M) : Prop := PS c r ∧ (xR r 536 9 = xR c 1 4 ∧ 0 ≤ xR c 1 4 ∧ xR c 1 4 ≤ xR c 1 2) ∧ kdr (xR c 1 3) (xR r 536 10) (xR r 536 11) (xR r 536 13) (xR c 1 2 - xR c 1 4) (xR c 1 5) (xR r 536 12)
/-- the same fault -/
def FL (c r : xw_M) : Prop := 0 < xR r 536 6 ∧ xR c 1 6 = xR r 536 6 ∧ xR c 1 7 = xR r 536 7
def fTy (c c' : xw_M) : Prop := (∀ a, a ≠ 1 → c' a = c a) ∧ ∀ k, (k < 2 ∨ 7 < k) → c' 1 k = c 1 k
def fRy (r r' : xw_M) : Prop := (∀ a, a ≠ 536 → r' a = r a) ∧ ∀ k, (k < 6 ∨ 13 < k) → r' 536 k = r 536 k
/-- both sides: both answer, or the class throws and the reference has noted the fault -/
def duo (o p : xP) (Q : Int → xw_M → Int → xw_M → Prop) (Z : xw_M → Int → xw_M → Prop) : Prop := (∃ v c w r, o = some (.inl v, c) ∧ p = some (.inl w, r) ∧ Q v c w r) ∨ (∃ c w r, o = some (.inr 14, c) ∧ p = some (.inl w, r) ∧ FL c r ∧ Z c w r)
theorem duo_r {v : Int} {c : xw_M} {w : Int} {r : xw_M} {Q : Int → xw_M → Int → xw_M → Prop} {Z : xw_M → Int → xw_M → Prop} (h : Q v c w r) : duo (some (.inl v, c)) (some (.inl w, r)) Q Z := Or.inl ⟨v, c, w, r, rfl, rfl, h⟩
theorem duo_f {c : xw_M} {w : Int} {r : xw_M} {Q : Int → xw_M → Int → xw_M → Prop} {Z : xw_M → Int → xw_M → Prop} (h : FL c r) (hz : Z c w r) : duo (some (.inr 14, c)) (some (.inl w, r)) Q Z := Or.inr ⟨c, w, r, rfl, rfl, h, hz⟩
/-- what comes behind; behind a fault the reference goes on alone -/
theorem duo_B {o p : xP} {Q Q' : Int → xw_M → Int → xw_M → Prop} {Z Z' : xw_M → Int → xw_M → Prop} {F G : Int → xw_M → xP} (h : duo o p Q Z) (hq : ∀ v c w r, Q v c w r → duo (F v c) (G w r) Q' Z') (hz : ∀ c w r, FL c r → Z c w r → ∃ w' r', G w r = some (.inl w', r') ∧ FL c r' ∧ Z' c w' r') : duo (xB o F) (xB p G) Q' Z' := by
  rcases h with ⟨v, c, w, r, e1, e2, q⟩ | ⟨c, w, r, e1, e2, f, z⟩
  · rw [e1, e2, xB_ret, xB_ret]
    exact hq v c w r q
  · rw [e1, e2, xB_thr, xB_ret]
    obtain ⟨w', r', e, f', z'⟩ := hz c w r f z
    exact Or.inr ⟨c, w', r', rfl, e, f', z'⟩
theorem duo_m {o p : xP} {Q Q' : Int → xw_M → Int → xw_M → Prop} {Z Z' : xw_M → Int → xw_M → Prop} (h : duo o p Q Z) (hq : ∀ v c w r, Q v c w r → Q' v c w r) (hz : ∀ c w r, FL c r → Z c w r → Z' c w r) : duo o p Q' Z' := by
  rcases h with ⟨v, c, w, r, e1, e2, q⟩ | ⟨c, w, r, e1, e2, f, z⟩
  · exact Or.inl ⟨v, c, w, r, e1, e2, hq _ _ _ _ q⟩
  · exact Or.inr ⟨c, w, r, e1, e2, f, hz _ _ _ f z⟩
theorem xH_th {o : xP} {X : Nat → xw_M → Prop} (h : xH o (fun _ _ => False) X) : ∃ t m', o = some (.inr t, m') ∧ X t m' := by
  cases o with
  | none => exact h.elim
  | some z =>
    obtain ⟨z, m⟩ := z
    cases z with
    | inl v => exact h.elim
    | inr t => exact ⟨t, m, rfl, h⟩
theorem fTy_of {c c' : xw_M} (h : fTx c c') : fTy c c' := ⟨h.1, fun k hk => h.2 k (by omega)⟩
theorem fRy_of {r r' : xw_M} (h : fRx r r') : fRy r r' := ⟨h.1, fun k hk => h.2 k (by omega)⟩
theorem fwd_len {T : Int → Int} {L : Int} : ∀ (ws : List (List Nat)) (k : Int), 0 ≤ k → (∀ w ∈ ws, w.length ≤ 40) → fwd L T ws k ≠ -1 → L ≤ 40 := by
  intro ws
  induction ws with
  | nil => exact fun k _ _ h => absurd rfl h
  | cons w ws ih =>
    intro k k0 hw h
    have e : fwd L T (w :: ws) k = if ((w.length : Nat) : Int) = L ∧ mtc T 0 w = true then k else fwd L T ws (k + 1) := rfl
    rw [e] at h
    by_cases a : ((w.length : Nat) : Int) = L ∧ mtc T 0 w = true
    · have := hw w (List.mem_cons_self)
      omega
    · rw [if_neg a] at h
      exact ih (k + 1) (by omega) (fun v hv => hw v (List.mem_cons_of_mem _ hv)) h
theorem rsv_len : ∀ w ∈ rsv, w.length ≤ 40 := by decide
theorem rsv_127 : ∀ w ∈ rsv, ∀ c : Nat, c ∈ w → c ≤ 127 := by decide
/-- the text and the fault's cells stay -/
theorem PS_w {c c' r r' : xw_M} (h : PS c r) (a1 : fTx c c') (a2 : fRx r r') (e : xR r' 536 8 = xR c' 1 2) (e0 : 0 ≤ xR c' 1 2) (e1 : xR c' 1 2 ≤ xR c 1 1) : PS c' r' := by
  obtain ⟨⟨t1, t2, t3, t4⟩, p1, p2, p3, p4, p5, p6, p7⟩ := h
  have n : xR c' 1 1 = xR c 1 1 := xR_fld (a1.2 1 (by omega))
  refine ⟨⟨by rw [xR_fld (a2.2 5 (by omega)), n]; exact t1, by rw [n]; exact t2, by rw [n]; exact t3, fun i i0 i1 => ?_⟩, e, e0, by rw [n]; exact e1, by rw [xR_fld (a1.2 6 (by omega))]; exact p4, by rw [xR_fld (a1.2 7 (by omega))]; exact p5, by rw [xR_fld (a2.2 6 (by omega))]; exact p6, by rw [xR_fld (a2.2 7 (by omega))]; exact p7⟩
  rw [n] at i1
  rw [xR_cg (a1.1 2 (by omega)), xR_cg (a2.1 537 (by omega))]
  exact t4 i i0 i1
/-- what next does on both sides -/
def nxQ (c r : xw_M) (c' r' : xw_M) : Prop := TK c' r' ∧ fTx c c' ∧ fRx r r' ∧ xR c 1 2 ≤ xR c' 1 2 ∧ (xR c' 1 3 ≠ 0 → xR c 1 2 < xR c' 1 2)
section NXB
variable {B : Nat} {c r : xw_M}
theorem nx (h : PS c r) : duo (yf47 B c) (yf248 B r) (fun _ c' _ r' => nxQ c r c' r') (fun c' _ r' => fTy c c' ∧ fRy r r') := by
  have h' := h
  obtain ⟨⟨t1, t2, t3, t4⟩, p1, p2, p3, p4, p5, p6, p7⟩ := h'
  generalize hn : xR c 1 1 = n at *
  generalize hp : xR c 1 2 = p at *
  have hb : ∀ i, 0 ≤ i → i < n → w8 (xR r 537 i) = xR r 537 i := fun i i0 i1 => by rw [← (t4 i i0 i1).1]; exact (t4 i i0 i1).2
  have sk : skp lsp (fun q => ub (xR r 537 q)) p (n - p).toNat = skp lsp (xR c 2) p (n - p).toNat := skp_same (fun x => ub_sp) p2 (fun i i0 i1 => (t4 i i0 i1).1) (fun i i0 i1 => (t4 i i0 i1).2)
  generalize hq : skp lsp (xR c 2) p (n - p).toNat = q at *
  have qb := skp_b (P := lsp) (T := xR c 2) (n - p).toNat p
  rw [hq] at qb
  by_cases qn : n ≤ q
  · have qe : q = n := by omega
    obtain ⟨v, c', z, v0, f, a2, a4, a3⟩ := xH_ex (next_e (B := B) (m := c) (Q := fun v c' => v = 0 ∧ fTx c c' ∧ xR c' 1 2 = q ∧ xR c' 1 4 = q ∧ xR c' 1 3 = 0) hn t3 hp p2 p3 hq qn (fun c' f a2 a4 a3 => ⟨rfl, f, a2, a4, a3⟩))
    obtain ⟨w, r', y, w0, g, b8, b9, b10⟩ := xH_ex (rnext_e (B := B) (m := r) (Q := fun w r' => w = 0 ∧ fRx r r' ∧ xR r' 536 8 = q ∧ xR r' 536 9 = q ∧ xR r' 536 10 = 0) p6 t1 t3 p1 p2 p3 hb sk qn (fun c' f a2 a4 a3 => ⟨rfl, f, a2, a4, a3⟩))
    rw [z, y]
    refine duo_r ⟨⟨PS_w h f g (by omega) (by omega) (by omega), ⟨by omega, by omega, by omega⟩, Or.inl ⟨a3, b10⟩⟩, f, g, by omega, fun k => absurd a3 k⟩
  have q1 : q < n := by omega
  have T := t4 q (by omega) q1
  by_cases hl : llt (xR c 2 q) = true
  · have ew : skp lwd (fun q => ub (xR r 537 q)) q (n - q).toNat = skp lwd (xR c 2) q (n - q).toNat := skp_same (fun x => ub_wd) (by omega) (fun i i0 i1 => (t4 i i0 i1).1) (fun i i0 i1 => (t4 i i0 i1).2)
    generalize he : skp lwd (xR c 2) q (n - q).toNat = e at *
    have eb := skp_b (P := lwd) (T := xR c 2) (n - q).toNat q
    rw [he] at eb
    have e1 : q < e := by
      have w : lwd (xR c 2 q) = true := by
        unfold llt at hl
        unfold lwd
        have := of_decide_eq_true hl
        exact decide_eq_true (Or.inl this)
      have := skp_go (P := lwd) (T := xR c 2) q1 w
      rw [he] at this
      have b := skp_b (P := lwd) (T := xR c 2) (n - (q + 1)).toNat (q + 1)
      rw [← this] at b
      omega
    obtain ⟨v, c', z, v0, f, a2, a4, a3⟩ := xH_ex (next_w (B := B) (m := c) (Q := fun v c' => v = 0 ∧ fTx c c' ∧ xR c' 1 2 = e ∧ xR c' 1 4 = q ∧ xR c' 1 3 = wkn (e - q) (fun i => xR c 2 (q + i))) hn t3 hp p2 p3 hq q1 hl (fun c' f a2 a4 a3 => ⟨rfl, f, by rw [a2]; exact he, a4, by rw [a3, he]⟩))
    obtain ⟨w, r', y, w0, g, b8, b9, b10, b11⟩ := xH_ex (rnext_w (B := B) (m := r) (Q := fun w r' => w = 0 ∧ fRx r r' ∧ xR r' 536 8 = e ∧ xR r' 536 9 = q ∧ xR r' 536 10 = 1 ∧ xR r' 536 11 = fwd (e - q) (fun i => ub (xR r 537 (q + i))) rsv 0) p6 t1 t3 p1 p2 p3 hb sk q1 (by rw [← T.1, ub_lt T.2]; exact hl) ew (fun c' f a2 a4 a3 a5 => ⟨rfl, f, a2, a4, a3, a5⟩))
    have fs : fwd (e - q) (fun i => ub (xR r 537 (q + i))) rsv 0 = fwd (e - q) (fun i => xR c 2 (q + i)) rsv 0 := fwd_same (fun i i0 i1 => ⟨by rw [(t4 (q + i) (by omega) (by omega)).1], (t4 (q + i) (by omega) (by omega)).2⟩) rsv 0 rsv_127
    rw [fs] at b11
    have fb := fwd_b (T := fun i => xR c 2 (q + i)) (L := e - q) rsv 0
    have fl := fwd_len (T := fun i => xR c 2 (q + i)) (L := e - q) rsv 0 (by omega) rsv_len
    have rl : ((rsv.length : Nat) : Int) = 19 := by decide
    rw [rl] at fb
    rw [z, y]
    refine duo_r ⟨⟨PS_w h f g (by omega) (by omega) (by omega), ⟨by omega, by omega, by omega⟩, Or.inr (Or.inl ⟨?_, b10, by omega, by omega, fun k => ?_⟩)⟩, f, g, by omega, fun k => by omega⟩
    · rw [a3, b11, a2, a4]
      rfl
    · rw [a2, a4]
      rw [b11] at k
      exact fl k
  by_cases hnb : lnb (xR c 2) n q = true
  · have T0 : ub (xR r 537 q) = 45 ↔ xR c 2 q = 45 := by rw [← T.1]; exact ub_eq T.2 (by decide) (by decide)
    have hd : ldg (ub (xR r 537 q)) = true ∨ (ub (xR r 537 q) = 45 ∧ q + 1 < n ∧ ldg (ub (xR r 537 (q + 1))) = true) := by
      unfold lnb at hnb
      rw [Bool.or_eq_true, Bool.and_eq_true, Bool.and_eq_true] at hnb
      rcases hnb with k | ⟨k1, k2, k3⟩
      · left; rw [← T.1, ub_dg T.2]; exact k
      · have k2 := of_decide_eq_true k2
        refine Or.inr ⟨T0.mpr (of_decide_eq_true k1), k2, ?_⟩
        rw [← (t4 (q + 1) (by omega) k2).1, ub_dg (t4 (q + 1) (by omega) k2).2]; exact k3
    obtain ⟨b, hbeg⟩ : ∃ b, b = if xR c 2 q = 45 then q + 1 else q := ⟨_, rfl⟩
    have hbeg' : b = if ub (xR r 537 q) = 45 then q + 1 else q := by rw [hbeg]; by_cases k : xR c 2 q = 45 <;> simp [k, T0]
    have b0 : 0 ≤ b ∧ b ≤ n := by rw [hbeg]; split <;> omega
    have bq : q ≤ b := by rw [hbeg]; split <;> omega
    have es : skp ldg (fun q => ub (xR r 537 q)) b (n - b).toNat = skp ldg (xR c 2) b (n - b).toNat := skp_same (fun x => ub_dg) b0.1 (fun i i0 i1 => (t4 i i0 i1).1) (fun i i0 i1 => (t4 i i0 i1).2)
    obtain ⟨e, he⟩ : ∃ e, e = skp ldg (xR c 2) b (n - b).toNat := ⟨_, rfl⟩
    have eb := skp_b (P := ldg) (T := xR c 2) (n - b).toNat b
    rw [← he] at eb
    have e1 : q < e := by
      by_cases k : b = q
      · have d : ldg (xR c 2 q) = true := by
          rcases hd with d | ⟨d1, d2, d3⟩
          · rw [← T.1, ub_dg T.2] at d; exact d
          · rw [hbeg, if_pos (T0.mp d1)] at k; omega
        rw [k] at he
        have := skp_go (P := ldg) (T := xR c 2) q1 d
        rw [← he] at this
        have b2 := skp_b (P := ldg) (T := xR c 2) (n - (q + 1)).toNat (q + 1)
        rw [← this] at b2
        omega
      · omega
    have nv := nvl_two (T := xR c 2) (T' := fun q => ub (xR r 537 q)) (lo := 3000000000) (hi := 4294967296) (by decide) (by decide) (n - b).toNat b 0 0 (fun i i0 i1 => by
      have u := t4 i (by omega) (by omega)
      have v := ub_dg (x := xR c 2 i) u.2
      refine ⟨by rw [← u.1]; exact v.symm, fun d => ?_⟩
      show xR c 2 i = ub (xR r 537 i)
      rw [← u.1]
      have dd := of_decide_eq_true d
      exact ((ub_eq u.2 (by omega) (by omega)).mpr rfl).symm) (Or.inl rfl) (by decide) (by decide)
    obtain ⟨x, hx⟩ : ∃ x, x = (if xR c 2 q = 45 then -nvl 4294967296 (xR c 2) b (n - b).toNat 0 else nvl 4294967296 (xR c 2) b (n - b).toNat 0) := ⟨_, rfl⟩
    obtain ⟨x', hx'⟩ : ∃ x', x' = (if ub (xR r 537 q) = 45 then -nvl 3000000000 (fun q => ub (xR r 537 q)) b (n - b).toNat 0 else nvl 3000000000 (fun q => ub (xR r 537 q)) b (n - b).toNat 0) := ⟨_, rfl⟩
    have n1 := nvl_b (cap := 4294967296) (T := xR c 2) (by omega) (n - b).toNat b 0 (by omega) (by omega)
    have n2 := nvl_b (cap := 3000000000) (T := fun q => ub (xR r 537 q)) (by omega) (n - b).toNat b 0 (by omega) (by omega)
    have rg : (x = x') ∨ (¬ (-2147483648 ≤ x ∧ x ≤ 2147483647) ∧ ¬ (-2147483648 ≤ x' ∧ x' ≤ 2147483647)) := by
      by_cases k : xR c 2 q = 45
      · rw [if_pos k] at hx; rw [if_pos (T0.mpr k)] at hx'; omega
      · rw [if_neg k] at hx; rw [if_neg (fun z => k (T0.mp z))] at hx'; omega
    have hlr : llt (ub (xR r 537 q)) ≠ true := by rw [← T.1, ub_lt T.2]; exact hl
    by_cases hv : -2147483648 ≤ x ∧ x ≤ 2147483647
    · have xe : x' = x := by omega
      obtain ⟨v, c', z, v0, f, a2, a4, a3, a5⟩ := xH_ex (next_n (B := B) (m := c) (Q := fun v c' => v = 0 ∧ fTx c c' ∧ xR c' 1 2 = e ∧ xR c' 1 4 = q ∧ xR c' 1 3 = 3 ∧ xR c' 1 5 = x) (X := fun _ _ => False) hn t3 hp p2 p3 hq q1 hl hnb hbeg hx he (fun _ c' f a2 a4 a3 a5 => ⟨rfl, f, a2, a4, a3, a5⟩) (fun k => absurd hv k))
      obtain ⟨w, r', y, w0, g, b8, b9, b10, b12⟩ := xH_ex (rnext_n (B := B) (m := r) (Q := fun w r' => w = 0 ∧ fRx r r' ∧ xR r' 536 8 = e ∧ xR r' 536 9 = q ∧ xR r' 536 10 = 2 ∧ xR r' 536 12 = x) (X := fun _ _ => False) p6 t1 t3 p1 p2 p3 hb sk q1 hlr hd hbeg' hx' (by rw [es]; exact he) (fun _ c' f a2 a4 a3 a5 => ⟨rfl, f, a2, a4, a3, by rw [a5, xe]⟩) (fun k => absurd (by rw [xe]; exact hv) k))
      rw [z, y]
      exact duo_r ⟨⟨PS_w h f g (by omega) (by omega) (by omega), ⟨by omega, by omega, by omega⟩, Or.inr (Or.inr (Or.inl ⟨a3, b10, by omega⟩))⟩, f, g, by omega, fun k => by omega⟩
    · have hv' : ¬ (-2147483648 ≤ x' ∧ x' ≤ 2147483647) := by omega
      obtain ⟨t, c', z, v0, f1, f2, a6, a7⟩ := xH_th (next_n (B := B) (m := c) (e := e) (Q := fun _ _ => False) (X := fun t c' => t = 14 ∧ (∀ a, a ≠ 1 → c' a = c a) ∧ (∀ k, (k < 2 ∨ 7 < k) → c' 1 k = c 1 k) ∧ xR c' 1 6 = 2 ∧ xR c' 1 7 = q) hn t3 hp p2 p3 hq q1 hl hnb hbeg hx he (fun k => absurd k hv) (fun _ c' f1 f2 a6 a7 => ⟨rfl, f1, f2, a6, a7⟩))
      obtain ⟨w, r', y, w0, g1, g2, b6, b7⟩ := xH_ex (rnext_n (B := B) (m := r) (e := e) (Q := fun w r' => w = 0 ∧ (∀ a, a ≠ 536 → r' a = r a) ∧ (∀ k, (k < 6 ∨ 13 < k) → r' 536 k = r 536 k) ∧ xR r' 536 6 = 2 ∧ xR r' 536 7 = q) (X := fun _ _ => False) p6 t1 t3 p1 p2 p3 hb sk q1 hlr hd hbeg' hx' (by rw [es]; exact he) (fun k => absurd k hv') (fun _ r' g1 g2 b6 b7 => ⟨rfl, g1, g2, b6, b7⟩))
      rw [z, y, v0]
      exact duo_f ⟨by omega, by omega, by omega⟩ ⟨⟨f1, f2⟩, ⟨g1, g2⟩⟩
  · have hnb' := hnb
    unfold lnb at hnb
    rw [Bool.or_eq_true, Bool.and_eq_true, Bool.and_eq_true, not_or] at hnb
    obtain ⟨nd, nm⟩ := hnb
    have hlr : llt (ub (xR r 537 q)) ≠ true := by rw [← T.1, ub_lt T.2]; exact hl
    have hdr : ldg (ub (xR r 537 q)) ≠ true := by rw [← T.1, ub_dg T.2]; exact nd
    obtain ⟨y, hy⟩ : ∃ y, y = if q + 1 < n then ub (xR r 537 (q + 1)) else 0 := ⟨_, rfl⟩
    obtain ⟨k, hk⟩ : ∃ k, sgk (xR c 2 q) (if q + 1 < n then xR c 2 (q + 1) else 0) = k := ⟨_, rfl⟩
    have xe : ∀ v, 0 ≤ v → v ≤ 127 → (ub (xR r 537 q) = v ↔ xR c 2 q = v) := fun v v0 v1 => by rw [← T.1]; exact ub_eq T.2 v0 v1
    have ye : ∀ v, 0 < v → v ≤ 127 → (y = v ↔ (if q + 1 < n then xR c 2 (q + 1) else 0) = v) := fun v v0 v1 => by
      rw [hy]
      by_cases a : q + 1 < n
      · rw [if_pos a, if_pos a, ← (t4 (q + 1) (by omega) a).1]; exact ub_eq (t4 (q + 1) (by omega) a).2 (by omega) v1
      · rw [if_neg a, if_neg a]
    have mi : ub (xR r 537 q) = 45 → ldg y ≠ true := fun a d => by
      rw [hy] at d
      by_cases b : q + 1 < n
      · rw [if_pos b, ← (t4 (q + 1) (by omega) b).1, ub_dg (t4 (q + 1) (by omega) b).2] at d
        exact nm ⟨decide_eq_true ((xe 45 (by decide) (by decide)).mp a), decide_eq_true b, d⟩
      · rw [if_neg b] at d
        exact absurd d (by decide)
    have s2 : sg2 (ub (xR r 537 q)) y = true ↔ (k = 100 ∨ k = 101 ∨ k = 102) := by
      unfold sg2
      rw [decide_eq_true_eq, xe 60 (by decide) (by decide), xe 62 (by decide) (by decide), ye 61 (by decide) (by decide), ye 62 (by decide) (by decide), ← hk]
      generalize (if q + 1 < n then xR c 2 (q + 1) else 0) = z
      generalize xR c 2 q = u
      unfold sgk sg1
      simp only [decide_eq_true_eq]
      split
      · omega
      · split
        · omega
        · split
          · omega
          · split <;> omega
    have s1 : sg1 (ub (xR r 537 q)) = true ↔ sg1 (xR c 2 q) = true := by
      unfold sg1
      rw [decide_eq_true_eq, decide_eq_true_eq, xe 40 (by decide) (by decide), xe 41 (by decide) (by decide), xe 44 (by decide) (by decide), xe 59 (by decide) (by decide), xe 46 (by decide) (by decide), xe 42 (by decide) (by decide), xe 61 (by decide) (by decide), xe 60 (by decide) (by decide), xe 62 (by decide) (by decide)]
    obtain ⟨w, r', yy, w0, m2, g1, g2, b8, b9, b10, er⟩ := xH_ex (rnext_s (B := B) (m := r) (y := y) (Q := fun w r' => w = 0 ∧ ∃ m2 : xw_M, (∀ a, a ≠ 536 → m2 a = r a) ∧ (∀ k, (k < 8 ∨ 13 < k) → m2 536 k = r 536 k) ∧ xR m2 536 8 = q ∧ xR m2 536 9 = q ∧ xR m2 536 10 = 3 ∧ r' = (if sg2 (ub (xR r 537 q)) y = true then xw_u (xw_u m2 536 13 (256 * ub (xR r 537 q) + y)) 536 8 (q + 2) else if sg1 (ub (xR r 537 q)) = true then xw_u (xw_u m2 536 13 (ub (xR r 537 q))) 536 8 (q + 1) else xw_u (xw_u m2 536 6 1) 536 7 q)) (X := fun _ _ => False) p6 t1 t3 p1 p2 p3 hb sk q1 hlr hdr hy mi (fun m2 g1 g2 b8 b9 b10 => ⟨rfl, m2, g1, g2, b8, b9, b10, rfl⟩))
    by_cases hk1 : k = -1
    · have n2 : ¬ sg2 (ub (xR r 537 q)) y = true := fun a => by have := s2.mp a; omega
      have n1 : ¬ sg1 (ub (xR r 537 q)) = true := fun a => by
        have b := s1.mp a
        rw [hk1] at hk
        unfold sgk at hk
        rw [if_pos b] at hk
        have : xR c 2 q ≠ -1 := fun e => by rw [e] at b; exact absurd b (by decide)
        revert hk
        split
        · omega
        · split
          · omega
          · split <;> omega
      rw [if_neg n2, if_neg n1] at er
      obtain ⟨t, c', z, v0, f1, f2, a6, a7⟩ := xH_th (next_s (B := B) (m := c) (Q := fun _ _ => False) (X := fun t c' => t = 14 ∧ (∀ a, a ≠ 1 → c' a = c a) ∧ (∀ k, (k < 2 ∨ 7 < k) → c' 1 k = c 1 k) ∧ xR c' 1 6 = 1 ∧ xR c' 1 7 = q) hn t3 hp p2 p3 hq q1 hl hnb' hk (fun a => absurd hk1 a) (fun _ c' f1 f2 a6 a7 => ⟨rfl, f1, f2, a6, a7⟩))
      rw [z, yy, v0]
      refine duo_f ⟨?_, ?_, ?_⟩ ⟨⟨f1, f2⟩, ⟨fun a ha => by rw [er, xu_c ha, xu_c ha, g1 a ha], fun k hk => by rw [er, xu_ne (by omega), xu_ne (by omega), g2 k (by omega)]⟩⟩
      · rw [er, xR_ne (by omega), xR_at (by decide)]; decide
      · rw [er, xR_ne (by omega), xR_at (by decide)]; exact a6
      · rw [er, xR_at (w32_id (by omega) (by omega))]; exact a7
    · obtain ⟨v, c', z, v0, f, a2, a4, a3⟩ := xH_ex (next_s (B := B) (m := c) (Q := fun v c' => v = 0 ∧ fTx c c' ∧ xR c' 1 2 = (if k < 100 then q + 1 else q + 2) ∧ xR c' 1 4 = q ∧ xR c' 1 3 = k) (X := fun _ _ => False) hn t3 hp p2 p3 hq q1 hl hnb' hk (fun _ c' f a2 a4 a3 => ⟨rfl, f, a2, a4, a3⟩) (fun a => absurd a hk1))
      rw [z, yy]
      by_cases h2 : sg2 (ub (xR r 537 q)) y = true
      · rw [if_pos h2] at er
        have k3 := s2.mp h2
        rw [if_neg (by omega)] at a2
        have q2 : q + 1 < n := by
          have d := of_decide_eq_true h2
          by_cases a : q + 1 < n
          · exact a
          · rw [if_neg a] at hy; omega
        have fr : fRx r r' := ⟨fun a ha => by rw [er, xu_c ha, xu_c ha, g1 a ha], fun k hk => by rw [er, xu_ne (by omega), xu_ne (by omega), g2 k (by omega)]⟩
        have d8 : xR r' 536 8 = q + 2 := by rw [er]; exact xR_at (w32_id (by omega) (by omega))
        have d9 : xR r' 536 9 = q := by rw [er, xR_ne (by omega), xR_ne (by omega)]; exact b9
        have d10 : xR r' 536 10 = 3 := by rw [er, xR_ne (by omega), xR_ne (by omega)]; exact b10
        have dd := of_decide_eq_true h2
        have d13 : xR r' 536 13 = 256 * ub (xR r 537 q) + y := by rw [er, xR_ne (by omega)]; exact xR_at (w32_id (by omega) (by omega))
        refine duo_r ⟨⟨PS_w h f fr (by omega) (by omega) (by omega), ⟨by omega, by omega, by omega⟩, Or.inr (Or.inr (Or.inr ⟨d10, ?_, Or.inr (by omega)⟩))⟩, f, fr, by omega, fun _ => by omega⟩
        rw [d13, a3]
        have x6 := xe 60 (by decide) (by decide)
        have x7 := xe 62 (by decide) (by decide)
        have y6 := ye 61 (by decide) (by decide)
        have y7 := ye 62 (by decide) (by decide)
        revert hk
        unfold sgr
        unfold sgk
        generalize (if q + 1 < n then xR c 2 (q + 1) else 0) = zz at *
        intro hk
        split at hk
        · rw [← hk, if_pos rfl]; omega
        · split at hk
          · rw [← hk, if_neg (by decide), if_pos rfl]; omega
          · split at hk
            · rw [← hk, if_neg (by decide), if_neg (by decide), if_pos rfl]; omega
            · omega
      · rw [if_neg h2] at er
        have k3 : ¬ (k = 100 ∨ k = 101 ∨ k = 102) := fun a => h2 (s2.mpr a)
        have kk : k = xR c 2 q ∧ sg1 (xR c 2 q) = true := by
          generalize (if q + 1 < n then xR c 2 (q + 1) else 0) = zz at hk
          unfold sgk at hk
          by_cases a1 : xR c 2 q = 60 ∧ zz = 61
          · rw [if_pos a1] at hk; exact absurd (Or.inl hk.symm) k3
          · rw [if_neg a1] at hk
            by_cases a2 : xR c 2 q = 62 ∧ zz = 61
            · rw [if_pos a2] at hk; exact absurd (Or.inr (Or.inl hk.symm)) k3
            · rw [if_neg a2] at hk
              by_cases a3 : xR c 2 q = 60 ∧ zz = 62
              · rw [if_pos a3] at hk; exact absurd (Or.inr (Or.inr hk.symm)) k3
              · rw [if_neg a3] at hk
                by_cases a4 : sg1 (xR c 2 q) = true
                · rw [if_pos a4] at hk; exact ⟨hk.symm, a4⟩
                · rw [if_neg a4] at hk; exact absurd hk.symm hk1
        have h1 := s1.mpr kk.2
        rw [if_pos h1] at er
        have k4 : 0 ≤ k ∧ k < 100 := by have := of_decide_eq_true kk.2; omega
        rw [if_pos k4.2] at a2
        have fr : fRx r r' := ⟨fun a ha => by rw [er, xu_c ha, xu_c ha, g1 a ha], fun k hk => by rw [er, xu_ne (by omega), xu_ne (by omega), g2 k (by omega)]⟩
        have d8 : xR r' 536 8 = q + 1 := by rw [er]; exact xR_at (w32_id (by omega) (by omega))
        have d9 : xR r' 536 9 = q := by rw [er, xR_ne (by omega), xR_ne (by omega)]; exact b9
        have d10 : xR r' 536 10 = 3 := by rw [er, xR_ne (by omega), xR_ne (by omega)]; exact b10
        have uk : ub (xR r 537 q) = k := (xe k k4.1 (by omega)).mpr kk.1.symm
        have d13 : xR r' 536 13 = k := by rw [er, xR_ne (by omega), uk]; exact xR_at (w32_id (by omega) (by omega))
        refine duo_r ⟨⟨PS_w h f fr (by omega) (by omega) (by omega), ⟨by omega, by omega, by omega⟩, Or.inr (Or.inr (Or.inr ⟨d10, ?_, Or.inl (by rw [a3, kk.1]; exact kk.2)⟩))⟩, f, fr, by omega, fun _ => by omega⟩
        rw [d13, a3]
        unfold sgr
        rw [if_neg (by omega), if_neg (by omega), if_neg (by omega)]
end NXB
