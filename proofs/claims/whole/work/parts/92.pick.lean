/-! THE CHOOSER: estimates, what is picked; the class's pick -/
/-- a view's product as the class reckons it, over the first n dimensions -/
def epf (lv : Int → Int) (D : Int) (df : Int → Int → Int) (F v : Int) : Nat → Int
  | 0 => 1
  | n + 1 => if vdg lv D v n < lv n then min F (epf lv D df F v n * df n (vdg lv D v n)) else epf lv D df F v n
/-- a view's estimate -/
def esf (lv : Int → Int) (D : Int) (df : Int → Int → Int) (F v : Int) : Int := min F (epf lv D df F v D.toNat)
/-- the best view and its benefit among the first n -/
def bsf (ben : Int → Int) : Nat → Int × Int
  | 0 => (-1, 0)
  | n + 1 => if (bsf ben n).2 < ben n then ((n : Int), ben n) else bsf ben n
theorem bsf_cg {b b' : Int → Int} : ∀ n : Nat, (∀ w : Int, 0 ≤ w → w < n → b w = b' w) → bsf b n = bsf b' n := by
  intro n
  induction n with
  | zero => intro _; rfl
  | succ n ih =>
    intro h
    show (if (bsf b n).2 < b n then ((n : Int), b n) else bsf b n) = (if (bsf b' n).2 < b' n then ((n : Int), b' n) else bsf b' n)
    rw [ih (fun w w0 w1 => h w w0 (by omega)), h n (by omega) (by omega)]
theorem bsf_b (b : Int → Int) : ∀ n : Nat, ((bsf b n).1 = -1 ∨ (0 ≤ (bsf b n).1 ∧ (bsf b n).1 < n)) ∧ 0 ≤ (bsf b n).2 := by
  intro n
  induction n with
  | zero => exact ⟨Or.inl rfl, Int.le_refl _⟩
  | succ n ih =>
    show ((if (bsf b n).2 < b n then ((n : Int), b n) else bsf b n).1 = -1 ∨ _) ∧ _
    have q : bsf b (n + 1) = if (bsf b n).2 < b n then ((n : Int), b n) else bsf b n := rfl
    rw [q]
    by_cases h : (bsf b n).2 < b n
    · rw [if_pos h]
      exact ⟨Or.inr ⟨by show (0 : Int) ≤ (n : Int); omega, by show (n : Int) < ((n + 1 : Nat) : Int); omega⟩, by show 0 ≤ b n; omega⟩
    · rw [if_neg h]
      refine ⟨?_, ih.2⟩
      rcases ih.1 with h1 | h1
      · exact Or.inl h1
      · exact Or.inr ⟨h1.1, by omega⟩
/-- the costs behind i picks -/
def cSf (lv : Int → Int) (D : Int) (est : Int → Int) (F : Int) (V : Nat) : Nat → Int → Int
  | 0 => fun _ => F
  | i + 1 => fun w => if (bsf (fun v => bnf lv D est (cSf lv D est F V i) v V) V).1 = -1 then cSf lv D est F V i w else cuf lv D est (cSf lv D est F V i) (bsf (fun v => bnf lv D est (cSf lv D est F V i) v V) V).1 w
/-- the i-th pick, or -1 -/
def pkf (lv : Int → Int) (D : Int) (est : Int → Int) (F : Int) (V i : Nat) : Int := (bsf (fun v => bnf lv D est (cSf lv D est F V i) v V) V).1
theorem cSf_b {lv est : Int → Int} {D F : Int} {V : Nat} (hF : 0 ≤ F) (he : ∀ v : Int, 0 ≤ v → v < V → 0 ≤ est v ∧ est v ≤ F) : ∀ (i : Nat) (w : Int), 0 ≤ cSf lv D est F V i w ∧ cSf lv D est F V i w ≤ F := by
  intro i
  induction i with
  | zero => intro w; exact ⟨hF, Int.le_refl _⟩
  | succ i ih =>
    intro w
    show 0 ≤ (if (bsf (fun v => bnf lv D est (cSf lv D est F V i) v V) V).1 = -1 then cSf lv D est F V i w else cuf lv D est (cSf lv D est F V i) (bsf (fun v => bnf lv D est (cSf lv D est F V i) v V) V).1 w) ∧ _
    have q : cSf lv D est F V (i + 1) w = (if (bsf (fun v => bnf lv D est (cSf lv D est F V i) v V) V).1 = -1 then cSf lv D est F V i w else cuf lv D est (cSf lv D est F V i) (bsf (fun v => bnf lv D est (cSf lv D est F V i) v V) V).1 w) := rfl
    rw [q]
    by_cases h : (bsf (fun v => bnf lv D est (cSf lv D est F V i) v V) V).1 = -1
    · rw [if_pos h]; exact ih w
    · rw [if_neg h]
      have b := (bsf_b (fun v => bnf lv D est (cSf lv D est F V i) v V) V).1
      have e := he (bsf (fun v => bnf lv D est (cSf lv D est F V i) v V) V).1 (by omega) (by omega)
      unfold cuf
      by_cases hh : est (bsf (fun v => bnf lv D est (cSf lv D est F V i) v V) V).1 < cSf lv D est F V i w ∧ abb lv D (bsf (fun v => bnf lv D est (cSf lv D est F V i) v V) V).1 w = true
      · rw [if_pos hh]; exact e
      · rw [if_neg hh]; exact ih w
/-- so many are picked -/
def pkn (lv : Int → Int) (D : Int) (est : Int → Int) (F : Int) (V : Nat) (k n : Int) : Prop := (0 ≤ n ∧ n ≤ k) ∧ (∀ i : Int, 0 ≤ i → i < n → pkf lv D est F V i.toNat ≠ -1) ∧ (n = k ∨ pkf lv D est F V n.toNat = -1)
theorem pkn_uniq {lv est : Int → Int} {D F k n n' : Int} {V : Nat} (h : pkn lv D est F V k n) (h' : pkn lv D est F V k n') : n = n' := by
  obtain ⟨a1, a2, a3⟩ := h
  obtain ⟨b1, b2, b3⟩ := h'
  rcases Int.lt_trichotomy n n' with q | q | q
  · rcases a3 with e | e
    · omega
    · exact absurd e (b2 n a1.1 q)
  · exact q
  · rcases b3 with e | e
    · omega
    · exact absurd e (a2 n' b1.1 q)
/-- products of radices, from the front -/
def ppr (lv : Int → Int) : Nat → Int
  | 0 => 1
  | n + 1 => ppr lv n * (lv n + 1)
theorem ppr_mpw {lv : Int → Int} {D : Int} : ∀ j : Nat, (j : Int) ≤ D → ppr lv (D.toNat - j) * mpw lv D j = ppr lv D.toNat := by
  intro j
  induction j with
  | zero => intro _; show ppr lv D.toNat * 1 = _; rw [Int.mul_one]
  | succ j ih =>
    intro hj
    rw [← ih (by omega), show D.toNat - j = (D.toNat - (j + 1)) + 1 by omega]
    show ppr lv (D.toNat - (j + 1)) * (mpw lv D j * (lv (D - 1 - (j : Nat)) + 1)) = ppr lv (D.toNat - (j + 1)) * (lv ((D.toNat - (j + 1) : Nat) : Int) + 1) * mpw lv D j
    rw [show ((D.toNat - (j + 1) : Nat) : Int) = D - 1 - (j : Nat) by omega, Int.mul_assoc, Int.mul_comm (mpw lv D j)]
theorem ppr_eq {lv : Int → Int} {D : Int} (hD : 0 ≤ D) : ppr lv D.toNat = mpw lv D D.toNat := by
  have := ppr_mpw (lv := lv) (D := D) D.toNat (by omega)
  rw [Nat.sub_self] at this
  rw [← this]
  show (1 : Int) * _ = _
  rw [Int.one_mul]
theorem ppr_b {lv : Int → Int} {D : Int} (hD : D ≤ 8) (hl : ∀ d, 0 ≤ d → d < D → 1 ≤ lv d ∧ lv d ≤ 4) : ∀ n : Nat, (n : Int) ≤ D → 1 ≤ ppr lv n ∧ ppr lv n ≤ 5 ^ n := by
  intro n
  induction n with
  | zero => intro _; show (1 : Int) ≤ 1 ∧ (1 : Int) ≤ 5 ^ 0; omega
  | succ n ih =>
    intro hn
    have a := ih (by omega)
    have b := hl n (by omega) (by omega)
    show 1 ≤ ppr lv n * (lv n + 1) ∧ ppr lv n * (lv n + 1) ≤ 5 ^ (n + 1)
    have q1 := Int.mul_le_mul a.1 (show (1 : Int) ≤ lv n + 1 by omega) (by omega) (by omega)
    have q2 := Int.mul_le_mul a.2 (show lv n + 1 ≤ (5 : Int) by omega) (by omega) (show (0 : Int) ≤ 5 ^ n by omega)
    rw [Int.pow_succ]
    omega
theorem p5 : ∀ n : Nat, n ≤ 8 → (5 : Int) ^ n ≤ 390625 := by decide
section PKC
variable {lv : Int → Int} {D F : Int} {B : Nat} {m : xw_M} {df : Int → Int → Int}
/-- viewsInAll -/
theorem views_cl (hD : 0 ≤ D ∧ D ≤ 8) (hl : ∀ d, 0 ≤ d → d < D → 1 ≤ lv d ∧ lv d ≤ 4) (h31 : xR m 3 1 = D) (h10 : ∀ d, 0 ≤ d → d < D → xR m (15 + 26 * d) 10 = lv d) : yf201 B m = some (.inl (mpw lv D D.toNat), m) := by
  unfold yf201
  generalize hN : (1000000 : Nat) = N
  have goal := xH_ex (Q := fun v m' => m' = m ∧ v = ppr lv D.toNat) (xl2_rule (F := yl201_4 B) (fun x1 x2 m' => m' = m ∧ (0 ≤ x2 ∧ x2 ≤ D) ∧ x1 = ppr lv x2.toNat) (fun _ x2 _ => (D - x2).toNat) ?_ N 1 0 m ⟨rfl, ⟨Int.le_refl _, hD.1⟩, rfl⟩ (by omega))
  · obtain ⟨v, m', e, rfl, h⟩ := goal
    rw [e, h, ppr_eq hD.1]
  · intro r x1 x2 m' ⟨b1, b2, b3⟩ ih
    subst b1
    unfold yl201_4
    rw [h31]
    by_cases h : x2 < D
    · have pb := ppr_b hD.2 hl (x2.toNat + 1) (by omega)
      have p5' := p5 (x2.toNat + 1) (by omega)
      have e : ppr lv (x2.toNat + 1) = ppr lv x2.toNat * (lv ((x2.toNat : Nat) : Int) + 1) := rfl
      rw [Int.toNat_of_nonneg b2.1] at e
      rw [if_pos h, if_pos ⟨b2.1, by omega⟩, if_pos (dm_f B b2.1 (show x2 < 8 by omega)).1, h10 x2 b2.1 h, b3, ← e, w32_id (by omega) (by omega), w32_id (by omega) (by omega)]
      exact ih _ _ _ ⟨rfl, ⟨by omega, by omega⟩, by rw [show (x2 + 1).toNat = x2.toNat + 1 by omega]⟩ (by omega)
    · rw [if_neg h, xH_ret]
      have ex : x2 = D := by omega
      exact ⟨rfl, by rw [b3, ex]⟩
theorem epf_b (hF : 0 ≤ F ∧ F ≤ 20000) (hdf : ∀ d k, 0 ≤ d → d < D → 0 ≤ k → k < lv d → 1 ≤ df d k ∧ df d k ≤ 1000) (hl : ∀ d, 0 ≤ d → d < D → 1 ≤ lv d ∧ lv d ≤ 4) {v : Int} : ∀ n : Nat, (n : Int) ≤ D → 0 ≤ epf lv D df F v n ∧ epf lv D df F v n ≤ 20001 := by
  intro n
  induction n with
  | zero => intro _; show (0 : Int) ≤ 1 ∧ (1 : Int) ≤ 20001; omega
  | succ n ih =>
    intro hn
    have a := ih (by omega)
    have vb := vdg_b (lv := lv) (D := D) (v := v) (fun d d0 d1 => by have := hl d d0 d1; omega) (show 0 ≤ (n : Int) by omega) (by omega)
    show 0 ≤ (if vdg lv D v n < lv n then min F (epf lv D df F v n * df n (vdg lv D v n)) else epf lv D df F v n) ∧ (if vdg lv D v n < lv n then min F (epf lv D df F v n * df n (vdg lv D v n)) else epf lv D df F v n) ≤ 20001
    by_cases h : vdg lv D v n < lv n
    · have q := hdf n (vdg lv D v n) (by omega) (by omega) vb.1 h
      have := Int.mul_nonneg a.1 (show 0 ≤ df n (vdg lv D v n) by omega)
      rw [if_pos h]; omega
    · rw [if_neg h]; exact a
theorem esf_b (hF : 0 ≤ F ∧ F ≤ 20000) (hD : 0 ≤ D) (hdf : ∀ d k, 0 ≤ d → d < D → 0 ≤ k → k < lv d → 1 ≤ df d k ∧ df d k ≤ 1000) (hl : ∀ d, 0 ≤ d → d < D → 1 ≤ lv d ∧ lv d ≤ 4) (v : Int) : 0 ≤ esf lv D df F v ∧ esf lv D df F v ≤ F := by
  have := epf_b (lv := lv) (D := D) (df := df) (v := v) hF hdf hl D.toNat (by omega)
  unfold esf
  omega
/-- estimate -/
theorem estimate_ok {v : Int} (hc : chs m lv D) (hF : 0 ≤ F ∧ F ≤ 20000) (hdf : ∀ d k, 0 ≤ d → d < D → 0 ≤ k → k < lv d → xR m (15 + 26 * d + 23) k = df d k ∧ 1 ≤ df d k ∧ df d k ≤ 1000) (v0 : 0 ≤ v) (v1 : v < 2147483648) : yf204 B v F m = some (.inl (esf lv D df F v), m) := by
  obtain ⟨hD, hlv, h31, h10, hV⟩ := id hc
  have bd := fun n hn => epf_b (lv := lv) (D := D) (df := df) (v := v) hF (fun d k d0 d1 k0 k1 => (hdf d k d0 d1 k0 k1).2) hlv n hn
  unfold yf204
  generalize hN : (1000000 : Nat) = N
  have goal := xH_ex (Q := fun s m' => m' = m ∧ s = esf lv D df F v) (xl4_rule (F := yl204_5 B) (fun x1 x2 x3 x5 m' => m' = m ∧ x1 = v ∧ x2 = F ∧ (0 ≤ x5 ∧ x5 ≤ D) ∧ x3 = epf lv D df F v x5.toNat) (fun _ _ _ x5 _ => (D - x5).toNat) ?_ N v F 1 0 m ⟨rfl, rfl, rfl, ⟨Int.le_refl _, by omega⟩, rfl⟩ (by omega))
  · obtain ⟨s, m', e, rfl, h⟩ := goal
    rw [e, h]
  · intro r x1 x2 x3 x5 m' ⟨b1, b2, b3, b4, b5⟩ ih
    subst b1 b2 b3
    unfold yl204_5
    rw [h31]
    have bx := bd x5.toNat (by omega)
    by_cases h : x5 < D
    · have lb : ∀ d, 0 ≤ d → d < D → 0 ≤ xR m' (15 + 26 * d) 10 ∧ xR m' (15 + 26 * d) 10 ≤ 4 := fun d d0 d1 => by rw [h10 d d0 d1]; have := hlv d d0 d1; omega
      have e : vdg (fun d => xR m' (15 + 26 * d) 10) D x1 x5 = vdg lv D x1 x5 := vdg_cg b4.1 h (fun d d0 d1 => h10 d d0 d1)
      have vb := vdg_b (lv := lv) (D := D) (v := x1) (fun d d0 d1 => by have := hlv d d0 d1; omega) b4.1 h
      have l4 := hlv x5 b4.1 h
      obtain ⟨o3, ⟨_, _, _, _, _, _, r6, _, _⟩, ⟨_, _, _, _, _, _, o6, _, _⟩, ⟨_, _, _, _, _, _, l6, _, _⟩⟩ := dm_f B b4.1 (show x5 < 8 by omega)
      have es : epf lv D df x2 x1 (x5.toNat + 1) = if vdg lv D x1 x5 < lv x5 then min x2 (epf lv D df x2 x1 x5.toNat * df x5 (vdg lv D x1 x5)) else epf lv D df x2 x1 x5.toNat := by
        show (if vdg lv D x1 ((x5.toNat : Nat) : Int) < lv ((x5.toNat : Nat) : Int) then _ else _) = _
        rw [Int.toNat_of_nonneg b4.1]
      rw [if_pos h, levelIn_ok (D := D) hD.2 h31 ⟨v0, v1⟩ lb b4.1 h, xB_ret, if_pos ⟨b4.1, by omega⟩, if_pos o3, e, h10 x5 b4.1 h]
      by_cases hk : vdg lv D x1 x5 < lv x5
      · obtain ⟨q1, q2, q3⟩ := hdf x5 (vdg lv D x1 x5) b4.1 h vb.1 hk
        have m0 := Int.mul_nonneg bx.1 (show 0 ≤ df x5 (vdg lv D x1 x5) by omega)
        have m1 := Int.mul_le_mul bx.2 q3 (by omega) (by omega)
        rw [if_pos hk, r6, l6, if_pos ⟨vb.1, by omega⟩, if_pos o6, q1, b5, w64_id (by omega) (by omega), w32_id (by omega) (by omega)]
        refine ih _ _ _ _ _ ⟨rfl, rfl, rfl, ⟨by omega, by omega⟩, ?_⟩ (by omega)
        rw [show (x5 + 1).toNat = x5.toNat + 1 by omega, es, if_pos hk]
      · rw [if_neg hk, w32_id (by omega) (by omega)]
        refine ih _ _ _ _ _ ⟨rfl, rfl, rfl, ⟨by omega, by omega⟩, ?_⟩ (by omega)
        rw [show (x5 + 1).toNat = x5.toNat + 1 by omega, es, if_neg hk, b5]
    · rw [if_neg h, xH_ret]
      have ex : x5 = D := by omega
      rw [b5, ex]
      rw [ex] at bx
      exact ⟨rfl, w32_id (by omega) (by omega)⟩
end PKC
