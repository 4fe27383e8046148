/-! A COLUMN'S SURVEY: least, greatest, steps, stretches; of the class, and of the reference -/
theorem xH_ex {o : xP} {Q : Int → xw_M → Prop} (h : xH o Q (fun _ _ => False)) : ∃ v m', o = some (.inl v, m') ∧ Q v m' := by
  cases o with
  | none => exact h.elim
  | some z =>
    obtain ⟨z, m⟩ := z
    cases z with
    | inl v => exact ⟨v, m, rfl, h⟩
    | inr t => exact h.elim
def stp (f : Int → Int) (i : Int) : Int := w64 (f i - f (i - 1))
def svL (f : Int → Int) : Nat → Int
  | 0 => f 0
  | k + 1 => min (svL f k) (f ((k : Nat) + 1))
def svH (f : Int → Int) : Nat → Int
  | 0 => f 0
  | k + 1 => max (svH f k) (f ((k : Nat) + 1))
def stL (f : Int → Int) : Nat → Int
  | 0 => stp f 1
  | k + 1 => min (stL f k) (stp f ((k : Nat) + 1))
def stH (f : Int → Int) : Nat → Int
  | 0 => stp f 1
  | k + 1 => max (stH f k) (stp f ((k : Nat) + 1))
def svR (f : Int → Int) : Nat → Int
  | 0 => 1
  | k + 1 => svR f k + (if stp f ((k : Nat) + 1) = 0 then 0 else 1)
theorem stp_w (f : Int → Int) (i : Int) : w64 (stp f i) = stp f i := w64_w _
theorem svL_w {f : Int → Int} (hf : ∀ i, w64 (f i) = f i) (k : Nat) : w64 (svL f k) = svL f k := by
  induction k with
  | zero => exact hf 0
  | succ k ih => exact w64_mn ih (hf _)
theorem svH_w {f : Int → Int} (hf : ∀ i, w64 (f i) = f i) (k : Nat) : w64 (svH f k) = svH f k := by
  induction k with
  | zero => exact hf 0
  | succ k ih => exact w64_mx ih (hf _)
theorem stL_w (f : Int → Int) (k : Nat) : w64 (stL f k) = stL f k := by
  induction k with
  | zero => exact stp_w f 1
  | succ k ih => exact w64_mn ih (stp_w f _)
theorem stH_w (f : Int → Int) (k : Nat) : w64 (stH f k) = stH f k := by
  induction k with
  | zero => exact stp_w f 1
  | succ k ih => exact w64_mx ih (stp_w f _)
theorem svR_b (f : Int → Int) (k : Nat) : 1 ≤ svR f k ∧ svR f k ≤ k + 1 := by
  induction k with
  | zero => exact ⟨Int.le_refl 1, Int.le_refl 1⟩
  | succ k ih =>
    unfold svR
    split <;> omega
theorem svLH (f : Int → Int) (k : Nat) : ∀ i : Nat, i ≤ k → svL f k ≤ f i ∧ f i ≤ svH f k := by
  induction k with
  | zero =>
    intro i hi
    have : i = 0 := by omega
    subst this
    exact ⟨Int.le_refl _, Int.le_refl _⟩
  | succ k ih =>
    intro i hi
    unfold svL svH
    by_cases h : i ≤ k
    · have := ih i h
      omega
    · have : i = k + 1 := by omega
      subst this
      rw [show ((k : Nat) : Int) + 1 = ((k + 1 : Nat) : Int) from by omega]
      omega
theorem stLH (f : Int → Int) (k : Nat) : ∀ i : Nat, 1 ≤ i → i ≤ k → stL f k ≤ stp f i ∧ stp f i ≤ stH f k := by
  induction k with
  | zero => intro i h1 h2; omega
  | succ k ih =>
    intro i h1 hi
    unfold stL stH
    by_cases h : i ≤ k
    · have := ih i h1 h
      omega
    · have : i = k + 1 := by omega
      subst this
      rw [show ((k : Nat) : Int) + 1 = ((k + 1 : Nat) : Int) from by omega]
      omega
/-- what a survey of n cells finds, in the tape's fields -/
def SV (m : xw_M) (f : Int → Int) (n : Int) (k : Nat) : Prop := xJ m 518 11 = svL f k ∧ xJ m 518 12 = svH f k ∧ xR m 518 10 = svR f k ∧ xJ m 518 13 = (if 1 < n then stL f k else 0) ∧ xJ m 518 14 = (if 1 < n then stH f k else 0)
theorem survey_ok {B : Nat} {m : xw_M} {c n : Int} (hc : xw_obb 17 c = true) (hle : xw_le B c = 1024) (hcn : c ≠ 518) (hn : 1 ≤ n) (hn2 : n ≤ 1024) : ∃ m', yf184 B 518 c n m = some (.inl 0, m') ∧ SV m' (xJ m c) n (n - 1).toNat ∧ (∀ a, a ≠ 518 → m' a = m a) ∧ (∀ k, k < 10 → m' 518 k = m 518 k) := by
  have hf : ∀ i, w64 (xJ m c i) = xJ m c i := fun i => w64_w _
  have loop : ∀ m1, SV m1 (xJ m c) n 0 → (∀ a, a ≠ 518 → m1 a = m a) → (∀ k, k < 10 → m1 518 k = m 518 k) → ∃ m', xl4 (yl184_49 B) 1000000 518 c n 1 m1 = some (.inl 0, m') ∧ SV m' (xJ m c) n (n - 1).toNat ∧ (∀ a, a ≠ 518 → m' a = m a) ∧ (∀ k, k < 10 → m' 518 k = m 518 k) := by
    intro m1 s1 s2 s3
    have := xH_ex (Q := fun v m' => v = 0 ∧ SV m' (xJ m c) n (n - 1).toNat ∧ (∀ a, a ≠ 518 → m' a = m a) ∧ (∀ k, k < 10 → m' 518 k = m 518 k)) (xl4_rule (F := yl184_49 B) (fun x0 x1 x2 x3 m' => x0 = 518 ∧ x1 = c ∧ x2 = n ∧ 1 ≤ x3 ∧ x3 ≤ n ∧ SV m' (xJ m c) n (x3 - 1).toNat ∧ (∀ a, a ≠ 518 → m' a = m a) ∧ (∀ k, k < 10 → m' 518 k = m 518 k)) (fun _ _ _ x3 _ => (n - x3).toNat) ?_ 1000000 518 c n 1 m1 ⟨rfl, rfl, rfl, by omega, hn, s1, s2, s3⟩ (by omega))
    · obtain ⟨v, m', e, rfl, h⟩ := this
      exact ⟨m', e, h⟩
    · intro r x0 x1 x2 x3 m2 ⟨e0, e1, e2, h1, h2, sv, f1, f2⟩ ih
      subst e0 e1 e2
      unfold yl184_49
      have rd : ∀ i, xJ m2 x1 i = xJ m x1 i := fun i => by unfold xJ; rw [f1 x1 hcn]
      by_cases h : x3 < x2
      · rw [if_pos h, if_pos ⟨by omega, by omega⟩, if_pos hc, if_pos ⟨by omega, by omega⟩, if_pos (by decide), w32_id (by omega) (by omega), rd, rd]
        have ek : (x3 + 1 - 1).toNat = (x3 - 1).toNat + 1 := by omega
        have ei : (((x3 - 1).toNat : Nat) : Int) + 1 = x3 := by omega
        obtain ⟨a1, a2, a3, a4, a5⟩ := sv
        have rb := svR_b (xJ m x1) (x3 - 1).toNat
        split
        · next hz =>
          refine ih _ _ _ _ _ ⟨rfl, rfl, rfl, by omega, by omega, ⟨?_, ?_, ?_, ?_, ?_⟩, ?_, ?_⟩ (by omega)
          · rw [ek]
            simp only [xJ_u, svL, ei, a1]
            simp
            exact w64_mn (svL_w hf _) (hf _)
          · rw [ek]
            simp only [xJ_u, svH, ei, a2]
            simp
            exact w64_mx (svH_w hf _) (hf _)
          · rw [ek]
            have hs : stp (xJ m x1) x3 = 0 := hz
            simp only [xR_u, svR, ei, a3, if_pos hs]
            simp
          · rw [ek]
            simp only [xJ_u, stL, ei, a4]
            simp
            rw [if_pos (by omega), if_pos (by omega)]
            exact w64_mn (stL_w _ _) (stp_w _ _)
          · rw [ek]
            simp only [xJ_u, stH, ei, a5]
            simp
            rw [if_pos (by omega), if_pos (by omega)]
            exact w64_mx (stH_w _ _) (stp_w _ _)
          · intro a ha
            rw [xu_c ha, xu_c ha, xu_c ha, xu_c ha]
            exact f1 a ha
          · intro k hk
            unfold xw_u
            rw [if_neg (by omega), if_neg (by omega), if_neg (by omega), if_neg (by omega)]
            exact f2 k hk
        · next hz =>
          refine ih _ _ _ _ _ ⟨rfl, rfl, rfl, by omega, by omega, ⟨?_, ?_, ?_, ?_, ?_⟩, ?_, ?_⟩ (by omega)
          · rw [ek]
            simp only [xJ_u, svL, ei, a1]
            simp
            exact w64_mn (svL_w hf _) (hf _)
          · rw [ek]
            simp only [xJ_u, svH, ei, a2]
            simp
            exact w64_mx (svH_w hf _) (hf _)
          · rw [ek]
            have hs : ¬ stp (xJ m x1) x3 = 0 := hz
            simp only [xR_u, svR, ei, a3, if_neg hs, w32_id (show -2147483648 ≤ svR (xJ m x1) (x3 - 1).toNat + 1 by omega) (by omega)]
            simp
          · rw [ek]
            simp only [xJ_u, stL, ei, a4]
            simp
            rw [if_pos (by omega), if_pos (by omega)]
            exact w64_mn (stL_w _ _) (stp_w _ _)
          · rw [ek]
            simp only [xJ_u, stH, ei, a5]
            simp
            rw [if_pos (by omega), if_pos (by omega)]
            exact w64_mx (stH_w _ _) (stp_w _ _)
          · intro a ha
            rw [xu_c ha, xu_c ha, xu_c ha, xu_c ha, xu_c ha]
            exact f1 a ha
          · intro k hk
            unfold xw_u
            rw [if_neg (by omega), if_neg (by omega), if_neg (by omega), if_neg (by omega), if_neg (by omega)]
            exact f2 k hk
      · rw [if_neg h, xH_ret]
        have : x3 = x2 := by omega
        subst this
        exact ⟨rfl, sv, f1, f2⟩
  unfold yf184
  rw [if_pos ⟨by omega, by omega⟩, if_pos hc, if_pos (by decide)]
  have j0 : xJ m c 0 = w64 (m c 0) := rfl
  by_cases h : 1 < n
  · rw [if_pos h, if_pos ⟨by omega, by omega⟩]
    refine loop _ ⟨?_, ?_, ?_, ?_, ?_⟩ ?_ ?_
    · simp only [xJ_u, svL]
      simp
      exact hf 0
    · simp only [xJ_u, svH]
      simp
      exact hf 0
    · simp only [xR_u, svR]
      simp
      decide
    · simp only [xJ_u, stL, if_pos h]
      simp
      rfl
    · simp only [xJ_u, stH, if_pos h]
      simp
      exact w64_w _
    · intro a ha
      rw [xu_c ha, xu_c ha, xu_c ha, xu_c ha, xu_c ha]
    · intro k hk
      unfold xw_u
      rw [if_neg (by omega), if_neg (by omega), if_neg (by omega), if_neg (by omega), if_neg (by omega)]
  · rw [if_neg h]
    refine loop _ ⟨?_, ?_, ?_, ?_, ?_⟩ ?_ ?_
    · simp only [xJ_u, svL]
      simp
      exact hf 0
    · simp only [xJ_u, svH]
      simp
      exact hf 0
    · simp only [xR_u, svR]
      simp
      decide
    · simp only [xJ_u, if_neg h]
      simp
      decide
    · simp only [xJ_u, if_neg h]
      simp
      decide
    · intro a ha
      rw [xu_c ha, xu_c ha, xu_c ha, xu_c ha, xu_c ha]
    · intro k hk
      unfold xw_u
      rw [if_neg (by omega), if_neg (by omega), if_neg (by omega), if_neg (by omega), if_neg (by omega)]
