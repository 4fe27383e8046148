/-! THE ANSWER: what it holds behind some rows of a source (hl: the row holds; rk: ranks of its groups; cf: its facts; mo: its amounts) -/
noncomputable def ffc (S k : Int) (mk ls : Int → Int) (hl : Nat → Bool) (rk : Nat → Int → Int) (cf : Nat → Int) (κ : Int → Int) : Nat → Int
  | 0 => 0
  | J + 1 => if (hl J && mtc2 S k mk ls (rk J) κ) = true then w64 (ffc S k mk ls hl rk cf κ J + cf J) else ffc S k mk ls hl rk cf κ J
noncomputable def ffi (S k : Int) (mk ls : Int → Int) (K : Int) (hl : Nat → Bool) (rk : Nat → Int → Int) (cf : Nat → Int) (mo : Nat → Int) (κ : Int → Int) : Nat → Int
  | 0 => 0
  | J + 1 => if (hl J && mtc2 S k mk ls (rk J) κ) = true then aup K (ffc S k mk ls hl rk cf κ J) (ffi S k mk ls K hl rk cf mo κ J) (mo J) else ffi S k mk ls K hl rk cf mo κ J
/-- a key that must be there -/
def KV (S k : Int) (mk ls : Int → Int) (hl : Nat → Bool) (rk : Nat → Int → Int) (J : Nat) (κ : Int → Int) : Prop := (∃ j, j < J ∧ hl j = true ∧ mtc2 S k mk ls (rk j) κ = true) ∨ ∃ s, (0 ≤ s ∧ s < S) ∧ mk s = 0 ∧ ∀ g, 0 ≤ g → g < k → κ g = ls g
theorem KV_cg {S k : Int} {mk ls : Int → Int} {hl : Nat → Bool} {rk : Nat → Int → Int} {J : Nat} {κ κ' : Int → Int} (h : ∀ g, 0 ≤ g → g < k → κ' g = κ g) (V : KV S k mk ls hl rk J κ) : KV S k mk ls hl rk J κ' := by
  rcases V with ⟨j, j1, j2, j3⟩ | ⟨s, s0, s1, s2⟩
  · exact Or.inl ⟨j, j1, j2, by rw [mtc2_cg h]; exact j3⟩
  · exact Or.inr ⟨s, s0, s1, fun g g0 g1 => by rw [h g g0 g1]; exact s2 g g0 g1⟩
theorem KV_m {S k : Int} {mk ls : Int → Int} {hl : Nat → Bool} {rk : Nat → Int → Int} {J J' : Nat} {κ : Int → Int} (e : J ≤ J') (V : KV S k mk ls hl rk J κ) : KV S k mk ls hl rk J' κ := by
  rcases V with ⟨j, j1, j2, j3⟩ | V
  · exact Or.inl ⟨j, by omega, j2, j3⟩
  · exact Or.inr V
theorem ffc_cg {S k : Int} {mk ls : Int → Int} {hl : Nat → Bool} {rk : Nat → Int → Int} {cf : Nat → Int} {κ κ' : Int → Int} (h : ∀ g, 0 ≤ g → g < k → κ' g = κ g) : ∀ J, ffc S k mk ls hl rk cf κ' J = ffc S k mk ls hl rk cf κ J
  | 0 => rfl
  | J + 1 => by unfold ffc; rw [mtc2_cg h, ffc_cg h J]
theorem ffi_cg {S k K : Int} {mk ls : Int → Int} {hl : Nat → Bool} {rk : Nat → Int → Int} {cf mo : Nat → Int} {κ κ' : Int → Int} (h : ∀ g, 0 ≤ g → g < k → κ' g = κ g) : ∀ J, ffi S k mk ls K hl rk cf mo κ' J = ffi S k mk ls K hl rk cf mo κ J
  | 0 => rfl
  | J + 1 => by unfold ffi; rw [mtc2_cg h, ffc_cg h J, ffi_cg h J]
theorem ff_0 {S k : Int} {mk ls : Int → Int} {hl : Nat → Bool} {rk : Nat → Int → Int} {cf : Nat → Int} {κ : Int → Int} : ∀ J, (∀ j, j < J → hl j = true → ¬ mtc2 S k mk ls (rk j) κ = true) → ffc S k mk ls hl rk cf κ J = 0 ∧ ∀ K mo, ffi S k mk ls K hl rk cf mo κ J = 0
  | 0, _ => ⟨rfl, fun _ _ => rfl⟩
  | J + 1, h => by
    obtain ⟨h1, h2⟩ := ff_0 (cf := cf) J (fun j hj => h j (by omega))
    have n : ¬ (hl J && mtc2 S k mk ls (rk J) κ) = true := fun e => by
      rw [Bool.and_eq_true] at e
      exact h J (by omega) e.1 e.2
    refine ⟨?_, fun K mo => ?_⟩
    · unfold ffc; rw [if_neg n]; exact h1
    · unfold ffi; rw [if_neg n]; exact h2 K mo
def AS (m : xw_M) (t k it n S : Int) (mk ls K : Int → Int) (hl : Nat → Bool) (rk : Nat → Int → Int) (cf : Nat → Int) (mo : Nat → Int → Int) (J : Nat) : Prop := RT m t k n ∧ (∀ r, 0 ≤ r → r < n → xJ m (t + 39) r = ffc S k mk ls hl rk cf (fun g => xR m (t + 4 + g) r) J ∧ ∀ i, 0 ≤ i → i < it → xJ m (t + 13 + i) r = ffi S k mk ls (K i) hl rk cf (fun j => mo j i) (fun g => xR m (t + 4 + g) r) J) ∧ (∀ r, 0 ≤ r → r < n → KV S k mk ls hl rk J (fun g => xR m (t + 4 + g) r)) ∧ ∀ κ, KV S k mk ls hl rk J κ → ∃ r, (0 ≤ r ∧ r < n) ∧ ∀ g, 0 ≤ g → g < k → xR m (t + 4 + g) r = κ g
/-- too many keys -/
def AO (m : xw_M) (t k S : Int) (mk ls : Int → Int) (hl : Nat → Bool) (rk : Nat → Int → Int) (J : Nat) : Prop := xR m t 8 = 1 ∧ RT m t k 4000 ∧ (∀ r, 0 ≤ r → r < 4000 → KV S k mk ls hl rk J (fun g => xR m (t + 4 + g) r)) ∧ ∃ κ, KV S k mk ls hl rk J κ ∧ ∀ r, 0 ≤ r → r < 4000 → ¬ ∀ g, 0 ≤ g → g < k → xR m (t + 4 + g) r = κ g
section FLD
variable {t k it n S : Int} {mk ls K : Int → Int} {hl : Nat → Bool} {rk : Nat → Int → Int} {cf : Nat → Int} {mo : Nat → Int → Int} {J : Nat}
theorem as_skip {m : xw_M} (h : hl J = false) (A : AS m t k it n S mk ls K hl rk cf mo J) : AS m t k it n S mk ls K hl rk cf mo (J + 1) := by
  obtain ⟨a1, a2, a3, a4⟩ := A
  have nn : ∀ κ, ¬ (hl J && mtc2 S k mk ls (rk J) κ) = true := fun κ e => by rw [h] at e; simp at e
  refine ⟨a1, fun r r0 r1 => ⟨?_, fun i i0 i1 => ?_⟩, fun r r0 r1 => KV_m (by omega) (a3 r r0 r1), fun κ V => a4 κ ?_⟩
  · unfold ffc; rw [if_neg (nn _)]; exact (a2 r r0 r1).1
  · unfold ffi; rw [if_neg (nn _)]; exact (a2 r r0 r1).2 i i0 i1
  · rcases V with ⟨j, j1, j2, j3⟩ | V
    · by_cases e : j = J
      · rw [e, h] at j2; simp at j2
      · exact Or.inl ⟨j, by omega, j2, j3⟩
    · exact Or.inr V
theorem as_over {m m' : xw_M} (h : hl J = true) (A : AS m t k it n S mk ls K hl rk cf mo J) (O : OV m m' t k n S (rk J) ls mk) : AO m' t k S mk ls hl rk (J + 1) := by
  obtain ⟨a1, a2, a3, a4⟩ := A
  obtain ⟨o1, o2, o3, o4, o5, s, s1, o6⟩ := O
  refine ⟨o1, o2, fun r r0 r1 => ?_, fun g => skey (rk J) ls (mk s) g, Or.inl ⟨J, by omega, h, mtc2_t.mpr ⟨s, s1.1, s1.2, fun _ _ _ => rfl⟩⟩, o6⟩
  by_cases q : r < n
  · exact KV_m (by omega) (KV_cg (fun g g0 g1 => o4 r r0 q g g0 g1) (a3 r r0 q))
  · exact Or.inl ⟨J, by omega, h, o5 r (by omega) r1⟩
theorem as_step {m m' : xw_M} {n' : Int} (h : hl J = true) (hK : ∀ i, 0 ≤ i → i < it → xR m 224 i = K i) (A : AS m t k it n S mk ls K hl rk cf mo J) (M : AM m m' t k it n n' S (cf J) (mo J) (rk J) ls mk) : AS m' t k it n' S mk ls K hl rk cf mo (J + 1) := by
  obtain ⟨a1, a2, a3, a4⟩ := A
  obtain ⟨b1, b2, b3, b4, b5⟩ := M
  have old : ∀ r, 0 ≤ r → r < n → ∀ g, 0 ≤ g → g < k → xR m' (t + 4 + g) r = xR m (t + 4 + g) r := b3
  have new : ∀ r, n ≤ r → r < n' → ∀ j, j < J → hl j = true → ¬ mtc2 S k mk ls (rk j) (fun g => xR m' (t + 4 + g) r) = true := by
    intro r r0 r1 j j1 j2 j3
    obtain ⟨r', q, e⟩ := a4 _ (Or.inl ⟨j, j1, j2, j3⟩)
    have := b1.2.2.2 r' r q.1 (by omega) (by have := a1.2.1; omega) r1 (fun g g0 g1 => by rw [old r' q.1 q.2 g g0 g1]; exact e g g0 g1)
    omega
  have nn : 0 ≤ n := a1.2.1.1
  refine ⟨b1, fun r r0 r1 => ?_, fun r r0 r1 => ?_, fun κ V => ?_⟩
  · have h4 := b4 r r0 r1
    unfold ffc ffi
    by_cases c : mtc2 S k mk ls (rk J) (fun g => xR m' (t + 4 + g) r) = true
    · have cc : (hl J && mtc2 S k mk ls (rk J) (fun g => xR m' (t + 4 + g) r)) = true := by rw [h, c]; rfl
      rw [if_pos cc]
      rw [if_pos c] at h4
      by_cases d : r < n
      · rw [if_pos d] at h4
        have a := a2 r r0 d
        have e1 : ffc S k mk ls hl rk cf (fun g => xR m' (t + 4 + g) r) J = xJ m (t + 39) r := by rw [a.1]; exact ffc_cg (old r r0 d) J
        refine ⟨by rw [h4.1, e1], fun i i0 i1 => ?_⟩
        have e2 : ffi S k mk ls (K i) hl rk cf (fun j => mo j i) (fun g => xR m' (t + 4 + g) r) J = xJ m (t + 13 + i) r := by rw [a.2 i i0 i1]; exact ffi_cg (old r r0 d) J
        rw [if_pos cc, h4.2 i i0 i1, hK i i0 i1, e1, e2]
      · rw [if_neg d] at h4
        obtain ⟨z1, z2⟩ := ff_0 (cf := cf) J (new r (by omega) r1)
        refine ⟨by rw [h4.1, z1], fun i i0 i1 => ?_⟩
        rw [if_pos cc, h4.2 i i0 i1, hK i i0 i1, z1, z2]
    · have cc : ¬ (hl J && mtc2 S k mk ls (rk J) (fun g => xR m' (t + 4 + g) r)) = true := fun e => by
        rw [Bool.and_eq_true] at e; exact c e.2
      rw [if_neg cc]
      rw [if_neg c] at h4
      have a := a2 r r0 h4.1
      refine ⟨?_, fun i i0 i1 => ?_⟩
      · rw [h4.2.1, a.1]; exact (ffc_cg (old r r0 h4.1) J).symm
      · rw [if_neg cc, h4.2.2 i i0 i1, a.2 i i0 i1]; exact (ffi_cg (old r r0 h4.1) J).symm
  · by_cases d : r < n
    · exact KV_m (by omega) (KV_cg (old r r0 d) (a3 r r0 d))
    · have h4 := b4 r r0 r1
      by_cases c : mtc2 S k mk ls (rk J) (fun g => xR m' (t + 4 + g) r) = true
      · exact Or.inl ⟨J, by omega, h, c⟩
      · rw [if_neg c] at h4; exact absurd h4.1 d
  · have go : KV S k mk ls hl rk J κ → ∃ r, (0 ≤ r ∧ r < n') ∧ ∀ g, 0 ≤ g → g < k → xR m' (t + 4 + g) r = κ g := fun V => by
      obtain ⟨r, q, e⟩ := a4 κ V
      exact ⟨r, ⟨q.1, by omega⟩, fun g g0 g1 => by rw [old r q.1 q.2 g g0 g1]; exact e g g0 g1⟩
    rcases V with ⟨j, j1, j2, j3⟩ | V
    · by_cases e : j = J
      · rw [e] at j3
        obtain ⟨s, s0, s1, s2⟩ := mtc2_t.mp j3
        obtain ⟨r, q, e'⟩ := b5 s s0 s1
        exact ⟨r, q, fun g g0 g1 => by rw [e' g g0 g1, s2 g g0 g1]⟩
      · exact go (Or.inl ⟨j, by omega, j2, j3⟩)
    · exact go (Or.inr V)
end FLD
