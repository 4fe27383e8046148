/-! THE LEXER: characters, spaces, words, on either side -/
def lsp (x : Int) : Bool := decide (x = 32 ∨ x = 9 ∨ x = 10 ∨ x = 13)
def llt (x : Int) : Bool := decide ((97 ≤ x ∧ x ≤ 122) ∨ (65 ≤ x ∧ x ≤ 90))
def ldg (x : Int) : Bool := decide (48 ≤ x ∧ x ≤ 57)
def lwd (x : Int) : Bool := decide (((97 ≤ x ∧ x ≤ 122) ∨ (65 ≤ x ∧ x ≤ 90)) ∨ (48 ≤ x ∧ x ≤ 57) ∨ x = 95)
/-- a byte as the reference reads it -/
def ub (x : Int) : Int := x % 256
theorem ub_ok {x : Int} (h : w8 x = x) : xw_iandf x 255 = ub x := by
  have key : ∀ k : Nat, k < 256 → xw_iandf ((k : Int) - 128) 255 = ((k : Int) - 128) % 256 := by decide +kernel
  unfold w8 at h
  have q := key (x + 128).toNat (by omega)
  rw [Int.toNat_of_nonneg (by omega), show x + 128 - 128 = x by omega] at q
  exact q
theorem ub_eq {x y : Int} (h : w8 x = x) (y0 : 0 ≤ y) (y1 : y ≤ 127) : ub x = y ↔ x = y := by
  unfold w8 at h
  unfold ub
  omega
theorem ub_rg {x lo hi : Int} (h : w8 x = x) (y0 : 0 ≤ lo) (y1 : hi ≤ 127) : (lo ≤ ub x ∧ ub x ≤ hi) ↔ (lo ≤ x ∧ x ≤ hi) := by
  unfold w8 at h
  unfold ub
  omega
section LXC
variable {B : Nat} {m : xw_M}
theorem sp_ok {x : Int} : yf48 B x m = some (.inl (if lsp x = true then 1 else 0), m) := by
  unfold yf48 lsp
  by_cases h1 : x = 32
  · rw [if_pos h1, if_pos (decide_eq_true (Or.inl h1))]
  · rw [if_neg h1]
    by_cases h2 : x = 9
    · rw [if_pos h2, if_pos (decide_eq_true (Or.inr (Or.inl h2)))]
    · rw [if_neg h2]
      by_cases h3 : x = 10
      · rw [if_pos h3, if_pos (decide_eq_true (Or.inr (Or.inr (Or.inl h3))))]
      · rw [if_neg h3]
        by_cases h4 : x = 13
        · rw [if_pos h4, if_pos (decide_eq_true (Or.inr (Or.inr (Or.inr h4))))]
        · rw [if_neg h4, if_neg (by rw [decide_eq_true_eq]; omega)]
theorem lt_ok {x : Int} : yf49 B x m = some (.inl (if llt x = true then 1 else 0), m) := by
  unfold yf49 yk49_12 llt
  by_cases h : (97 ≤ x ∧ x ≤ 122) ∨ (65 ≤ x ∧ x ≤ 90)
  · rw [if_pos (decide_eq_true h)]
    rcases h with h | h
    · rw [if_neg (by omega), if_neg (by omega)]
    · rw [if_pos (by omega), if_neg (by omega), if_neg (by omega)]
  · rw [decide_eq_false h, if_neg (show ¬ ((false : Bool) = true) by decide)]
    by_cases a1 : x < 97
    · rw [if_pos a1]
      by_cases a2 : x < 65
      · rw [if_pos a2]
      · rw [if_neg a2, if_pos (by omega)]
    · rw [if_neg a1, if_pos (by omega), if_neg (by omega), if_pos (by omega)]
theorem wd_ok {x : Int} : yf50 B x m = some (.inl (if lwd x = true then 1 else 0), m) := by
  unfold yf50 yk50_12 yk50_24 yk50_36 lwd
  by_cases h : ((97 ≤ x ∧ x ≤ 122) ∨ (65 ≤ x ∧ x ≤ 90)) ∨ (48 ≤ x ∧ x ≤ 57) ∨ x = 95
  · rw [if_pos (decide_eq_true h)]
    rcases h with (h | h) | h | h
    · rw [if_neg (by omega), if_neg (by omega)]
    · rw [if_pos (by omega), if_neg (by omega), if_neg (by omega)]
    · rw [if_pos (by omega), if_pos (by omega), if_neg (by omega), if_neg (by omega)]
    · rw [if_pos (by omega), if_neg (by omega), if_pos (by omega), if_neg (by omega), if_pos (by omega), if_pos h]
  · rw [decide_eq_false h, if_neg (show ¬ ((false : Bool) = true) by decide)]
    have e : (if x = 95 then some (.inl 1, m) else some (.inl 0, m) : xP) = some (.inl 0, m) := if_neg (by omega)
    rw [e]
    have e2 : (if x < 48 then some (.inl 0, m) else if 57 < x then some (.inl 0, m) else some (.inl 1, m) : xP) = some (.inl 0, m) := by
      by_cases a : x < 48
      · rw [if_pos a]
      · rw [if_neg a, if_pos (by omega)]
    rw [e2]
    have e3 : (if x < 65 then some (.inl 0, m) else if 90 < x then some (.inl 0, m) else some (.inl 1, m) : xP) = some (.inl 0, m) := by
      by_cases a : x < 65
      · rw [if_pos a]
      · rw [if_neg a, if_pos (by omega)]
    rw [e3]
    by_cases a : x < 97
    · rw [if_pos a]
    · rw [if_neg a, if_pos (by omega)]
/-- the reference's own -/
theorem rlt_ok {x : Int} : yf250 B x m = some (.inl (if llt x = true then 1 else 0), m) := by
  unfold yf250 yk250_12 llt
  by_cases h : (97 ≤ x ∧ x ≤ 122) ∨ (65 ≤ x ∧ x ≤ 90)
  · rw [if_pos (decide_eq_true h)]
    rcases h with h | h
    · rw [if_neg (by omega), if_pos (by omega), if_neg (by omega), if_neg (by omega)]
    · rw [if_neg (by omega), if_neg (by omega)]
  · rw [decide_eq_false h, if_neg (show ¬ ((false : Bool) = true) by decide)]
    by_cases a1 : x < 65
    · rw [if_pos a1, if_pos (by omega)]
    · rw [if_neg a1, if_pos (by omega)]
      by_cases a2 : x < 97
      · rw [if_pos a2]
      · rw [if_neg a2, if_pos (by omega)]
theorem rdg_ok {x : Int} : yf251 B x m = some (.inl (if ldg x = true then 1 else 0), m) := by
  unfold yf251 ldg
  by_cases h : 48 ≤ x ∧ x ≤ 57
  · rw [if_pos (decide_eq_true h), if_neg (by omega), if_neg (by omega)]
  · rw [decide_eq_false h, if_neg (show ¬ ((false : Bool) = true) by decide)]
    by_cases a1 : x < 48
    · rw [if_pos a1]
    · rw [if_neg a1, if_pos (by omega)]
/-- the character at p, 0 behind the text's end -/
theorem rch_ok {p n : Int} (h5 : xR m 536 5 = n) (n1 : n ≤ 65536) (p0 : 0 ≤ p) (h8 : p < n → w8 (xR m 537 p) = xR m 537 p) : yf249 B p m = some (.inl (if p < n then ub (xR m 537 p) else 0), m) := by
  unfold yf249
  rw [h5]
  by_cases h : p < n
  · rw [if_pos h, if_pos h, if_pos ⟨p0, by omega⟩, ub_ok (h8 h)]
  · rw [if_neg h, if_neg h]
/-- the first place from p on, at most k further, where P does not hold -/
def skp (P : Int → Bool) (T : Int → Int) : Int → Nat → Int
  | p, 0 => p
  | p, k + 1 => if P (T p) = true then skp P T (p + 1) k else p
theorem skp_b {P : Int → Bool} {T : Int → Int} : ∀ (k : Nat) (p : Int), p ≤ skp P T p k ∧ skp P T p k ≤ p + k := by
  intro k
  induction k with
  | zero => intro p; exact ⟨Int.le_refl _, by show p ≤ p + 0; omega⟩
  | succ k ih =>
    intro p
    show p ≤ (if P (T p) = true then skp P T (p + 1) k else p) ∧ (if P (T p) = true then skp P T (p + 1) k else p) ≤ p + ((k + 1 : Nat) : Int)
    have := ih (p + 1)
    split <;> omega
theorem skp_cg {P P' : Int → Bool} {T T' : Int → Int} : ∀ (k : Nat) (p : Int), (∀ q, p ≤ q → q < p + k → P (T q) = P' (T' q)) → skp P T p k = skp P' T' p k := by
  intro k
  induction k with
  | zero => intro p _; rfl
  | succ k ih =>
    intro p h
    show (if P (T p) = true then skp P T (p + 1) k else p) = (if P' (T' p) = true then skp P' T' (p + 1) k else p)
    rw [h p (Int.le_refl _) (by omega), ih (p + 1) (fun q h1 h2 => h q (by omega) (by omega))]
theorem skp_go {P : Int → Bool} {T : Int → Int} {p n : Int} (h : p < n) (hp : P (T p) = true) : skp P T p (n - p).toNat = skp P T (p + 1) (n - (p + 1)).toNat := by
  rw [show (n - p).toNat = (n - (p + 1)).toNat + 1 by omega]
  show (if P (T p) = true then skp P T (p + 1) _ else p) = _
  rw [if_pos hp]
theorem skp_no {P : Int → Bool} {T : Int → Int} {p n : Int} (hp : P (T p) ≠ true) : skp P T p (n - p).toNat = p := by
  generalize (n - p).toNat = k
  cases k with
  | zero => rfl
  | succ k =>
    show (if P (T p) = true then skp P T (p + 1) _ else p) = _
    rw [if_neg hp]
theorem skp_end {P : Int → Bool} {T : Int → Int} {p n : Int} (h : n ≤ p) : skp P T p (n - p).toNat = p := by
  rw [show (n - p).toNat = 0 by omega]; rfl
/-- spaces, by the class -/
theorem skip_cl {n p : Int} (h1 : xR m 1 1 = n) (n1 : n ≤ 65536) (h2 : xR m 1 2 = p) (p0 : 0 ≤ p) (p1 : p ≤ 65536) {Q : Int → xw_M → Prop} {X : Nat → xw_M → Prop} (fin : ∀ m', (∀ a, a ≠ 1 → m' a = m a) → (∀ k, k ≠ 2 → m' 1 k = m 1 k) → xR m' 1 2 = skp lsp (xR m 2) p (n - p).toNat → xH (yk47_39 B m') Q X) : xH (yf47 B m) Q X := by
  unfold yf47
  have gen : ∀ N : Nat, 70000 < N → xH (xl0 (yl47_0 B) N m) Q X := by
    intro N hN
    refine xl0_rule (F := yl47_0 B) (fun m' => (∀ a, a ≠ 1 → m' a = m a) ∧ (∀ k, k ≠ 2 → m' 1 k = m 1 k) ∧ (p ≤ xR m' 1 2 ∧ xR m' 1 2 ≤ 65536) ∧ skp lsp (xR m 2) (xR m' 1 2) (n - xR m' 1 2).toNat = skp lsp (xR m 2) p (n - p).toNat) (fun m' => (65536 - xR m' 1 2).toNat) ?_ N m ⟨fun _ _ => rfl, fun _ _ => rfl, by omega, by rw [h2]⟩ (by omega)
    intro r m' ⟨f1, f2, f3, f4⟩ ih
    unfold yl47_0
    rw [xR_fld (f2 1 (by omega)), h1]
    by_cases h : xR m' 1 2 < n
    · rw [if_pos h, if_pos ⟨by omega, by omega⟩, sp_ok, xB_ret, xR_cg (f1 2 (by omega))]
      by_cases hs : lsp (xR m 2 (xR m' 1 2)) = true
      · rw [if_pos hs, if_neg (by decide)]
        have z : xR (xw_u m' 1 2 (xR m' 1 2 + 1)) 1 2 = xR m' 1 2 + 1 := xR_at (w32_id (by omega) (by omega))
        refine ih _ ⟨fun a ha => by rw [xu_c ha]; exact f1 a ha, fun k hk => by rw [xu_ne (by omega)]; exact f2 k hk, by rw [z]; omega, by rw [z, ← skp_go h hs]; exact f4⟩ (by rw [z]; omega)
      · rw [if_neg hs, if_pos rfl]
        exact fin m' f1 f2 (by rw [← f4, skp_no hs])
    · rw [if_neg h]
      exact fin m' f1 f2 (by rw [← f4, skp_end (by omega)])
  exact gen 1000000 (by decide)
/-- a word's end, by the class -/
theorem word_cl {n p : Int} (h1 : xR m 1 1 = n) (n1 : n ≤ 65536) (h2 : xR m 1 2 = p) (p0 : 0 ≤ p) (p1 : p ≤ 65536) {Q : Int → xw_M → Prop} {X : Nat → xw_M → Prop} (fin : ∀ m', (∀ a, a ≠ 1 → m' a = m a) → (∀ k, k ≠ 2 → m' 1 k = m 1 k) → xR m' 1 2 = skp lwd (xR m 2) p (n - p).toNat → xH (yk47_120 B m') Q X) : xH (xl0 (yl47_81 B) 1000000 m) Q X := by
  have gen : ∀ N : Nat, 70000 < N → xH (xl0 (yl47_81 B) N m) Q X := by
    intro N hN
    refine xl0_rule (F := yl47_81 B) (fun m' => (∀ a, a ≠ 1 → m' a = m a) ∧ (∀ k, k ≠ 2 → m' 1 k = m 1 k) ∧ (p ≤ xR m' 1 2 ∧ xR m' 1 2 ≤ 65536) ∧ skp lwd (xR m 2) (xR m' 1 2) (n - xR m' 1 2).toNat = skp lwd (xR m 2) p (n - p).toNat) (fun m' => (65536 - xR m' 1 2).toNat) ?_ N m ⟨fun _ _ => rfl, fun _ _ => rfl, by omega, by rw [h2]⟩ (by omega)
    intro r m' ⟨f1, f2, f3, f4⟩ ih
    unfold yl47_81
    rw [xR_fld (f2 1 (by omega)), h1]
    by_cases h : xR m' 1 2 < n
    · rw [if_pos h, if_pos ⟨by omega, by omega⟩, wd_ok, xB_ret, xR_cg (f1 2 (by omega))]
      by_cases hs : lwd (xR m 2 (xR m' 1 2)) = true
      · rw [if_pos hs, if_neg (by decide)]
        have z : xR (xw_u m' 1 2 (xR m' 1 2 + 1)) 1 2 = xR m' 1 2 + 1 := xR_at (w32_id (by omega) (by omega))
        refine ih _ ⟨fun a ha => by rw [xu_c ha]; exact f1 a ha, fun k hk => by rw [xu_ne (by omega)]; exact f2 k hk, by rw [z]; omega, by rw [z, ← skp_go h hs]; exact f4⟩ (by rw [z]; omega)
      · rw [if_neg hs, if_pos rfl]
        exact fin m' f1 f2 (by rw [← f4, skp_no hs])
    · rw [if_neg h]
      exact fin m' f1 f2 (by rw [← f4, skp_end (by omega)])
  exact gen 1000000 (by decide)
end LXC
