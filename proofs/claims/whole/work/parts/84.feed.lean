/-! OPERATIONS: what is asked of one call; feed, trim, fault, state, writes -/
/-- nothing of the answer is another -/
def anF (m m' : xw_M) : Prop := (xR m' 536 3 = 1 → xR m 536 3 = 1) ∧ (∀ k, k = 12 ∨ k = 13 → m' 0 k = m 0 k) ∧ (∀ a, 420 ≤ a → a ≤ 507 → m' a = m a) ∧ (∀ k, k = 22 ∨ k = 23 ∨ k = 24 ∨ k = 65 ∨ k = 66 ∨ k = 73 ∨ k = 74 → m' 536 k = m 536 k) ∧ ∀ a, (544 ≤ a ∧ a ≤ 571) ∨ (595 ≤ a ∧ a ≤ 602) → m' a = m a
/-- there is no answer -/
def anN (m : xw_M) : Prop := xR m (m 0 12) 7 = 0 ∧ xR m 536 24 = 0
def ag1 (r : Int ⊕ Nat) (cd v : Int) : Prop := (r = .inl v ∧ cd = 0) ∨ (r = .inr 14 ∧ cd = 1)
def ag2 (r : Int ⊕ Nat) (cd v : Int) : Prop := (r = .inl v ∧ cd = 0) ∨ (r = .inr 15 ∧ cd = 1) ∨ (r = .inr 14 ∧ cd = 2)
def ag3 (r : Int ⊕ Nat) (cd v : Int) : Prop := (r = .inl v ∧ cd = 0) ∨ (r = .inr 15 ∧ cd = 1)
/-- one call: of the class (F), then of the reference (G); between them the answer's cell 604 is written -/
def opOk (B : Nat) (c : Int) (m : xw_M) (F G : xw_M → xP) (ag : Int ⊕ Nat → Int → Int → Prop) : Prop := ∃ r m1, F m = some (r, m1) ∧ ∀ m1', (∀ a, a ≠ 604 → m1' a = m1 a) → ∃ v m2, G m1' = some (.inl v, m2) ∧ Inw B (c + 1) m2 ∧ (anF m m2 ∨ anN m2) ∧ ag r (xR m2 536 1) v
/-- the bytes of an int, the highest first -/
def bx (x j : Int) : Int := w8 (w8 (xw_ishrf x (24 - 8 * j)))
def tq (m m' : xw_M) (s : Int) (x : Int) (ce be : Int) (fl : Int) : Prop := xR m' ce fl = s + 4 ∧ (∀ k, k ≠ fl → m' ce k = m ce k) ∧ (∀ a, a ≠ ce → a ≠ be → m' a = m a) ∧ (∀ i, i < s ∨ s + 4 ≤ i → m' be i = m be i) ∧ ∀ j, 0 ≤ j → j < 4 → m' be (s + j) = bx x j
section FEED
variable {B : Nat} {m : xw_M} {c : Int}
theorem app_ok {x s : Int} (hs : xR m 1 1 = s) (s0 : 0 ≤ s) (s1 : s + 4 ≤ 65536) : ∃ m', yf40 B x m = some (.inl 0, m') ∧ tq m m' s x 1 2 1 := by
  unfold yf40
  have st : ∀ (n : Nat) (m1 : xw_M) (y t : Int), 0 ≤ y → xR m1 1 1 = t → 0 ≤ t → t < 65536 → xl2 (yl40_3 B) (n + 1) x y m1 = xl2 (yl40_3 B) n x (w32 (y + (-8))) (xw_u (xw_u m1 1 1 (t + 1)) 2 t (w8 (w8 (xw_ishrf x y)))) := by
    intro n m1 y t y0 ht t0 t1
    show yl40_3 B (xl2 (yl40_3 B) n) x y m1 = _
    unfold yl40_3
    rw [if_neg (by omega), ht, if_pos ⟨t0, t1⟩]
  have len : ∀ (m1 : xw_M) (t b : Int), 0 ≤ t → t < 65536 → xR (xw_u (xw_u m1 1 1 (t + 1)) 2 t b) 1 1 = t + 1 := fun m1 t b t0 t1 => by
    rw [xR_ne (by omega), xR_at (w32_id (by omega) (by omega))]
  rw [show (1000000 : Nat) = 999995 + 1 + 1 + 1 + 1 + 1 from rfl]
  rw [st _ _ _ s (by omega) hs s0 (by omega), w32_id (by omega) (by omega), st _ _ _ (s + 1) (by omega) (len _ _ _ s0 (by omega)) (by omega) (by omega), w32_id (by omega) (by omega), st _ _ _ (s + 1 + 1) (by omega) (len _ _ _ (by omega) (by omega)) (by omega) (by omega), w32_id (by omega) (by omega), st _ _ _ (s + 1 + 1 + 1) (by omega) (len _ _ _ (by omega) (by omega)) (by omega) (by omega), w32_id (by omega) (by omega)]
  refine ⟨_, rfl, ?_, fun k hk => ?_, fun a a1 a2 => ?_, fun i hi => ?_, fun j j0 j1 => ?_⟩
  · rw [len _ _ _ (by omega) (by omega)]; omega
  · rw [xu_ne (by omega), xu_ne (by omega), xu_ne (by omega), xu_ne (by omega), xu_ne (by omega), xu_ne (by omega), xu_ne (by omega), xu_ne (by omega)]
  · rw [xu_c a2, xu_c a1, xu_c a2, xu_c a1, xu_c a2, xu_c a1, xu_c a2, xu_c a1]
  · rw [xu_ne (by omega), xu_ne (by omega), xu_ne (by omega), xu_ne (by omega), xu_ne (by omega), xu_ne (by omega), xu_ne (by omega), xu_ne (by omega)]
  · have hj : j = 0 ∨ j = 1 ∨ j = 2 ∨ j = 3 := by omega
    unfold bx
    rcases hj with rfl | rfl | rfl | rfl
    · rw [xu_ne (by omega), xu_ne (by omega), xu_ne (by omega), xu_ne (by omega), xu_ne (by omega), xu_ne (by omega), show s + 0 = s by omega, xw_us]; rfl
    · rw [xu_ne (by omega), xu_ne (by omega), xu_ne (by omega), xu_ne (by omega), xw_us]; rfl
    · rw [xu_ne (by omega), xu_ne (by omega), show s + 2 = s + 1 + 1 by omega, xw_us]; rfl
    · rw [show s + 3 = s + 1 + 1 + 1 by omega, xw_us]; rfl
theorem lay_ok {x s : Int} (hx : w32 x = x) (hs : xR m 536 5 = s) (s0 : 0 ≤ s) (s1 : s + 4 ≤ 65536) : ∃ m', yf245 B x m = some (.inl 0, m') ∧ tq m m' s x 536 537 5 := by
  unfold yf245
  rw [hs, if_pos ⟨s0, by omega⟩, if_pos ⟨by omega, by omega⟩, if_pos ⟨by omega, by omega⟩, if_pos ⟨by omega, by omega⟩]
  refine ⟨_, rfl, ?_, fun k hk => ?_, fun a a1 a2 => ?_, fun i hi => ?_, fun j j0 j1 => ?_⟩
  · rw [xR_at (w32_id (by omega) (by omega))]
  · rw [xu_ne (by omega), xu_ne (by omega), xu_ne (by omega), xu_ne (by omega), xu_ne (by omega)]
  · rw [xu_c a1, xu_c a2, xu_c a2, xu_c a2, xu_c a2]
  · rw [xu_ne (by omega), xu_ne (by omega), xu_ne (by omega), xu_ne (by omega), xu_ne (by omega)]
  · have hj : j = 0 ∨ j = 1 ∨ j = 2 ∨ j = 3 := by omega
    unfold bx
    rcases hj with rfl | rfl | rfl | rfl
    · rw [xu_ne (by omega), xu_ne (by omega), xu_ne (by omega), xu_ne (by omega), show s + 0 = s by omega, xw_us]; rfl
    · rw [xu_ne (by omega), xu_ne (by omega), xu_ne (by omega), xw_us]; rfl
    · rw [xu_ne (by omega), xu_ne (by omega), xw_us]; rfl
    · rw [xu_ne (by omega), xw_us]
      have := ishr_d hx (s := 0) (by decide)
      rw [show (24 : Int) - 8 * 3 = ((0 : Nat) : Int) from rfl, this]
      simp
/-- five ints more -/
def t5 (m m' : xw_M) (s : Int) (a b c d e : Int) (ce be : Int) (fl : Int) : Prop := xR m' ce fl = s + 20 ∧ (∀ k, k ≠ fl → m' ce k = m ce k) ∧ (∀ x, x ≠ ce → x ≠ be → m' x = m x) ∧ (∀ i, i < s ∨ s + 20 ≤ i → m' be i = m be i) ∧ ∀ j, 0 ≤ j → j < 4 → m' be (s + j) = bx a j ∧ m' be (s + 4 + j) = bx b j ∧ m' be (s + 4 + 4 + j) = bx c j ∧ m' be (s + 4 + 4 + 4 + j) = bx d j ∧ m' be (s + 4 + 4 + 4 + 4 + j) = bx e j
theorem t5_of {m1 m2 m3 m4 m5 : xw_M} {s a b c d e ce be fl : Int} (h1 : tq m m1 s a ce be fl) (h2 : tq m1 m2 (s + 4) b ce be fl) (h3 : tq m2 m3 (s + 4 + 4) c ce be fl) (h4 : tq m3 m4 (s + 4 + 4 + 4) d ce be fl) (h5 : tq m4 m5 (s + 4 + 4 + 4 + 4) e ce be fl) : t5 m m5 s a b c d e ce be fl := by
  obtain ⟨p1, p2, p3, p4, p5⟩ := h1
  obtain ⟨q1, q2, q3, q4, q5⟩ := h2
  obtain ⟨r1, r2, r3, r4, r5⟩ := h3
  obtain ⟨u1, u2, u3, u4, u5⟩ := h4
  obtain ⟨v1, v2, v3, v4, v5⟩ := h5
  refine ⟨by omega, fun k hk => by rw [v2 k hk, u2 k hk, r2 k hk, q2 k hk, p2 k hk], fun x x1 x2 => by rw [v3 x x1 x2, u3 x x1 x2, r3 x x1 x2, q3 x x1 x2, p3 x x1 x2], fun i hi => by rw [v4 i (by omega), u4 i (by omega), r4 i (by omega), q4 i (by omega), p4 i (by omega)], fun j j0 j1 => ⟨?_, ?_, ?_, ?_, ?_⟩⟩
  · rw [v4 _ (by omega), u4 _ (by omega), r4 _ (by omega), q4 _ (by omega), p5 j j0 j1]
  · rw [v4 _ (by omega), u4 _ (by omega), r4 _ (by omega), q5 j j0 j1]
  · rw [v4 _ (by omega), u4 _ (by omega), r5 j j0 j1]
  · rw [v4 _ (by omega), u5 j j0 j1]
  · rw [v5 j j0 j1]
theorem w8_bx (x j : Int) : w8 (w32 (bx x j)) = w32 (bx x j) := by
  unfold bx w8 w32
  omega
/-- the state as the class sees it -/
theorem sta_dn (h : sta m) : (xR m 0 14 = 2 ↔ xR m 536 3 = 1) ∧ (xR m 0 14 = 1 ↔ xR m 536 3 = 0 ∧ xR m 536 2 = 1) ∧ (xR m 0 14 = 0 ↔ xR m 536 3 = 0 ∧ xR m 536 2 = 0) := by
  obtain ⟨h1, h2, h3⟩ := h
  rw [h3]
  rcases h2 with e | e
  · rw [e, if_neg (by decide)]
    omega
  · rw [e, if_pos rfl]
    omega
theorem fdown (h : xR m 0 14 = 2) : yf38 B m = some (.inr 14, m) := by
  unfold yf38
  rw [if_pos h]
  rfl
theorem fup (h : xR m 0 14 ≠ 2) : yf38 B m = some (.inl 0, m) := by
  unfold yf38
  rw [if_neg h]
  rfl
theorem fopen (h : xR m 0 14 = 1) : yf166 B m = some (.inl 0, m) := by
  unfold yf166
  rw [if_pos h]
  rfl
theorem fnot (h : xR m 0 14 ≠ 1) : yf166 B m = some (.inr 14, m) := by
  unfold yf166
  rw [if_neg h]
  rfl
/-- the reference's code alone is another -/
theorem Inw_1 {m1 : xw_M} {x : Int} (h : Inw B c m) (hc : c < 600) (h1 : ∀ a, a ≠ 604 → m1 a = m a) : Inw B (c + 1) (xw_u m1 536 1 x) ∧ anF m (xw_u m1 536 1 x) := by
  have e : ∀ a, a ≠ 604 → a ≠ 536 → xw_u m1 536 1 x a = m a := fun a a1 a2 => by rw [xu_c a2]; exact h1 a a1
  have f : ∀ k, k ≠ 1 → xw_u m1 536 1 x 536 k = m 536 k := fun k hk => by rw [xu_ne (by omega), h1 536 (by omega)]
  refine ⟨Inw_fr h (by omega) (by omega) ⟨fun k _ => by rw [e 0 (by omega) (by omega)], fun k _ => by rw [e 1 (by omega) (by omega)], fun a a0 a1 => e a (by omega) (by omega), by rw [e 373 (by omega) (by omega)], fun a a0 a1 => e a (by omega) (by omega), fun a ha => e a (by omega) (by omega), fun k k1 _ _ _ _ _ _ => f k k1, fun a ha => e a (by omega) (by omega)⟩ (tps_fr h.tp (by rw [e 508 (by omega) (by omega)]) (f 49 (by omega)) (fun a ha => e a (by omega) (by omega)) (by
      obtain ⟨p, hp⟩ := h.tp.2.2.2.2
      exact ⟨p, rs_fr hp (e 530 (by omega) (by omega))⟩)) (ptr_fr h.pt (fun k hk => f k (by omega)) (fun k hk => by rw [e 0 (by omega) (by omega)])), fun h3 => by rw [xR_fld (f 3 (by omega))] at h3; exact h3, fun k _ => by rw [e 0 (by omega) (by omega)], fun a a0 a1 => e a (by omega) (by omega), fun k hk => f k (by omega), fun a ha => e a (by omega) (by omega)⟩
end FEED
