/-! THE READERS: a comparison on both sides: its state, its end, the reference behind a fault -/
/-- comparison i is the same on both sides -/
def CM1 (c r : xw_M) (q D i : Int) : Prop := xR r (q + 9) i = xR c 229 i ∧ (∃ d l, xR c 229 i = 4 * d + l ∧ 0 ≤ d ∧ d < D ∧ 0 ≤ l ∧ l < xR c (15 + 26 * d) 10 ∧ ∀ p, 0 ≤ p → p < xR c (15 + 26 * d) 11 → (xR c (231 + i) p = 0 ∨ xR c (231 + i) p = 1) ∧ (xR c (231 + i) p = 1 ↔ cmv (xR r (q + 10) i) (xR r (q + 11) i) (xR r (q + 12) i) (fun k => xR r (q + 13) (40 * i + k)) (xR c (15 + 26 * d + 9 + l) p))) ∧ (0 ≤ xR r (q + 10) i ∧ xR r (q + 10) i ≤ 8) ∧ (7 ≤ xR r (q + 10) i → 0 ≤ xR r (q + 11) i ∧ xR r (q + 11) i ≤ 40)
def CQ (c r : xw_M) (q D n : Int) : Prop := xR c 223 10 = n ∧ xR r q 13 = n ∧ 0 ≤ n ∧ n ≤ 60 ∧ ∀ i, 0 ≤ i → i < n → CM1 c r q D i
/-- what a condition changes -/
def fCk (c c' : xw_M) : Prop := (∀ a, a ≠ 1 → a ≠ 223 → ¬ (229 ≤ a ∧ a ≤ 294) → c' a = c a) ∧ (∀ k, (k < 2 ∨ 5 < k) → c' 1 k = c 1 k) ∧ ∀ k, k ≠ 10 → k ≠ 13 → c' 223 k = c 223 k
def fRk (q : Int) (r r' : xw_M) : Prop := (∀ a, a ≠ 536 → a ≠ q → ¬ (q + 8 ≤ a ∧ a ≤ q + 13) → r' a = r a) ∧ (∀ k, (k < 8 ∨ 13 < k) → k ≠ 25 → r' 536 k = r 536 k) ∧ ∀ k, k ≠ 11 → k ≠ 13 → r' q k = r q k
theorem fCk_tr {a b c : xw_M} (h : fCk a b) (k : fCk b c) : fCk a c := ⟨fun x x1 x2 x3 => by rw [k.1 x x1 x2 x3, h.1 x x1 x2 x3], fun x hx => by rw [k.2.1 x hx, h.2.1 x hx], fun x x1 x2 => by rw [k.2.2 x x1 x2, h.2.2 x x1 x2]⟩
theorem fRk_tr {q : Int} {a b c : xw_M} (h : fRk q a b) (k : fRk q b c) : fRk q a c := ⟨fun x x1 x2 x3 => by rw [k.1 x x1 x2 x3, h.1 x x1 x2 x3], fun x x1 x2 => by rw [k.2.1 x x1 x2, h.2.1 x x1 x2], fun x x1 x2 => by rw [k.2.2 x x1 x2, h.2.2 x x1 x2]⟩
theorem fCk_rf {c : xw_M} : fCk c c := ⟨fun _ _ _ _ => rfl, fun _ _ => rfl, fun _ _ _ => rfl⟩
theorem fRk_rf {q : Int} {r : xw_M} : fRk q r r := ⟨fun _ _ _ _ => rfl, fun _ _ _ => rfl, fun _ _ _ => rfl⟩
theorem fCk_x {c c' : xw_M} (h : fTx c c') : fCk c c' := ⟨fun a ha _ _ => h.1 a ha, h.2, fun k _ _ => by rw [h.1 223 (by omega)]⟩
theorem fRk_x {q : Int} {r r' : xw_M} (hq : q = 544 ∨ q = 558) (h : fRx r r') : fRk q r r' := ⟨fun a ha _ _ => h.1 a ha, fun k hk _ => h.2 k hk, fun k _ _ => by rw [h.1 q (by omega)]⟩
theorem QC_c {c c' : xw_M} (h : fCk c c') : QC c c' := ⟨fun a ha hb => h.1 a ha (by omega) (by omega), fun k hk => h.2.1 k (by omega)⟩
theorem QR_c {q : Int} {r r' : xw_M} (h : fRk q r r') : QR q r r' := ⟨fun a ha hb => h.1 a ha (by omega) (by omega), fun k hk k1 k2 => h.2.1 k (by omega) k1⟩
/-- amid comparison n, whose column is 4 d + l -/
def Md (c r : xw_M) (q n d l p g : Int) (c4 r4 : xw_M) : Prop := ((∀ a, a ≠ 1 → a ≠ 223 → a ≠ 229 → a ≠ 231 + n → a ≠ 291 → a ≠ 292 → c4 a = c a) ∧ (∀ k, k ≠ 10 → k ≠ 13 → c4 223 k = c 223 k) ∧ xR c4 223 10 = n + 1 ∧ xR c4 229 n = 4 * d + l ∧ (∀ i, i ≠ n → c4 229 i = c 229 i) ∧ SB c4 (n + 1) (p + 1) ∧ (∀ v, SC c4 v = v n :: SC c v) ∧ LW c4 (n + 1) g ∧ ∀ k, (k < 2 ∨ 5 < k) → c4 1 k = c 1 k) ∧ ((∀ a, a ≠ 536 → ¬ (q + 9 ≤ a ∧ a ≤ q + 13) → r4 a = r a) ∧ (∀ k, (k < 8 ∨ 13 < k) → r4 536 k = r 536 k) ∧ xR r4 (q + 9) n = 4 * d + l ∧ (∀ a i, q + 9 ≤ a → a ≤ q + 12 → i ≠ n → r4 a i = r a i) ∧ ∀ i, (i < 40 * n ∨ 40 * n + 40 ≤ i) → r4 (q + 13) i = r (q + 13) i) ∧ TK c4 r4 ∧ xR c 1 2 < xR c4 1 2
section CMB
variable {B : Nat} {c r : xw_M}
theorem Md_q {q n d l p g : Int} {c4 r4 : xw_M} (q0 : q = 544 ∨ q = 558) (n0 : 0 ≤ n) (n1 : n < 60) (h : Md c r q n d l p g c4 r4) : fCk c c4 ∧ fRk q r r4 := by
  obtain ⟨⟨a1, a2, _, _, _, _, _, _, a9⟩, ⟨b1, b2, _⟩, _⟩ := h
  exact ⟨⟨fun a x1 x2 x3 => a1 a x1 x2 (by omega) (by omega) (by omega) (by omega), a9, a2⟩, fun a x1 x2 x3 => b1 a x1 (by omega), fun k hk _ => b2 k hk, fun k _ _ => by rw [b1 q (by omega) (by omega)]⟩
/-- a step within the comparison -/
theorem Md_s {q n d l p g : Int} {c4 r4 c5 r5 : xw_M} (n0 : 0 ≤ n) (n1 : n < 60) (h : Md c r q n d l p g c4 r4) (ec : ∀ a, a ≠ 1 → a ≠ 231 + n → c5 a = c4 a) (e1 : ∀ k, (k < 2 ∨ 5 < k) → c5 1 k = c4 1 k) (er : ∀ a, a ≠ 536 → ¬ (q + 10 ≤ a ∧ a ≤ q + 13) → r5 a = r4 a) (f : ∀ k, (k < 8 ∨ 13 < k) → r5 536 k = r4 536 k) (g1 : ∀ a i, q + 10 ≤ a → a ≤ q + 12 → i ≠ n → r5 a i = r4 a i) (g2 : ∀ i, (i < 40 * n ∨ 40 * n + 40 ≤ i) → r5 (q + 13) i = r4 (q + 13) i) (q0 : q = 544 ∨ q = 558) (t : TK c5 r5) (le : xR c4 1 2 ≤ xR c5 1 2) : Md c r q n d l p g c5 r5 := by
  obtain ⟨⟨a1, a2, a3, a4, a5, a6, a7, a8, a9⟩, ⟨b1, b2, b3, b4, b5⟩, t4, lt⟩ := h
  have k223 := ec 223 (by omega) (by omega)
  have k229 := ec 229 (by omega) (by omega)
  have k291 := ec 291 (by omega) (by omega)
  have k292 := ec 292 (by omega) (by omega)
  have k227 := ec 227 (by omega) (by omega)
  refine ⟨⟨fun a x1 x2 x3 x4 x5 x6 => by rw [ec a x1 x4, a1 a x1 x2 x3 x4 x5 x6], fun k x1 x2 => by rw [k223, a2 k x1 x2], by rw [xR_cg k223]; exact a3, by rw [xR_cg k229]; exact a4, fun i hi => by rw [k229, a5 i hi], ?_, fun v => ?_, ?_, fun k hk => by rw [e1 k hk, a9 k hk]⟩, ⟨fun a x1 x2 => by rw [er a x1 (by omega), b1 a x1 x2], fun k hk => by rw [f k hk, b2 k hk], by rw [xR_cg (er (q + 9) (by omega) (by omega))]; exact b3, fun a i x1 x2 x3 => ?_, fun i hi => by rw [g2 i hi, b5 i hi]⟩, t, by omega⟩
  · unfold SB SC at *
    rw [xR_cg k223, xR_cg k291]
    exact a6
  · rw [← a7 v]
    unfold SC
    rw [xR_cg k223, xR_cg k291]
  · unfold LW at *
    rw [xR_cg k292, xR_cg k229, xR_cg k227]
    exact a8
  · by_cases e : a = q + 9
    · rw [e, er (q + 9) (by omega) (by omega), b4 (q + 9) i (by omega) (by omega) x3]
    · rw [g1 a i (by omega) x2 x3, b4 a i x1 x2 x3]
theorem Md_x {q n d l p g : Int} {c4 r4 c5 r5 : xw_M} (q0 : q = 544 ∨ q = 558) (n0 : 0 ≤ n) (n1 : n < 60) (h : Md c r q n d l p g c4 r4) (s : nxQ c4 r4 c5 r5) : Md c r q n d l p g c5 r5 := Md_s n0 n1 h (fun a ha _ => s.2.1.1 a ha) s.2.1.2 (fun a ha _ => s.2.2.1.1 a ha) s.2.2.1.2 (fun a i x1 x2 _ => by rw [s.2.2.1.1 a (by omega)]) (fun i _ => by rw [s.2.2.1.1 (q + 13) (by omega)]) q0 s.1 s.2.2.2.1
theorem fRk_fl {q : Int} {r' : xw_M} (f : FL c r) (h : ∀ k, k = 6 ∨ k = 7 → r' 536 k = r 536 k) : FL c r' := by
  unfold FL at *
  rw [xR_fld (h 6 (by omega)), xR_fld (h 7 (by omega))]
  exact f
/-! the reference's pieces, with its question at q -/
theorem w306 {q n : Int} (hq : r 536 23 = q) (q0 : q = 544 ∨ q = 558) : yk277_306 B n r = xB (yf280 B n (xw_u r q 13 (xR r q 13 + 1))) fun _ m1 => xB (yf248 B m1) fun _ m2 => some (.inl 0, m2) := by
  unfold yk277_306
  rw [hq, if_pos (q_l B q0).1]
theorem w242 {q n h : Int} (hq : r 536 23 = q) (q0 : q = 544 ∨ q = 558) (n0 : 0 ≤ n) (n1 : n < 60) (h7 : h < 7) : yk277_242 B n h r = xB (yf278 B r) fun v1 m1 => yk277_270 B n h (xw_u m1 (q + 11) n v1) := by
  obtain ⟨o, ⟨_, _, _, _, _, _, _, _, _, _, f, _⟩, ob, ⟨_, _, _, _, _, _, _, _, _, _, l, _⟩⟩ := q_l B q0
  unfold yk277_242
  rw [if_pos h7, hq, if_pos o, f, l]
  refine congrArg (xB _) (funext fun v => funext fun m => ?_)
  rw [if_pos ⟨n0, n1⟩, if_pos (ob 11 (by decide) (by decide))]
theorem w242b {n h : Int} (h7 : 7 ≤ h) : yk277_242 B n h r = xB (yf279 B n r) fun _ m2 => yk277_270 B n h m2 := by
  unfold yk277_242
  rw [if_neg (by omega)]
theorem w270 {n h : Int} (h6 : h ≠ 6) : yk277_270 B n h r = yk277_306 B n r := by
  unfold yk277_270
  rw [if_neg h6]
theorem w270s {q n : Int} (hq : r 536 23 = q) (q0 : q = 544 ∨ q = 558) (n0 : 0 ≤ n) (n1 : n < 60) : (if xw_obb 13 (r 536 23) = true then xB (yf278 B r) fun v4 m4 => if (0 : Int) ≤ n ∧ n < (xw_le B (xw_rf (r 536 23) 17)) then if xw_obb 16 (xw_rf (r 536 23) 17) = true then (yk277_306 B n (xw_u m4 (xw_rf (r 536 23) 17) n v4)) else none else none else none) = xB (yf278 B r) fun v4 m4 => yk277_306 B n (xw_u m4 (q + 12) n v4) := by
  obtain ⟨o, ⟨_, _, _, _, _, _, _, _, _, _, _, f, _⟩, ob, ⟨_, _, _, _, _, _, _, _, _, _, _, l, _⟩⟩ := q_l B q0
  rw [hq, if_pos o, f, l]
  refine congrArg (xB _) (funext fun v => funext fun m => ?_)
  rw [if_pos ⟨n0, n1⟩, if_pos (ob 12 (by decide) (by decide))]
/-- how is laid down -/
theorem wHow {q n h : Int} {X : xw_M → xP} (hq : r 536 23 = q) (q0 : q = 544 ∨ q = 558) (n0 : 0 ≤ n) (n1 : n < 60) : (if xw_obb 13 (r 536 23) = true then if (0 : Int) ≤ n ∧ n < (xw_le B (xw_rf (r 536 23) 15)) then if xw_obb 16 (xw_rf (r 536 23) 15) = true then (X (xw_u r (xw_rf (r 536 23) 15) n h)) else none else none else none) = X (xw_u r (q + 10) n h) := by
  obtain ⟨o, ⟨_, _, _, _, _, _, _, _, _, f, _⟩, ob, ⟨_, _, _, _, _, _, _, _, _, l, _⟩⟩ := q_l B q0
  rw [hq, if_pos o, f, l, if_pos ⟨n0, n1⟩, if_pos (ob 10 (by decide) (by decide))]
/-! behind a fault -/
theorem d306 {q n : Int} (f : FL c r) (hq : r 536 23 = q) (q0 : q = 544 ∨ q = 558) : ∃ r', yk277_306 B n r = some (.inl 0, r') ∧ FL c r' ∧ QR q r r' := by
  rw [w306 hq q0]
  have f1 : FL c (xw_u r q 13 (xR r q 13 + 1)) := fRk_fl (q := q) f (fun k _ => xu_ne (by omega))
  rw [d280 f1.1, xB_ret, d248 f1.1, xB_ret]
  exact ⟨_, rfl, f1, ⟨fun a ha hb => xu_c (by omega), fun k _ _ _ => xu_ne (by omega)⟩⟩
theorem d270 {q n h : Int} (f : FL c r) (hq : r 536 23 = q) (q0 : q = 544 ∨ q = 558) (n0 : 0 ≤ n) (n1 : n < 60) : ∃ r', yk277_270 B n h r = some (.inl 0, r') ∧ FL c r' ∧ QR q r r' := by
  by_cases h6 : h = 6
  · unfold yk277_270
    rw [if_pos h6, d248 f.1, xB_ret, p257, xB_ret, d258 f.1, xB_ret, w270s hq q0 n0 n1, d278 f.1, xB_ret]
    have f1 : FL c (xw_u r (q + 12) n 0) := fRk_fl (q := q) f (fun k _ => xu_ne (by omega))
    obtain ⟨r', z, f2, g⟩ := d306 (B := B) (n := n) f1 (by rw [xu_ne (by omega)]; exact hq) q0
    exact ⟨r', z, f2, QR_tr ⟨fun a ha hb => xu_c (by omega), fun k _ _ _ => xu_ne (by omega)⟩ g⟩
  · rw [w270 h6]
    exact d306 f hq q0
theorem ifd {a b o : xP} {p : Prop} [Decidable p] (ha : a = o) (hb : b = o) : (if p then a else b) = o := by
  split
  · exact ha
  · exact hb
theorem dE {n : Int} (d : 0 < xR r 536 6) : rcE B n r = some (.inl 0, r) := by
  unfold rcE
  rw [p266, xB_ret]
  refine ifd ?_ (by rw [d258 d, xB_ret, if_pos rfl])
  rw [p266, xB_ret]
  refine ifd ?_ (by rw [d258 d, xB_ret, if_pos rfl])
  rw [p266, xB_ret]
  refine ifd ?_ (by rw [d258 d, xB_ret, if_pos rfl])
  rw [p266, xB_ret]
  refine ifd ?_ (by rw [d258 d, xB_ret, if_pos rfl])
  rw [p266, xB_ret]
  refine ifd ?_ (by rw [d258 d, xB_ret, if_pos rfl])
  rw [p266, xB_ret]
  refine ifd ?_ (by rw [d258 d, xB_ret, if_pos rfl])
  rw [p257, xB_ret]
  refine ifd ?_ (by rw [d258 d, xB_ret, if_pos rfl])
  rw [p257, xB_ret]
  refine ifd ?_ (by rw [d258 d, xB_ret, if_pos rfl])
  rw [p257, xB_ret]
  refine ifd ?_ (by rw [d258 d, xB_ret, if_pos rfl])
  rw [d258 d, xB_ret, if_pos rfl]
end CMB
