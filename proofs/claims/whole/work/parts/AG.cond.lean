/-! THE READERS: a question's condition, both sides -/
section CON
variable {B : Nat} {c r : xw_M} {q D M g : Int}
/-- behind the condition: n comparisons -/
def CDN (c r : xw_M) (q D n g p : Int) : Prop := CQ c r q D n ∧ LW c n g ∧ SB c n p ∧ (∀ v, SC c v = RS r q v) ∧ (0 ≤ xR r q 11 ∧ xR r q 11 ≤ 43 * n) ∧ wfR (xR r (q + 8)) (xR r q 11).toNat n ∧ (p = 0 ∨ p = 1)
theorem cond_ok (hq : r 536 23 = q) (q0 : q = 544 ∨ q = 558) (G : cgr c r D M) (h : TK c r) (I : CDN c r q D 0 g 0) (s0 : xR r q 11 = 0) (b0 : xR r 536 25 = 0) (a3 : 3 ≤ xR c 1 2) (k0 : xR c 1 3 ≠ 0) : duo (yf71 B c) (xB (yf248 B r) fun _ m2 => xE B 64 m2) (fun _ c' _ r' => TK c' r' ∧ (∃ n, CDN c' r' q D n g 1) ∧ fCk c c' ∧ fRk q r r' ∧ xR c 1 2 ≤ xR c' 1 2) (fun c' _ r' => QC c c' ∧ QR q r r') := by
  obtain ⟨I1, I2, I3, I4, I5, I6, _⟩ := I
  have h0 : CS c r q D g 0 0 0 c r := ⟨h, I1, I2, I3, I5, b0, fCk_rf, fRk_rf, Int.le_refl _, I6⟩
  have f1 : fW c (xw_u c 293 4 0) := ⟨fun a _ _ a3 _ => xu_c a3, fun k _ => by rw [xu_c (by omega)], fun k hk => xu_ne (by omega)⟩
  have h1 := CS_w G h0 f1 (SB_u I3) (Int.le_refl _)
  have m1 : (xw_u c 293 4 0) 1 = c 1 := xu_c (by omega)
  have hz1 := CS_Z h1
  unfold yf71
  rcases nx (B := B) h1.1.1 with ⟨v, c2, w2, r2, y1, y2, s⟩ | ⟨c2, w2, r2, y1, y2, F, z⟩
  · rw [y1, y2, xB_ret, xB_ret]
    have h2 := CS_x q0 G h1 s
    have le := s.2.2.2.1
    have lt := s.2.2.2.2
    rw [xR_cg m1] at le lt
    have lc : LTc 1000000 0 c2 := by
      have := mu_b h2.1
      refine ⟨by omega, by omega, ?_⟩
      split <;> omega
    have w2 : xR c2 293 4 = 0 := by rw [xR_cg (s.2.1.1 293 (by omega))]; exact xR_at (by decide)
    have R := eith_ok (B := B) (g := g) hq q0 G 64 0 (by decide) (by decide) (by decide) 1000000 0 0 0 0 c2 r2 lc h2 w2 (by decide) (by decide) (Or.inl rfl)
    rcases R with ⟨c3, r3, N3, i3, n3, j3, n', ops, val, wv, ⟨b1, b1b, b1c⟩, b2, b3, b4, b5, b6, b7, b8, b9⟩ | ⟨c3, w3, r3, b1, b1b, F, z1', z2'⟩
    · rw [b1, b1b]
      have n60 := b3.2.1.2.2.2.1
      have hlen := pnd_h ops _ b5.1
      obtain ⟨c4, z4, a1, a2, a3', a4, a5⟩ := settle_ok (B := B) (op := 215) (w := 0) (by decide) n60 (by omega) (by omega) b5.1 b4.1.2 (Or.inl rfl) b3.2.2.2.1 (by omega)
      have e : PT B N3 i3 n3 0 j3 c3 = some (.inl 0, c4) := by
        obtain ⟨n4, rfl⟩ : ∃ n4, n3 = n4 + 1 := ⟨n3 - 1, by have := b1c.2.2.2.2.2; omega⟩
        unfold PT
        have e : xl2 (yl83_4 B) (n4 + 1) 0 j3 c3 = some (.inl 0, c3) := by
          show yl83_4 B (xl2 (yl83_4 B) n4) 0 j3 c3 = _
          unfold yl83_4
          rw [if_neg (show ¬ (0 : Int) < 0 by decide)]
          exact ifd rfl rfl
        rw [e, xB_ret, if_neg b4.2.1, if_neg b4.2.2]
        unfold yk71_159 yk71_170
        rw [if_neg (by decide), z4, xB_ret]
      rw [e]
      have pe : (0 : Int) + 1 + (ops.length : Int) - ops.length = 1 := by omega
      rw [pe] at a3'
      have h4 := CS_w G b3 a4 a3' (by decide)
      have SC2 : ∀ v, SC c2 v = [] := fun v => by
        have l := h2.2.2.2.1.2.2.1 v
        cases e2 : SC c2 v with
        | nil => rfl
        | cons x t => rw [e2, List.length_cons] at l; omega
      have RS2 : ∀ v, RS r2 q v = [] := fun v => by
        have t : xR r2 q 11 = 0 := by rw [xR_cg (s.2.2.1.1 q (by omega))]; exact s0
        unfold RS
        rw [t]
        rfl
      refine duo_r ⟨h4.1, ⟨n', h4.2.1, h4.2.2.1, a3', fun v => ?_, h4.2.2.2.2.1, h4.2.2.2.2.2.2.2.2.2, Or.inr rfl⟩, h4.2.2.2.2.2.2.1, h4.2.2.2.2.2.2.2.1, ?_⟩
      · rw [a2 v, b6 v, b7 v, SC2 v, RS2 v]
      · have c41 : c4 1 = c3 1 := a4.1 1 (by omega) (by omega) (by omega) (by omega)
        have n1 : xR c3 1 1 = xR c 1 1 := xR_fld (b3.2.2.2.2.2.2.1.2.1 1 (by omega))
        have n2 : xR c2 1 1 = xR c 1 1 := xR_fld (h2.2.2.2.2.2.2.1.2.1 1 (by omega))
        rw [xR_cg c41]
        unfold mu at b9
        rw [n1, n2] at b9
        split at b9 <;> split at b9 <;> omega
    · rw [b1, b1b]
      exact duo_f F ⟨z1', z2'⟩
  · have q2 : r2 536 23 = q := by rw [z.2.2 23 (by omega)]; exact hq
    have e : xE B 64 r2 = xB (yf275 B (xE B 63) r2) fun _ m1 => xl0 (yl274_4 B (xE B 63)) 1000000 m1 := rfl
    rw [y1, y2, xB_thr, xB_ret, e, d275f F.1 q2 q0, xB_ret]
    generalize hN : (1000000 : Nat) = N
    obtain ⟨N1, rfl⟩ : ∃ N1, N = N1 + 1 := ⟨N - 1, by omega⟩
    rw [d274l F.1]
    exact duo_f F ⟨QC_tr hz1.1 (QC_y z.1), QR_tr hz1.2 (QR_y z.2)⟩
end CON
/-! a group's column -/
def GC (c r : xw_M) (q D k : Int) : Prop := xR c 223 6 = k ∧ xR r q 4 = k ∧ (0 ≤ k ∧ k ≤ 8) ∧ (∀ i, 0 ≤ i → i < k → xR r (q + 4) i = xR c 227 i ∧ ∃ d l, xR c 227 i = 4 * d + l ∧ 0 ≤ d ∧ d < D ∧ 0 ≤ l ∧ l < xR c (15 + 26 * d) 10) ∧ ∀ i j, 0 ≤ i → i < k → 0 ≤ j → j < k → xR c 227 i = xR c 227 j → i = j
/-- what groups change -/
def fCg (c c' : xw_M) : Prop := (∀ a, a ≠ 1 → a ≠ 223 → a ≠ 227 → a ≠ 228 → a ≠ 292 → c' a = c a) ∧ (∀ k, (k < 2 ∨ 5 < k) → c' 1 k = c 1 k) ∧ ∀ k, k ≠ 6 → k ≠ 8 → c' 223 k = c 223 k
def fRg (q : Int) (r r' : xw_M) : Prop := (∀ a, a ≠ 536 → a ≠ q → ¬ (q + 4 ≤ a ∧ a ≤ q + 6) → r' a = r a) ∧ (∀ k, (k < 8 ∨ 13 < k) → k ≠ 26 → r' 536 k = r 536 k) ∧ ∀ k, k ≠ 4 → k ≠ 6 → r' q k = r q k
theorem fCg_tr {a b c : xw_M} (h : fCg a b) (k : fCg b c) : fCg a c := ⟨fun x x1 x2 x3 x4 x5 => by rw [k.1 x x1 x2 x3 x4 x5, h.1 x x1 x2 x3 x4 x5], fun x hx => by rw [k.2.1 x hx, h.2.1 x hx], fun x x1 x2 => by rw [k.2.2 x x1 x2, h.2.2 x x1 x2]⟩
theorem fRg_tr {q : Int} {a b c : xw_M} (h : fRg q a b) (k : fRg q b c) : fRg q a c := ⟨fun x x1 x2 x3 => by rw [k.1 x x1 x2 x3, h.1 x x1 x2 x3], fun x x1 x2 => by rw [k.2.1 x x1 x2, h.2.1 x x1 x2], fun x x1 x2 => by rw [k.2.2 x x1 x2, h.2.2 x x1 x2]⟩
theorem fCg_x {c c' : xw_M} (h : fTx c c') : fCg c c' := ⟨fun a ha _ _ _ _ => h.1 a ha, h.2, fun k _ _ => by rw [h.1 223 (by omega)]⟩
theorem fRg_x {q : Int} {r r' : xw_M} (hq : q = 544 ∨ q = 558) (h : fRx r r') : fRg q r r' := ⟨fun a ha _ _ => h.1 a ha, fun k hk _ => h.2 k hk, fun k _ _ => by rw [h.1 q (by omega)]⟩
theorem QC_g {c c' : xw_M} (h : fCg c c') : QC c c' := ⟨fun a ha hb => h.1 a ha (by omega) (by omega) (by omega) (by omega), fun k hk => h.2.1 k (by omega)⟩
theorem QR_g {q : Int} {r r' : xw_M} (h : fRg q r r') : QR q r r' := ⟨fun a ha hb => h.1 a ha (by omega) (by omega), fun k hk k1 k2 => h.2.1 k (by omega) k2⟩
section GRC
variable {B : Nat} {c r : xw_M} {q D M : Int}
/-- groupOf -/
theorem gof_c {col k : Int} (h6 : xR c 223 6 = k) (k8 : k ≤ 8) : ∀ (N : Nat) (x : Int), 0 ≤ x → (k - x).toNat < N → ∃ v, xl2 (yl89_2 B) N col x c = some (.inl v, c) ∧ ((v = -1 ∧ ∀ i, x ≤ i → i < k → xR c 227 i ≠ col) ∨ (x ≤ v ∧ v < k ∧ xR c 227 v = col ∧ ∀ i, x ≤ i → i < v → xR c 227 i ≠ col)) := by
  intro N
  induction N with
  | zero => intro x _ h; omega
  | succ N ih =>
    intro x x0 hx
    show ∃ v, yl89_2 B (xl2 (yl89_2 B) N) col x c = _ ∧ _
    have eN : x < k → (k - (x + 1)).toNat < N := fun _ => by omega
    have IH := ih (x + 1) (by omega)
    generalize xl2 (yl89_2 B) N = R at IH ⊢
    unfold yl89_2
    rw [h6]
    by_cases e : x < k
    · rw [if_pos e, if_pos ⟨x0, by omega⟩]
      by_cases a : xR c 227 x = col
      · rw [if_pos a]
        exact ⟨x, rfl, Or.inr ⟨Int.le_refl _, e, a, fun i i0 i1 => by omega⟩⟩
      · rw [if_neg a, w32_id (by omega) (by omega)]
        obtain ⟨v, z, p⟩ := IH (eN e)
        refine ⟨v, z, ?_⟩
        rcases p with ⟨p1, p2⟩ | ⟨p1, p2, p3, p4⟩
        · refine Or.inl ⟨p1, fun i i0 i1 => ?_⟩
          by_cases t : i = x
          · rw [t]; exact a
          · exact p2 i (by omega) i1
        · refine Or.inr ⟨by omega, p2, p3, fun i i0 i1 => ?_⟩
          by_cases t : i = x
          · rw [t]; exact a
          · exact p4 i (by omega) i1
    · rw [if_neg e]
      exact ⟨-1, rfl, Or.inl ⟨rfl, fun i i0 i1 => by omega⟩⟩
/-- the reference's loop: twice, then the column is laid down -/
def gcE (B : Nat) (q s col : Int) (tw : Bool) (m : xw_M) : xP := if tw = true then (xB (yf254 B 0 10 s m) fun v2 m2 => if v2 = 0 then (some (.inl 0, m2)) else none) else (xB (yf254 B 1 10 s m) fun v1 m1 => if v1 = 0 then (some (.inl 0, m1)) else (some (.inl 0, xw_u (xw_u m1 (q + 4) (xR m1 q 4) col) q 4 (xR m1 q 4 + 1))))
theorem gl_r {s col k : Int} (hq : r 536 23 = q) (q0 : q = 544 ∨ q = 558) (h4 : xR r q 4 = k) (k0 : 0 ≤ k) (k8 : k < 8) (nf : xR r 536 6 = 0) : ∀ (N : Nat) (x : Int) (y : Int), 0 ≤ x → x ≤ k → (y = 0 ∨ y = 1) → (k - x).toNat < N → ∃ tw : Bool, xl4 (yl283_50 B) N s col y x r = (if tw = true then some (.inl 0, xw_u (xw_u r 536 6 10) 536 7 s) else some (.inl 0, xw_u (xw_u r (q + 4) k col) q 4 (k + 1))) ∧ (tw = true ↔ y = 1 ∨ ∃ i, x ≤ i ∧ i < k ∧ xR r (q + 4) i = col) := by
  have fin0 : (if xw_obb 13 (r 536 23) = true then if (0 : Int) ≤ (xR r (r 536 23) 4) ∧ (xR r (r 536 23) 4) < (xw_le B (xw_rf (r 536 23) 5)) then if xw_obb 16 (xw_rf (r 536 23) 5) = true then (some (.inl 0, (xw_u (xw_u r (xw_rf (r 536 23) 5) (xR r (r 536 23) 4) col) (r 536 23) 4 ((xR r (r 536 23) 4) + 1))) : xP) else none else none else none) = some (.inl 0, xw_u (xw_u r (q + 4) k col) q 4 (k + 1)) := by
    obtain ⟨o, ⟨_, _, _, f, _⟩, ob, ⟨_, _, _, l, _⟩⟩ := q_l B q0
    rw [hq, if_pos o, f, l, h4, if_pos ⟨k0, k8⟩, if_pos (ob 4 (by decide) (by decide))]
  have rd : ∀ x, 0 ≤ x → x < k → ∀ a b : xP, (if (0 : Int) ≤ x ∧ x < (xw_le B (xw_rf (r 536 23) 5)) then if xw_obb 16 (xw_rf (r 536 23) 5) = true then if (xR r (xw_rf (r 536 23) 5) x) = col then a else b else none else none) = if xR r (q + 4) x = col then a else b := by
    intro x x0 x1 a b
    have x8 : 0 ≤ x ∧ x < 8 := ⟨x0, by omega⟩
    obtain ⟨o, ⟨_, _, _, f, _⟩, ob, ⟨_, _, _, l, _⟩⟩ := q_l B q0
    rw [hq, f, l, if_pos x8, if_pos (ob 4 (by decide) (by decide))]
  have ob := (q_l B q0).1
  have oq : xw_obb 13 (r 536 23) = true := by rw [hq]; exact ob
  have h4' : xR r (r 536 23) 4 = k := by rw [hq]; exact h4
  intro N
  induction N with
  | zero => intro x y _ _ _ h; omega
  | succ N ih =>
    intro x y x0 xk hy hx
    show ∃ tw : Bool, yl283_50 B (xl4 (yl283_50 B) N) s col y x r = _ ∧ _
    have IH := ih (x + 1)
    generalize xl4 (yl283_50 B) N = R at IH ⊢
    unfold yl283_50
    rw [if_pos oq]
    by_cases e : x < k
    · rw [if_pos (by rw [h4']; exact e)]
      by_cases y0 : y = 0
      · rw [if_pos y0, rd x x0 e, w32_id (by omega) (by omega)]
        by_cases a : xR r (q + 4) x = col
        · rw [if_pos a]
          obtain ⟨tw, z, p⟩ := IH 1 (by omega) (by omega) (Or.inr rfl) (by omega)
          refine ⟨tw, z, p.trans ⟨fun _ => Or.inr ⟨x, Int.le_refl _, e, a⟩, fun _ => Or.inl rfl⟩⟩
        · rw [if_neg a]
          obtain ⟨tw, z, p⟩ := IH 0 (by omega) (by omega) (Or.inl rfl) (by omega)
          refine ⟨tw, z, p.trans ⟨fun h => ?_, fun h => ?_⟩⟩
          · rcases h with h | ⟨i, i0, i1, i2⟩
            · omega
            · exact Or.inr ⟨i, by omega, i1, i2⟩
          · rcases h with h | ⟨i, i0, i1, i2⟩
            · omega
            · refine Or.inr ⟨i, ?_, i1, i2⟩
              by_cases t : i = x
              · rw [t] at i2; exact absurd i2 a
              · omega
      · have y1 : y = 1 := by omega
        rw [if_neg y0, w32_id (by omega) (by omega)]
        obtain ⟨tw, z, p⟩ := IH 1 (by omega) (by omega) (Or.inr rfl) (by omega)
        exact ⟨tw, z, p.trans ⟨fun _ => Or.inl y1, fun _ => Or.inl rfl⟩⟩
    · rw [if_neg (by rw [h4']; exact e)]
      by_cases y0 : y = 0
      · rw [if_pos y0, ok254 nf, xB_ret, if_neg (show ¬ (1 : Int) = 0 by decide), fin0]
        refine ⟨false, by rw [if_neg (by decide)], ⟨fun h => absurd h (by decide), fun h => ?_⟩⟩
        rcases h with h | ⟨i, i0, i1, i2⟩ <;> omega
      · rw [if_neg y0, no254 nf (by decide) (by decide), xB_ret, if_pos (show (0 : Int) = 0 from rfl)]
        exact ⟨true, by rw [if_pos rfl], ⟨fun _ => Or.inl (by omega), fun _ => rfl⟩⟩
end GRC
