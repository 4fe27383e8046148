/-! THE READERS: a whole question, both sides -/
section QSU
variable {B : Nat} {c r : xw_M} {q D M : Int}
/-- the items' groups are found -/
theorem res_l {n k : Int} (hq : r 536 23 = q) (q0 : q = 544 ∨ q = 558) (nf : xR r 536 6 = 0) (I : itq c r q M n) (C : GC c r q D k) : ∀ (z N N' : Nat) (i : Int) (c5 : xw_M), (n - i).toNat ≤ z → z < N → z + 1 < N' → 0 ≤ i → i ≤ n → (∀ a, a ≠ 225 → c5 a = c a) → (∀ j, i ≤ j → c5 225 j = c 225 j) → (∀ j, 0 ≤ j → j < i → rsi c5 r q M k j) → (∃ c', xl1 (yl92_2 B) N i c5 = some (.inl (-1), c') ∧ xl1 (yl270_143 B) N' i r = yk270_272 B r ∧ (∀ a, a ≠ 225 → c' a = c a) ∧ ∀ j, 0 ≤ j → j < n → rsi c' r q M k j) ∨ (∃ c' j, (0 ≤ j ∧ j < n) ∧ xl1 (yl92_2 B) N i c5 = some (.inl j, c') ∧ xl1 (yl270_143 B) N' i r = some (.inl 0, xw_u (xw_u r 536 6 11) 536 7 (xR r (q + 3) j)) ∧ ∀ a, a ≠ 225 → c' a = c a) := by
  obtain ⟨I1, I2, I3, I4, I5⟩ := I
  obtain ⟨C1, C2, C3, C4, C5⟩ := C
  have oq : xw_obb 13 (r 536 23) = true := by rw [hq]; exact (q_l B q0).1
  have h0' : xR r (r 536 23) 0 = n := by rw [hq]; exact I2
  have rd : ∀ i, 0 ≤ i → i < n → ∀ (X : Int → xP), (if (0 : Int) ≤ i ∧ i < (xw_le B (xw_rf (r 536 23) 1)) then if xw_obb 16 (xw_rf (r 536 23) 1) = true then X (xR r (xw_rf (r 536 23) 1) i) else none else none) = X (xR r (q + 1) i) := by
    intro i i0 i1 X
    have ib : 0 ≤ i ∧ i < 24 := ⟨i0, by omega⟩
    obtain ⟨o, ⟨f, _⟩, ob, ⟨l, _⟩⟩ := q_l B q0
    rw [hq, f, l, if_pos ib, if_pos (ob 1 (by decide) (by decide))]
  intro z
  induction z with
  | zero =>
    intro N N' i c5 hz zN zN' i0 i1 e1 e2 e3
    cases N with
    | zero => omega
    | succ N =>
    cases N' with
    | zero => omega
    | succ N' =>
    refine Or.inl ⟨c5, ?_, ?_, e1, fun j j0 j1 => e3 j j0 (by omega)⟩
    · show yl92_2 B _ i c5 = _
      unfold yl92_2
      rw [xR_cg (e1 223 (by omega)), I1, if_neg (by omega)]
    · show yl270_143 B _ i r = _
      unfold yl270_143
      rw [if_pos oq, h0', if_neg (by omega)]
  | succ z ih =>
    intro N N' i c5 hz zN zN' i0 i1 e1 e2 e3
    by_cases en : i = n
    · exact ih N N' i c5 (by omega) (by omega) (by omega) i0 i1 e1 e2 e3
    have lt : i < n := by omega
    cases N with
    | zero => omega
    | succ N =>
    cases N' with
    | zero => omega
    | succ N' =>
    cases N' with
    | zero => omega
    | succ N' =>
    have IH := ih N (N' + 1) (i + 1)
    have wi : w32 (i + 1) = i + 1 := w32_id (by omega) (by omega)
    obtain ⟨t1, t2, t3, t4, t5, t6⟩ := I5 i i0 lt
    have k24 : xR c5 224 i = xR c 224 i := by rw [xR_cg (e1 224 (by omega))]
    have k25 : xR c5 225 i = xR c 225 i := xR_fld (e2 i (Int.le_refl _))
    have k6 : xR c5 223 6 = k := by rw [xR_cg (e1 223 (by omega))]; exact C1
    have dead : ∀ (y p : Int), w32 p = p → xl1 (yl270_143 B) (N' + 1) y (xw_u (xw_u r 536 6 11) 536 7 p) = some (.inl 0, xw_u (xw_u r 536 6 11) 536 7 p) := fun y p wp => by
      have d : 0 < xR (xw_u (xw_u r 536 6 11) 536 7 p) 536 6 := by rw [xR_ne (by omega), xR_at (by decide)]; decide
      have q' : (xw_u (xw_u r 536 6 11) 536 7 p) 536 23 = q := by rw [xu_ne (by omega), xu_ne (by omega)]; exact hq
      show yl270_143 B _ y _ = _
      unfold yl270_143
      rw [q', if_pos (q_l B q0).1]
      refine ifd ?_ (d272q d)
      rw [if_neg (by omega)]
      exact d272q d
    have e2r : ∀ y, (y = 0 ∨ y = 1) → (y = 1 ↔ 0 < xR r (q + 1) i ∧ xR r (q + 1) i < 5) → ∃ N3 : Nat, 9 < N3 ∧ xl1 (yl270_143 B) (N' + 1 + 1) i r = xl3 (yl270_196 B (xl1 (yl270_143 B) (N' + 1))) N3 i y 0 r := fun y hy hh => by
      refine ⟨1000000, by decide, ?_⟩
      show yl270_143 B (xl1 (yl270_143 B) (N' + 1)) i r = _
      generalize xl1 (yl270_143 B) (N' + 1) = R
      unfold yl270_143
      rw [if_pos oq, h0', if_pos lt, if_pos nf]
      rw [rd i i0 lt (fun x => if 0 < x then (if x < 5 then (xl3 (yl270_196 B R) 1000000 i 1 0 r) else (xl3 (yl270_196 B R) 1000000 i 0 0 r)) else (xl3 (yl270_196 B R) 1000000 i 0 0 r))]
      by_cases a : 0 < xR r (q + 1) i
      · rw [if_pos a]
        by_cases b : xR r (q + 1) i < 5
        · rw [if_pos b, hh.mpr ⟨a, b⟩]
        · rw [if_neg b, show y = 0 by rcases hy with e | e; exact e; exact absurd (hh.mp e).2 b]
      · rw [if_neg a, show y = 0 by rcases hy with e | e; exact e; exact absurd (hh.mp e).1 a]
    have nxt : ∀ c6, (∀ a, a ≠ 225 → c6 a = c a) → (∀ j, j ≠ i → c6 225 j = c5 225 j) → rsi c6 r q M k i → (∃ c', xl1 (yl92_2 B) N (i + 1) c6 = some (.inl (-1), c') ∧ xl1 (yl270_143 B) (N' + 1) (i + 1) r = yk270_272 B r ∧ (∀ a, a ≠ 225 → c' a = c a) ∧ ∀ j, 0 ≤ j → j < n → rsi c' r q M k j) ∨ (∃ c' j, (0 ≤ j ∧ j < n) ∧ xl1 (yl92_2 B) N (i + 1) c6 = some (.inl j, c') ∧ xl1 (yl270_143 B) (N' + 1) (i + 1) r = some (.inl 0, xw_u (xw_u r 536 6 11) 536 7 (xR r (q + 3) j)) ∧ ∀ a, a ≠ 225 → c' a = c a) := fun c6 x1 x2 x3 => by
      refine IH c6 (by omega) (by omega) (by omega) (by omega) (by omega) x1 (fun j hj => by rw [x2 j (by omega), e2 j (by omega)]) (fun j j0 j1 => ?_)
      by_cases ej : j = i
      · rw [ej]; exact x3
      · have := e3 j j0 (by omega)
        unfold rsi at this ⊢
        rw [xR_fld (x2 j ej), xR_cg (x1 224 (by omega)), xR_cg (x1 227 (by omega))]
        rw [xR_cg (e1 224 (by omega)), xR_cg (e1 227 (by omega))] at this
        exact this
    by_cases kc : xR c 224 i = 1 ∨ xR c 224 i = 209
    · have kd : ¬ (0 < xR r (q + 1) i ∧ xR r (q + 1) i < 5) := by
        rw [t2]
        unfold kmp
        rcases kc with e | e <;> rw [e] <;> decide
      obtain ⟨N3, n9, er⟩ := e2r 0 (Or.inl rfl) ⟨fun h => absurd h (by decide), fun h => absurd h kd⟩
      obtain ⟨v, z1, p1⟩ := gof_c (B := B) (c := c5) (col := xR c 225 i) k6 C3.2 1000000 0 (by decide) (by omega)
      obtain ⟨tw, z2, p2⟩ := rg_r (B := B) (r := r) (i := i) (R := xl1 (yl270_143 B) (N' + 1)) hq q0 C2 C3.1 C3.2 i0 (by omega) nf N3 0 0 (by decide) C3.1 (Or.inl rfl) (by omega)
      have vr : v = -1 ∨ (0 ≤ v ∧ v < k ∧ xR c 227 v = xR c 225 i) := by
        rcases p1 with ⟨a, _⟩ | ⟨a1, a2, a3, _⟩
        · exact Or.inl a
        · exact Or.inr ⟨a1, a2, by rw [← xR_cg (e1 227 (by omega))]; exact a3⟩
      have twv : tw = true ↔ v ≠ -1 := by
        rw [p2]
        constructor
        · rintro (h | ⟨g, g0, g1, g2⟩)
          · exact absurd h (by decide)
          · rcases p1 with ⟨_, a⟩ | ⟨a1, _⟩
            · exact absurd (by rw [xR_cg (e1 227 (by omega)), ← (C4 g g0 g1).1, g2, t3]) (a g g0 g1)
            · intro h; rw [h] at a1; exact absurd a1 (by decide)
        · intro hv
          rcases p1 with ⟨a, _⟩ | ⟨a1, a2, a3, _⟩
          · exact absurd a hv
          · exact Or.inr ⟨v, a1, a2, by rw [(C4 v a1 a2).1, t3, ← xR_cg (e1 227 (by omega))]; exact a3⟩
      clear p1 p2
      have ec : xl1 (yl92_2 B) (N + 1) i c5 = if v = -1 then some (.inl i, xw_u c5 225 i v) else xl1 (yl92_2 B) N (i + 1) (xw_u c5 225 i v) := by
        show yl92_2 B (xl1 (yl92_2 B) N) i c5 = _
        generalize xl1 (yl92_2 B) N = R
        have e32 : yk92_32 B R i c5 = if v = -1 then some (.inl i, xw_u c5 225 i v) else R (i + 1) (xw_u c5 225 i v) := by
          unfold yk92_32
          rw [if_pos ⟨i0, by omega⟩, k25]
          unfold yf89
          rw [z1, xB_ret, wi]
        unfold yl92_2
        rw [xR_cg (e1 223 (by omega)), I1, if_pos lt, if_pos ⟨i0, by omega⟩, k24]
        rcases kc with e | e
        · rw [if_pos e]; exact e32
        · rw [if_neg (by omega), if_pos e]; exact e32
      rw [ec, er, z2]
      by_cases v1 : v = -1
      · have nt : ¬ tw = true := fun h => twv.mp h v1
        rw [if_pos v1, if_neg nt, dead _ _ (w32_xR _ _ _)]
        exact Or.inr ⟨_, i, ⟨i0, lt⟩, rfl, rfl, fun a ha => by rw [xu_c ha, e1 a ha]⟩
      · rw [if_neg v1, if_pos (twv.mpr v1)]
        have v2 : 0 ≤ v ∧ v < k ∧ xR c 227 v = xR c 225 i := by rcases vr with e | e; exact absurd e v1; exact e
        have a25 : xR (xw_u c5 225 i v) 225 i = v := xR_at (w32_id (by omega) (by omega))
        refine nxt _ (fun a ha => by rw [xu_c ha, e1 a ha]) (fun j hj => xu_ne (by omega)) ?_
        unfold rsi
        rw [a25, xR_cg (xu_c (show (224 : Int) ≠ 225 by decide)), xR_cg (xu_c (show (227 : Int) ≠ 225 by decide)), k24, xR_cg (e1 227 (by omega)), t3]
        exact ⟨t1, t2, t5, fun _ => v2, fun h => absurd kc h, t6⟩
    · have kd : 0 < xR r (q + 1) i ∧ xR r (q + 1) i < 5 := by
        rw [t2]
        have : xR c 224 i = 210 ∨ xR c 224 i = 211 ∨ xR c 224 i = 212 ∨ xR c 224 i = 213 := by omega
        unfold kmp
        rcases this with e | e | e | e <;> rw [e] <;> decide
      obtain ⟨N3, n9, er⟩ := e2r 1 (Or.inr rfl) ⟨fun _ => kd, fun _ => rfl⟩
      obtain ⟨tw, z2, p2⟩ := rg_r (B := B) (r := r) (i := i) (R := xl1 (yl270_143 B) (N' + 1)) hq q0 C2 C3.1 C3.2 i0 (by omega) nf N3 0 1 (by decide) C3.1 (Or.inr rfl) (by omega)
      have yt : tw = true := p2.mpr (Or.inl rfl)
      clear p2
      have ec : xl1 (yl92_2 B) (N + 1) i c5 = xl1 (yl92_2 B) N (i + 1) c5 := by
        show yl92_2 B (xl1 (yl92_2 B) N) i c5 = _
        generalize xl1 (yl92_2 B) N = R
        unfold yl92_2
        rw [xR_cg (e1 223 (by omega)), I1, if_pos lt, if_pos ⟨i0, by omega⟩, k24, if_neg (by omega), if_neg (by omega), wi]
      rw [ec, er, z2, if_pos yt]
      refine nxt c5 e1 (fun _ _ => rfl) ?_
      unfold rsi
      rw [k24, k25, t3]
      exact ⟨t1, t2, t5, fun h => absurd h kc, fun _ => rfl, t6⟩
theorem CDN_fr {c' r' : xw_M} {n g g' p : Int} (L4 : ∀ d, 0 ≤ d → d < D → xR c (15 + 26 * d) 10 ≤ 4) (D8 : D ≤ 8) (h : CDN c r q D n g p) (L : LW c' n g') (hc : ∀ a, (15 ≤ a ∧ a < 223) ∨ a = 229 ∨ (231 ≤ a ∧ a < 292) → c' a = c a) (h1 : c' 223 10 = c 223 10) (h13 : c' 223 13 = c 223 13) (h2 : r' q 13 = r q 13) (h11 : r' q 11 = r q 11) (hr : ∀ a, q + 8 ≤ a → a ≤ q + 13 → r' a = r a) : CDN c' r' q D n g' p := by
  obtain ⟨a1, a2, a3, a4, a5, a6, a7⟩ := h
  have x13 : xR c' 223 13 = xR c 223 13 := xR_fld h13
  have x291 : xR c' 291 = xR c 291 := xR_cg (hc 291 (by omega))
  refine ⟨CQ_fr L4 D8 a1 (fun a ha => hc a (by omega)) h1 h2 (fun a b0 b1 => hr a (by omega) b1), L, ?_, fun v => ?_, by rw [xR_fld h11]; exact a5, by rw [xR_fld h11, xR_cg (hr (q + 8) (by omega) (by omega))]; exact a6, a7⟩
  · unfold SB SC at *
    rw [x13, x291]
    exact a3
  · have := a4 v
    unfold SC RS at *
    rw [x13, x291, xR_fld h11, xR_cg (hr (q + 8) (by omega) (by omega))]
    exact this
end QSU
