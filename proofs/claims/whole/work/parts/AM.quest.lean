/-! THE READERS: a question's items, one behind another; which group an item is -/
section QST
variable {B : Nat} {c r : xw_M} {q D M : Int}
theorem d287 (d : 0 < xR r 536 6) : yk270_287 B r = some (.inl 0, r) := by
  unfold yk270_287
  rw [if_neg (by omega)]
theorem d272q (d : 0 < xR r 536 6) : yk270_272 B r = some (.inl 0, r) := by
  unfold yk270_272
  rw [if_neg (by omega), d287 d]
theorem d130 (hq : r 536 23 = q) (q0 : q = 544 ∨ q = 558) (d : 0 < xR r 536 6) : yk270_130 B r = some (.inl 0, r) := by
  unfold yk270_130
  rw [p266, xB_ret, d258 d, xB_ret]
  generalize hN : (1000000 : Nat) = N
  obtain ⟨N1, rfl⟩ : ∃ N1, N = N1 + 1 := ⟨N - 1, by omega⟩
  show yl270_143 B _ 0 r = _
  unfold yl270_143
  rw [hq, if_pos (q_l B q0).1]
  refine ifd ?_ (d272q d)
  rw [if_neg (by omega)]
  exact d272q d
theorem d111 (hq : r 536 23 = q) (q0 : q = 544 ∨ q = 558) (d : 0 < xR r 536 6) : yk270_111 B r = some (.inl 0, r) := by
  unfold yk270_111
  rw [if_neg (by omega)]
  exact d130 hq q0 d
theorem dqst {N : Nat} (hq : r 536 23 = q) (q0 : q = 544 ∨ q = 558) (d : 0 < xR r 536 6) : xl1 (yl270_47 B) (N + 1) 0 r = some (.inl 0, r) := by
  show yl270_47 B _ 0 r = _
  unfold yl270_47
  rw [if_pos rfl, if_neg (by omega)]
  exact d111 hq q0 d
theorem d271 (hq : r 536 23 = q) (q0 : q = 544 ∨ q = 558) (d : 0 < xR r 536 6) : yf271 B r = some (.inl 0, r) := by
  have o := (q_l B q0).1
  have g : ∀ G : xw_M → xP, (if xw_obb 13 (r 536 23) = true then if (xR r (r 536 23) 0) < 24 then (xB (yf254 B 1 7 (xR r 536 9) r) fun v m1 => if v = 0 then (some (.inl 0, m1)) else G m1) else (xB (yf254 B 0 7 (xR r 536 9) r) fun v m1 => if v = 0 then (some (.inl 0, m1)) else G m1) else none) = some (.inl 0, r) := fun G => by
    rw [hq, if_pos o]
    exact ifd (by rw [d254 d, xB_ret, if_pos rfl]) (by rw [d254 d, xB_ret, if_pos rfl])
  unfold yf271
  rw [p257, xB_ret]
  refine ifd ?_ (g _)
  rw [p257, xB_ret]
  refine ifd ?_ (g _)
  rw [p257, xB_ret]
  refine ifd ?_ (g _)
  rw [p257, xB_ret]
  refine ifd ?_ (g _)
  rw [p257, xB_ret]
  refine ifd ?_ (g _)
  rw [d272 d, xB_ret]
  exact g _
/-- the items -/
theorem its_l (hq : r 536 23 = q) (q0 : q = 544 ∨ q = 558) (G : cgr c r D M) : ∀ (z N N' : Nat) (i : Int) (c5 r5 : xw_M), (25 - i).toNat ≤ z → z < N → z + 1 < N' → 0 ≤ i → PS c5 r5 → itq c5 r5 q M i → fCi c c5 → fRi q r r5 → xR c 1 2 ≤ xR c5 1 2 → (∃ (c' r' : xw_M) (n : Int) (N2 : Nat), xl1 (yl57_16 B) N i c5 = yk57_61 B c' ∧ xl1 (yl270_47 B) N' 1 r5 = xl1 (yl270_47 B) (N2 + 1) 0 r' ∧ TK c' r' ∧ itq c' r' q M n ∧ fCi c c' ∧ fRi q r r' ∧ xR c 1 2 < xR c' 1 2 ∧ (xR c' 1 3 ≠ 0 → xR c 1 2 + 2 ≤ xR c' 1 2)) ∨ (∃ (c' r' : xw_M) (N2 : Nat), xl1 (yl57_16 B) N i c5 = some (.inr 14, c') ∧ xl1 (yl270_47 B) N' 1 r5 = xl1 (yl270_47 B) (N2 + 1) 0 r' ∧ FL c' r' ∧ QC c c' ∧ QR q r r') := by
  intro z
  induction z with
  | zero =>
    intro N N' i c5 r5 hz _ _ i0 _ I _ _ _
    have := I.2.2.2.1
    omega
  | succ z ih =>
    intro N N' i c5 r5 hz zN zN' i0 h I fc fr le
    have i24 := I.2.2.2.1
    cases N with
    | zero => omega
    | succ N =>
    cases N' with
    | zero => omega
    | succ N' =>
    cases N' with
    | zero => omega
    | succ N' =>
    have q5 : r5 536 23 = q := by rw [fr.2.1 23 (by omega)]; exact hq
    have IH := ih N (N' + 1) (i + 1)
    have wi : w32 (i + 1) = i + 1 := w32_id (by omega) (by omega)
    have e1 : xl1 (yl57_16 B) (N + 1) i c5 = xB (yf47 B c5) fun _ m1 => xB (yf59 B m1) fun _ m2 => xB (yf47 B m2) fun _ m3 => if (xR m3 1 3) = 44 then xl1 (yl57_16 B) N (i + 1) m3 else yk57_61 B m3 := by
      show yl57_16 B (xl1 (yl57_16 B) N) i c5 = _
      generalize xl1 (yl57_16 B) N = R
      unfold yl57_16
      rw [if_neg (by omega), wi]
    have e2 : xl1 (yl270_47 B) (N' + 1 + 1) 1 r5 = xB (yf248 B r5) fun _ m4 => xB (yf271 B m4) fun _ m5 => xB (yf248 B m5) fun _ m6 => if (xR m6 536 6) = 0 then (xB (yf266 B 44 m6) fun v7 m7 => if v7 = 0 then xl1 (yl270_47 B) (N' + 1) 0 m7 else xl1 (yl270_47 B) (N' + 1) 1 m7) else xl1 (yl270_47 B) (N' + 1) 0 m6 := by
      show yl270_47 B (xl1 (yl270_47 B) (N' + 1)) 1 r5 = _
      generalize xl1 (yl270_47 B) (N' + 1) = R
      unfold yl270_47
      rw [if_neg (show ¬ (1 : Int) = 0 by decide)]
    rw [e1, e2]
    rcases nx (B := B) h with ⟨v, c6, w6, r6, y1, y2, s⟩ | ⟨c6, w6, r6, y1, y2, F, z⟩
    · rw [y1, y2, xB_ret, xB_ret]
      have q6 : r6 536 23 = q := by rw [s.2.2.1.2 23 (by omega)]; exact q5
      have fc6 := fCi_tr fc (fCi_x s.2.1)
      have fr6 := fRi_tr fr (fRi_x q0 s.2.2.1)
      have G6 : cgr c6 r6 D M := cgr_fr G (fun a a0 a1 => fc6.1 a (by omega) (by omega)) (fun a ha => fr6.1 a (by omega) (by omega)) (fr6.2.1 14 (by omega)) (fr6.2.1 19 (by omega))
      rcases item_ok (B := B) s.1 G6 q6 q0 (itq_x q0 I s.2.1 s.2.2.1) with ⟨v, c7, w7, r7, y1, y2, u⟩ | ⟨c7, w7, r7, y1, y2, F, z⟩
      · rw [y1, y2, xB_ret, xB_ret]
        obtain ⟨u1, u2, u3, u4, u5⟩ := u
        have fc7 := fCi_tr fc6 u3
        have fr7 := fRi_tr fr6 u4
        rcases nx (B := B) u2.1 with ⟨v, c8, w8, r8, y1, y2, s8⟩ | ⟨c8, w8, r8, y1, y2, F, z⟩
        · rw [y1, y2, xB_ret, xB_ret, if_pos s8.1.nf, iss (K := 44) (g := 44) s8.1 rfl (Or.inl rfl), xB_ret]
          have I8 := itq_x q0 u1 s8.2.1 s8.2.2.1
          have fc8 := fCi_tr fc7 (fCi_x s8.2.1)
          have fr8 := fRi_tr fr7 (fRi_x q0 s8.2.2.1)
          have l1 := s.2.2.2.1
          have l2 := s8.2.2.2.1
          have l3 := s8.2.2.2.2
          by_cases k44 : xR c8 1 3 = 44
          · rw [if_pos k44, if_pos k44, if_neg (show ¬ (1 : Int) = 0 by decide)]
            exact IH c8 r8 (by omega) (by omega) (by omega) (by omega) s8.1.1 I8 fc8 fr8 (by omega)
          · rw [if_neg k44, if_neg k44, if_pos (show (0 : Int) = 0 from rfl)]
            exact Or.inl ⟨c8, r8, i + 1, N', rfl, rfl, s8.1, I8, fc8, fr8, by omega, fun k0 => by have := l3 k0; omega⟩
        · rw [y1, y2, xB_thr, xB_ret, if_neg (by have := F.1; omega)]
          exact Or.inr ⟨c8, r8, N', rfl, rfl, F, QC_tr (QC_i fc7) (QC_y z.1), QR_tr (QR_i fr7) (QR_y z.2)⟩
      · rw [y1, y2, xB_thr, xB_ret, d248 F.1, xB_ret, if_neg (by have := F.1; omega)]
        exact Or.inr ⟨c7, r7, N', rfl, rfl, F, QC_tr (QC_i fc6) z.1, QR_tr (QR_i fr6) z.2⟩
    · have q6 : r6 536 23 = q := by rw [z.2.2 23 (by omega)]; exact q5
      rw [y1, y2, xB_thr, xB_ret, d271 q6 q0 F.1, xB_ret, d248 F.1, xB_ret, if_neg (by have := F.1; omega)]
      exact Or.inr ⟨c6, r6, N', rfl, rfl, F, QC_tr (QC_i fc) (QC_y z.1), QR_tr (QR_i fr) (QR_y z.2)⟩
/-- an item that is a column: which group it is -/
def rsi (c r : xw_M) (q M k i : Int) : Prop := (xR c 224 i = 1 ∨ (209 ≤ xR c 224 i ∧ xR c 224 i ≤ 213)) ∧ xR r (q + 1) i = kmp (xR c 224 i) ∧ (0 ≤ xR r (q + 2) i ∧ xR r (q + 2) i < 32) ∧ ((xR c 224 i = 1 ∨ xR c 224 i = 209) → 0 ≤ xR c 225 i ∧ xR c 225 i < k ∧ xR c 227 (xR c 225 i) = xR r (q + 2) i) ∧ (¬ (xR c 224 i = 1 ∨ xR c 224 i = 209) → xR c 225 i = xR r (q + 2) i) ∧ (xR c 224 i = 210 ∨ xR c 224 i = 212 ∨ xR c 224 i = 213 → xR r (q + 2) i < M)
/-- the reference: is the item's column a group -/
theorem rg_r {i k : Int} {R : Int → xw_M → xP} (hq : r 536 23 = q) (q0 : q = 544 ∨ q = 558) (h4 : xR r q 4 = k) (k0 : 0 ≤ k) (k8 : k ≤ 8) (i0 : 0 ≤ i) (i1 : i < 24) (nf : xR r 536 6 = 0) : ∀ (N : Nat) (x y : Int), 0 ≤ x → x ≤ k → (y = 0 ∨ y = 1) → (k - x).toNat < N → ∃ tw : Bool, xl3 (yl270_196 B R) N i y x r = (if tw = true then R (i + 1) r else R (i + 1) (xw_u (xw_u r 536 6 11) 536 7 (xR r (q + 3) i))) ∧ (tw = true ↔ y = 1 ∨ ∃ g, x ≤ g ∧ g < k ∧ xR r (q + 4) g = xR r (q + 2) i) := by
  have ibd : 0 ≤ i ∧ i < 24 := ⟨i0, i1⟩
  have fin : ∀ a : xP, (if (0 : Int) ≤ i ∧ i < (xw_le B (xw_rf (r 536 23) 3)) then if xw_obb 16 (xw_rf (r 536 23) 3) = true then a else none else none) = a := fun a => by
    obtain ⟨o, ⟨_, _, f, _⟩, ob, ⟨_, _, l, _⟩⟩ := q_l B q0
    rw [hq, f, l, if_pos ibd, if_pos (ob 3 (by decide) (by decide))]
  have e3 : xw_rf (r 536 23) 3 = q + 3 := by rw [hq]; exact (q_l B q0).2.1.2.2.1
  have rd : ∀ x, 0 ≤ x → x < k → ∀ a b : xP, (if (0 : Int) ≤ x ∧ x < (xw_le B (xw_rf (r 536 23) 5)) then if xw_obb 16 (xw_rf (r 536 23) 5) = true then if (0 : Int) ≤ i ∧ i < (xw_le B (xw_rf (r 536 23) 2)) then if xw_obb 16 (xw_rf (r 536 23) 2) = true then if (xR r (xw_rf (r 536 23) 5) x) = (xR r (xw_rf (r 536 23) 2) i) then a else b else none else none else none else none) = if xR r (q + 4) x = xR r (q + 2) i then a else b := by
    intro x x0 x1 a b
    have x8 : 0 ≤ x ∧ x < 8 := ⟨x0, by omega⟩
    obtain ⟨o, ⟨_, f2, _, f5, _⟩, ob, ⟨_, l2, _, l4, _⟩⟩ := q_l B q0
    rw [hq, f5, f2, l4, l2, if_pos x8, if_pos (ob 4 (by decide) (by decide)), if_pos ibd, if_pos (ob 2 (by decide) (by decide))]
  have oq : xw_obb 13 (r 536 23) = true := by rw [hq]; exact (q_l B q0).1
  have h4' : xR r (r 536 23) 4 = k := by rw [hq]; exact h4
  intro N
  induction N with
  | zero => intro x y _ _ _ h; omega
  | succ N ih =>
    intro x y x0 xk hy hx
    show ∃ tw : Bool, yl270_196 B R (xl3 (yl270_196 B R) N) i y x r = _ ∧ _
    have IH := ih (x + 1)
    generalize xl3 (yl270_196 B R) N = R' at IH ⊢
    unfold yl270_196
    rw [if_pos oq]
    by_cases e : x < k
    · rw [if_pos (by rw [h4']; exact e)]
      by_cases y0 : y = 0
      · rw [if_pos y0, rd x x0 e, w32_id (by omega) (by omega)]
        by_cases a : xR r (q + 4) x = xR r (q + 2) i
        · rw [if_pos a]
          obtain ⟨tw, z, p⟩ := IH 1 (by omega) (by omega) (Or.inr rfl) (by omega)
          refine ⟨tw, z, p.trans ⟨fun _ => Or.inr ⟨x, Int.le_refl _, e, a⟩, fun _ => Or.inl rfl⟩⟩
        · rw [if_neg a]
          obtain ⟨tw, z, p⟩ := IH 0 (by omega) (by omega) (Or.inl rfl) (by omega)
          refine ⟨tw, z, p.trans ⟨fun h => ?_, fun h => ?_⟩⟩
          · rcases h with h | ⟨g, g0, g1, g2⟩
            · omega
            · exact Or.inr ⟨g, by omega, g1, g2⟩
          · rcases h with h | ⟨g, g0, g1, g2⟩
            · omega
            · refine Or.inr ⟨g, ?_, g1, g2⟩
              by_cases t : g = x
              · rw [t] at g2; exact absurd g2 a
              · omega
      · have y1 : y = 1 := by omega
        rw [if_neg y0, w32_id (by omega) (by omega)]
        obtain ⟨tw, z, p⟩ := IH 1 (by omega) (by omega) (Or.inr rfl) (by omega)
        exact ⟨tw, z, p.trans ⟨fun _ => Or.inl y1, fun _ => Or.inl rfl⟩⟩
    · rw [if_neg (by rw [h4']; exact e), fin, e3, w32_id (by omega) (by omega)]
      by_cases y0 : y = 0
      · rw [y0, no254 nf (by decide) (by decide), xB_ret]
        refine ⟨false, by rw [if_neg (by decide)], ⟨fun h => absurd h (by decide), fun h => ?_⟩⟩
        rcases h with h | ⟨g, g0, g1, g2⟩ <;> omega
      · have y1 : y = 1 := by omega
        rw [y1, ok254 nf, xB_ret]
        exact ⟨true, by rw [if_pos rfl], ⟨fun _ => Or.inl rfl, fun _ => rfl⟩⟩
end QST
