/-! THE ANSWER, by the reference: whether a fact holds -/
def stk (m : xw_M) : List Bool → Prop
  | [] => True
  | b :: t => xR m 572 (t.length : Int) = b01 b ∧ stk m t
theorem stk_u {m : xw_M} {j v : Int} : ∀ {l : List Bool}, (l.length : Int) ≤ j → stk m l → stk (xw_u m 572 j v) l
  | [], _, _ => trivial
  | b :: t, h, k => by
    have h' : (t.length : Int) + 1 ≤ j := by rw [List.length_cons] at h; omega
    exact ⟨by rw [xR_ne (by omega)]; exact k.1, stk_u (by omega) k.2⟩
theorem tn_a {k : Nat} {s : Int} (c : (k : Int) < s) : k ≤ s.toNat ∧ k + 1 ≤ s.toNat ∧ ((k + 1 : Nat) : Int) ≤ s := by omega
theorem tn_b {k N : Nat} {s : Int} (c : (k : Int) < s) (h : (s - (k : Int)).toNat < N + 1) : (s - ((k + 1 : Nat) : Int)).toNat < N := by omega
theorem tn_c {k : Nat} {s : Int} (h : (k : Int) ≤ s) (c : ¬ (k : Int) < s) : s.toNat = k := by omega
section HLR
variable {B : Nat}
theorem yl287_e {q x1 x2 x3 : Int} {m : xw_M} {R : Int → Int → Int → xw_M → xP} (hq : m 536 23 = q) (q0 : q = 544 ∨ q = 558) : yl287_4 B R x1 x2 x3 m = if x3 < (xR m q 11) then (if (0 : Int) ≤ x3 ∧ x3 < 2600 then if (xR m (q + 8) x3) < 0 then (if (xR m (q + 8) x3) = (-1) then (if (0 : Int) ≤ (x2 - 1) ∧ (x2 - 1) < 64 then if (xR m 572 (x2 - 1)) = 0 then (R x1 x2 (w32 (x3 + 1)) (xw_u m 572 (x2 - 1) 1)) else (R x1 x2 (w32 (x3 + 1)) (xw_u m 572 (x2 - 1) 0)) else none) else (if (xR m (q + 8) x3) = (-2) then (if (0 : Int) ≤ (x2 - 2) ∧ (x2 - 2) < 64 then if (xR m 572 (x2 - 2)) = 0 then (R x1 (w32 (x2 + (-1))) (w32 (x3 + 1)) (xw_u m 572 (x2 - 2) 0)) else (if (0 : Int) ≤ (x2 - 1) ∧ (x2 - 1) < 64 then if (xR m 572 (x2 - 1)) = 0 then (R x1 (w32 (x2 + (-1))) (w32 (x3 + 1)) (xw_u m 572 (x2 - 2) 0)) else (R x1 (w32 (x2 + (-1))) (w32 (x3 + 1)) (xw_u m 572 (x2 - 2) 1)) else none) else none) else (if (0 : Int) ≤ (x2 - 2) ∧ (x2 - 2) < 64 then if (xR m 572 (x2 - 2)) = 0 then (if (0 : Int) ≤ (x2 - 1) ∧ (x2 - 1) < 64 then if (xR m 572 (x2 - 1)) = 0 then (R x1 (w32 (x2 + (-1))) (w32 (x3 + 1)) (xw_u m 572 (x2 - 2) 0)) else (R x1 (w32 (x2 + (-1))) (w32 (x3 + 1)) (xw_u m 572 (x2 - 2) 1)) else none) else (R x1 (w32 (x2 + (-1))) (w32 (x3 + 1)) (xw_u m 572 (x2 - 2) 1)) else none))) else (xB (yf288 B (xR m (q + 8) x3) x1 m) fun v1 m1 => if (0 : Int) ≤ x2 ∧ x2 < 64 then (R x1 (w32 (x2 + 1)) (w32 (x3 + 1)) (xw_u m1 572 x2 v1)) else none) else none) else (if x2 = 0 then (some (.inl 1, m)) else (if (xR m 572 0) = 0 then (some (.inl 0, m)) else (some (.inl 1, m)))) := by
  obtain ⟨oq, ⟨_, _, _, _, _, _, _, f12, _⟩, oj, ⟨_, _, _, _, _, _, _, l8, _⟩⟩ := q_l B q0
  have o8 := oj 8 (by decide) (by decide)
  unfold yl287_4
  rw [hq, f12, l8, if_pos oq, if_pos o8]
theorem rholds_l {m0 : xw_M} {q f n s : Int} {v : Int → Bool} (hq : m0 536 23 = q) (q0 : q = 544 ∨ q = 558) (hs : xR m0 q 11 = s) (s1 : s ≤ 2600) (n1 : n ≤ 60) (wf : wfR (xR m0 (q + 8)) s.toNat n) (hv : ∀ i, 0 ≤ i → i < n → ∀ m, (∀ a, a ≠ 572 → m a = m0 a) → yf288 B i f m = some (.inl (b01 (v i)), m)) (le1 : (evR (xR m0 (q + 8)) v s.toNat).length ≤ 1) : ∀ (N k : Nat) (m : xw_M), (k : Int) ≤ s → (s - k).toNat < N → (∀ a, a ≠ 572 → m a = m0 a) → stk m (evR (xR m0 (q + 8)) v k) → ∃ m', xl3 (yl287_4 B) N f (evR (xR m0 (q + 8)) v k).length k m = some (.inl (b01 (top (evR (xR m0 (q + 8)) v s.toNat))), m') ∧ ∀ a, a ≠ 572 → m' a = m0 a := by
  have LE : Unit → (evR (xR m0 (q + 8)) v s.toNat).length ≤ 1 := fun _ => le1
  clear le1
  intro N
  induction N with
  | zero => intro k m _ hN; omega
  | succ N ih =>
    intro k m k1 hN f st
    show ∃ m', yl287_4 B (xl3 (yl287_4 B) N) _ (evR (xR m0 (q + 8)) v k).length k m = _ ∧ _
    have IH := ih (k + 1)
    clear ih
    generalize xl3 (yl287_4 B) N = R at IH ⊢
    have x23 : m 536 23 = q := by rw [f 536 (by omega)]; exact hq
    have x11 : xR m q 11 = s := by rw [xR_cg (f q (by omega))]; exact hs
    have x8 : ∀ j, xR m (q + 8) j = xR m0 (q + 8) j := fun j => by rw [xR_cg (f (q + 8) (by omega))]
    rw [yl287_e x23 q0, x11]
    by_cases c : (k : Int) < s
    · have kb : (0 : Int) ≤ k ∧ (k : Int) < 2600 := by omega
      have wk : w32 ((k : Int) + 1) = k + 1 := w32_id (by omega) (by omega)
      obtain ⟨hk, hk1, hk2⟩ := tn_a c
      have hk3 := tn_b c hN
      have ln := evR_ln (v := v) wf k hk
      have l60 := wf.2 k hk
      have l61 : (if 0 ≤ xR m0 (q + 8) k then lenR (xR m0 (q + 8)) k + 1 else if xR m0 (q + 8) k = -1 then lenR (xR m0 (q + 8)) k else lenR (xR m0 (q + 8)) k - 1) ≤ n := wf.2 (k + 1) hk1
      have w := wf.1 k hk1
      have IH2 : ∀ m, (∀ a, a ≠ 572 → m a = m0 a) → stk m (opR v (xR m0 (q + 8) k) (evR (xR m0 (q + 8)) v k)) → ∃ m', R _ ((opR v (xR m0 (q + 8) k) (evR (xR m0 (q + 8)) v k)).length : Int) ((k : Int) + 1) m = some (.inl (b01 (top (evR (xR m0 (q + 8)) v s.toNat))), m') ∧ ∀ a, a ≠ 572 → m' a = m0 a := fun m => IH m hk2 hk3
      clear IH
      rw [if_pos c, if_pos kb, x8, wk]
      generalize evR (xR m0 (q + 8)) v k = l at ln IH2 st ⊢
      generalize xR m0 (q + 8) k = x at l61 w IH2 ⊢
      generalize lenR (xR m0 (q + 8)) k = lc at ln l60 l61 w
      generalize evR (xR m0 (q + 8)) v s.toNat = E at IH2 ⊢
      clear x8 wf hN x23 hq hs x11 q0 hk hk1 hk2 hk3 LE c kb k1 wk s1
      unfold opR at IH2
      have up : ∀ j w, ∀ a, a ≠ 572 → (xw_u m 572 j w) a = m0 a := fun j w a ha => by rw [← f a ha]; funext k'; exact if_neg (fun h => ha h.1)
      rcases w with ⟨x0, x2⟩ | ⟨x0, x2⟩ | ⟨x0, x2⟩
      · rw [if_pos x0] at IH2 l61
        have n2 : ¬ x < 0 := by omega
        have lb : (0 : Int) ≤ l.length ∧ (l.length : Int) < 64 := by omega
        have wl : w32 ((l.length : Int) + 1) = l.length + 1 := w32_id (by omega) (by omega)
        rw [if_neg n2, hv x x0 x2 m f, xB_ret, if_pos lb, wl]
        have z := IH2 (xw_u m 572 l.length (b01 (v x))) (up _ _) ⟨by rw [xR_u, if_pos ⟨rfl, rfl⟩]; rcases b01_c (v x) with ⟨_, h⟩ | ⟨_, h⟩ <;> rw [h] <;> rfl, stk_u (by omega) st⟩
        rw [List.length_cons] at z
        exact z
      · have n0 : ¬ 0 ≤ x := by omega
        have n2 : x < 0 := by omega
        rw [if_neg n0, if_pos x0] at IH2
        rw [if_pos n2, if_pos x0]
        cases l with
        | nil => simp at ln; omega
        | cons b t =>
          have tl : (((b :: t).length : Nat) : Int) - 1 = t.length := by rw [List.length_cons]; omega
          rw [tl, if_pos (by omega), st.1]
          have S : ∀ w : Int, w = b01 (!b) → stk (xw_u m 572 t.length w) (tN (b :: t)) := fun w hw => by
            refine ⟨?_, stk_u (by omega) st.2⟩
            rw [xR_u, if_pos ⟨rfl, rfl⟩, hw]; cases b <;> rfl
          rcases b01_c b with ⟨hb, h⟩ | ⟨hb, h⟩
          · rw [h, if_neg (by decide)]
            exact IH2 _ (up _ _) (S 0 (by rw [hb]; rfl))
          · rw [h, if_pos rfl]
            exact IH2 _ (up _ _) (S 1 (by rw [hb]; rfl))
      · have n0 : ¬ 0 ≤ x := by omega
        have n2 : x < 0 := by omega
        have n3 : ¬ x = -1 := by omega
        rw [if_neg n0, if_neg n3] at IH2
        rw [if_pos n2, if_neg n3]
        match l, ln, st, IH2 with
        | [], ln, _, _ => simp at ln; omega
        | [_], ln, _, _ => simp at ln; omega
        | b :: a :: t, ln, st, IH2 =>
          have tl : (((b :: a :: t).length : Nat) : Int) - 1 = t.length + 1 := by rw [List.length_cons, List.length_cons]; omega
          have tl2 : (((b :: a :: t).length : Nat) : Int) - 2 = t.length := by rw [List.length_cons, List.length_cons]; omega
          have tl3 : w32 ((((b :: a :: t).length : Nat) : Int) + (-1)) = t.length + 1 := by rw [w32_id (by omega) (by omega)]; omega
          have tb : (0 : Int) ≤ t.length ∧ (t.length : Int) < 64 := by omega
          have tb1 : (0 : Int) ≤ (t.length : Int) + 1 ∧ (t.length : Int) + 1 < 64 := by omega
          have st1 : xR m 572 ((t.length : Int) + 1) = b01 b := by
            have h1 : xR m 572 (((a :: t).length : Nat) : Int) = b01 b := st.1
            rw [List.length_cons, show ((t.length + 1 : Nat) : Int) = (t.length : Int) + 1 from by omega] at h1
            exact h1
          have S : ∀ (w : Int) (c : Bool), w = b01 c → stk (xw_u m 572 t.length w) (c :: t) := fun w c hw => by
            refine ⟨?_, stk_u (by omega) st.2.2⟩
            rw [xR_u, if_pos ⟨rfl, rfl⟩, hw]; cases c <;> rfl
          rw [tl, tl2, tl3, st1, st.2.1]
          by_cases h2 : x = -2
          · rw [if_pos h2] at IH2 ⊢
            rw [if_pos tb, if_pos tb1]
            have G : ∀ w : Int, w = b01 (a && b) → _ := fun w hw => IH2 _ (up t.length w) (S w (a && b) hw)
            have tA_l : ((tA (b :: a :: t)).length : Int) = t.length + 1 := by show ((((a && b) :: t).length : Nat) : Int) = _; rw [List.length_cons]; omega
            rw [tA_l] at G
            rcases b01_c a with ⟨ha, ea⟩ | ⟨ha, ea⟩
            · rcases b01_c b with ⟨hb, eb⟩ | ⟨hb, eb⟩
              · rw [ea, eb, if_neg (by decide), if_neg (by decide)]; exact G 1 (by rw [ha, hb]; rfl)
              · rw [ea, eb, if_neg (by decide), if_pos rfl]; exact G 0 (by rw [ha, hb]; rfl)
            · rw [ea, if_pos rfl]; exact G 0 (by rw [ha]; rfl)
          · rw [if_neg h2] at IH2 ⊢
            rw [if_pos tb, if_pos tb1]
            have G : ∀ w : Int, w = b01 (a || b) → _ := fun w hw => IH2 _ (up t.length w) (S w (a || b) hw)
            have tO_l : ((tO (b :: a :: t)).length : Int) = t.length + 1 := by show ((((a || b) :: t).length : Nat) : Int) = _; rw [List.length_cons]; omega
            rw [tO_l] at G
            rcases b01_c a with ⟨ha, ea⟩ | ⟨ha, ea⟩
            · rw [ea, if_neg (by decide)]; exact G 1 (by rw [ha]; rfl)
            · rcases b01_c b with ⟨hb, eb⟩ | ⟨hb, eb⟩
              · rw [ea, eb, if_pos rfl, if_neg (by decide)]; exact G 1 (by rw [ha, hb]; rfl)
              · rw [ea, eb, if_pos rfl, if_pos rfl]; exact G 0 (by rw [ha, hb]; rfl)
    · have sk : s.toNat = k := tn_c k1 c
      have le1 := LE ()
      rw [sk] at le1 ⊢
      rw [if_neg c]
      generalize evR (xR m0 (q + 8)) v k = l at *
      match l, le1, st with
      | [], _, _ => rw [if_pos (by rfl)]; exact ⟨m, rfl, f⟩
      | [b], _, st =>
        have s1 : xR m 572 0 = b01 b := st.1
        rw [if_neg (by show ¬ ((1 : Nat) : Int) = 0; omega), s1]
        rcases b01_c b with ⟨hb, eb⟩ | ⟨hb, eb⟩
        · rw [eb, if_neg (by decide)]; exact ⟨m, by show _ = some (Sum.inl (b01 b), m); rw [eb], f⟩
        · rw [eb, if_pos rfl]; exact ⟨m, by show _ = some (Sum.inl (b01 b), m); rw [eb], f⟩
theorem holds_r {m : xw_M} {q f n : Int} {v : Int → Bool} (hq : m 536 23 = q) (q0 : q = 544 ∨ q = 558) (s0 : 0 ≤ xR m q 11) (s1 : xR m q 11 ≤ 43 * n) (n1 : n ≤ 60) (wf : wfR (xR m (q + 8)) (xR m q 11).toNat n) (hv : ∀ i, 0 ≤ i → i < n → ∀ m', (∀ a, a ≠ 572 → m' a = m a) → yf288 B i f m' = some (.inl (b01 (v i)), m')) (le1 : (RS m q v).length ≤ 1) : ∃ m', yf287 B f m = some (.inl (b01 (top (RS m q v))), m') ∧ ∀ a, a ≠ 572 → m' a = m a := by
  unfold yf287
  generalize hN : (1000000 : Nat) = N
  have h := rholds_l (B := B) (m0 := m) (f := f) (v := v) hq q0 rfl (by omega) n1 wf hv le1 N 0 m s0 (by omega) (fun _ _ => rfl) trivial
  exact h
end HLR
