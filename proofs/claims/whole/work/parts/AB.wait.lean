/-! THE READERS: what waits in a condition, by the class -/
/-- operators that wait above w, the topmost first -/
def pnd (c : xw_M) (w : Int) : List Int → Int → Prop
  | [], h => h = w
  | o :: t, h => xR c 294 (h - 1) = o ∧ (o = 214 ∨ o = 215) ∧ pnd c w t (h - 1)
def app : List Int → List Bool → List Bool
  | [], s => s
  | o :: t, s => app t (if o = 214 then tA s else tO s)
theorem pnd_h {c : xw_M} {w : Int} : ∀ (t : List Int) (h : Int), pnd c w t h → h = w + t.length := by
  intro t
  induction t with
  | nil => intro h k; have : h = w := k; simp; omega
  | cons o t ih =>
    intro h k
    have := ih (h - 1) k.2.2
    rw [List.length_cons]
    omega
theorem pnd_cg {c c' : xw_M} {w : Int} : ∀ (t : List Int) (h : Int), (∀ i, w ≤ i → i < h → xR c' 294 i = xR c 294 i) → pnd c w t h → pnd c' w t h := by
  intro t
  induction t with
  | nil => exact fun h _ k => k
  | cons o t ih =>
    intro h e k
    have l := pnd_h (o :: t) h k
    rw [List.length_cons] at l
    exact ⟨by rw [e (h - 1) (by omega) (by omega)]; exact k.1, k.2.1, ih (h - 1) (fun i i0 i1 => e i i0 (by omega)) k.2.2⟩
/-- steps and waiting operators alone are others -/
def fW (c c' : xw_M) : Prop := (∀ a, a ≠ 223 → a ≠ 291 → a ≠ 293 → a ≠ 294 → c' a = c a) ∧ (∀ k, k ≠ 13 → c' 223 k = c 223 k) ∧ ∀ k, k ≠ 4 → c' 293 k = c 293 k
theorem fW_tr {a b c : xw_M} (h : fW a b) (k : fW b c) : fW a c := ⟨fun x x1 x2 x3 x4 => by rw [k.1 x x1 x2 x3 x4, h.1 x x1 x2 x3 x4], fun x hx => by rw [k.2.1 x hx, h.2.1 x hx], fun x hx => by rw [k.2.2 x hx, h.2.2 x hx]⟩
theorem fW_rf {c : xw_M} : fW c c := ⟨fun _ _ _ _ _ => rfl, fun _ _ => rfl, fun _ _ => rfl⟩
theorem fW_s {c c' : xw_M} (h : fStp c c') : fW c c' := ⟨fun x x1 x2 _ _ => h.1 x x1 x2, h.2, fun k _ => by rw [h.1 293 (by omega) (by omega)]⟩
section WAI
variable {B : Nat}
theorem SB_u {c : xw_M} {n p x : Int} (h : SB c n p) : SB (xw_u c 293 4 x) n p := SB_fr h (xu_c (by omega)) (xu_c (by omega))
theorem SC_u {c : xw_M} {x : Int} {v : Int → Bool} : SC (xw_u c 293 4 x) v = SC c v := SC_fr (by rw [xu_c (by omega)]) (fun i _ _ => by rw [xR_cg (xu_c (by omega))]) v
theorem settle_l {op w n : Int} (w0 : 0 ≤ w) (n1 : n ≤ 60) : ∀ (ops : List Int) (N : Nat) (h p : Int) (c : xw_M), ops.length < N → h ≤ 164 → xR c 293 4 = h → pnd c w ops h → (∀ o ∈ ops, o ≤ op) → (w = 0 ∨ xR c 294 (w - 1) = 40 ∨ op < xR c 294 (w - 1)) → SB c n p → (ops.length : Int) + 1 ≤ p → ∃ c', xl2 (yl84_7 B) N op (h - 1) c = some (.inl 0, c') ∧ xR c' 293 4 = w ∧ (∀ v, SC c' v = app ops (SC c v)) ∧ SB c' n (p - ops.length) ∧ fW c c' ∧ c' 294 = c 294 := by
  intro ops
  induction ops with
  | nil =>
    intro N h p c hN h1 hh hp _ hb S _
    have hw : h = w := hp
    subst hw
    cases N with
    | zero => simp at hN
    | succ N =>
      refine ⟨c, ?_, hh, fun v => rfl, by simpa using S, fW_rf, rfl⟩
      show yl84_7 B _ op (h - 1) c = _
      unfold yl84_7
      by_cases e : h - 1 < 0
      · rw [if_pos e]
      · rw [if_neg e, if_pos ⟨by omega, by omega⟩]
        rcases hb with k | k | k
        · omega
        · rw [if_pos k]
        · by_cases a : xR c 294 (h - 1) = 40
          · rw [if_pos a]
          · rw [if_neg a, if_pos k]
  | cons o t ih =>
    intro N h p c hN h1 hh hp ho hb S hl
    rw [List.length_cons] at hN hl
    have hlen := pnd_h (o :: t) h hp
    rw [List.length_cons] at hlen
    obtain ⟨k1, k2, k3⟩ := hp
    cases N with
    | zero => simp at hN
    | succ N =>
      have ob := ho o List.mem_cons_self
      obtain ⟨c1, z1, f1, S1, E1⟩ := add_b (B := B) (c := c) (x := o) S k2 n1 (by omega)
      have hh1 : xR c1 293 4 = h := by rw [xR_cg (f1.1 293 (by omega) (by omega))]; exact hh
      have u4 : (xw_u c1 293 4 (h - 1)) 294 = c 294 := by rw [xu_c (by omega), f1.1 294 (by omega) (by omega)]
      obtain ⟨c2, z2, g1, g2, g3, g4, g5⟩ := ih N (h - 1) (p - 1) (xw_u c1 293 4 (h - 1)) (by omega) (by omega) (xR_at (w32_id (by omega) (by omega))) (pnd_cg t (h - 1) (fun i _ _ => by rw [xR_cg u4]) k3) (fun o' h' => ho o' (List.mem_cons_of_mem _ h')) (by rw [xR_cg u4]; exact hb) (SB_u S1) (by omega)
      refine ⟨c2, ?_, g1, fun v => ?_, ?_, fW_tr (fW_tr (fW_s f1) ⟨fun a _ _ a3 _ => xu_c a3, fun k _ => by rw [xu_c (by omega)], fun k hk => xu_ne (by omega)⟩) g4, by rw [g5, u4]⟩
      · show yl84_7 B (xl2 (yl84_7 B) N) op (h - 1) c = _
        generalize xl2 (yl84_7 B) N = R at z2 ⊢
        unfold yl84_7
        rw [if_neg (by omega), if_pos ⟨by omega, by omega⟩, k1, if_neg (by omega), if_neg (by omega), z1, xB_ret, hh1, w32_id (by omega) (by omega)]
        exact z2
      · rw [g2 v, SC_u, E1 v]
        rfl
      · have : p - ((o :: t).length : Int) = p - 1 - t.length := by rw [List.length_cons]; omega
        rw [this]
        exact g3
theorem settle_ok {op w n p : Int} {c : xw_M} {ops : List Int} (w0 : 0 ≤ w) (n1 : n ≤ 60) (ln : ops.length < 1000) (h1 : xR c 293 4 ≤ 164) (hp : pnd c w ops (xR c 293 4)) (ho : ∀ o ∈ ops, o ≤ op) (hb : w = 0 ∨ xR c 294 (w - 1) = 40 ∨ op < xR c 294 (w - 1)) (S : SB c n p) (hl : (ops.length : Int) + 1 ≤ p) : ∃ c', yf84 B op c = some (.inl 0, c') ∧ xR c' 293 4 = w ∧ (∀ v, SC c' v = app ops (SC c v)) ∧ SB c' n (p - ops.length) ∧ fW c c' ∧ c' 294 = c 294 := by
  have hlen := pnd_h ops _ hp
  unfold yf84
  rw [w32_id (by omega) (by omega)]
  generalize hN : (1000000 : Nat) = N
  exact settle_l w0 n1 ops N _ p c (by omega) h1 rfl hp ho hb S hl
/-- addBinary -/
theorem bin_ok {op w n p : Int} {c : xw_M} {ops : List Int} (hop : op = 214 ∨ op = 215) (w0 : 0 ≤ w) (w1 : w < 164) (n1 : n ≤ 60) (ln : ops.length < 1000) (h1 : xR c 293 4 ≤ 164) (hp : pnd c w ops (xR c 293 4)) (ho : ∀ o ∈ ops, o ≤ op) (hb : w = 0 ∨ xR c 294 (w - 1) = 40 ∨ op < xR c 294 (w - 1)) (S : SB c n p) (hl : (ops.length : Int) + 1 ≤ p) : ∃ c', yf85 B op c = some (.inl 0, c') ∧ xR c' 293 4 = w + 1 ∧ xR c' 294 w = op ∧ (∀ i, i ≠ w → c' 294 i = c 294 i) ∧ (∀ v, SC c' v = app ops (SC c v)) ∧ SB c' n (p - ops.length) ∧ fW c c' := by
  obtain ⟨c1, z, e1, e2, e3, e4, e5⟩ := settle_ok (B := B) w0 n1 ln h1 hp ho hb S hl
  unfold yf85
  rw [z, xB_ret, e1, if_pos w1, if_pos ⟨w0, w1⟩]
  refine ⟨_, rfl, by rw [xR_ne (by omega)]; exact xR_at (w32_id (by omega) (by omega)), xR_at (w32_id (by omega) (by omega)), fun i hi => by rw [xu_ne (by omega), xu_ne (by omega), e5], fun v => ?_, SB_fr e3 (by rw [xu_c (by omega), xu_c (by omega)]) (by rw [xu_c (by omega), xu_c (by omega)]), fW_tr e4 ⟨fun a _ _ a3 a4 => by rw [xu_c a4, xu_c a3], fun k _ => by rw [xu_c (by omega), xu_c (by omega)], fun k hk => by rw [xu_c (by omega), xu_ne (by omega)]⟩⟩
  rw [← e2 v]
  exact SC_fr (by rw [xu_c (by omega), xu_c (by omega)]) (fun i _ _ => by rw [xR_cg (xu_c (by omega)), xR_cg (xu_c (by omega))]) v
/-- not, as it waits: f = 1 where one waits above w -/
def ntw (c : xw_M) (w f : Int) : Prop := (f = 0 ∧ xR c 293 4 = w ∧ (w = 0 ∨ xR c 294 (w - 1) ≠ 216)) ∨ (f = 1 ∧ xR c 293 4 = w + 1 ∧ xR c 294 w = 216 ∧ (w = 0 ∨ xR c 294 (w - 1) ≠ 216))
theorem not_ok {w f : Int} {c : xw_M} (w0 : 0 ≤ w) (w1 : w < 164) (h : ntw c w f) : ∃ c', yf72 B c = some (.inl 0, c') ∧ ntw c' w (1 - f) ∧ fW c c' ∧ (∀ i, i ≠ w → c' 294 i = c 294 i) ∧ c' 223 = c 223 ∧ c' 291 = c 291 := by
  unfold yf72
  rcases h with ⟨rfl, h1, h2⟩ | ⟨rfl, h1, h2, h3⟩
  · have e : yk72_37 B c = some (.inl 0, xw_u (xw_u c 293 4 (w + 1)) 294 w 216) := by
      unfold yk72_37
      rw [h1, if_pos w1, if_pos ⟨w0, w1⟩]
    have res : ntw (xw_u (xw_u c 293 4 (w + 1)) 294 w 216) w (1 - 0) := by
      refine Or.inr ⟨rfl, by rw [xR_ne (by omega)]; exact xR_at (w32_id (by omega) (by omega)), xR_at (by decide), ?_⟩
      rw [xR_ne (by omega), xR_ne (by omega)]
      exact h2
    have fr : fW c (xw_u (xw_u c 293 4 (w + 1)) 294 w 216) := ⟨fun a _ _ a3 a4 => by rw [xu_c a4, xu_c a3], fun k _ => by rw [xu_c (by omega), xu_c (by omega)], fun k hk => by rw [xu_c (by omega), xu_ne (by omega)]⟩
    refine ⟨_, ?_, res, fr, fun i hi => by rw [xu_ne (by omega), xu_ne (by omega)], by rw [xu_c (by omega), xu_c (by omega)], by rw [xu_c (by omega), xu_c (by omega)]⟩
    rw [h1]
    by_cases a : 0 < w
    · rw [if_pos a, if_pos ⟨by omega, by omega⟩, if_neg (by rcases h2 with k | k; omega; exact k)]
      exact e
    · rw [if_neg a]
      exact e
  · rw [h1, if_pos (by omega), if_pos ⟨by omega, by omega⟩, show w + 1 - 1 = w by omega, if_pos h2]
    refine ⟨_, rfl, Or.inl ⟨rfl, xR_at (w32_id (by omega) (by omega)), by rw [xR_cg (xu_c (by omega))]; exact h3⟩, ⟨fun a _ _ a3 _ => xu_c a3, fun k _ => by rw [xu_c (by omega)], fun k hk => xu_ne (by omega)⟩, fun i _ => by rw [xu_c (by omega)], xu_c (by omega), xu_c (by omega)⟩
/-- settleNot -/
theorem snot_ok {w f n p : Int} {c : xw_M} (w0 : 0 ≤ w) (w1 : w < 164) (n1 : n ≤ 60) (h : ntw c w f) (S : SB c n p) (p1 : 1 ≤ p) : ∃ c', yf82 B c = some (.inl 0, c') ∧ xR c' 293 4 = w ∧ fW c c' ∧ c' 294 = c 294 ∧ SB c' n p ∧ ∀ v, SC c' v = if f = 1 then tN (SC c v) else SC c v := by
  unfold yf82
  rcases h with ⟨rfl, h1, h2⟩ | ⟨rfl, h1, h2, h3⟩
  · rw [h1]
    refine ⟨c, ?_, h1, fW_rf, rfl, S, fun v => by rw [if_neg (by decide)]⟩
    by_cases a : 0 < w
    · rw [if_pos a, if_pos ⟨by omega, by omega⟩, if_neg (by rcases h2 with k | k; omega; exact k)]
    · rw [if_neg a]
  · rw [h1, if_pos (by omega), if_pos ⟨by omega, by omega⟩, show w + 1 - 1 = w by omega, if_pos h2]
    obtain ⟨c1, z, f1, S1, E1⟩ := add_not (B := B) (c := xw_u c 293 4 w) (SB_u S) n1 p1
    rw [z, xB_ret]
    refine ⟨c1, rfl, by rw [xR_cg (f1.1 293 (by omega) (by omega))]; exact xR_at (w32_id (by omega) (by omega)), fW_tr ⟨fun a _ _ a3 _ => xu_c a3, fun k _ => by rw [xu_c (by omega)], fun k hk => xu_ne (by omega)⟩ (fW_s f1), by rw [f1.1 294 (by omega) (by omega), xu_c (by omega)], S1, fun v => by rw [E1 v, SC_u, if_pos rfl]⟩
end WAI
section DED
variable {B : Nat} {c r : xw_M}
theorem d277 {q : Int} (d : 0 < xR r 536 6) (hq : r 536 23 = q) (q0 : q = 544 ∨ q = 558) : yf277 B r = some (.inl 0, r) := by
  unfold yf277
  rw [d272 d, xB_ret, hq, if_pos (q_l B q0).1]
  exact ifd (by rw [d254 d, xB_ret, if_pos (show (0 : Int) = 0 from rfl)]) (by rw [d254 d, xB_ret, if_pos (show (0 : Int) = 0 from rfl)])
theorem d133 {fe : xw_M → xP} {x : Int} (d : 0 < xR r 536 6) : yk276_133 B fe x r = some (.inl 0, r) := by
  unfold yk276_133
  exact ifd rfl (by rw [d280 d, xB_ret])
theorem d276 {fe : xw_M → xP} {q : Int} {N : Nat} {x : Int} (d : 0 < xR r 536 6) (hq : r 536 23 = q) (q0 : q = 544 ∨ q = 558) : xl1 (yl276_2 B fe) (N + 1) x r = some (.inl 0, r) := by
  show yl276_2 B fe _ x r = _
  unfold yl276_2 yk276_35 yk276_129
  rw [if_neg (by omega), if_neg (by omega), d277 d hq q0, xB_ret, d133 d]
theorem d276f {fe : xw_M → xP} {q : Int} (d : 0 < xR r 536 6) (hq : r 536 23 = q) (q0 : q = 544 ∨ q = 558) : yf276 B fe r = some (.inl 0, r) := by
  unfold yf276
  generalize hN : (1000000 : Nat) = N
  obtain ⟨N1, rfl⟩ : ∃ N1, N = N1 + 1 := ⟨N - 1, by omega⟩
  exact d276 d hq q0
theorem d275l {fe : xw_M → xP} {N : Nat} (d : 0 < xR r 536 6) : xl0 (yl275_4 B fe) (N + 1) r = some (.inl 0, r) := by
  show yl275_4 B fe _ r = _
  unfold yl275_4
  rw [if_neg (by omega)]
theorem d274l {fe : xw_M → xP} {N : Nat} (d : 0 < xR r 536 6) : xl0 (yl274_4 B fe) (N + 1) r = some (.inl 0, r) := by
  show yl274_4 B fe _ r = _
  unfold yl274_4
  rw [if_neg (by omega)]
theorem d275f {fe : xw_M → xP} {q : Int} (d : 0 < xR r 536 6) (hq : r 536 23 = q) (q0 : q = 544 ∨ q = 558) : yf275 B fe r = some (.inl 0, r) := by
  unfold yf275
  rw [d276f d hq q0, xB_ret]
  generalize hN : (1000000 : Nat) = N
  obtain ⟨N1, rfl⟩ : ∃ N1, N = N1 + 1 := ⟨N - 1, by omega⟩
  exact d275l d
end DED
