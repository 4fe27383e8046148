/-! A CHANGE: room on both sides, what a commit leaves on the disk -/
theorem frx_cg {S S' L L' : Int → Int} {E x : Int} (h : ∀ e, 0 ≤ e → e < E → S' e = S e ∧ L' e = L e) (F : frx S L E x) : frx S' L' E x := fun e e0 e1 => by
  rw [(h e e0 e1).1, (h e e0 e1).2]
  exact F e e0 e1
theorem isRoom_cg {S S' L L' : Int → Int} {E b n v : Int} (h : ∀ e, 0 ≤ e → e < E → S' e = S e ∧ L' e = L e) (F : isRoom S L E b n v) : isRoom S' L' E b n v := by
  have h' : ∀ e, 0 ≤ e → e < E → S e = S' e ∧ L e = L' e := fun e e0 e1 => ⟨(h e e0 e1).1.symm, (h e e0 e1).2.symm⟩
  rcases F with ⟨a, c⟩ | ⟨a, c, d⟩
  · refine Or.inl ⟨a, fun s s0 s1 => ?_⟩
    obtain ⟨x, hx, hn⟩ := c s s0 s1
    exact ⟨x, hx, fun q => hn (frx_cg h' q)⟩
  · refine Or.inr ⟨a, fun x x0 x1 => frx_cg h (c x x0 x1), fun s s0 s1 => ?_⟩
    obtain ⟨x, hx, hn⟩ := d s s0 s1
    exact ⟨x, hx, fun q => hn (frx_cg h' q)⟩
theorem isRoom_big {S L : Int → Int} {E b n : Int} (h : b < n) : isRoom S L E b n (-1) := Or.inl ⟨rfl, fun s s0 s1 => by omega⟩
section TAIL
variable {B : Nat} {m : xw_M}
theorem room_tst {Wt E : Int} (hB : B ≤ 512) (t : tst B m (64 + 8 * Wt)) (W0 : 0 ≤ Wt) (W1 : Wt ≤ 200000000) (hE : xR m 508 14 = E) (h0 : xR m 508 0 = (B : Int)) (hx : exts (xR m 514) (xR m 515) E B) : ∃ n m' v, yf156 B m = some (.inl n, m) ∧ yf157 B n m = some (.inl v, m') ∧ (∀ a, a ≠ 510 → m' a = m a) ∧ ((v = -1 ∧ isRoom (xR m 514) (xR m 515) E B ((8 + Wt + 4095) / 4096) (-1)) ∨ (v ≠ -1 ∧ n = (8 + Wt + 4095) / 4096 ∧ isRoom (xR m 514) (xR m 515) E B ((8 + Wt + 4095) / 4096) v ∧ ws B m (64 + 8 * Wt) ∧ 64 + 8 * Wt ≤ 64 * (B * 512 : Nat))) := by
  rcases t with ⟨w, hl⟩ | ⟨⟨⟨o1, a, o2, o3, o4, o5⟩, o6⟩, hl⟩
  · have e := needed_ok (B := B) (m := m) (p := 64 + 8 * Wt) w.2.1 w.2.2.2.1 (by omega)
    obtain ⟨m', v, e2, f, R⟩ := room_ok (B := B) (m := m) (b := B) (n := (64 + 8 * Wt + 32767) / 32768) (by omega) hE h0 hx w.2.2.1 (by omega) (by omega)
    have en : (64 + 8 * Wt + 32767) / 32768 = (8 + Wt + 4095) / 4096 := by omega
    refine ⟨_, m', v, e, e2, f, ?_⟩
    rw [en] at R ⊢
    by_cases hv : v = -1
    · rw [hv] at R ⊢
      exact Or.inl ⟨rfl, R⟩
    · exact Or.inr ⟨hv, rfl, R, w, hl⟩
  · have e := needed_ok (B := B) (m := m) (p := a) o2 o3 (by omega)
    refine ⟨_, m, -1, e, ?_, fun a _ => rfl, Or.inl ⟨rfl, isRoom_big (by omega)⟩⟩
    unfold yf157
    rw [if_neg (by omega)]
/-- what a commit of n blocks at pl leaves, bit by bit -/
def cmt (W W' fw : Int → Int) (pl n tu : Int) : Prop := (∀ x, pl * 32768 ≤ x → x < (pl + n) * 32768 → bW W' x = bW fw (x - pl * 32768)) ∧ ∀ x, 0 ≤ x → ¬ (pl * 32768 ≤ x ∧ x < (pl + n) * 32768) → ¬ ((tu + 1) % 2 * 32768 ≤ x ∧ x < (tu + 1) % 2 * 32768 + 32768) → bW W' x = bW W x
theorem cmt_of {W W' fw : Int → Int} {pl n tu : Int} (h1 : ∀ k, pl * 512 ≤ k → k < (pl + n) * 512 → W' k = fw (k - pl * 512)) (h2 : ∀ k, ¬ (pl * 512 ≤ k ∧ k < (pl + n) * 512) → ¬ ((tu + 1) % 2 * 512 ≤ k ∧ k < (tu + 1) % 2 * 512 + 512) → W' k = W k) : cmt W W' fw pl n tu := by
  refine ⟨fun x x0 x1 => ?_, fun x x0 x1 x2 => ?_⟩
  · unfold bW
    rw [h1 (x / 64) (by omega) (by omega), show (x - pl * 32768) / 64 = x / 64 - pl * 512 by omega, show (x - pl * 32768) % 64 = x % 64 by omega]
  · unfold bW
    rw [h2 (x / 64) (by omega) (by omega)]
/-- what a cut commit leaves -/
theorem cut_of {W W' fw : Int → Int} {pl n : Int} (h : ∀ k, W' k = if pl * 512 ≤ k ∧ k < (pl + n) * 512 then fw (k - pl * 512) else W k) : ∀ x, ¬ (pl * 32768 ≤ x ∧ x < (pl + n) * 32768) → bW W' x = bW W x := fun x hx => by
  unfold bW
  rw [h (x / 64), if_neg (by omega)]
/-- an old extent is not where the new one is -/
theorem old_ext {S L : Int → Int} {E b n v e x : Int} (hx : exts S L E b) (R : isRoom S L E b n v) (hv : v ≠ -1) (e0 : 0 ≤ e) (e1 : e < E) (x0 : S e * 32768 ≤ x) (x1 : x < (S e + L e) * 32768) : ¬ (v * 32768 ≤ x ∧ x < (v + n) * 32768) := by
  intro h
  rcases R with ⟨a, _⟩ | ⟨a, c, _⟩
  · exact hv a
  · exact c (x / 32768) (by omega) (by omega) e e0 e1 (by omega)
theorem nman_cmt {W W' fw : Int → Int} {pl n tu lo fa vi ex : Int} {VN VR K S L : Int → Int} (C : cmt W W' fw pl n tu) (h2 : 2 ≤ pl ∨ n = 0) (n0 : 0 ≤ n) (t0 : 0 ≤ tu) (t1 : tu < 1000000000) (ho : tk W (tu % 2 * 32768) 32 = tu) (M : Man W' ((tu + 1) % 2 * 32768) (tu + 1) lo fa vi ex VN VR K S L) : nman W' (tu + 1) := by
  refine ⟨by omega, by omega, ?_, ?_⟩
  · rw [M.1]
    exact msk_nn (by omega) (by show tu + 1 < 4294967296; omega) (by decide)
  · rw [show (tu + 1 + 1) % 2 = tu % 2 by omega, tk_same (W := W) (z := tu % 2 * 32768) (ze := tu % 2 * 32768 + 32768) (fun x x0 x1 => C.2 x (by omega) (by omega) (by omega)) (Int.le_refl _) (by omega), ho]
    omega
theorem Man_f {W : Int → Int} {q tu lo fa vi ex : Int} {VN VR K S L VN' VR' K' S' L' : Int → Int} (h : Man W q tu lo fa vi ex VN VR K S L) (hv : ∀ i, 0 ≤ i → i < vi → VN i = VN' i ∧ VR i = VR' i) (he : ∀ e, 0 ≤ e → e < ex → K e = K' e ∧ S e = S' e ∧ L e = L' e) : Man W q tu lo fa vi ex VN' VR' K' S' L' := by
  obtain ⟨a, b, c, d, e, f, g⟩ := h
  refine ⟨a, b, c, d, e, fun i i0 i1 => ?_, fun i i0 i1 => ?_⟩
  · rw [← (hv i i0 i1).1, ← (hv i i0 i1).2]; exact f i i0 i1
  · rw [← (he i i0 i1).1, ← (he i i0 i1).2.1, ← (he i i0 i1).2.2]; exact g i i0 i1
theorem cfx_cg {K K' Rf Rf' : Int → Int} : ∀ n : Nat, (∀ e : Int, 0 ≤ e → e < n → K e = K' e ∧ Rf e = Rf' e) → cfx K Rf n = cfx K' Rf' n := by
  intro n
  induction n with
  | zero => intro _; rfl
  | succ n ih =>
    intro h
    show cfx K Rf n + (if hfx K n = true then Rf n else 0) = cfx K' Rf' n + (if hfx K' n = true then Rf' n else 0)
    have q := h n (by omega) (by omega)
    unfold hfx
    rw [ih (fun e e0 e1 => h e e0 (by omega)), q.1, q.2]
theorem rws_cg {K K' : Int → Int} {Rv Rv' : Int → Int → Int} {i : Int} : ∀ n : Nat, (∀ e : Int, 0 ≤ e → e < n → K e = K' e ∧ Rv e i = Rv' e i) → rws K Rv i n = rws K' Rv' i n := by
  intro n
  induction n with
  | zero => intro _; rfl
  | succ n ih =>
    intro h
    show (if K n = 3 then 0 else rws K Rv i n) + (if K n = 1 then 0 else Rv n i) = (if K' n = 3 then 0 else rws K' Rv' i n) + (if K' n = 1 then 0 else Rv' n i)
    have q := h n (by omega) (by omega)
    rw [ih (fun e e0 e1 => h e e0 (by omega)), q.1, q.2]
theorem xtn_v {W : Int → Int} {m : xw_M} {D M K s ln f n k : Int} {vs Rs : Int → Int} {v v' : Prop} (h : v' → v) (F : xtn W m D M K s ln f n k vs Rs v) : xtn W m D M K s ln f n k vs Rs v' := by
  obtain ⟨q, a, b, c, d⟩ := F
  exact ⟨q, a, b, c, fun hv => d (h hv)⟩
/-- an old extent goes on, but for its views -/
theorem xtn_old {W : Int → Int} {m : xw_M} {D M K s ln f n k k' : Int} {vs Rs vs' Rs' : Int → Int} {v v' : Prop} (h : ¬ v') (F : xtn W m D M K s ln f n k vs Rs v) : xtn W m D M K s ln f n k' vs' Rs' v' := by
  obtain ⟨q, a, b, c, d⟩ := F
  exact ⟨q, a, b, c, fun hv => absurd hv h⟩
/-- without views there is nothing to say of them -/
theorem xtn_0 {W : Int → Int} {m : xw_M} {D M K s ln f n k : Int} {vs Rs vs' Rs' : Int → Int} {v v' : Prop} (F : xtn W m D M K s ln f n k vs Rs v) : xtn W m D M K s ln f n 0 vs' Rs' v' := by
  obtain ⟨q, a, b, c, d⟩ := F
  exact ⟨q, a, b, c, fun _ => ⟨q, ⟨fun _ _ => 0, fun _ _ => 0, fun _ => q, rfl, rfl, fun i i0 i1 => by omega⟩, c⟩⟩
end TAIL
