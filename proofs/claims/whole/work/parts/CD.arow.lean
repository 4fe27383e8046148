/-! THE ANSWER, by the reference: one row (answerRow) -/
/-- a row's facts -/
def rl (g : Int → Int) (a b : Int) : List Int := lst (fun q => g (a + q)) (b - a).toNat
theorem rl_s {g : Int → Int} {a x : Int} (h : a ≤ x) : rl g a (x + 1) = rl g a x ++ [g x] := by
  unfold rl
  rw [show (x + 1 - a).toNat = (x - a).toNat + 1 by omega, lst_s, show a + ((x - a).toNat : Int) = x by omega]
theorem rl_m {g : Int → Int} {a b y : Int} : y ∈ rl g a b ↔ ∃ x, (a ≤ x ∧ x < b) ∧ g x = y := by
  unfold rl
  rw [lst_mem]
  constructor
  · rintro ⟨k, k1, k2⟩; exact ⟨a + k, ⟨by omega, by omega⟩, k2⟩
  · rintro ⟨x, x1, x2⟩; exact ⟨(x - a).toNat, by omega, by rw [show a + ((x - a).toNat : Int) = x by omega]; exact x2⟩
/-- sum, least and greatest of a list so far -/
def SLG (A : Int → Int) (l : List Int) (s lo hi : Int) : Prop := s = w64 (l.map A).sum ∧ ((l = [] → lo = 9223372036854775807) ∧ (l ≠ [] → ∃ x, x ∈ l ∧ A x = lo) ∧ ∀ x, x ∈ l → lo ≤ A x) ∧ (l = [] → hi = -9223372036854775808) ∧ (l ≠ [] → ∃ x, x ∈ l ∧ A x = hi) ∧ ∀ x, x ∈ l → A x ≤ hi
theorem SLG_nil {A : Int → Int} : SLG A [] 0 9223372036854775807 (-9223372036854775808) := ⟨rfl, ⟨fun _ => rfl, fun h => absurd rfl h, fun x h => absurd h List.not_mem_nil⟩, fun _ => rfl, fun h => absurd rfl h, fun x h => absurd h List.not_mem_nil⟩
theorem SLG_s {A : Int → Int} {l : List Int} {s lo hi y : Int} (w : w64 (A y) = A y) (h : SLG A l s lo hi) : SLG A (l ++ [y]) (w64 (s + A y)) (min lo (A y)) (max hi (A y)) := by
  obtain ⟨h1, ⟨h2, h3, h4⟩, h5, h6, h7⟩ := h
  have yb := w64_cg w
  unfold xw_rJ at yb
  have ym : y ∈ l ++ [y] := List.mem_append.mpr (Or.inr (List.mem_singleton.mpr rfl))
  refine ⟨?_, ⟨fun z => absurd z (by simp), fun _ => ?_, fun x hx => ?_⟩, fun z => absurd z (by simp), fun _ => ?_, fun x hx => ?_⟩
  · rw [h1, List.map_append, List.sum_append, w64_add]
    show w64 _ = w64 (_ + (A y + 0))
    rw [Int.add_zero]
  · by_cases e : l = []
    · exact ⟨y, ym, by rw [h2 e]; omega⟩
    · obtain ⟨x, x1, x2⟩ := h3 e
      by_cases c : lo ≤ A y
      · exact ⟨x, List.mem_append.mpr (Or.inl x1), by omega⟩
      · exact ⟨y, ym, by omega⟩
  · rcases List.mem_append.mp hx with z | z
    · have := h4 x z; omega
    · rw [List.mem_singleton.mp z]; omega
  · by_cases e : l = []
    · exact ⟨y, ym, by rw [h5 e]; omega⟩
    · obtain ⟨x, x1, x2⟩ := h6 e
      by_cases c : hi ≤ A y
      · exact ⟨y, ym, by omega⟩
      · exact ⟨x, List.mem_append.mpr (Or.inl x1), by omega⟩
  · rcases List.mem_append.mp hx with z | z
    · have := h7 x z; omega
    · rw [List.mem_singleton.mp z]; omega
def fAr (A : Int) (m m' : xw_M) : Prop := (∀ a, a ≠ 536 → ¬ (595 ≤ a ∧ a ≤ 600) → m' a = m a) ∧ (∀ k, k ≠ 65 → m' 536 k = m 536 k) ∧ (∀ y, y ≠ A → m' 595 y = m 595 y ∧ m' 597 y = m 597 y) ∧ ∀ y, ¬ (8 * A ≤ y ∧ y < 8 * A + 8) → m' 596 y = m 596 y ∧ m' 598 y = m 598 y ∧ m' 599 y = m 599 y ∧ m' 600 y = m 600 y
/-- the amounts of a measure in a row -/
def RMs (c m : xw_M) (A mm : Int) (l : List Int) : Prop := ∃ s lo hi, SLG (fun x => xJ c 576 (8 * x + mm)) l s lo hi ∧ xJ m 598 (8 * A + mm) = s ∧ xJ m 599 (8 * A + mm) = lo ∧ xJ m 600 (8 * A + mm) = hi
section ARW
variable {B : Nat} {k : Int} {c r : xw_M} {q D M tu nc p : Int} {Kx Rf : Int → Int} {Rv : Int → Int → Int}
theorem ar_115 {m : xw_M} {a b A mm s n : Int} {g : Int → Int} {R : Int → Int → Int → Int → xw_M → xP} (os : xw_obb 16 s = true) (ls : xw_le B s = 20000) (e59 : m 536 59 = s) (e576 : xJ m 576 = xJ c 576) (N2 : xR c 536 31 ≤ 20000) (a0 : 0 ≤ a) (bn : b ≤ n) (n2 : n ≤ 20000) (hg : ∀ x, 0 ≤ x → x < n → xR m s x = g x ∧ 0 ≤ g x ∧ g x < xR c 536 31) (A0 : 0 ≤ A) (A1 : A < 4000) (m0 : 0 ≤ mm) (m1 : mm < 8) : ∀ (N : Nat) (x su lo hi : Int), a ≤ x → x ≤ b → (b - x).toNat < N → SLG (fun x => xJ c 576 (8 * x + mm)) (rl g a x) su lo hi → ∃ su' lo' hi', xl8 (yl297_115 B R) N a b A mm su lo hi x m = R a b A (mm + 1) (xw_u (xw_u (xw_u m 598 (8 * A + mm) su') 599 (8 * A + mm) lo') 600 (8 * A + mm) hi') ∧ SLG (fun x => xJ c 576 (8 * x + mm)) (rl g a b) su' lo' hi' := by
  intro N
  induction N with
  | zero => intro x su lo hi _ _ h; omega
  | succ N ih =>
    intro x su lo hi x0 x1 hN h
    show ∃ su' lo' hi', yl297_115 B R (xl8 (yl297_115 B R) N) a b A mm su lo hi x m = _ ∧ _
    have IH := ih (x + 1)
    clear ih
    generalize xl8 (yl297_115 B R) N = G at IH ⊢
    unfold yl297_115
    by_cases hx : x < b
    · obtain ⟨g1, g2, g3⟩ := hg x (by omega) (by omega)
      rw [if_pos hx, e59, ls, if_pos ⟨by omega, by omega⟩, if_pos os, g1, if_pos ⟨by omega, by omega⟩, e576, w32_id (x := x + 1) (by omega) (by omega)]
      refine IH _ _ _ (by omega) (by omega) (by omega) ?_
      rw [rl_s x0]
      exact SLG_s (A := fun x => xJ c 576 (8 * x + mm)) (w64_xJ _ _ _) h
    · rw [if_neg hx, if_pos ⟨by omega, by omega⟩, w32_id (x := mm + 1) (by omega) (by omega)]
      have e : x = b := by omega
      rw [e] at h
      exact ⟨su, lo, hi, rfl, h⟩
theorem SLG_w {A : Int → Int} {l : List Int} {s lo hi : Int} (w : ∀ x, w64 (A x) = A x) (h : SLG A l s lo hi) : w64 s = s ∧ w64 lo = lo ∧ w64 hi = hi := by
  obtain ⟨h1, ⟨h2, h3, h4⟩, h5, h6, h7⟩ := h
  refine ⟨by rw [h1, w64_w], ?_, ?_⟩
  · by_cases e : l = []
    · rw [h2 e]; decide
    · obtain ⟨x, _, x2⟩ := h3 e
      rw [← x2]; exact w x
  · by_cases e : l = []
    · rw [h5 e]; decide
    · obtain ⟨x, _, x2⟩ := h6 e
      rw [← x2]; exact w x
theorem RMs_fr {m m' : xw_M} {A mm : Int} {l : List Int} (h : RMs c m A mm l) (e1 : m' 598 (8 * A + mm) = m 598 (8 * A + mm)) (e2 : m' 599 (8 * A + mm) = m 599 (8 * A + mm)) (e3 : m' 600 (8 * A + mm) = m 600 (8 * A + mm)) : RMs c m' A mm l := by
  obtain ⟨s, lo, hi, h1, h2, h3, h4⟩ := h
  exact ⟨s, lo, hi, h1, by unfold xJ at *; rw [e1]; exact h2, by unfold xJ at *; rw [e2]; exact h3, by unfold xJ at *; rw [e3]; exact h4⟩
theorem ar_90 {m0 : xw_M} {a b A s n : Int} {g : Int → Int} (os : xw_obb 16 s = true) (ls : xw_le B s = 20000) (sv : s = 590 ∨ s = 591) (e59 : m0 536 59 = s) (e576 : m0 576 = c 576) (h19 : xR m0 536 19 = M) (M8 : M ≤ 8) (N2 : xR c 536 31 ≤ 20000) (a0 : 0 ≤ a) (ab : a ≤ b) (bn : b ≤ n) (n2 : n ≤ 20000) (hg : ∀ x, 0 ≤ x → x < n → xR m0 s x = g x ∧ 0 ≤ g x ∧ g x < xR c 536 31) (A0 : 0 ≤ A) (A1 : A < 4000) (h65 : xR m0 536 65 = A) : ∀ (N : Nat) (mm : Int) (m : xw_M), 0 ≤ mm → mm ≤ M → (M - mm).toNat < N → ((∀ a, ¬ (598 ≤ a ∧ a ≤ 600) → m a = m0 a) ∧ ∀ y, ¬ (8 * A ≤ y ∧ y < 8 * A + 8) → m 598 y = m0 598 y ∧ m 599 y = m0 599 y ∧ m 600 y = m0 600 y) → (∀ j, 0 ≤ j → j < mm → RMs c m A j (rl g a b)) → ∃ m', xl4 (yl297_90 B) N a b A mm m = some (.inl 0, xw_u m' 536 65 (A + 1)) ∧ ((∀ a, ¬ (598 ≤ a ∧ a ≤ 600) → m' a = m0 a) ∧ ∀ y, ¬ (8 * A ≤ y ∧ y < 8 * A + 8) → m' 598 y = m0 598 y ∧ m' 599 y = m0 599 y ∧ m' 600 y = m0 600 y) ∧ ∀ j, 0 ≤ j → j < M → RMs c m' A j (rl g a b) := by
  intro N
  induction N with
  | zero => intro mm m _ _ h; omega
  | succ N ih =>
    intro mm m m1 m2 hN f v
    rw [xl4_s]
    have IH := ih (mm + 1)
    clear ih
    generalize xl4 (yl297_90 B) N = G at IH ⊢
    unfold yl297_90
    have x536 : m 536 = m0 536 := f.1 536 (by decide)
    rw [xR_cg x536, h19]
    by_cases hx : mm < M
    · obtain ⟨NN, hNN⟩ : ∃ NN : Nat, NN = 1000000 := ⟨_, rfl⟩
      obtain ⟨su, lo, hi, e1, h1⟩ := ar_115 (B := B) (c := c) (m := m) (a := a) (b := b) (A := A) (mm := mm) (g := g) (n := n) (R := G) os ls (by rw [x536]; exact e59) (by rw [xJ_cg (f.1 576 (by decide)), xJ_cg e576]) N2 a0 bn n2 (fun x x0 x1 => by rw [xR_cg (f.1 s (by omega))]; exact hg x x0 x1) A0 A1 m1 (by omega) NN a 0 9223372036854775807 (-9223372036854775808) (Int.le_refl _) ab (by omega) (by
        rw [show rl g a a = [] from by unfold rl; rw [show (a - a).toNat = 0 by omega]; rfl]
        exact SLG_nil)
      rw [if_pos hx, ← hNN, e1]
      have ww := SLG_w (fun x => w64_xJ _ _ _) h1
      have j598 : ∀ y, xw_u (xw_u (xw_u m 598 (8 * A + mm) su) 599 (8 * A + mm) lo) 600 (8 * A + mm) hi 598 y = if y = 8 * A + mm then su else m 598 y := fun y => by
        rw [xu_c (by decide), xu_c (by decide)]
        unfold xw_u
        by_cases e : y = 8 * A + mm
        · rw [if_pos ⟨rfl, e⟩, if_pos e]
        · rw [if_neg (fun z => e z.2), if_neg e]
      have j599 : ∀ y, xw_u (xw_u (xw_u m 598 (8 * A + mm) su) 599 (8 * A + mm) lo) 600 (8 * A + mm) hi 599 y = if y = 8 * A + mm then lo else m 599 y := fun y => by
        rw [xu_c (by decide)]
        show (if (599 : Int) = 599 ∧ y = 8 * A + mm then lo else xw_u m 598 (8 * A + mm) su 599 y) = _
        by_cases e : y = 8 * A + mm
        · rw [if_pos ⟨rfl, e⟩, if_pos e]
        · rw [if_neg (fun z => e z.2), if_neg e, xu_c (by decide)]
      have j600 : ∀ y, xw_u (xw_u (xw_u m 598 (8 * A + mm) su) 599 (8 * A + mm) lo) 600 (8 * A + mm) hi 600 y = if y = 8 * A + mm then hi else m 600 y := fun y => by
        show (if (600 : Int) = 600 ∧ y = 8 * A + mm then hi else xw_u (xw_u m 598 (8 * A + mm) su) 599 (8 * A + mm) lo 600 y) = _
        by_cases e : y = 8 * A + mm
        · rw [if_pos ⟨rfl, e⟩, if_pos e]
        · rw [if_neg (fun z => e z.2), if_neg e, xu_c (by decide), xu_c (by decide)]
      have jo : ∀ a, ¬ (598 ≤ a ∧ a ≤ 600) → xw_u (xw_u (xw_u m 598 (8 * A + mm) su) 599 (8 * A + mm) lo) 600 (8 * A + mm) hi a = m a := fun a ha => by rw [xu_c (by omega), xu_c (by omega), xu_c (by omega)]
      generalize xw_u (xw_u (xw_u m 598 (8 * A + mm) su) 599 (8 * A + mm) lo) 600 (8 * A + mm) hi = m3 at j598 j599 j600 jo ⊢
      refine IH m3 (by omega) (by omega) (by omega) ⟨fun a ha => by rw [jo a ha]; exact f.1 a ha, fun y hy => ?_⟩ (fun j j0 j1 => ?_)
      · rw [j598 y, j599 y, j600 y, if_neg (by omega), if_neg (by omega), if_neg (by omega)]; exact f.2 y hy
      · by_cases e : j = mm
        · rw [e]
          refine ⟨su, lo, hi, h1, ?_, ?_, ?_⟩
          · unfold xJ; rw [j598, if_pos rfl]; exact ww.1
          · unfold xJ; rw [j599, if_pos rfl]; exact ww.2.1
          · unfold xJ; rw [j600, if_pos rfl]; exact ww.2.2
        · exact RMs_fr (v j j0 (by omega)) (by rw [j598, if_neg (by omega)]) (by rw [j599, if_neg (by omega)]) (by rw [j600, if_neg (by omega)])
    · rw [if_neg hx, h65]
      exact ⟨m, rfl, f, fun j j0 j1 => v j j0 (by omega)⟩
/-- a row of the reference's answer: set, facts -/
def RRw (c m : xw_M) (k M A μ : Int) (g : Int → Int) (a b : Int) : Prop := xR m 595 A = μ ∧ xJ m 597 A = b - a ∧ (∀ i, 0 ≤ i → i < k → xR m 596 (8 * A + i) = if bin μ i = true then fV c (g a) i else 0) ∧ ∀ j, 0 ≤ j → j < M → RMs c m A j (rl g a b)
theorem arow_ok {m : xw_M} {a b A s t n μ : Int} {g : Int → Int} (dk : dsk B c D M tu Kx Rf Rv) (rm : ram c D M tu Kx) (G : GC c r q D k) (rc : RC c r) (q0 : q = 544 ∨ q = 558) (hq : r 536 23 = q) (N2 : xR c 536 31 ≤ 20000) (f : fRa r m) (h19 : xR r 536 19 = M) (tw : two s t) (e59 : m 536 59 = s) (E : EN c g n) (hg : ∀ x, 0 ≤ x → x < n → xR m s x = g x) (a0 : 0 ≤ a) (ab : a ≤ b) (bn : b ≤ n) (μ0 : 0 ≤ μ) (μ1 : μ < 256) (nz : μ ≠ 0 → a < b) (h65 : xR m 536 65 = A) (A0 : 0 ≤ A) (A1 : A < 4000) : ∃ m', yf297 B q μ a b m = some (.inl 0, m') ∧ fAr A m m' ∧ xR m' 536 65 = A + 1 ∧ RRw c m' k M A μ g a b := by
  obtain ⟨os, _, ls, _⟩ := two_f B tw
  have sv : s = 590 ∨ s = 591 := by unfold two at tw; omega
  have k8 := G.2.2.1
  have M8 := rm.cg.cn.2.1
  have D8 := rm.cg.cn.1
  have QL := fun _ : Unit => q_l B q0
  have nb := E.1
  unfold yf297
  rw [h65, if_pos ⟨A0, A1⟩, w32_id (x := b - a) (by omega) (by omega)]
  obtain ⟨NN, hNN⟩ : ∃ NN : Nat, NN = 1000000 := ⟨_, rfl⟩
  rw [← hNN]
  have e595 : ∀ y, xw_u (xw_u m 595 A μ) 597 A (b - a) 595 y = if y = A then μ else m 595 y := fun y => by
    rw [xu_c (by decide)]
    unfold xw_u
    by_cases e : y = A
    · rw [if_pos ⟨rfl, e⟩, if_pos e]
    · rw [if_neg (fun z => e z.2), if_neg e]
  have e597 : ∀ y, xw_u (xw_u m 595 A μ) 597 A (b - a) 597 y = if y = A then b - a else m 597 y := fun y => by
    show (if (597 : Int) = 597 ∧ y = A then b - a else xw_u m 595 A μ 597 y) = _
    by_cases e : y = A
    · rw [if_pos ⟨rfl, e⟩, if_pos e]
    · rw [if_neg (fun z => e z.2), if_neg e, xu_c (by decide)]
  have eo : ∀ x, x ≠ 595 → x ≠ 597 → xw_u (xw_u m 595 A μ) 597 A (b - a) x = m x := fun x x1 x2 => by rw [xu_c x2, xu_c x1]
  generalize xw_u (xw_u m 595 A μ) 597 A (b - a) = m0 at e595 e597 eo ⊢
  have key : ∀ (N : Nat) (i : Int) (m1 : xw_M), 0 ≤ i → i ≤ k → (k - i).toNat < N → ((∀ a, a ≠ 596 → m1 a = m0 a) ∧ ∀ y, ¬ (8 * A ≤ y ∧ y < 8 * A + 8) → m1 596 y = m0 596 y) → (∀ j, 0 ≤ j → j < i → xR m1 596 (8 * A + j) = if bin μ j = true then fV c (g a) j else 0) → ∃ m2, xl6 (yl297_29 B) N q μ a b A i m1 = xl4 (yl297_90 B) 1000000 a b A 0 m2 ∧ ((∀ a, a ≠ 596 → m2 a = m0 a) ∧ ∀ y, ¬ (8 * A ≤ y ∧ y < 8 * A + 8) → m2 596 y = m0 596 y) ∧ ∀ j, 0 ≤ j → j < k → xR m2 596 (8 * A + j) = if bin μ j = true then fV c (g a) j else 0 := by
    intro N
    induction N with
    | zero => intro i m1 _ _ h; omega
    | succ N ih =>
      intro i m1 i0 i1 hN fm v
      show ∃ m2, yl297_29 B (xl6 (yl297_29 B) N) q μ a b A i m1 = _ ∧ _
      have IH := ih (i + 1)
      clear ih
      generalize xl6 (yl297_29 B) N = R at IH ⊢
      unfold yl297_29
      have mr : ∀ x, x ≠ 536 → x ≠ 572 → ¬ (590 ≤ x ∧ x ≤ 592) → ¬ (595 ≤ x ∧ x ≤ 602) → m1 x = r x := fun x x1 x2 x3 x4 => by rw [fm.1 x (by omega), eo x (by omega) (by omega)]; exact f.1 x x1 x2 x3 x4
      have m536 : m1 536 = m 536 := by rw [fm.1 536 (by decide), eo 536 (by decide) (by decide)]
      have xq : xR m1 q = xR r q := xR_cg (mr q (by omega) (by omega) (by omega) (by omega))
      rw [if_pos (QL ()).1, xq, G.2.1]
      by_cases hx : i < k
      · have ub : ∀ val, w32 val = val → ((∀ a, a ≠ 596 → xw_u m1 596 (8 * A + i) val a = m0 a) ∧ ∀ y, ¬ (8 * A ≤ y ∧ y < 8 * A + 8) → xw_u m1 596 (8 * A + i) val 596 y = m0 596 y) ∧ xR (xw_u m1 596 (8 * A + i) val) 596 (8 * A + i) = val ∧ ∀ j, j ≠ i → xR (xw_u m1 596 (8 * A + i) val) 596 (8 * A + j) = xR m1 596 (8 * A + j) := fun val hv => ⟨⟨fun a ha => by rw [xu_c ha]; exact fm.1 a ha, fun y hy => by rw [xu_ne (by omega)]; exact fm.2 y hy⟩, xR_at hv, fun j hj => xR_ne (fun z => hj (by omega))⟩
        have wi : w32 (i + 1) = i + 1 := w32_id (by omega) (by omega)
        rw [if_pos hx]
        by_cases bb : xw_iandf (xw_ishrf μ i) 1 = 1
        · have bt : bin μ i = true := decide_eq_true bb
          have mz : μ ≠ 0 := fun z => by rw [z, bin_0 i0 (by omega)] at bt; exact absurd bt (by decide)
          have lt := nz mz
          obtain ⟨ec, d, l, a1, a2, a3, a4, a5⟩ := G.2.2.2.1 i i0 hx
          have L4 := (rm.cg.cn.2.2.2.2.1 d a2 a3).2.1.2
          have nm := (rm.cg.cn.2.2.2.2.1 d a2 a3).2.2.1
          have s3 := (rm.cg.sz d a2 a3).2.2.1
          have gb := (E.2.1 a a0 (by omega)).1
          have pb := dk.pl (g a) d gb.1 gb.2 a2 a3
          have g575 : xR m1 575 = xR c 575 := by rw [xR_cg (mr 575 (by decide) (by decide) (by decide) (by decide)), xR_cg (rc.1 575 (by omega))]
          have g540 : xR m1 540 = xR c 540 := by rw [xR_cg (mr 540 (by decide) (by decide) (by decide) (by decide)), xR_cg (rc.1 540 (by omega))]
          have x4 : xR m1 (q + 4) = xR r (q + 4) := xR_cg (mr _ (by omega) (by omega) (by omega) (by omega))
          have hq' : m1 536 23 = q := by rw [m536, f.2 23 (by omega) (by omega) (by omega) (by omega) (by omega)]; exact hq
          have gs : xR m1 s a = g a := by rw [xR_cg (fm.1 s (by omega)), xR_cg (eo s (by omega) (by omega))]; exact hg a a0 (by omega)
          have va : yf295 B (g a) (w32 (-2 - μ)) i m1 = some (.inl (fV c (g a) i), m1) := by
            unfold yf295 yf289
            rw [w32_id (x := -2 - μ) (by omega) (by omega), if_pos (show -2 - μ < -1 by omega), hq', if_pos (QL ()).1, (QL ()).2.1.2.2.2.1, (QL ()).2.2.2.2.2.2.1, if_pos ⟨i0, by omega⟩, if_pos ((QL ()).2.2.1 4 (by decide) (by decide)), x4, ec, a1, if_pos (by omega), show (4 * d + l) / 4 = d by omega, show (4 * d + l) % 4 = l by omega, if_pos ⟨by omega, by omega⟩, g575, if_pos ⟨by omega, by omega⟩, xB_ret, g540]
            unfold fV
            rw [a1, show (4 * d + l) / 4 = d by omega, show (4 * d + l) % 4 = l by omega]
          rw [if_pos bb, m536, e59, ls, if_pos ⟨a0, by omega⟩, if_pos os, gs, va, xB_ret, if_pos ⟨by omega, by omega⟩, wi]
          obtain ⟨u1, u2, u3⟩ := ub (fV c (g a) i) (w32_xR _ _ _)
          refine IH _ (by omega) (by omega) (by omega) u1 (fun j j0 j1 => ?_)
          by_cases e : j = i
          · rw [e, u2, if_pos bt]
          · rw [u3 j e]; exact v j j0 (by omega)
        · have bt : ¬ bin μ i = true := fun z => bb (of_decide_eq_true z)
          rw [if_neg bb, if_pos ⟨by omega, by omega⟩, wi]
          obtain ⟨u1, u2, u3⟩ := ub 0 (by decide)
          refine IH _ (by omega) (by omega) (by omega) u1 (fun j j0 j1 => ?_)
          by_cases e : j = i
          · rw [e, u2, if_neg bt]
          · rw [u3 j e]; exact v j j0 (by omega)
      · rw [if_neg hx]
        exact ⟨m1, rfl, fm, fun j j0 j1 => v j j0 (by omega)⟩
  obtain ⟨m2, e2, f2, v2⟩ := key NN 0 m0 (Int.le_refl _) k8.1 (by omega) ⟨fun _ _ => rfl, fun _ _ => rfl⟩ (fun j j0 j1 => by omega)
  rw [e2, ← hNN]
  have m536 : m2 536 = m 536 := by rw [f2.1 536 (by decide), eo 536 (by decide) (by decide)]
  have h19' : xR m2 536 19 = M := by rw [xR_cg m536, xR_fld (f.2 19 (by omega) (by omega) (by omega) (by omega) (by omega))]; exact h19
  obtain ⟨m3, e3, f3, v3⟩ := ar_90 (B := B) (c := c) (m0 := m2) (M := M) (a := a) (b := b) (A := A) (n := n) (g := g) os ls sv (by rw [m536]; exact e59) (by rw [f2.1 576 (by decide), eo 576 (by decide) (by decide), f.1 576 (by decide) (by decide) (by decide) (by decide)]; exact rc.1 576 (by omega)) h19' M8.2 N2 a0 ab bn (by omega) (fun x x0 x1 => ⟨by rw [xR_cg (f2.1 s (by omega)), xR_cg (eo s (by omega) (by omega))]; exact hg x x0 x1, (E.2.1 x x0 x1).1⟩) A0 A1 (by rw [xR_cg m536]; exact h65) NN 0 m2 (Int.le_refl _) M8.1 (by omega) ⟨fun _ _ => rfl, fun _ _ => ⟨rfl, rfl, rfl⟩⟩ (fun j j0 j1 => by omega)
  rw [e3]
  have w0 : ∀ a, a ≠ 536 → xw_u m3 536 65 (A + 1) a = m3 a := fun a ha => xu_c ha
  have z595 : ∀ y, xw_u m3 536 65 (A + 1) 595 y = if y = A then μ else m 595 y := fun y => by rw [w0 595 (by decide), f3.1 595 (by decide), f2.1 595 (by decide)]; exact e595 y
  have z597 : ∀ y, xw_u m3 536 65 (A + 1) 597 y = if y = A then b - a else m 597 y := fun y => by rw [w0 597 (by decide), f3.1 597 (by decide), f2.1 597 (by decide)]; exact e597 y
  refine ⟨_, rfl, ⟨fun x x1 x2 => ?_, fun j hj => ?_, fun y hy => ?_, fun y hy => ?_⟩, xR_at (w32_id (by omega) (by omega)), ?_, ?_, fun i i0 i1 => ?_, fun j j0 j1 => ?_⟩
  · rw [w0 x x1, f3.1 x (by omega), f2.1 x (by omega), eo x (by omega) (by omega)]
  · rw [xu_ne (by omega), f3.1 536 (by decide), m536]
  · rw [z595 y, z597 y, if_neg hy, if_neg hy]; exact ⟨rfl, rfl⟩
  · obtain ⟨t1, t2, t3⟩ := f3.2 y hy
    rw [w0 596 (by decide), w0 598 (by decide), w0 599 (by decide), w0 600 (by decide), t1, t2, t3, f3.1 596 (by decide), f2.2 y hy, f2.1 598 (by decide), f2.1 599 (by decide), f2.1 600 (by decide), eo 596 (by decide) (by decide), eo 598 (by decide) (by decide), eo 599 (by decide) (by decide), eo 600 (by decide) (by decide)]
    exact ⟨rfl, rfl, rfl, rfl⟩
  · unfold xR; rw [z595, if_pos rfl]; exact w32_id (by omega) (by omega)
  · unfold xJ; rw [z597, if_pos rfl]; exact w64_id (by omega) (by omega)
  · rw [xR_cg (w0 596 (by decide)), xR_cg (f3.1 596 (by decide))]; exact v2 i i0 i1
  · exact RMs_fr (v3 j j0 j1) (by rw [w0 598 (by decide)]) (by rw [w0 599 (by decide)]) (by rw [w0 600 (by decide)])
end ARW
