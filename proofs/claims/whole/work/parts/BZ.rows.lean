/-! THE ANSWER, by the class: a source's rows (the facts of each, the members by which it is looked at, its number, its amounts), extent by extent -/
theorem evC_v {T : Int → Int} {v v' : Int → Bool} {n : Int} : ∀ s : Nat, (∀ k : Nat, k < s → T k < 60 → 0 ≤ T k ∧ T k < n) → (∀ i, 0 ≤ i → i < n → v i = v' i) → evC T v s = evC T v' s
  | 0, _, _ => rfl
  | s + 1, h, e => by
    unfold evC opC
    rw [evC_v s (fun k hk => h k (by omega)) e]
    by_cases q : T s < 60
    · rw [if_pos q, if_pos q, e _ (h s (by omega) q).1 (h s (by omega) q).2]
    · rw [if_neg q, if_neg q]
theorem SC_v {m : xw_M} {n p : Int} {v v' : Int → Bool} (S : SB m n p) (e : ∀ i, 0 ≤ i → i < n → v i = v' i) : SC m v = SC m v' := evC_v _ (fun k hk q => by rcases S.2.2.2.1 k hk with z | z | z <;> omega) e
theorem SRC_cg {B : Nat} {m0 : xw_M} {R w : Int} {kk : Nat} {T : Int → Int → Int} {J0 : Nat} {k it : Int} {hl hl' : Nat → Bool} {rk rk' : Nat → Int → Int} {cf cf' : Nat → Int} {mo mo' : Nat → Int → Int} (h : ∀ j : Int, 0 ≤ j → j < R → hl' (J0 + j.toNat) = hl (J0 + j.toNat) ∧ (∀ g, 0 ≤ g → g < k → rk' (J0 + j.toNat) g = rk (J0 + j.toNat) g) ∧ cf' (J0 + j.toNat) = cf (J0 + j.toNat) ∧ ∀ i, 0 ≤ i → i < it → mo' (J0 + j.toNat) i = mo (J0 + j.toNat) i) (Q : SRC B m0 R w kk T J0 k it hl rk cf mo) : SRC B m0 R w kk T J0 k it hl' rk' cf' mo' := by
  intro mm x j x0 x1 j0 j1 f1 f2
  obtain ⟨W, Rk, H⟩ := Q mm x j x0 x1 j0 j1 f1 f2
  obtain ⟨e1, e2, e3, e4⟩ := h j j0 j1
  rw [e1, e3]
  refine ⟨⟨W.1, W.2.1, W.2.2.1, fun i i0 i1 q => by rw [e4 i i0 i1]; exact W.2.2.2.1 i i0 i1 q, fun i i0 i1 q => ?_⟩, fun g g0 g1 => ?_, H⟩
  · obtain ⟨cc, c1, c2, c3⟩ := W.2.2.2.2 i i0 i1 q
    exact ⟨cc, c1, c2, by rw [e4 i i0 i1]; exact c3⟩
  · obtain ⟨d, l, p, a1, a2, a3, a4, a5, a6⟩ := Rk g g0 g1
    exact ⟨d, l, p, a1, a2, a3, a4, a5, by rw [e2 g g0 g1]; exact a6⟩
abbrev Srow := List Int × (Int → Int) × Int × (Int → Int)
def sr0 : Srow := ([], fun _ => 0, 0, fun _ => 0)
def hlR (c : xw_M) (W : List Srow) (j : Nat) : Bool := top (SC c (vmb c (W.getD j sr0).2.1))
def rkR (c : xw_M) (W : List Srow) (j : Nat) : Int → Int := rmb c (W.getD j sr0).2.1
def cfR (W : List Srow) (j : Nat) : Int := (W.getD j sr0).2.2.1
def moR (W : List Srow) (j : Nat) : Int → Int := (W.getD j sr0).2.2.2
def rsc (sg : Int → List Srow) (a : Int) : Nat → List Srow
  | 0 => []
  | n + 1 => rsc sg a n ++ sg (a + n)
theorem rsc_p {sg : Int → List Srow} {a : Int} {n : Nat} : ∀ N, n < N → ∃ t, rsc sg a N = rsc sg a n ++ sg (a + n) ++ t
  | 0, h => absurd h (by omega)
  | N + 1, h => by
    by_cases q : n = N
    · rw [q]; exact ⟨[], by rw [List.append_nil]; rfl⟩
    · obtain ⟨t, e⟩ := rsc_p N (show n < N by omega)
      refine ⟨t ++ sg (a + N), ?_⟩
      show rsc sg a N ++ sg (a + N) = _
      rw [e, List.append_assoc]
theorem rsc_le {sg : Int → List Srow} {a : Int} {n N : Nat} (h : n ≤ N) : (rsc sg a n).length ≤ (rsc sg a N).length := by
  by_cases q : n = N
  · rw [q]; exact Nat.le_refl _
  · obtain ⟨t, e⟩ := rsc_p (sg := sg) (a := a) N (show n < N by omega)
    rw [e, List.length_append, List.length_append]; omega
theorem rsc_g {sg : Int → List Srow} {a : Int} {n N j : Nat} (h : n < N) (hj : j < (sg (a + n)).length) : (rsc sg a N).getD ((rsc sg a n).length + j) sr0 = (sg (a + n)).getD j sr0 := by
  obtain ⟨t, e⟩ := rsc_p (sg := sg) (a := a) N h
  rw [e, List.append_assoc, List.getD_eq_getElem?_getD, List.getD_eq_getElem?_getD, List.getElem?_append_right (by omega), Nat.add_sub_cancel_left, List.getElem?_append_left hj]
/-- the frame of the parts that come in -/
def fLo (t : Int) (c m : xw_M) : Prop := (∀ a, ¬ (t ≤ a ∧ a ≤ t + 42) → a ≠ 302 → ¬ (304 ≤ a ∧ a ≤ 336) → a ≠ 371 → a ≠ 372 → a ≠ 530 → a ≠ 532 → m a = c a) ∧ (∀ k, k ≠ 5 → k ≠ 6 → k ≠ 7 → m 302 k = c 302 k) ∧ (∀ k, k ≠ 2 → m 530 k = c 530 k) ∧ ∀ k, k ≠ 8 → m t k = c t k
theorem fLo_r {t : Int} {m : xw_M} : fLo t m m := ⟨fun _ _ _ _ _ _ _ _ => rfl, fun _ _ _ _ => rfl, fun _ _ => rfl, fun _ _ => rfl⟩
theorem fLo_tr {t : Int} {a b c : xw_M} (h : fLo t a b) (k : fLo t b c) : fLo t a c := ⟨fun x x1 x2 x3 x4 x5 x6 x7 => by rw [k.1 x x1 x2 x3 x4 x5 x6 x7, h.1 x x1 x2 x3 x4 x5 x6 x7], fun x x1 x2 x3 => by rw [k.2.1 x x1 x2 x3, h.2.1 x x1 x2 x3], fun x x1 => by rw [k.2.2.1 x x1, h.2.2.1 x x1], fun x x1 => by rw [k.2.2.2 x x1, h.2.2.2 x x1]⟩
theorem fLo_g {t : Int} {a b : xw_M} (h : t = 420 ∨ t = 464) (f : fGo a b) : fLo t a b := ⟨fun x _ x2 _ x4 x5 x6 _ => f.1 x x2 x4 x5 x6, f.2.1, f.2.2, fun k _ => by rw [f.1 t (by omega) (by omega) (by omega) (by omega)]⟩
theorem fLo_p {t : Int} {a b : xw_M} (h : t = 420 ∨ t = 464) (f : fPt t a b) : fLo t a b := ⟨fun x x1 _ x3 _ _ x6 x7 => f.1 x (by omega) (by omega) x6 x7, fun k _ _ _ => by rw [f.1 302 (by omega) (by omega) (by omega) (by omega)], f.2.1, f.2.2⟩
theorem FX_lo {t k it S : Int} {mk ls K : Int → Int} {c m : xw_M} (F : FX c t k it S mk ls K) (f : fLo t c m) : FX m t k it S mk ls K := by
  obtain ⟨f0, f1, f2, f3', f4, f5, f6⟩ := F
  have e1 := xR_cg (f.1 223 (by omega) (by omega) (by omega) (by omega) (by omega) (by omega) (by omega))
  have e2 := xR_cg (f.1 224 (by omega) (by omega) (by omega) (by omega) (by omega) (by omega) (by omega))
  have e4 := xR_cg (f.1 228 (by omega) (by omega) (by omega) (by omega) (by omega) (by omega) (by omega))
  have e5 := xR_cg (f.1 (t + 43) (by omega) (by omega) (by omega) (by omega) (by omega) (by omega) (by omega))
  refine ⟨f0, by rw [e1]; exact f1, ?_, by rw [e1]; exact f3', by rw [e4]; exact f4, by rw [e5]; exact f5, by rw [e2]; exact f6⟩
  rw [xR_fld (f.2.2.2 6 (by omega))]; exact f2
/-- one turn of the loop over the extents -/
def stp93 (B : Nat) (R : Int → Int → Int → xw_M → xP) (x1 x2 x4 : Int) (m : xw_M) : xP := if x1 = (-1) then (xB (yf103 B x4 m) fun v1 m1 => if v1 = 0 then (R x1 x2 (w32 (x4 + 1)) m1) else (yk93_74 B R x1 x2 x4 m1)) else (yk93_74 B R x1 x2 x4 m)
section EXL
variable {B : Nat} {t k it S : Int} {mk ls K : Int → Int} {hl : Nat → Bool} {rk : Nat → Int → Int} {cf : Nat → Int} {mo : Nat → Int → Int}
theorem ext_l {c : xw_M} {sg : Int → List Srow} {a E x1 : Int} (h : t = 420 ∨ t = 464) (a0 : 0 ≤ a) (aE : a ≤ E) (hE : xR c 508 14 = E) (E1 : E ≤ 200) (step : ∀ (n : Nat) (m1 : xw_M) (R : Int → Int → Int → xw_M → xP), a + n < E → fLo t c m1 → (∃ p, rs B m1 p) → xR m1 t 8 = 0 → ST m1 t k it S mk ls K hl rk cf mo (rsc sg a n).length → ∃ m2, stp93 B R x1 t (a + n) m1 = R x1 t (a + n + 1) m2 ∧ fLo t c m2 ∧ (∃ p, rs B m2 p) ∧ ST m2 t k it S mk ls K hl rk cf mo (rsc sg a (n + 1)).length) : ∀ (N n : Nat) (m1 : xw_M), a + n ≤ E → (E - (a + n)).toNat < N → fLo t c m1 → (∃ p, rs B m1 p) → ST m1 t k it S mk ls K hl rk cf mo (rsc sg a n).length → ∃ m', xl3 (yl93_38 B) N x1 t (a + n) m1 = yk93_99 B x1 t m' ∧ fLo t c m' ∧ (∃ p, rs B m' p) ∧ ST m' t k it S mk ls K hl rk cf mo (rsc sg a (E - a).toNat).length := by
  have o9 := (an_f B h).1
  intro N
  induction N with
  | zero => intro n m1 _ hN; omega
  | succ N ih =>
    intro n m1 n1 hN f r s
    show ∃ m', yl93_38 B (xl3 (yl93_38 B) N) x1 t (a + n) m1 = _ ∧ _
    have IH := ih (n + 1)
    clear ih
    generalize xl3 (yl93_38 B) N = G at IH ⊢
    unfold yl93_38
    rw [xR_cg (f.1 508 (by omega) (by omega) (by omega) (by omega) (by omega) (by omega) (by omega)), hE]
    by_cases q : a + n < E
    · rw [if_pos q, if_pos o9]
      by_cases h8 : xR m1 t 8 = 0
      · rw [if_pos h8]
        obtain ⟨m2, e2, f2, r2, s2⟩ := step n m1 G q f r h8 s
        show ∃ m', stp93 B G x1 t (a + n) m1 = _ ∧ _
        rw [e2]
        have es : a + (n : Int) + 1 = a + ((n + 1 : Nat) : Int) := by omega
        rw [es]
        exact IH m2 (by omega) (by omega) f2 r2 s2
      · rw [if_neg h8]
        exact ⟨m1, rfl, f, r, ST_m (rsc_le (by omega)) h8 s⟩
    · rw [if_neg q]
      exact ⟨m1, rfl, f, r, by rw [show (E - a).toNat = n from by omega]; exact s⟩
end EXL
