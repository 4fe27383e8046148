/-! THE ANSWER, by the class: addRow, whole -/
section ADW
variable {B : Nat}
def fAW (t : Int) (m m' : xw_M) : Prop := (∀ a, a ≠ t → a ≠ t + 1 → ¬ (t + 4 ≤ a ∧ a ≤ t + 11) → ¬ (t + 13 ≤ a ∧ a ≤ t + 36) → a ≠ t + 39 → a ≠ t + 41 → a ≠ t + 42 → m' a = m a) ∧ ∀ k, k ≠ 8 → m' t k = m t k
theorem fAW_tr {t : Int} {a b c : xw_M} (h : fAW t a b) (k : fAW t b c) : fAW t a c := ⟨fun x x1 x2 x3 x4 x5 x6 x7 => by rw [k.1 x x1 x2 x3 x4 x5 x6 x7, h.1 x x1 x2 x3 x4 x5 x6 x7], fun x hx => by rw [k.2 x hx, h.2 x hx]⟩
theorem fAW_r {t : Int} {m : xw_M} : fAW t m m := ⟨fun _ _ _ _ _ _ _ _ => rfl, fun _ _ => rfl⟩

theorem AM_cg {m1 m0 m : xw_M} {t k it n0 n s cf : Int} {mo rk ls mk : Int → Int} (k8 : k ≤ 8) (it24 : it ≤ 24) (t0 : t = 420 ∨ t = 464) (e : ∀ a, a ≠ t + 42 → m1 a = m0 a) (A : AM m1 m t k it n0 n s cf mo rk ls mk) : AM m0 m t k it n0 n s cf mo rk ls mk := by
  have e1 : ∀ g, 0 ≤ g → g < k → m1 (t + 4 + g) = m0 (t + 4 + g) := fun g g0 g1 => e _ (by omega)
  have e2 : m1 (t + 39) = m0 (t + 39) := e _ (by omega)
  have e3 : ∀ i, 0 ≤ i → i < it → m1 (t + 13 + i) = m0 (t + 13 + i) := fun i i0 i1 => e _ (by omega)
  have e4 : m1 224 = m0 224 := e _ (by omega)
  obtain ⟨a1, a2, a3, a4, a5⟩ := A
  refine ⟨a1, a2, ?_, ?_, a5⟩
  · intro j j0 j1 g g0 g1
    rw [a3 j j0 j1 g g0 g1]; unfold xR; rw [e1 g g0 g1]
  · intro j j0 j1
    have h := a4 j j0 j1
    by_cases c : mtc2 s k mk ls rk (fun g => xR m (t + 4 + g) j) = true
    · rw [if_pos c] at h ⊢
      by_cases d : j < n0
      · rw [if_pos d] at h ⊢
        refine ⟨?_, fun i i0 i1 => ?_⟩
        · rw [h.1]; unfold xJ; rw [e2]
        · rw [h.2 i i0 i1]; unfold xJ xR; rw [e2, e3 i i0 i1, e4]
      · rw [if_neg d] at h ⊢
        refine ⟨h.1, fun i i0 i1 => ?_⟩
        rw [h.2 i i0 i1]; unfold xR; rw [e4]
    · rw [if_neg c] at h ⊢
      refine ⟨h.1, ?_, fun i i0 i1 => ?_⟩
      · rw [h.2.1]; unfold xJ; rw [e2]
      · rw [h.2.2 i i0 i1]; unfold xJ; rw [e3 i i0 i1]

theorem addrow_ok {m : xw_M} {t row k it n0 S cf : Int} {mo rk ls mk : Int → Int} (h : t = 420 ∨ t = 464) (h6 : xR m 223 6 = k) (k0 : 0 ≤ k) (k8 : k ≤ 8) (hi : xR m t 6 = it) (it0 : 0 ≤ it) (it24 : it ≤ 24) (hS : xR m 223 8 = S) (S0 : 0 ≤ S) (S32 : S ≤ 32) (hmk : ∀ s, xR m 228 s = mk s) (h43 : ∀ g, 0 ≤ g → g < k → xR m (t + 43) g = ls g) (W : RWs B m row cf mo it) (K : RKs B m row k rk) (kb : ∀ i, 0 ≤ i → i < it → xR m 224 i = 1 ∨ (209 ≤ xR m 224 i ∧ xR m 224 i ≤ 213)) (ds : ∀ s s', 0 ≤ s → s < S → 0 ≤ s' → s' < S → (∀ g, 0 ≤ g → g < k → skey rk ls (mk s) g = skey rk ls (mk s') g) → s = s') (R : RT m t k n0) : ∃ m', yf125 B t row m = some (.inl 0, m') ∧ fAW t m m' ∧ ((∃ n', AM m m' t k it n0 n' S cf mo rk ls mk ∧ m' t = m t) ∨ OV m m' t k n0 S rk ls mk) := by
  unfold yf125
  generalize hN : (1000000 : Nat) = N
  obtain ⟨m1, e1, f1, r1⟩ := rks_l (B := B) (m0 := m) h h6 k8 K N 0 m (by omega) k0 (by omega) (fun _ _ => rfl) (fun j j0 j1 => absurd j1 (Int.not_lt.mpr j0))
  rw [hN] at e1
  rw [e1]
  have q : ∀ a, a ≠ t + 42 → m1 a = m a := f1
  have R1 : RT m1 t k n0 := RT_fr k8 R (by rw [q _ (by omega)]) (q _ (by omega)) (fun g g0 g1 => q _ (by omega))
  have A0 : AM m1 m1 t k it n0 n0 0 cf mo rk ls mk := by
    refine ⟨R1, Int.le_refl _, fun _ _ _ _ _ _ => rfl, fun j j0 j1 => ?_, fun s s0 s1 => absurd s1 (Int.not_lt.mpr s0)⟩
    have c : ¬ mtc2 0 k mk ls rk (fun g => xR m1 (t + 4 + g) j) = true := fun hc => by
      obtain ⟨s, s0, s1, _⟩ := mtc2_t.mp hc; omega
    rw [if_neg c]; exact ⟨j1, rfl, fun _ _ _ => rfl⟩
  have c223 : m1 223 = m 223 := q _ (by omega)
  have c224 : m1 224 = m 224 := q _ (by omega)
  have c228 : m1 228 = m 228 := q _ (by omega)
  have ct : m1 t = m t := q _ (by omega)
  have c43 : m1 (t + 43) = m (t + 43) := q _ (by omega)
  have x1 : ∀ x, xR m1 223 x = xR m 223 x := fun x => by unfold xR; rw [c223]
  have x2 : ∀ x, xR m1 224 x = xR m 224 x := fun x => by unfold xR; rw [c224]
  have x3 : ∀ x, xR m1 228 x = xR m 228 x := fun x => by unfold xR; rw [c228]
  have x4 : ∀ x, xR m1 t x = xR m t x := fun x => by unfold xR; rw [ct]
  have x5 : ∀ x, xR m1 (t + 43) x = xR m (t + 43) x := fun x => by unfold xR; rw [c43]
  have W1 : RWs B m1 row cf mo it := RWs_fr W (fun a a0 a1 => q a (by omega))
  have n00 : 0 ≤ n0 := R.2.1.1
  obtain ⟨m2, e2, r2⟩ := sets_l (B := B) (m0 := m1) (t := t) (row := row) (k := k) (it := it) (n0 := n0) (S := S) (cf := cf) (mo := mo) (rk := rk) (ls := ls) (mk := mk) h (by rw [x1]; exact h6) k0 k8 (by rw [x4]; exact hi) it0 it24 (by rw [x1]; exact hS) S32 (fun s => by rw [x3]; exact hmk s) r1 (fun g g0 g1 => by rw [x5]; exact h43 g g0 g1) W1 (fun i i0 i1 => by rw [x2]; exact kb i i0 i1) ds n00 40 N 0 n0 m1 (by omega) (by omega) (Int.le_refl _) S0 ⟨fun _ _ _ _ _ _ => rfl, fun _ _ => rfl⟩ A0
  refine ⟨m2, e2, ?_⟩
  rcases r2 with ⟨n', f2, A2⟩ | ⟨f2, f3, O⟩
  · have et : m2 t = m1 t := f2.1 t (by omega) (by omega) (by omega) (by omega) (by omega)
    refine ⟨⟨fun a a1 a2 a3 a4 a5 a6 a7 => by rw [f2.1 a a2 a3 a4 a5 a6, q a a7], fun x _ => by rw [et, ct]⟩, Or.inl ⟨n', AM_cg k8 it24 h q A2, by rw [et, ct]⟩⟩
  · refine ⟨⟨fun a a1 a2 a3 a4 a5 a6 a7 => by rw [f2 a a1 a2 a3 a4 a5 a6, q a a7], fun x hx => by rw [f3 x hx, ct]⟩, Or.inr ?_⟩
    obtain ⟨o1, o2, o3, o4, o5⟩ := O
    refine ⟨o1, o2, o3, fun j j0 j1 g g0 g1 => ?_, o5⟩
    rw [o4 j j0 j1 g g0 g1]; unfold xR; rw [q _ (by omega)]
end ADW
