/-! THE ANSWER: both sides take the same table -/
section SRX
variable {B : Nat} {D M q : Int}
def fitr (r : xw_M) (q D k n v : Int) : Prop := (∀ j, 0 ≤ j → j < k → vdg (xR r 538) D v (xR r (q + 4) j / 4) ≤ xR r (q + 4) j % 4) ∧ ∀ j, 0 ≤ j → j < n → vdg (xR r 538) D v (xR r (q + 9) j / 4) ≤ xR r (q + 9) j % 4
theorem fit_same {c r : xw_M} {k nc p v : Int} (C : cgr c r D M) (G : GC c r q D k) (N : CDN c r q D nc k p) : fitc c D v ↔ fitr r q D k nc v := by
  obtain ⟨⟨c1, c2, c3, c4, c5⟩, L, _⟩ := N
  obtain ⟨g1, g2, g3, g4, g5⟩ := G
  have L4 := cgr_L4 C
  have D8 := C.cn.1.2
  have l1 : ∀ d, 0 ≤ d → d < D → 0 ≤ lvc c d ∧ lvc c d ≤ 4 := fun d d0 d1 => (C.cn.2.2.2.2.1 d d0 d1).2.1
  have ev : ∀ d, 0 ≤ d → d < D → vdg (lvc c) D v d = vdg (xR r 538) D v d := fun d d0 d1 => vdg_cg d0 d1 (fun d d0 d1 => (C.2.2.2.2.1 d d0 d1).2.1.symm)
  have v4 : ∀ d, 0 ≤ d → d < D → vdg (xR r 538) D v d ≤ 4 := fun d d0 d1 => by
    have := vdg_b (v := v) l1 d0 d1
    have := l1 d d0 d1
    rw [← ev d d0 d1]; omega
  constructor
  · intro h
    have key : ∀ d, 0 ≤ d → d < D → vdg (xR r 538) D v d ≤ xR c 292 d := fun d d0 d1 => by
      have a := v4 d d0 d1
      by_cases z : xR c 292 d < 4
      · rw [← ev d d0 d1]; exact h d d0 d1 z
      · omega
    refine ⟨fun j j0 j1 => ?_, fun j j0 j1 => ?_⟩
    · obtain ⟨e1, d, l, e2, d0, d1, l0, l1'⟩ := g4 j j0 j1
      have l4 := L4 d d0 d1
      rw [e1, e2, show (4 * d + l) / 4 = d from by omega, show (4 * d + l) % 4 = l from by omega]
      have := ((L d d0 (by omega) _).mp (key d d0 d1)).2.2 j j0 j1 (by rw [e2]; omega)
      rw [e2, show (4 * d + l) % 4 = l from by omega] at this
      exact this
    · obtain ⟨e1, ⟨d, l, e2, d0, d1, l0, l1', _⟩, _⟩ := c5 j j0 j1
      have l4 := L4 d d0 d1
      rw [e1, e2, show (4 * d + l) / 4 = d from by omega, show (4 * d + l) % 4 = l from by omega]
      have := ((L d d0 (by omega) _).mp (key d d0 d1)).2.1 j j0 j1 (by rw [e2]; omega)
      rw [e2, show (4 * d + l) % 4 = l from by omega] at this
      exact this
  · intro ⟨h1, h2⟩ d d0 d1 _
    rw [ev d d0 d1]
    refine (L d d0 (by omega) _).mpr ⟨v4 d d0 d1, fun i i0 i1 hi => ?_, fun i i0 i1 hi => ?_⟩
    · have := h2 i i0 i1
      rw [(c5 i i0 i1).1, hi] at this
      exact this
    · have := h1 i i0 i1
      rw [(g4 i i0 i1).1, hi] at this
      exact this
theorem btb_cg {f f' : Int → Prop} {rz rz' : Int → Int} {F : Int} : ∀ n : Nat, (∀ i : Int, 0 ≤ i → i < n → (f i ↔ f' i) ∧ rz i = rz' i) → btb f rz F n = btb f' rz' F n
  | 0, _ => rfl
  | n + 1, h => by
    have ih := btb_cg (F := F) n (fun i i0 i1 => h i i0 (by omega))
    obtain ⟨h1, h2⟩ := h n (by omega) (by omega)
    by_cases a : rz n < (btb f rz F n).2 ∧ f n
    · rw [btb_t a.1 a.2, btb_t (by rw [← ih, ← h2]; exact a.1) (h1.mp a.2), h2]
    · rw [btb_f a, btb_f (fun z => a ⟨by rw [ih, h2]; exact z.1, h1.mpr z.2⟩), ih]
end SRX
