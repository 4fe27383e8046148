/-! Catalog.arrange -/
/-- dimension d of m', arranged, out of that of m -/
def arrM (m m' : xw_M) (d : Int) (o : Int → Int) : Prop := vsrt (xR m (15 + 26 * d + 9)) o (xR m (15 + 26 * d) 11) ∧ (∀ l i, 0 ≤ l → l < xR m (15 + 26 * d) 10 → 0 ≤ i → i < xR m (15 + 26 * d) 11 → xR m' (15 + 26 * d + 9 + l) i = xR m (15 + 26 * d + 9 + l) (o i)) ∧ arrd m' d (xR m (15 + 26 * d) 10) (xR m (15 + 26 * d) 11)
theorem arrd_cg {m m' : xw_M} {d L n : Int} (h : arrd m d L n) (hL : L ≤ 4) (hc : ∀ a, 15 + 26 * d + 9 ≤ a → a ≤ 15 + 26 * d + 25 → m' a = m a) : arrd m' d L n := by
  intro l l0 l1
  obtain ⟨K, k1, k2, k3⟩ := h l l0 l1
  rw [← xR_cg (hc (15 + 26 * d + 19 + l) (by omega) (by omega))] at k2 k3
  rw [← xR_cg (hc (15 + 26 * d + 9 + l) (by omega) (by omega)), ← xR_cg (hc (15 + 26 * d + 14 + l) (by omega) (by omega))] at k3
  rw [← xR_cg (hc (15 + 26 * d + 23) (by omega) (by omega))] at k1
  exact ⟨K, k1, k2, k3⟩
section ARRALL
variable {B : Nat} {m : xw_M} {D M : Int}
theorem arr_all (hc : ctn m D M) : ∃ (m' : xw_M) (os : Int → Int → Int), yf26 B m = some (.inl 0, m') ∧ (∀ a, (∀ d, 0 ≤ d → d < D → a < 15 + 26 * d + 9 ∨ 15 + 26 * d + 25 < a) → m' a = m a) ∧ ∀ d, 0 ≤ d → d < D → arrM m m' d (os d) := by
  have hD := hc.1
  unfold yf26
  generalize hN : (1000000 : Nat) = N
  have goal := xH_ex (Q := fun v m' => v = 0 ∧ ∃ os : Int → Int → Int, (∀ a, (∀ d, 0 ≤ d → d < D → a < 15 + 26 * d + 9 ∨ 15 + 26 * d + 25 < a) → m' a = m a) ∧ ∀ d, 0 ≤ d → d < D → arrM m m' d (os d)) (xl1_rule (F := yl26_2 B) (fun x m' => 0 ≤ x ∧ x ≤ D ∧ ∃ os : Int → Int → Int, (∀ a, (∀ d, 0 ≤ d → d < x → a < 15 + 26 * d + 9 ∨ 15 + 26 * d + 25 < a) → m' a = m a) ∧ ∀ d, 0 ≤ d → d < x → arrM m m' d (os d)) (fun x _ => (D - x).toNat) ?_ N 0 m ⟨by omega, hD.1, fun _ i => i, fun _ _ => rfl, fun i i0 i1 => absurd i1 (Int.not_lt.mpr i0)⟩ (by omega))
  · obtain ⟨v, m', e, rfl, os, h⟩ := goal
    exact ⟨m', os, e, h⟩
  · intro r x mx ⟨x0, x1, os, F, V⟩ ih
    have q31 : xR mx 3 1 = D := by rw [xR_cg (F 3 (fun d d0 d1 => by omega))]; exact hc.2.2.1
    unfold yl26_2
    rw [q31]
    by_cases hx : x < D
    · obtain ⟨a1, a2, a3, a4⟩ := hc.2.2.2.2.1 x x0 hx
      have own : ∀ a, 15 + 26 * x ≤ a → a ≤ 15 + 26 * x + 25 → mx a = m a := fun a h0 h1 => F a (fun d d0 d1 => by omega)
      have o0 := (dm_f B x0 (show x < 8 by omega)).1
      obtain ⟨m2, o, e2, f2, s2, v2, r2⟩ := arr_ok (B := B) (m := mx) (d := x) ⟨x0, by omega⟩ a2 a3 (by rw [xR_cg (own _ (by omega) (by omega))]) (by rw [xR_cg (own _ (by omega) (by omega))])
      rw [if_pos hx, if_pos ⟨x0, by omega⟩, if_pos o0, e2, xB_ret, w32_id (by omega) (by omega)]
      refine ih _ _ ⟨by omega, by omega, fun d => if d = x then o else os d, fun a ha => ?_, fun d d0 d1 => ?_⟩ (by omega)
      · rw [f2 a (ha x x0 (by omega))]
        exact F a (fun d d0 d1 => ha d d0 (by omega))
      · by_cases ed : d = x
        · subst ed
          show arrM m m2 d (if d = d then o else os d)
          rw [if_pos rfl]
          refine ⟨?_, fun l i l0 l1 i0 i1 => ?_, r2⟩
          · rw [← xR_cg (own (15 + 26 * d + 9) (by omega) (by omega))]
            exact s2
          · rw [v2 l i l0 l1 i0 i1, xR_cg (own (15 + 26 * d + 9 + l) (by omega) (by omega))]
        · show arrM m m2 d (if d = x then o else os d)
          rw [if_neg ed]
          obtain ⟨u1, u2, u3⟩ := V d d0 (by omega)
          have hL4 := (hc.2.2.2.2.1 d d0 (by omega)).2.1.2
          refine ⟨u1, fun l i l0 l1 i0 i1 => ?_, arrd_cg u3 hL4 (fun a b0 b1 => f2 a (by omega))⟩
          rw [xR_cg (f2 (15 + 26 * d + 9 + l) (by omega))]
          exact u2 l i l0 l1 i0 i1
    · have e : x = D := by omega
      subst e
      rw [if_neg hx, xH_ret]
      exact ⟨rfl, os, F, V⟩
end ARRALL
