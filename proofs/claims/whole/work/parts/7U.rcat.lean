/-! THE DIMENSIONS COME FROM THE DISK -/
/-- dimension d of m' is that of w, as far as it is written -/
def sdm (w m' : xw_M) (d : Int) : Prop := (xR m' (15 + 26 * d) 9 = xR w (15 + 26 * d) 9 ∧ xR m' (15 + 26 * d) 10 = xR w (15 + 26 * d) 10 ∧ xR m' (15 + 26 * d) 11 = xR w (15 + 26 * d) 11) ∧ (∀ i, 0 ≤ i → i < xR w (15 + 26 * d) 9 → xR m' (15 + 26 * d + 1) i = xR w (15 + 26 * d + 1) i) ∧ ∀ l, 0 ≤ l → l < xR w (15 + 26 * d) 10 → xR m' (15 + 26 * d + 7) l = xR w (15 + 26 * d + 7) l ∧ (∀ i, 0 ≤ i → i < xR w (15 + 26 * d + 7) l → xR m' (15 + 26 * d + 3 + l) i = xR w (15 + 26 * d + 3 + l) i) ∧ ∀ i, 0 ≤ i → i < xR w (15 + 26 * d) 11 → xR m' (15 + 26 * d + 9 + l) i = xR w (15 + 26 * d + 9 + l) i
/-- names are bytes -/
def nm8 (w : xw_M) (D : Int) : Prop := ∀ d, 0 ≤ d → d < D → (∀ i, 0 ≤ i → i < xR w (15 + 26 * d) 9 → w8 (xR w (15 + 26 * d + 1) i) = xR w (15 + 26 * d + 1) i) ∧ ∀ l i, 0 ≤ l → l < xR w (15 + 26 * d) 10 → 0 ≤ i → i < xR w (15 + 26 * d + 7) l → w8 (xR w (15 + 26 * d + 3 + l) i) = xR w (15 + 26 * d + 3 + l) i
section RCAT2
variable {B : Nat} {m w : xw_M} {p D M : Int}
theorem rd_dims (hB : B ≤ 512) (hc : ctn w D M) (h8 : nm8 w D) (h31 : xR m 3 1 = D) (h : rs B m p) (hC : ∀ d, 0 ≤ d → d < D → DmnM w (m 516) (p + 8 * dsm w d.toNat) d) (hf : p + 8 * dsm w D.toNat ≤ 64 * (B * 512 : Nat)) {Q : Int → xw_M → Prop} (k : ∀ m', rs B m' (p + 8 * dsm w D.toNat) → (∀ a, a ≠ 530 → (a < 15 ∨ 222 < a) → m' a = m a) → (∀ j, j ≠ 2 → m' 530 j = m 530 j) → (∀ d, 0 ≤ d → d < D → sdm w m' d) → xH (xl2 (yl23_55 B) 1000000 530 0 m') Q (fun _ _ => False)) : xH (xl2 (yl23_29 B) 1000000 530 0 m) Q (fun _ _ => False) := by
  have hD := hc.1
  have p0 : 0 ≤ p := h.2.2
  generalize hN : (1000000 : Nat) = N at *
  refine xl2_rule (F := yl23_29 B) (fun y1 x m' => y1 = 530 ∧ 0 ≤ x ∧ x ≤ D ∧ rs B m' (p + 8 * dsm w x.toNat) ∧ (∀ a, a ≠ 530 → (a < 15 ∨ 222 < a) → m' a = m a) ∧ (∀ j, j ≠ 2 → m' 530 j = m 530 j) ∧ ∀ d, 0 ≤ d → d < x → sdm w m' d) (fun _ x _ => (D - x).toNat) ?_ N 530 0 m ⟨rfl, by omega, hD.1, by rw [show dsm w (0 : Int).toNat = 0 from rfl, show p + 8 * 0 = p from by omega]; exact h, fun _ _ _ => rfl, fun _ _ => rfl, fun i i0 i1 => absurd i1 (Int.not_lt.mpr i0)⟩ (by omega)
  intro r y1 x mx ⟨b1, x0, x1, R, F, G, P⟩ ih
  subst b1
  unfold yl23_29
  rw [show xR mx 3 1 = D from by rw [xR_cg (F 3 (by decide) (by decide))]; exact h31]
  by_cases hx : x < D
  · obtain ⟨a1, a2, a3, a4⟩ := hc.2.2.2.2.1 x x0 hx
    have o0 := (dm_f B x0 (show x < 8 by omega)).1
    have st : dsm w (x.toNat + 1) = dsm w x.toNat + dmB w x := by
      show dsm w x.toNat + dmB w ((x.toNat : Nat) : Int) = _
      rw [Int.toNat_of_nonneg x0]
    have c1 := dsm_nn hc (D.toNat - (x.toNat + 1)) (x.toNat + 1) (by omega)
    rw [show x.toNat + 1 + (D.toNat - (x.toNat + 1)) = D.toNat from by omega] at c1
    have es : p + 8 * dsm w x.toNat + 32 + 8 * xR w (15 + 26 * x) 9 + 8 * lwB (xR w (15 + 26 * x + 7)) (xR w (15 + 26 * x) 11) (xR w (15 + 26 * x) 10).toNat = p + 8 * dsm w (x + 1).toNat := by
      rw [show (x + 1).toNat = x.toNat + 1 from by omega, st]
      unfold dmB
      omega
    have hD' : Dmn (mx 516) (p + 8 * dsm w x.toNat) (xR w (15 + 26 * x) 9) (xR w (15 + 26 * x) 10) (xR w (15 + 26 * x) 11) (xR w (15 + 26 * x + 1)) (xR w (15 + 26 * x + 7)) (fun l => xR w (15 + 26 * x + 3 + l)) (fun l => xR w (15 + 26 * x + 9 + l)) := by
      rw [F 516 (by decide) (by decide)]
      exact hC x x0 hx
    obtain ⟨m2, e2, R2, f2, z1, z2, z3⟩ := rd_dim (B := B) (m := mx) (d := x) hB x0 (by omega) a1 a2 a3 a4 (fun i i0 i1 => (h8 x x0 hx).1 i i0 i1) (fun l i l0 l1 i0 i1 => (h8 x x0 hx).2 l i l0 l1 i0 i1) (fun l i _ _ _ _ => xR_w _ _ _) R hD' (by rw [es, show (x + 1).toNat = x.toNat + 1 from by omega]; omega)
    rw [es] at R2
    rw [if_pos hx, if_pos ⟨x0, by omega⟩, if_pos o0, e2, xB_ret, w32_id (by omega) (by omega)]
    refine ih _ _ _ ⟨rfl, by omega, by omega, R2, fun a n1 n2 => (f2.1 a n1 (by omega)).trans (F a n1 n2), fun j hj => (f2.2 j hj).trans (G j hj), fun d d0 d1 => ?_⟩ (by omega)
    by_cases ed : d = x
    · rw [ed]
      exact ⟨z1, z2, z3⟩
    · obtain ⟨s1, s2, s3⟩ := P d d0 (by omega)
      have keep : ∀ a, 15 + 26 * d ≤ a → a ≤ 15 + 26 * d + 25 → m2 a = mx a := fun a n1 n2 => f2.1 a (by omega) (by omega)
      have l4 := (hc.2.2.2.2.1 d d0 (by omega)).2.1.2
      unfold sdm
      rw [xR_cg (keep (15 + 26 * d) (by omega) (by omega)), xR_cg (keep (15 + 26 * d + 1) (by omega) (by omega)), xR_cg (keep (15 + 26 * d + 7) (by omega) (by omega))]
      refine ⟨s1, s2, fun l l0 l1 => ?_⟩
      rw [xR_cg (keep (15 + 26 * d + 3 + l) (by omega) (by omega)), xR_cg (keep (15 + 26 * d + 9 + l) (by omega) (by omega))]
      exact s3 l l0 l1
  · have e : x = D := by omega
    subst e
    rw [if_neg hx, hN]
    exact k mx R F G P
end RCAT2
