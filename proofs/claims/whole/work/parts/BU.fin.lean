/-! THE ANSWER, by the class: the loop over the items of a row -/
section FIU
variable {B : Nat} {t r it : Int}
theorem fin_l {m0 : xw_M} {p : Int} {r2 : Int → Int → Int → xw_M → xP} (h : t = 420 ∨ t = 464) (r0 : 0 ≤ r) (r1 : r < 4000) (hi : xR m0 t 6 = it) (it24 : it ≤ 24) (F : ∀ i, 0 ≤ i → i < it → FOK m0 t r i) : ∀ (N i : Nat) (m : xw_M), (i : Int) ≤ it → (it - i).toNat < N → fFr t r m0 m → (∀ j, (i : Int) ≤ j → m (t + 13 + j) r = m0 (t + 13 + j) r ∨ it ≤ j) → (∀ j, 0 ≤ j → j < (i : Int) → xJ m (t + 13 + j) r = fvl m0 t r j) → xR m (t + 40) r = bks (fbl m0 t r) (xR m0 (t + 40) r) i → ∃ m', xl4 (yl128_23 B r2) N t p r i m = r2 t p (w32 (r + 1)) m' ∧ fFr t r m0 m' ∧ (∀ j, 0 ≤ j → j < it → xJ m' (t + 13 + j) r = fvl m0 t r j) ∧ xR m' (t + 40) r = bks (fbl m0 t r) (xR m0 (t + 40) r) it.toNat := by
  have O9 : Unit → xw_obb 9 t = true := fun _ => (an_f B h).1
  intro N
  induction N with
  | zero => intro i m _ hN; omega
  | succ N ih =>
    intro i m i1 hN f u v b
    rw [xl4_s]
    have IH := ih (i + 1)
    clear ih
    generalize xl4 (yl128_23 B r2) N = G at IH ⊢
    unfold yl128_23
    rw [if_pos (O9 ()), xR_cg (f.1 t (by omega) (by omega)), hi]
    by_cases c : (i : Int) < it
    · have wi : w32 ((i : Int) + 1) = ((i + 1 : Nat) : Int) := by rw [w32_id (by omega) (by omega)]; omega
      have Fi := F i (by omega) c
      have Fm := FOK_fr h f Fi
      have em : m (t + 13 + (i : Int)) r = m0 (t + 13 + (i : Int)) r := (u i (by omega)).elim id (fun z => by omega)
      obtain ⟨w1, w2⟩ := ffl_fr h f Fi em
      obtain ⟨m', e1, g, e2, e3⟩ := fin_item (B := B) (m := m) (i := i) h r0 r1 (by omega) (by omega) Fm.1 Fm.2
      rw [w1] at e2
      rw [w2, b] at e3
      rw [if_pos c, e1, xB_ret, wi]
      refine IH m' (by omega) (by omega) ⟨fun a a1 a2 => by rw [g.1 a (by omega) a2, f.1 a a1 a2], fun a j hj => by rw [g.2 a j hj, f.2 a j hj]⟩ (fun j j0 => ?_) (fun j j0 j1 => ?_) e3
      · rcases u j (by omega) with z | z
        · by_cases jt : it ≤ j
          · exact Or.inr jt
          · refine Or.inl ?_
            rw [g.1 (t + 13 + j) (by omega) (by omega)]; exact z
        · exact Or.inr z
      · by_cases ji : j = i
        · rw [ji]; exact e2
        · have := v j j0 (by omega)
          unfold xJ at this ⊢
          rw [g.1 (t + 13 + j) (by omega) (by omega)]; exact this
    · rw [if_neg c]
      have e : it.toNat = i := by omega
      exact ⟨m, rfl, f, fun j j0 j1 => v j j0 (by omega), by rw [e]; exact b⟩
end FIU
