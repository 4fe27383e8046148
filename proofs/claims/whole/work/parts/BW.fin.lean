/-! THE ANSWER, by the class: all rows are finished: frames, the loop -/
section FIW
variable {B : Nat} {t it r : Int}
theorem FOK_fn {m m' : xw_M} {i : Int} (h : t = 420 ∨ t = 464) (f : fFn t m m') (F : FOK m t r i) : FOK m' t r i := by
  have e4 := xR_cg (f 224 (by omega) (by omega))
  have e5 := xR_cg (f 225 (by omega) (by omega))
  have e7 := xR_cg (f 227 (by omega) (by omega))
  have e43 := xR_cg (f (t + 43) (by omega) (by omega))
  unfold FOK
  rw [e4, e5, e7, e43]
  refine ⟨F.1, fun k => ?_⟩
  obtain ⟨g, d, l, a1, a2, a3, a4⟩ := F.2 k
  refine ⟨g, d, l, a1, a2, a3, ?_⟩
  rw [xR_cg (f (t + 4 + xR m 225 i) (by omega) (by omega)), xR_cg (f (15 + 26 * d + 19 + l) (by omega) (by omega))]
  exact a4
theorem ffl_fn {m m' : xw_M} {i : Int} (h : t = 420 ∨ t = 464) (f : fFn t m m') (F : FOK m t r i) (e : m' (t + 13 + i) r = m (t + 13 + i) r) : fvl m' t r i = fvl m t r i ∧ fbl m' t r i = fbl m t r i := by
  have e4 := xR_cg (f 224 (by omega) (by omega))
  have e5 := xR_cg (f 225 (by omega) (by omega))
  have e7 := xR_cg (f 227 (by omega) (by omega))
  have e43 := xR_cg (f (t + 43) (by omega) (by omega))
  have ej : xJ m' (t + 13 + i) r = xJ m (t + 13 + i) r := by unfold xJ; rw [e]
  have e39 : xJ m' (t + 39) r = xJ m (t + 39) r := by unfold xJ; rw [f (t + 39) (by omega) (by omega)]
  unfold fvl fbl
  rw [e4, e5, e7, e43, ej, e39]
  by_cases k : xR m 224 i = 1 ∨ xR m 224 i = 209
  · obtain ⟨g, d, l, a1, a2, a3, _⟩ := F.2 k
    have dv : (4 * d + l) / 4 = d := by omega
    have md : (4 * d + l) % 4 = l := by omega
    rw [a1, dv, md, xR_cg (f (t + 4 + xR m 225 i) (by omega) (by omega)), xR_cg (f (15 + 26 * d + 19 + l) (by omega) (by omega)), xR_cg (f (15 + 26 * d + 9 + l) (by omega) (by omega))]
    exact ⟨rfl, rfl⟩
  · have k1 : ¬ xR m 224 i = 1 := fun z => k (Or.inl z)
    have k2 : ¬ xR m 224 i = 209 := fun z => k (Or.inr z)
    refine ⟨?_, ?_⟩
    · rw [if_neg k2, if_neg k2, if_neg (fun z => k1 z.1), if_neg (fun z => k1 z.1)]
    · exact decide_eq_decide.mpr ⟨fun z => z.elim (fun y => absurd y.1 k1) Or.inr, fun z => z.elim (fun y => absurd y.1 k1) Or.inr⟩
theorem finr_l {m0 : xw_M} {p n : Int} (h : t = 420 ∨ t = 464) (hi : xR m0 t 6 = it) (it0 : 0 ≤ it) (it24 : it ≤ 24) (hn : xR m0 (t + 1) 5 = n) (n4 : n ≤ 4000) (F : ∀ r i, 0 ≤ r → r < n → 0 ≤ i → i < it → FOK m0 t r i) : ∀ (N : Nat) (r : Int) (m : xw_M), 0 ≤ r → r ≤ n → (n - r).toNat < N → fFn t m0 m → (∀ a j, r ≤ j → a ≠ t + 40 → m a j = m0 a j) → (∀ j, 0 ≤ j → j < r → FND m0 m t it j) → ∃ m', xl3 (yl128_2 B) N t p r m = (xB (yf130 B (t + 1) m') fun _ m1 => xl3 (yl128_66 B) 1000000 t p (w32 ((xR m1 223 6) - 1)) m1) ∧ fFn t m0 m' ∧ ∀ j, 0 ≤ j → j < n → FND m0 m' t it j := by
  have AF := fun _ : Unit => an_f B h
  intro N
  induction N with
  | zero => intro r m _ _ hN; omega
  | succ N ih =>
    intro r m r0 r1 hN f u v
    show ∃ m', yl128_2 B (xl3 (yl128_2 B) N) t p r m = _ ∧ _
    have IH := ih (r + 1)
    clear ih
    generalize xl3 (yl128_2 B) N = G at IH ⊢
    unfold yl128_2
    rw [(AF ()).2.1.1, (AF ()).2.1.2.2.1, (AF ()).2.2.2.1.2.1, if_pos (AF ()).1, if_pos (AF ()).2.2.1.1, xR_cg (f (t + 1) (by omega) (by omega)), hn]
    by_cases c : r < n
    · have rb : 0 ≤ r ∧ r < 4000 := ⟨r0, by omega⟩
      have wr : w32 (r + 1) = r + 1 := w32_id (by omega) (by omega)
      rw [if_pos c, if_pos rb, if_pos (AF ()).2.2.1.2.2.1]
      have f1 : fFn t m0 (xw_u m (t + 40) r 0) := fun a a1 a2 => by rw [← f a a1 a2]; funext j; exact if_neg (fun z => a2 z.1)
      have x1 : ∀ a, a ≠ t + 40 → (xw_u m (t + 40) r 0) a = m a := fun a ha => by funext j; exact if_neg (fun z => ha z.1)
      have b1 : xR (xw_u m (t + 40) r 0) (t + 40) r = 0 := by rw [xR_u, if_pos ⟨rfl, rfl⟩]; rfl
      have y1 : ∀ j, j ≠ r → (xw_u m (t + 40) r 0) (t + 40) j = m (t + 40) j := fun j hj => if_neg (fun z => hj z.2)
      generalize xw_u m (t + 40) r 0 = m1 at f1 x1 b1 y1 ⊢
      have FO : ∀ i, 0 ≤ i → i < it → FOK m1 t r i := fun i i0 i1 => FOK_fn h f1 (F r i r0 c i0 i1)
      obtain ⟨M', hM⟩ : ∃ M' : Nat, (1000000 : Nat) = M' := ⟨_, rfl⟩
      obtain ⟨m2, e1, g, e2, e3⟩ := fin_l (B := B) (m0 := m1) (p := p) (r2 := G) h r0 rb.2 (by rw [xR_cg (f1 t (by omega) (by omega))]; exact hi) it24 FO M' 0 m1 it0 (by omega) ⟨fun _ _ _ => rfl, fun _ _ _ => rfl⟩ (fun _ _ => Or.inl rfl) (fun j j0 j1 => by omega) rfl
      rw [show ((0 : Nat) : Int) = 0 from rfl, ← hM] at e1
      rw [e1, wr]
      have ff : ∀ j, 0 ≤ j → j < it → fvl m1 t r j = fvl m0 t r j ∧ fbl m1 t r j = fbl m0 t r j := fun j j0 j1 => ffl_fn h f1 (F r j r0 c j0 j1) (by rw [x1 _ (by omega)]; exact u _ r (Int.le_refl _) (by omega))
      have bk : ∀ i : Nat, (i : Int) ≤ it → bks (fbl m1 t r) 0 i = bks (fbl m0 t r) 0 i := by
        intro i
        induction i with
        | zero => intro _; rfl
        | succ i ihb =>
          intro hi'
          unfold bks
          rw [ihb (by omega), (ff i (by omega) (by omega)).2]
      refine IH m2 (by omega) (by omega) (by omega) (fun a a1 a2 => by rw [g.1 a a1 a2, f1 a a1 a2]) (fun a j j0 ha => by rw [g.2 a j (by omega), x1 a ha]; exact u a j (by omega) ha) (fun j j0 j1 => ?_)
      by_cases jr : j = r
      · rw [jr]
        refine ⟨fun i i0 i1 => by rw [e2 i i0 i1, (ff i i0 i1).1], ?_⟩
        rw [e3, b1]; exact bk it.toNat (by omega)
      · obtain ⟨z1, z2⟩ := v j j0 (by omega)
        refine ⟨fun i i0 i1 => ?_, ?_⟩
        · rw [← z1 i i0 i1]; unfold xJ; rw [g.2 _ j jr, x1 _ (by omega)]
        · rw [← z2]; unfold xR; rw [g.2 _ j jr, y1 j jr]
    · rw [if_neg c]
      exact ⟨m, rfl, f, fun j j0 j1 => v j j0 (by omega)⟩
end FIW
