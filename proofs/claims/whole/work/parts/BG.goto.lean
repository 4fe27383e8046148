/-! THE ANSWER, by the class: goToPart, to the facts of an extent -/
section GTP
variable {B : Nat} {m : xw_M} {D M : Int}
/-- what going to a part changes -/
def fGo (m m' : xw_M) : Prop := (∀ a, a ≠ 302 → a ≠ 371 → a ≠ 372 → a ≠ 530 → m' a = m a) ∧ (∀ k, k ≠ 5 → k ≠ 6 → k ≠ 7 → m' 302 k = m 302 k) ∧ ∀ k, k ≠ 2 → m' 530 k = m 530 k
theorem fGo_tr {a b c : xw_M} (h : fGo a b) (k : fGo b c) : fGo a c := ⟨fun x x1 x2 x3 x4 => by rw [k.1 x x1 x2 x3 x4, h.1 x x1 x2 x3 x4], fun x x1 x2 x3 => by rw [k.2.1 x x1 x2 x3, h.2.1 x x1 x2 x3], fun x hx => by rw [k.2.2 x hx, h.2.2 x hx]⟩
theorem fGo_g {m m' : xw_M} (h : rg m m') : fGo m m' := ⟨fun a _ _ _ h4 => h.1 a h4, fun k _ _ _ => by rw [h.1 302 (by decide)], h.2⟩
theorem fGo_S {m m' : xw_M} (h : fS m m') : fGo m m' := ⟨fun a h1 h2 h3 _ => h.1 a h1 h2 h3, h.2, fun k _ => by rw [h.1 530 (by decide) (by decide) (by decide)]⟩
theorem goF_ok {e s p : Int} (hB : B ≤ 512) (hD : 0 ≤ D ∧ D ≤ 8) (hM : 0 ≤ M ∧ M ≤ 8) (h31 : xR m 3 1 = D) (h32 : xR m 3 2 = M) (e0 : 0 ≤ e) (e1 : e < 200) (hs : xR m 514 e = s) (s0 : 0 ≤ s) (s1 : s < B) (h : rs B m p) : ∃ m', yf104 B e (-1) m = some (.inl 530, m') ∧ rs B m' (s * 32768 + 64) ∧ fGo m m' ∧ xR m' 302 5 = D ∧ xR m' 302 6 = D + M ∧ xR m' 302 7 = 0 ∧ ∀ d, 0 ≤ d → d < D → xR m' 371 d = 0 ∧ xR m' 372 d = d := by
  obtain ⟨m1, a1, a2, a3⟩ := goTo_ok (B := B) hB e0 e1 hs s0 s1 h
  obtain ⟨m2, b1, b2, b3⟩ := shapeF_ok (B := B) (m := m1) hD hM (by rw [xR_cg (a3.1 3 (by decide))]; exact h31) (by rw [xR_cg (a3.1 3 (by decide))]; exact h32)
  unfold yf104
  rw [a1, xB_ret, b1, xB_ret, if_pos rfl]
  exact ⟨m2, rfl, rs_fr a2 (b2.1 530 (by decide) (by decide) (by decide)), fGo_tr (fGo_g a3) (fGo_S b2), b3⟩
end GTP
