/-! THE ANSWER, by the class: goToPart, to a view of an extent -/
section GTV
variable {B : Nat} {m : xw_M} {D M : Int}
def lvc (m : xw_M) (d : Int) : Int := xR m (15 + 26 * d) 10
theorem lvc_fr {m' : xw_M} (f : fGo m m') : lvc m' = lvc m := by
  funext d
  unfold lvc
  rw [xR_cg (f.1 (15 + 26 * d) (by omega) (by omega) (by omega) (by omega))]
/-- the parts of the views that lie one behind another -/
def VPT (B : Nat) (m : xw_M) (D M i : Int) (Q Rs : Int → Int) (kk : Int → Nat) (T : Int → Int → Int → Int) : Prop := ∀ j, 0 ≤ j → j ≤ i → (0 ≤ xR m 511 j ∧ xR m 511 j < 2147483648) ∧ Part (m 516) (Q j) (Rs j) (kk j) (T j) ∧ cwd (T j) ∧ kk j ≤ 33 ∧ (kk j : Int) = cnt (vhas (lvc m) D (xR m 511 j)) D.toNat + 1 + 3 * M ∧ Q (j + 1) = Q j + 8 * partB (T j) (Rs j) (kk j) ∧ Q (j + 1) ≤ 64 * (B * 512 : Nat)
/-- a view's shape is set -/
def SHV (m m' : xw_M) (D M v : Int) : Prop := vsh m' D M (cnt (vhas (lvc m) D v) D.toNat) (hdf (vhas (lvc m) D v) D.toNat) ∧ xR m' 302 7 = 1 ∧ ∀ d, 0 ≤ d → d < D → xR m' 371 d = vdg (lvc m) D v d ∧ (vhas (lvc m) D v d = true ↔ xR m' 372 d ≠ -1)
theorem goV_l {i : Int} {Q Rs : Int → Int} {kk : Int → Nat} {T : Int → Int → Int → Int} (hB : B ≤ 512) (hD : 0 ≤ D ∧ D ≤ 8) (hM : 0 ≤ M ∧ M ≤ 8) (h31 : xR m 3 1 = D) (h32 : xR m 3 2 = M) (hl : ∀ d, 0 ≤ d → d < D → 0 ≤ lvc m d ∧ lvc m d ≤ 4) (i0 : 0 ≤ i) (i1 : i < 16) (V : VPT B m D M i Q Rs kk T) : ∀ (N : Nat) (j : Int) (m1 : xw_M), 0 ≤ j → j ≤ i → (i - j).toNat < N → rs B m1 (Q j) → fGo m m1 → ∃ m', xl3 (yl104_45 B) N i 530 j m1 = some (.inl 530, m') ∧ rs B m' (Q i) ∧ fGo m m' ∧ SHV m m' D M (xR m 511 i) := by
  have sh : ∀ (j : Int) (m1 : xw_M) (pl : Int), 0 ≤ j → j ≤ i → rs B m1 pl → fGo m m1 → ∃ m2, yf109 B (xR m1 511 j) m1 = some (.inl 0, m2) ∧ rs B m2 pl ∧ fGo m m2 ∧ SHV m m2 D M (xR m 511 j) := by
    intro j m1 pl j0 j1 r f
    have e3 := xR_cg (f.1 3 (by decide) (by decide) (by decide) (by decide))
    have e511 := xR_cg (f.1 511 (by decide) (by decide) (by decide) (by decide))
    have el : (fun d => xR m1 (15 + 26 * d) 10) = lvc m := lvc_fr f
    rw [e511]
    obtain ⟨m2, a1, a2, a3, a4, a5⟩ := shapeV_ok (B := B) (m := m1) (D := D) (M := M) hD hM (by rw [e3]; exact h31) (by rw [e3]; exact h32) (v := xR m 511 j) (V j j0 j1).1 (fun d d0 d1 => by
      have := hl d d0 d1
      rw [← lvc_fr f] at this
      exact this)
    rw [el] at a3 a5
    exact ⟨m2, a1, rs_fr r (a2.1 530 (by decide) (by decide) (by decide)), fGo_tr f (fGo_S a2), a3, a4, a5⟩
  intro N
  induction N with
  | zero => intro j m1 _ _ h; omega
  | succ N ih =>
    intro j m1 j0 j1 hN r f
    show ∃ m', yl104_45 B (xl3 (yl104_45 B) N) i 530 j m1 = _ ∧ _
    have IH := ih (j + 1)
    clear ih
    generalize xl3 (yl104_45 B) N = G at IH ⊢
    unfold yl104_45
    by_cases c : j < i
    · have jb : 0 ≤ j ∧ j < 16 := by omega
      have wj : w32 (j + 1) = j + 1 := w32_id (by omega) (by omega)
      obtain ⟨m2, a1, a2, a3, a4⟩ := sh j m1 (Q j) j0 j1 r f
      obtain ⟨v1, v2, v3, v4, v5, v6, v7⟩ := V j j0 j1
      have e516 : m2 516 = m 516 := a3.1 516 (by decide) (by decide) (by decide) (by decide)
      have e6 : xR m2 302 6 = kk j := by rw [a4.1.2.2.2.2.2.2.1, v5]
      obtain ⟨m3, b1, b2, b3⟩ := skip_part (B := B) (m := m2) (R := Rs j) (p := Q j) (k := kk j) (T := T j) hB v3 v4 e6 a2 (by rw [e516]; exact v2) (by rw [← v6]; exact v7)
      rw [if_pos c, if_pos jb, a1, xB_ret, b1, xB_ret, wj]
      rw [← v6] at b2
      exact IH m3 (by omega) (by omega) (by omega) b2 (fGo_tr a3 (fGo_g b3))
    · have ji : j = i := by omega
      obtain ⟨m2, a1, a2, a3, a4⟩ := sh i m1 (Q i) i0 (Int.le_refl _) (by rw [← ji]; exact r) f
      rw [if_neg c, if_pos ⟨i0, i1⟩, a1, xB_ret]
      exact ⟨m2, rfl, a2, a3, a4⟩
theorem goV_ok {e s p i R0 : Int} {Q Rs : Int → Int} {kk : Int → Nat} {T : Int → Int → Int → Int} {T0 : Int → Int → Int} (hB : B ≤ 512) (hD : 0 ≤ D ∧ D ≤ 8) (hM : 0 ≤ M ∧ M ≤ 8) (h31 : xR m 3 1 = D) (h32 : xR m 3 2 = M) (hl : ∀ d, 0 ≤ d → d < D → 0 ≤ lvc m d ∧ lvc m d ≤ 4) (i0 : 0 ≤ i) (i1 : i < 16) (V : VPT B m D M i Q Rs kk T) (e0 : 0 ≤ e) (e1 : e < 200) (hs : xR m 514 e = s) (s0 : 0 ≤ s) (s1 : s < B) (h : rs B m p) (hF : hfx (xR m 513) e = true → Part (m 516) (s * 32768 + 64) R0 (D + M).toNat T0 ∧ cwd T0 ∧ Q 0 = s * 32768 + 64 + 8 * partB T0 R0 (D + M).toNat ∧ Q 0 ≤ 64 * (B * 512 : Nat)) (hN : hfx (xR m 513) e = false → Q 0 = s * 32768 + 64) : ∃ m', yf104 B e i m = some (.inl 530, m') ∧ rs B m' (Q i) ∧ fGo m m' ∧ SHV m m' D M (xR m 511 i) := by
  obtain ⟨m1, a1, a2, a3⟩ := goTo_ok (B := B) hB e0 e1 hs s0 s1 h
  obtain ⟨m2, b1, b2, b3, b4, b5⟩ := shapeF_ok (B := B) (m := m1) hD hM (by rw [xR_cg (a3.1 3 (by decide))]; exact h31) (by rw [xR_cg (a3.1 3 (by decide))]; exact h32)
  have f2 := fGo_tr (fGo_g a3) (fGo_S b2)
  have r2 := rs_fr a2 (b2.1 530 (by decide) (by decide) (by decide))
  have hh := hasFacts_ok (B := B) (m := m2) e0 e1
  rw [xR_cg (f2.1 513 (by decide) (by decide) (by decide) (by decide))] at hh
  unfold yf104
  rw [a1, xB_ret, b1, xB_ret, if_neg (by omega), hh, xB_ret]
  generalize hM' : (1000000 : Nat) = M'
  cases hf : hfx (xR m 513) e with
  | false =>
    rw [if_pos (by decide)]
    rw [← hN hf] at r2
    exact goV_l hB hD hM h31 h32 hl i0 i1 V M' 0 m2 (by omega) i0 (by omega) r2 f2
  | true =>
    obtain ⟨p1, p2, p3, p4⟩ := hF hf
    rw [if_pos rfl, if_neg (by decide)]
    obtain ⟨m3, c1, c2, c3⟩ := skip_part (B := B) (m := m2) (R := R0) (p := s * 32768 + 64) (k := (D + M).toNat) (T := T0) hB p2 (by omega) (by rw [b4]; omega) r2 (by rw [f2.1 516 (by decide) (by decide) (by decide) (by decide)]; exact p1) (by rw [← p3]; exact p4)
    rw [c1, xB_ret]
    rw [← p3] at c2
    exact goV_l hB hD hM h31 h32 hl i0 i1 V M' 0 m3 (by omega) i0 (by omega) c2 (fGo_tr f2 (fGo_g c3))
end GTV
