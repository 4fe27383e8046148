/-! THE ANSWER, by the class: what a row of a table is to the source (facts' parts and views' parts alike) -/
section SRG
variable {B : Nat} {m mm : xw_M} {x k it D nc p cf : Int} {mb mo : Int → Int}
/-- whether a comparison holds at a row's members; a group's rank there -/
def vmb (m : xw_M) (mb : Int → Int) (i : Int) : Bool := decide (xR m (231 + i) (mb (xR m 229 i / 4)) = 1)
def rmb (m : xw_M) (mb : Int → Int) (g : Int) : Int := xR m (15 + 26 * (xR m 227 g / 4) + 14 + xR m 227 g % 4) (mb (xR m 227 g / 4))
theorem SB_cg2 {m' : xw_M} {n : Int} (h1 : m' 223 = m 223) (h2 : m' 291 = m 291) (S : SB m n p) : SB m' n p := by
  unfold SB SC at S ⊢
  rw [xR_cg h1, xR_cg h2]
  exact S
theorem rdy_g (hm : ∀ a, a < 420 → (a < 304 ∨ 336 < a) → mm a = m a) (x0 : 0 ≤ x) (x1 : x < 1024) (D8 : D ≤ 8) (S : SB m nc p) (nc1 : nc ≤ 60) (p0 : 0 ≤ p) (hcp : ∀ i, 0 ≤ i → i < nc → ∃ d l, xR m 229 i = 4 * d + l ∧ (0 ≤ d ∧ d < D) ∧ (0 ≤ l ∧ l < 4) ∧ xR m 292 d < 4 ∧ (xR m (231 + i) (mb d) = 0 ∨ xR m (231 + i) (mb d) = 1)) (hgr : ∀ g, 0 ≤ g → g < k → ∃ d l, xR m 227 g = 4 * d + l ∧ (0 ≤ d ∧ d < D) ∧ (0 ≤ l ∧ l < 4) ∧ xR m 292 d < 4) (HM : ∀ d, 0 ≤ d → d < D → xR m 292 d < 4 → (∀ m' : xw_M, (∀ a, a < 420 → m' a = mm a) → yf124 B d x m' = some (.inl (mb d), m')) ∧ 0 ≤ mb d ∧ mb d < 1000) (wc : w64 cf = cf) (HF : ∀ m' : xw_M, (∀ a, 302 ≤ a → a ≤ 372 → m' a = mm a) → yf127 B x m' = some (.inl cf, m')) (H1 : ∀ i, 0 ≤ i → i < it → xR m 224 i = 211 → mo i = cf) (HC : ∀ i, 0 ≤ i → i < it → (xR m 224 i = 210 ∨ xR m 224 i = 212 ∨ xR m 224 i = 213) → ∃ cc, (∀ m' : xw_M, (∀ a, 302 ≤ a → a ≤ 372 → m' a = mm a) → yf112 B (xR m 224 i) (xR m 225 i) m' = some (.inl cc, m')) ∧ (0 ≤ cc ∧ cc < 33) ∧ xJ mm (304 + cc) x = mo i) : RDY B mm x k it (top (SC m (vmb m mb))) (rmb m mb) cf mo := by
  have x224 := xR_cg (hm 224 (by omega) (by omega))
  have x225 := xR_cg (hm 225 (by omega) (by omega))
  have x227 := xR_cg (hm 227 (by omega) (by omega))
  refine ⟨⟨⟨x0, x1⟩, wc, HF, by rw [x224]; exact H1, by rw [x224, x225]; exact HC⟩, fun g g0 g1 => ?_, fun m' h => ?_⟩
  · obtain ⟨d, l, c1, c2, c3, c4⟩ := hgr g g0 g1
    obtain ⟨e1, e2⟩ := HM d c2.1 c2.2 c4
    refine ⟨d, l, mb d, by rw [x227]; exact c1, by omega, c3, e1, e2, ?_⟩
    unfold rmb
    rw [c1, show (4 * d + l) / 4 = d from by omega, show (4 * d + l) % 4 = l from by omega, xR_cg (hm _ (by omega) (by omega))]
  · have f : ∀ a, a < 304 → m' a = m a := fun a ha => by rw [h a (by omega), hm a (by omega) (by omega)]
    have x229 := xR_cg (f 229 (by omega))
    have e := holds_c (B := B) (m := m') (row := x) (n := nc) (p := p) (v := vmb m mb) (SB_cg2 (f 223 (by omega)) (f 291 (by omega)) S) nc1 p0 (fun i i0 i1 => by
      obtain ⟨d, l, c1, c2, c3, c4, c5⟩ := hcp i i0 i1
      obtain ⟨e1, e2⟩ := HM d c2.1 c2.2 c4
      rw [x229, c1, show (4 * d + l) / 4 = d from by omega]
      refine ⟨by omega, mb d, e1 m' h, e2, ?_⟩
      rw [xR_cg (f _ (by omega))]
      unfold vmb
      rw [c1, show (4 * d + l) / 4 = d from by omega]
      rcases c5 with c5 | c5
      · rw [c5]; rfl
      · rw [c5]; rfl)
    rw [e]
    have sc : SC m' (vmb m mb) = SC m (vmb m mb) := by unfold SC; rw [xR_cg (f 223 (by omega)), xR_cg (f 291 (by omega))]
    rw [sc]
end SRG
