/-! A COMMIT, all its ways: done, done and cut, cut -/
/-- a commit that was done -/
def cmA (B : Nat) (m m' : xw_M) (pl n tu lf wr : Int) : Prop := (∀ a, a ≠ 516 → a ≠ 508 → a ≠ 509 → a ≠ 524 → m' a = m a) ∧ (∀ k, k ≠ 8 → k ≠ 18 → k ≠ 19 → m' 508 k = m 508 k) ∧ xR m' 508 8 = tu + 1 ∧ xR m' 508 18 = fz lf (n + 1) ∧ xR m' 508 19 = wr + n + 1 ∧ tpz 524 509 512 m' ∧ Man (m' 516) ((tu + 1) % 2 * 32768) (tu + 1) (xR m 508 9) (xR m 508 10) (xR m 508 11) (xR m 508 14) (xR m 511) (xR m 512) (xR m 513) (xR m 514) (xR m 515) ∧ cmt (m 516) (m' 516) (m 517) pl n tu
section CMA
variable {B : Nat} {m : xw_M}
theorem cut_cl (pt : ptr m) {Q : Int → xw_M → Prop} {X : Nat → xw_M → Prop} (h : ∀ m1, fgC m m1 → Q (-3) (xw_u m1 0 14 2)) : xH (xB (yf163 B m) fun v2 m2 => some (.inl v2, m2)) Q X := by
  obtain ⟨m1, z, C⟩ := forget_cl (B := B) pt
  unfold yf163
  rw [z, xB_ret]
  show xH (xB (some (.inl (-3), xw_u m1 0 14 2)) _) Q X
  rw [xB_ret, xH_ret]
  exact h m1 C
theorem cm_all {pl n lf wr tu : Int} {S : xw_M → xP} {Q : Int → xw_M → Prop} {X : Nat → xw_M → Prop} (hB : B ≤ 512) (hB2 : 2 ≤ B) (n0 : 0 ≤ n) (p1 : (2 ≤ pl ∧ pl + n ≤ B) ∨ n = 0) (f0 : lf = -1 ∨ 1 ≤ lf) (hf : xR m 508 18 = lf) (hw : xR m 508 19 = wr) (w0 : 0 ≤ wr) (w1 : wr < 1000000000) (c1 : xR m 508 8 = tu) (tu0 : 0 ≤ tu) (tu1 : tu < 2000000000) (hv : 0 ≤ xR m 508 11 ∧ xR m 508 11 ≤ 16) (he : 0 ≤ xR m 508 14 ∧ xR m 508 14 ≤ 200) (tz : tpz 524 509 512 m) (pt : ptr m) (hA : ∀ mc, cmA B m mc pl n tu lf wr → (lf = -1 ∨ n + 2 ≤ lf) → xH (S mc) Q X) (hBc : lf = n + 1 → ∀ mc m1, cmA B m mc pl n tu lf wr → fgC mc m1 → Q (-3) (xw_u m1 0 14 2)) (hC : 1 ≤ lf → lf ≤ n → ∀ mc m1, cst m mc pl lf wr lf → fgC mc m1 → Q (-3) (xw_u m1 0 14 2)) : xH (xB (yf160 B pl n m) fun v1 m1 => if v1 = 0 then (xB (yf163 B m1) fun v2 m2 => some (.inl v2, m2)) else S m1) Q X := by
  by_cases hcut : 1 ≤ lf ∧ lf ≤ n
  · obtain ⟨mc, z, C⟩ := commit_cut (B := B) (m := m) (pl := pl) (n := n) hB (by omega) (by omega) hcut.1 hcut.2 hf hw w0 w1
    rw [z, xB_ret, if_pos rfl]
    refine cut_cl (ptr_fr pt (fun k _ => by rw [C.1 536 (by omega) (by omega)]) (fun k _ => by rw [C.1 0 (by omega) (by omega)])) (fun m1 g => hC hcut.1 hcut.2 mc m1 C g)
  · obtain ⟨t1, p, t2, t3, t4, t5⟩ := tz
    obtain ⟨mc, z, k1, k2, k3, k4, k5, k6, k7, k8, k9⟩ := commit_ok (B := B) (m := m) (pl := pl) (n := n) (f := lf) (wr := wr) (tu := tu) hB hB2 n0 p1 (by omega) hf hw w0 w1 c1 tu0 tu1 rfl rfl rfl rfl rfl rfl rfl rfl rfl hv.1 hv.2 he.1 he.2 t1 t2 t3 t4 t5
    have A : cmA B m mc pl n tu lf wr := ⟨k1, k2, k3, k4, k5, ⟨k6.1, _, k6.2.1, k6.2.2.2.1, by omega, k6.2.2.2.2⟩, k7, cmt_of k8 k9⟩
    rw [z, xB_ret]
    by_cases hl : lf = n + 1
    · rw [if_pos hl, if_pos rfl]
      exact cut_cl (ptr_fr pt (fun k _ => by rw [k1 536 (by omega) (by omega) (by omega) (by omega)]) (fun k _ => by rw [k1 0 (by omega) (by omega) (by omega) (by omega)])) (fun m1 g => hBc hl mc m1 A g)
    · rw [if_neg hl, if_neg (by decide)]
      exact hA mc A (by omega)
end CMA
