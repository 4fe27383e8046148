/-! THE CHOOSER: the class's pick, whole -/
section PKW
variable {lv : Int → Int} {D F : Int} {B : Nat} {m : xw_M} {df : Int → Int → Int}
/-- only the chooser's own rows -/
def fCh (m m' : xw_M) : Prop := (∀ a, a < 295 ∨ 301 < a → m' a = m a)
theorem prepare_ok (hc : chs m lv D) (hF : 0 ≤ F ∧ F ≤ 20000) (hdf : ∀ d k, 0 ≤ d → d < D → 0 ≤ k → k < lv d → xR m (15 + 26 * d + 23) k = df d k ∧ 1 ≤ df d k ∧ df d k ≤ 1000) : ∃ m', yf203 B F m = some (.inl 0, m') ∧ fCh m m' ∧ xR m' 295 7 = mpw lv D D.toNat ∧ (∀ d, 0 ≤ d → d < D → xR m' 299 d = mpw lv D (D - 1 - d).toNat) ∧ ∀ w, 0 ≤ w → w < mpw lv D D.toNat → xR m' 297 w = esf lv D df F w ∧ xR m' 298 w = F := by
  obtain ⟨hD, hlv, h31, h10, hV⟩ := id hc
  have hl := lvnn hc
  have V1 := mpw_pos hl D.toNat (by omega)
  unfold yf203
  rw [views_cl (lv := lv) ⟨by omega, hD.2⟩ hlv h31 h10, xB_ret, h31, w32_id (by omega) (by omega), show min 512 (mpw lv D D.toNat) = mpw lv D D.toNat by omega]
  have goal := xH_ex (Q := fun v m' => v = 0 ∧ fCh m m' ∧ xR m' 295 7 = mpw lv D D.toNat ∧ (∀ d, 0 ≤ d → d < D → xR m' 299 d = mpw lv D (D - 1 - d).toNat) ∧ ∀ w, 0 ≤ w → w < mpw lv D D.toNat → xR m' 297 w = esf lv D df F w ∧ xR m' 298 w = F) (o := xl3 (yl203_29 B) 1000000 F 1 (D - 1) (xw_u m 295 7 (mpw lv D D.toNat))) (by
    generalize hN : (1000000 : Nat) = N
    refine xl3_rule (F := yl203_29 B) (fun x1 x2 x3 m' => x1 = F ∧ (-1 ≤ x3 ∧ x3 ≤ D - 1) ∧ x2 = mpw lv D (D - 1 - x3).toNat ∧ fCh m m' ∧ xR m' 295 7 = mpw lv D D.toNat ∧ ∀ d, 0 ≤ d → x3 < d → d < D → xR m' 299 d = mpw lv D (D - 1 - d).toNat) (fun _ _ x3 _ => (x3 + 1).toNat) ?_ N F 1 (D - 1) _ ⟨rfl, by omega, by rw [show (D - 1 - (D - 1)).toNat = 0 by omega]; rfl, fun a ha => xu_c (by omega), xR_at (w32_id (by omega) (by omega)), fun d d0 d1 d2 => by omega⟩ (by omega)
    intro r x1 x2 x3 m' ⟨b1, b2, b3, b4, b5, b6⟩ ih
    subst b1
    unfold yl203_29
    by_cases h3 : x3 < 0
    · rw [if_pos h3]
      generalize hN2 : (1000000 : Nat) = N2
      refine xl2_rule (F := yl203_65 B) (fun y1 y3 m2 => y1 = x1 ∧ (0 ≤ y3 ∧ y3 ≤ mpw lv D D.toNat) ∧ fCh m m2 ∧ xR m2 295 7 = mpw lv D D.toNat ∧ (∀ d, 0 ≤ d → d < D → xR m2 299 d = mpw lv D (D - 1 - d).toNat) ∧ ∀ w, 0 ≤ w → w < y3 → xR m2 297 w = esf lv D df x1 w ∧ xR m2 298 w = x1) (fun _ y3 _ => (mpw lv D D.toNat - y3).toNat) ?_ N2 x1 0 m' ⟨rfl, ⟨Int.le_refl _, by omega⟩, b4, b5, fun d d0 d1 => b6 d d0 (by omega) d1, fun w w0 w1 => absurd w1 (Int.not_lt.mpr w0)⟩ (by omega)
      intro r2 y1 y3 m2 ⟨c1, c2, c3, c4, c5, c6⟩ ih2
      subst c1
      unfold yl203_65
      rw [c4]
      by_cases hy : y3 < mpw lv D D.toNat
      · have cu : ∀ a, a < 295 ∨ 301 < a → xw_u m2 298 y3 y1 a = m a := fun a ha => by rw [xu_c (by omega)]; exact c3 a ha
        have eb := esf_b (lv := lv) (D := D) (df := df) hF (by omega) (fun d k d0 d1 k0 k1 => (hdf d k d0 d1 k0 k1).2) hlv y3
        rw [if_pos hy, if_pos ⟨c2.1, by omega⟩, estimate_ok (B := B) (m := xw_u m2 298 y3 y1) (lv := lv) (D := D) (df := df) (chs_cg hc (fun a ha => cu a (by omega))) hF (fun d k d0 d1 k0 k1 => by rw [xR_cg (cu (15 + 26 * d + 23) (by omega))]; exact hdf d k d0 d1 k0 k1) c2.1 (by omega), xB_ret, w32_id (by omega) (by omega)]
        refine ih2 _ _ _ ⟨rfl, ⟨by omega, by omega⟩, fun a ha => by rw [xu_c (by omega)]; exact cu a ha, by rw [xR_ne (by omega), xR_ne (by omega)]; exact c4, fun d d0 d1 => by rw [xR_cg (xu_c (by omega)), xR_cg (xu_c (by omega))]; exact c5 d d0 d1, fun w w0 w1 => ?_⟩ (by omega)
        refine ⟨?_, ?_⟩
        · rw [xR_u]
          by_cases ew : w = y3
          · rw [if_pos ⟨rfl, ew⟩, ew]; exact w32_id (by omega) (by omega)
          · rw [if_neg (by omega), xR_cg (xu_c (show (297 : Int) ≠ 298 by omega))]; exact (c6 w w0 (by omega)).1
        · rw [xR_cg (xu_c (show (298 : Int) ≠ 297 by omega)), xR_u]
          by_cases ew : w = y3
          · rw [if_pos ⟨rfl, ew⟩]; exact w32_id (by omega) (by omega)
          · rw [if_neg (by omega)]; exact (c6 w w0 (by omega)).2
      · rw [if_neg hy, xH_ret]
        have ey : y3 = mpw lv D D.toNat := by omega
        rw [ey] at c6
        exact ⟨rfl, c3, c4, c5, c6⟩
    · have l4 := hlv x3 (by omega) (by omega)
      have e10 : xR m' (15 + 26 * x3) 10 = lv x3 := by rw [xR_cg (b4 (15 + 26 * x3) (by omega))]; exact h10 x3 (by omega) (by omega)
      have es : mpw lv D ((D - 1 - x3).toNat + 1) = mpw lv D (D - 1 - x3).toNat * (lv (D - 1 - (((D - 1 - x3).toNat : Nat) : Int)) + 1) := rfl
      rw [show D - 1 - (((D - 1 - x3).toNat : Nat) : Int) = x3 by omega] at es
      have le := mpw_le hl (D.toNat - ((D - 1 - x3).toNat + 1)) ((D - 1 - x3).toNat + 1) (by omega)
      rw [show (D - 1 - x3).toNat + 1 + (D.toNat - ((D - 1 - x3).toNat + 1)) = D.toNat by omega] at le
      have p1 := mpw_pos hl ((D - 1 - x3).toNat + 1) (by omega)
      have le0 := mpw_le hl 1 (D - 1 - x3).toNat (by omega)
      have p0 := mpw_pos hl (D - 1 - x3).toNat (by omega)
      rw [if_neg h3, if_pos ⟨by omega, by omega⟩, if_pos (dm_f B (show 0 ≤ x3 by omega) (by omega)).1, e10, b3, ← es, w32_id (by omega) (by omega), w32_id (by omega) (by omega)]
      refine ih _ _ _ _ ⟨rfl, ⟨by omega, by omega⟩, by rw [show (D - 1 - (x3 + -1)).toNat = (D - 1 - x3).toNat + 1 by omega], fun a ha => by rw [xu_c (by omega)]; exact b4 a ha, by rw [xR_ne (by omega)]; exact b5, fun d d0 d1 d2 => ?_⟩ (by omega)
      rw [xR_u]
      by_cases ed : d = x3
      · rw [if_pos ⟨rfl, ed⟩, ed]; exact w32_id (by omega) (by omega)
      · rw [if_neg (by omega)]; exact b6 d d0 (by omega) d2)
  obtain ⟨v, m', e, rfl, h⟩ := goal
  exact ⟨m', e, h⟩
theorem pick_c {k : Int} (hc : chs m lv D) (hF : 0 ≤ F ∧ F ≤ 20000) (hdf : ∀ d k, 0 ≤ d → d < D → 0 ≤ k → k < lv d → xR m (15 + 26 * d + 23) k = df d k ∧ 1 ≤ df d k ∧ df d k ≤ 1000) (hk : 0 ≤ k ∧ k ≤ 16) : ∃ n m', yf202 B k F m = some (.inl n, m') ∧ fCh m m' ∧ pkn lv D (esf lv D df F) F (mpw lv D D.toNat).toNat k n ∧ ∀ i, 0 ≤ i → i < n → xR m' 296 i = pkf lv D (esf lv D df F) F (mpw lv D D.toNat).toNat i.toNat := by
  obtain ⟨hD, hlv, h31, h10, hV⟩ := id hc
  have hl := lvnn hc
  have V1 := mpw_pos hl D.toNat (by omega)
  have eb := fun v => esf_b (lv := lv) (D := D) (df := df) hF (by omega) (fun d k d0 d1 k0 k1 => (hdf d k d0 d1 k0 k1).2) hlv v
  generalize hes : esf lv D df F = est at *
  generalize hVn : (mpw lv D D.toNat).toNat = V at *
  have cb := cSf_b (lv := lv) (D := D) (est := est) (V := V) hF.1 (fun v _ _ => eb v)
  obtain ⟨m1, e1, f1, s7, sw, se⟩ := prepare_ok (B := B) hc hF hdf
  rw [hes] at se
  unfold yf202
  rw [e1, xB_ret]
  -- the state behind i picks
  have goal := xH_ex (Q := fun n m' => fCh m m' ∧ pkn lv D est F V k n ∧ ∀ i, 0 ≤ i → i < n → xR m' 296 i = pkf lv D est F V i.toNat) (o := xl2 (yl202_7 B) 1000000 k 0 m1) (by
    generalize hN : (1000000 : Nat) = N
    refine xl2_rule (F := yl202_7 B) (fun x1 x3 m' => x1 = k ∧ (0 ≤ x3 ∧ x3 ≤ k) ∧ fCh m m' ∧ xR m' 295 7 = mpw lv D D.toNat ∧ (∀ d, 0 ≤ d → d < D → xR m' 299 d = mpw lv D (D - 1 - d).toNat) ∧ (∀ w, 0 ≤ w → w < mpw lv D D.toNat → xR m' 297 w = est w ∧ xR m' 298 w = cSf lv D est F V x3.toNat w) ∧ ∀ i, 0 ≤ i → i < x3 → pkf lv D est F V i.toNat ≠ -1 ∧ xR m' 296 i = pkf lv D est F V i.toNat) (fun _ x3 _ => (k - x3).toNat) ?_ N k 0 m1 ⟨rfl, ⟨Int.le_refl _, hk.1⟩, f1, s7, sw, se, fun i i0 i1 => absurd i1 (Int.not_lt.mpr i0)⟩ (by omega)
    intro r x1 x3 m' ⟨b1, b2, b3, b4, b5, b6, b7⟩ ih
    subst b1
    unfold yl202_7
    by_cases h3 : x3 < x1
    · rw [if_pos h3]
      have ben : ∀ m2 : xw_M, fCh m m2 → (∀ w, 0 ≤ w → w < mpw lv D D.toNat → xR m2 297 w = est w ∧ xR m2 298 w = cSf lv D est F V x3.toNat w) → (∀ d, 0 ≤ d → d < D → xR m2 299 d = mpw lv D (D - 1 - d).toNat) → ∀ v, 0 ≤ v → v < mpw lv D D.toNat → ∃ m3, yf205 B v m2 = some (.inl (bnf lv D est (cSf lv D est F V x3.toNat) v V), m3) ∧ ∀ a, a ≠ 300 → a ≠ 301 → m3 a = m2 a := fun m2 c1 c2 c3 v v0 v1 => by
        obtain ⟨m3, e3, f3⟩ := benefit_ok (B := B) (m := m2) (v := v) (F := F) (chs_cg hc (fun a ha => c1 a (by omega))) c3 hF v0 v1 (by rw [(c2 v v0 v1).1]; exact eb v) (fun w w0 w1 => by rw [(c2 w w0 w1).2]; exact cb _ _)
        rw [hVn, bnf_cg (est' := est) (cost' := cSf lv D est F V x3.toNat) (c2 v v0 v1).1 V (fun w w0 w1 => (c2 w w0 (by omega)).2)] at e3
        exact ⟨m3, e3, f3⟩
      generalize hN2 : (1000000 : Nat) = N2
      refine xl5_rule (F := yl202_21 B r) (fun y1 y3 y4 y5 y7 m2 => y1 = x1 ∧ y3 = x3 ∧ (0 ≤ y7 ∧ y7 ≤ mpw lv D D.toNat) ∧ (y4, y5) = bsf (fun v => bnf lv D est (cSf lv D est F V x3.toNat) v V) y7.toNat ∧ ∀ a, a ≠ 300 → a ≠ 301 → m2 a = m' a) (fun _ _ _ _ y7 _ => (mpw lv D D.toNat - y7).toNat) ?_ N2 x1 x3 (-1) 0 0 m' ⟨rfl, rfl, ⟨Int.le_refl _, by omega⟩, rfl, fun _ _ _ => rfl⟩ (by omega)
      intro r2 y1 y3 y4 y5 y7 m2 ⟨c1, c2, c3, c4, c5⟩ ih2
      subst c1 c2
      have cF : fCh m m2 := fun a ha => by rw [c5 a (by omega) (by omega)]; exact b3 a ha
      have c297 : m2 297 = m' 297 := c5 297 (by omega) (by omega)
      have c298 : m2 298 = m' 298 := c5 298 (by omega) (by omega)
      have c299 : m2 299 = m' 299 := c5 299 (by omega) (by omega)
      have cw : ∀ w, 0 ≤ w → w < mpw lv D D.toNat → xR m2 297 w = est w ∧ xR m2 298 w = cSf lv D est F V y3.toNat w := by rw [xR_cg c297, xR_cg c298]; exact b6
      have c9 : ∀ d, 0 ≤ d → d < D → xR m2 299 d = mpw lv D (D - 1 - d).toNat := by rw [xR_cg c299]; exact b5
      unfold yl202_21
      rw [xR_cg (c5 295 (by omega) (by omega)), b4]
      by_cases h7 : y7 < mpw lv D D.toNat
      · obtain ⟨m3, e3, f3⟩ := ben m2 cF cw c9 y7 c3.1 h7
        rw [if_pos h7, e3, xB_ret, w32_id (by omega) (by omega)]
        have bs : bsf (fun v => bnf lv D est (cSf lv D est F V y3.toNat) v V) (y7.toNat + 1) = if y5 < bnf lv D est (cSf lv D est F V y3.toNat) y7 V then (y7, bnf lv D est (cSf lv D est F V y3.toNat) y7 V) else (y4, y5) := by
          show (if (bsf (fun v => bnf lv D est (cSf lv D est F V y3.toNat) v V) y7.toNat).2 < bnf lv D est (cSf lv D est F V y3.toNat) ((y7.toNat : Nat) : Int) V then (((y7.toNat : Nat) : Int), bnf lv D est (cSf lv D est F V y3.toNat) ((y7.toNat : Nat) : Int) V) else bsf (fun v => bnf lv D est (cSf lv D est F V y3.toNat) v V) y7.toNat) = _
          rw [Int.toNat_of_nonneg c3.1, ← c4]
        have fr : ∀ a, a ≠ 300 → a ≠ 301 → m3 a = m' a := fun a a1 a2 => by rw [f3 a a1 a2]; exact c5 a a1 a2
        by_cases hb : y5 < bnf lv D est (cSf lv D est F V y3.toNat) y7 V
        · rw [if_pos hb]
          refine ih2 _ _ _ _ _ _ ⟨rfl, rfl, ⟨by omega, by omega⟩, ?_, fr⟩ (by omega)
          rw [show (y7 + 1).toNat = y7.toNat + 1 by omega, bs, if_pos hb]
        · rw [if_neg hb]
          refine ih2 _ _ _ _ _ _ ⟨rfl, rfl, ⟨by omega, by omega⟩, ?_, fr⟩ (by omega)
          rw [show (y7 + 1).toNat = y7.toNat + 1 by omega, bs, if_neg hb]
      · have ey : y7 = mpw lv D D.toNat := by omega
        rw [ey, hVn] at c4
        have pk : y4 = pkf lv D est F V y3.toNat := by unfold pkf; rw [← c4]
        rw [if_neg h7]
        by_cases h4 : y4 = -1
        · rw [if_pos h4, xH_ret]
          refine ⟨cF, ⟨b2, fun i i0 i1 => (b7 i i0 i1).1, Or.inr (by rw [← pk]; exact h4)⟩, fun i i0 i1 => by rw [xR_cg (c5 296 (by omega) (by omega))]; exact (b7 i i0 i1).2⟩
        · have bb := (bsf_b (fun v => bnf lv D est (cSf lv D est F V y3.toNat) v V) V).1
          rw [← c4] at bb
          have y4b : 0 ≤ y4 ∧ y4 < mpw lv D D.toNat := by
            rcases bb with q | q
            · exact absurd q h4
            · exact ⟨q.1, by have := q.2; omega⟩
          rw [if_neg h4, if_pos ⟨b2.1, by omega⟩]
          have u : ∀ a, a ≠ 296 → xw_u m2 296 y3 y4 a = m2 a := fun a ha => xu_c ha
          obtain ⟨m3, e3, f3, g3⟩ := cheapen_ok (B := B) (m := xw_u m2 296 y3 y4) (v := y4) (lv := lv) (D := D) (chs_cg hc (fun a ha => by rw [u a (by omega)]; exact cF a (by omega))) (by rw [xR_cg (u 299 (by omega))]; exact c9) y4b.1 y4b.2
          rw [e3, xB_ret, w32_id (by omega) (by omega)]
          have cs : ∀ w, cSf lv D est F V (y3.toNat + 1) w = cuf lv D est (cSf lv D est F V y3.toNat) y4 w := fun w => by
            show (if (bsf (fun v => bnf lv D est (cSf lv D est F V y3.toNat) v V) V).1 = -1 then _ else cuf lv D est (cSf lv D est F V y3.toNat) (bsf (fun v => bnf lv D est (cSf lv D est F V y3.toNat) v V) V).1 w) = _
            rw [← c4]
            exact if_neg h4
          refine ih _ _ _ ⟨rfl, ⟨by omega, by omega⟩, fun a ha => by rw [f3 a (by omega) (by omega) (by omega), u a (by omega)]; exact cF a ha, by rw [xR_cg (f3 295 (by omega) (by omega) (by omega)), xR_cg (u 295 (by omega)), xR_cg (c5 295 (by omega) (by omega))]; exact b4, fun d d0 d1 => by rw [xR_cg (f3 299 (by omega) (by omega) (by omega)), xR_cg (u 299 (by omega))]; exact c9 d d0 d1, fun w w0 w1 => ?_, fun i i0 i1 => ?_⟩ (by omega)
          · rw [xR_cg (f3 297 (by omega) (by omega) (by omega)), xR_cg (u 297 (by omega)), g3 w w0 w1, show (y3 + 1).toNat = y3.toNat + 1 by omega, cs]
            refine ⟨(cw w w0 w1).1, ?_⟩
            rw [xR_cg (u 297 (by omega)), xR_cg (u 298 (by omega))]
            unfold cuf
            rw [(cw y4 y4b.1 y4b.2).1, (cw w w0 w1).2]
          · rw [xR_cg (f3 296 (by omega) (by omega) (by omega)), xR_u]
            by_cases ei : i = y3
            · rw [if_pos ⟨rfl, ei⟩, ei, ← pk]
              exact ⟨h4, w32_id (by omega) (by omega)⟩
            · rw [if_neg (by omega), xR_cg (c5 296 (by omega) (by omega))]
              exact b7 i i0 (by omega)
    · rw [if_neg h3, xH_ret]
      have ex : x3 = x1 := by omega
      subst ex
      exact ⟨b3, ⟨b2, fun i i0 i1 => (b7 i i0 i1).1, Or.inl rfl⟩, fun i i0 i1 => (b7 i i0 i1).2⟩)
  obtain ⟨n, m', e, h⟩ := goal
  exact ⟨n, m', e, h⟩
end PKW
