/-! THE REFERENCE'S change, whole -/
section CHANGE2
variable {B : Nat} {m : xw_M}
/-- what a change does when there is room: n blocks at fi -/
def chng (m m' : xw_M) (P : Int → Bool) (E n kd fi lf wr v : Int) : Prop := ((lf < 0 ∨ n + 1 ≤ lf) ∧ v = (if lf = n + 1 then -3 else n + 1) ∧ xR m' 536 57 = 1 ∧ xR m' 536 50 = wr + n + 1 ∧ xR m' 536 51 = (if lf < 0 then -1 else lf - (n + 1)) ∧ xR m' 536 3 = (if lf = n + 1 then 1 else 0) ∧ led (xR m 586) (xR m 587) (xR m 588) E P n kd fi (xR m' 586) (xR m' 587) (xR m' 588) (xR m' 536 52)) ∨ ((0 ≤ lf ∧ lf ≤ n) ∧ v = -3 ∧ xR m' 536 57 = 0 ∧ xR m' 536 50 = wr + lf ∧ xR m' 536 51 = 0 ∧ xR m' 536 3 = 1 ∧ xR m' 536 52 = E ∧ m' 586 = m 586 ∧ m' 587 = m 587 ∧ m' 588 = m 588)
def chf (m m' : xw_M) : Prop := (∀ a, a ≠ 536 → a ≠ 586 → a ≠ 587 → a ≠ 588 → a ≠ 589 → m' a = m a) ∧ ∀ k, k ≠ 3 → k ≠ 50 → k ≠ 51 → k ≠ 52 → k ≠ 57 → m' 536 k = m 536 k
theorem u536 {ma : xw_M} {j w k : Int} (h : k ≠ j) : (xw_u ma 536 j w) 536 k = ma 536 k := if_neg (fun h' => h h'.2)
theorem R536 {ma : xw_M} {j w k : Int} (h : k ≠ j) : xR (xw_u ma 536 j w) 536 k = xR ma 536 k := by
  unfold xR
  rw [u536 h]
theorem room93_ok {m0 : xw_M} {E kd f v n fi lf wr : Int} (hE : xR m 536 52 = E) (E0 : 0 ≤ E) (E1 : E ≤ 200) (hlf : xR m 536 51 = lf) (hlf1 : lf ≤ 1000) (hlf0 : -1 ≤ lf) (hwr : xR m 536 50 = wr) (wr0 : 0 ≤ wr) (wr1 : wr < 1000000000) (n0 : 0 ≤ n) (n1 : n ≤ 1000000) (hst : cnt (fun e => !gz f v (xR m 586 e)) E.toNat < 200 ∨ n = 0) (hkd : w32 kd = kd) (hfi : 2 ≤ fi) (hfi2 : fi ≤ 1000) (h57 : xR m 536 57 = 0) (C : chf m0 m) (c6 : m 586 = m0 586) (c7 : m 587 = m0 587) (c8 : m 588 = m0 588) : ∃ m' w, yk305_93 B kd f v n fi m = some (.inl w, m') ∧ chf m0 m' ∧ chng m0 m' (fun e => !gz f v (xR m0 586 e)) E n kd fi lf wr w := by
  have main : ∀ (mA : xw_M) (x8 : Int), (x8 = 0 ∨ x8 = 1) → (∀ a, a ≠ 536 → mA a = m a) → (∀ k, k ≠ 50 → k ≠ 51 → k ≠ 57 → mA 536 k = m 536 k) → ∃ m', xl8 (yl305_208 B) 1000000 kd f v n fi x8 0 0 mA = some (.inl (if x8 = 1 then -3 else n + 1), m') ∧ chf m0 m' ∧ xR m' 536 57 = xR mA 536 57 ∧ xR m' 536 50 = xR mA 536 50 ∧ xR m' 536 51 = xR mA 536 51 ∧ xR m' 536 3 = x8 ∧ led (xR m0 586) (xR m0 587) (xR m0 588) E (fun e => !gz f v (xR m0 586 e)) n kd fi (xR m' 586) (xR m' 587) (xR m' 588) (xR m' 536 52) := by
    intro mA x8 h8 FA FB
    have a52 : xR mA 536 52 = E := by
      unfold xR
      rw [FB 52 (by decide) (by decide) (by decide)]
      exact hE
    have q6 := xR_cg c6
    have q7 := xR_cg c7
    have q8 := xR_cg c8
    obtain ⟨m', e, G, H, t3, D⟩ := ledger_ok (B := B) (m := mA) (kd := kd) (f := f) (v := v) (n := n) (fi := fi) (x8 := x8) (K := xR m0 586) (S := xR m0 587) (L := xR m0 588) a52 E0 E1 (by rw [xR_cg (FA 586 (by decide)), q6]) (by rw [xR_cg (FA 587 (by decide)), q7]) (by rw [xR_cg (FA 588 (by decide)), q8]) n0 n1 h8 (by rw [← q6]; exact hst) hkd (w32_id (by omega) (by omega))
    refine ⟨m', e, ⟨fun a h1 h2 h3 h4 h5 => ((G a h1 h2 h3 h4).trans (FA a h1)).trans (C.1 a h1 h2 h3 h4 h5), fun k k1 k2 k3 k4 k5 => ((H k k1 k4).trans (FB k k2 k3 k5)).trans (C.2 k k1 k2 k3 k4 k5)⟩, ?_, ?_, ?_, t3, D⟩
    · unfold xR
      rw [H 57 (by decide) (by decide)]
    · unfold xR
      rw [H 50 (by decide) (by decide)]
    · unfold xR
      rw [H 51 (by decide) (by decide)]
  have three : ∀ (x y z : Int), (∀ a, a ≠ 536 → (xw_u (xw_u (xw_u m 536 50 x) 536 51 y) 536 57 z) a = m a) ∧ (∀ k, k ≠ 50 → k ≠ 51 → k ≠ 57 → (xw_u (xw_u (xw_u m 536 50 x) 536 51 y) 536 57 z) 536 k = m 536 k) ∧ xR (xw_u (xw_u (xw_u m 536 50 x) 536 51 y) 536 57 z) 536 57 = w32 z ∧ xR (xw_u (xw_u (xw_u m 536 50 x) 536 51 y) 536 57 z) 536 51 = w32 y ∧ xR (xw_u (xw_u (xw_u m 536 50 x) 536 51 y) 536 57 z) 536 50 = w32 x := by
    intro x y z
    refine ⟨fun a ha => by rw [xu_c ha, xu_c ha, xu_c ha], fun k k1 k2 k3 => by rw [u536 k3, u536 k2, u536 k1], ?_, ?_, ?_⟩
    · rw [xR_u, if_pos ⟨rfl, rfl⟩]
    · rw [R536 (by decide), xR_u, if_pos ⟨rfl, rfl⟩]
    · rw [R536 (by decide), R536 (by decide), xR_u, if_pos ⟨rfl, rfl⟩]
  unfold yk305_93
  rw [if_neg (by omega), hlf, w32_id (x := n + 1) (by omega) (by omega), hwr]
  unfold yk305_123
  rw [hlf, hwr, w32_id (x := n + 1) (by omega) (by omega), if_pos (rfl : n + 1 = n + 1), if_pos (rfl : n + 1 = n + 1)]
  by_cases hl : lf < 0
  · obtain ⟨s1, s2, s3, s4, s5⟩ := three (wr + (n + 1)) (-1) 1
    obtain ⟨m', e, C', t57, t50, t51, t3, D⟩ := main _ 0 (Or.inl rfl) s1 s2
    rw [if_pos hl, if_pos hl, e, if_neg (by decide)]
    refine ⟨m', n + 1, rfl, C', Or.inl ⟨Or.inl hl, by rw [if_neg (by omega)], t57.trans s3, (t50.trans s5).trans (by rw [w32_id (by omega) (by omega)]; omega), by rw [if_pos hl]; exact t51.trans s4, by rw [if_neg (by omega)]; exact t3, D⟩⟩
  · rw [if_neg hl]
    by_cases h2 : n + 1 < lf
    · obtain ⟨s1, s2, s3, s4, s5⟩ := three (wr + (n + 1)) (lf - (n + 1)) 1
      obtain ⟨m', e, C', t57, t50, t51, t3, D⟩ := main _ 0 (Or.inl rfl) s1 s2
      rw [if_pos h2, if_neg hl, e, if_neg (by decide)]
      refine ⟨m', n + 1, rfl, C', Or.inl ⟨Or.inr (by omega), by rw [if_neg (by omega)], t57.trans s3, (t50.trans s5).trans (by rw [w32_id (by omega) (by omega)]; omega), by rw [if_neg hl]; exact (t51.trans s4).trans (w32_id (by omega) (by omega)), by rw [if_neg (by omega)]; exact t3, D⟩⟩
    · rw [if_neg h2]
      by_cases h3 : lf = n + 1
      · obtain ⟨s1, s2, s3, s4, s5⟩ := three (wr + lf) (lf - lf) 1
        obtain ⟨m', e, C', t57, t50, t51, t3, D⟩ := main _ 1 (Or.inr rfl) s1 s2
        rw [if_pos h3, e, if_pos rfl]
        refine ⟨m', -3, rfl, C', Or.inl ⟨Or.inr (by omega), by rw [if_pos h3], t57.trans s3, (t50.trans s5).trans (by rw [w32_id (by omega) (by omega)]; omega), by rw [if_neg hl]; exact (t51.trans s4).trans (by rw [w32_id (by omega) (by omega)]; omega), by rw [if_pos h3]; exact t3, D⟩⟩
      · obtain ⟨s1, s2, s3, s4, s5⟩ := three (wr + lf) (lf - lf) 0
        rw [if_neg h3, end_ok n0 n1 (Or.inr rfl), if_pos rfl]
        generalize xw_u (xw_u (xw_u m 536 50 (wr + lf)) 536 51 (lf - lf)) 536 57 0 = mA at *
        refine ⟨_, _, rfl, ⟨fun a h1 h2 h3 h4 h5 => by rw [xu_c h1, s1 a h1]; exact C.1 a h1 h2 h3 h4 h5, fun k k1 k2 k3 k4 k5 => by rw [u536 k1, s2 k k2 k3 k5]; exact C.2 k k1 k2 k3 k4 k5⟩, Or.inr ⟨⟨by omega, by omega⟩, rfl, by rw [R536 (by decide)]; exact s3, ?_, ?_, ?_, ?_, ?_, ?_, ?_⟩⟩
        · rw [R536 (by decide), s5, w32_id (by omega) (by omega)]
        · rw [R536 (by decide), s4, w32_id (by omega) (by omega)]
          omega
        · rw [xR_u, if_pos ⟨rfl, rfl⟩]
          rfl
        · rw [R536 (by decide)]
          unfold xR
          rw [s2 52 (by decide) (by decide) (by decide)]
          exact hE
        · rw [xu_c (by decide), s1 586 (by decide)]; exact c6
        · rw [xu_c (by decide), s1 587 (by decide)]; exact c7
        · rw [xu_c (by decide), s1 588 (by decide)]; exact c8
/-- no room -/
def full (S L : Int → Int) (E b : Int) (P : Int → Bool) (n : Int) : Prop := 0 < n ∧ (cnt P E.toNat = 200 ∨ isRoom S L E b n (-1))
theorem change_ok {E kd f v wg b lf wr : Int} (hb0 : xR m 536 49 = b) (hb : b ≤ 512) (hE : xR m 536 52 = E) (hx : exts (xR m 587) (xR m 588) E b) (hlf : xR m 536 51 = lf) (hlf1 : lf ≤ 1000) (hlf0 : -1 ≤ lf) (hwr : xR m 536 50 = wr) (wr0 : 0 ≤ wr) (wr1 : wr < 1000000000) (w0 : 0 ≤ wg) (w1 : wg ≤ 1000000000) (hkd : w32 kd = kd) : ∃ m' w, yf305 B wg kd f v m = some (.inl w, m') ∧ chf m m' ∧ ((full (xR m 587) (xR m 588) E b (fun e => !gz f v (xR m 586 e)) ((wg + 4095) / 4096) ∧ w = -2 ∧ xR m' 536 57 = 0 ∧ (∀ k, k ≠ 57 → m' 536 k = m 536 k) ∧ m' 586 = m 586 ∧ m' 587 = m 587 ∧ m' 588 = m 588) ∨ (∃ fi, (((wg + 4095) / 4096 = 0 ∧ fi = 2) ∨ (cnt (fun e => !gz f v (xR m 586 e)) E.toNat < 200 ∧ isRoom (xR m 587) (xR m 588) E b ((wg + 4095) / 4096) fi ∧ 2 ≤ fi)) ∧ chng m m' (fun e => !gz f v (xR m 586 e)) E ((wg + 4095) / 4096) kd fi lf wr w)) := by
  obtain ⟨n, hn⟩ : ∃ n, n = (wg + 4095) / 4096 := ⟨_, rfl⟩
  have n0 : 0 ≤ n := by omega
  have n1 : n ≤ 1000000 := by omega
  have E0 := hx.1.1
  have E1 := hx.1.2
  unfold yf305
  rw [w32_id (x := wg + 4095) (by omega) (by omega), if_pos (by omega), ← hn]
  obtain ⟨m1, hm1⟩ : ∃ m1, m1 = xw_u m 536 57 0 := ⟨_, rfl⟩
  rw [← hm1]
  have A1 : ∀ a, a ≠ 536 → m1 a = m a := fun a ha => by rw [hm1]; exact xu_c ha
  have A2 : ∀ k, k ≠ 57 → m1 536 k = m 536 k := fun k hk => by rw [hm1]; exact u536 hk
  have A3 : ∀ k, k ≠ 57 → xR m1 536 k = xR m 536 k := fun k hk => by rw [hm1]; exact R536 hk
  have A57 : xR m1 536 57 = 0 := by rw [hm1, xR_u, if_pos ⟨rfl, rfl⟩]; rfl
  have q52 : xR m1 536 52 = E := (A3 52 (by decide)).trans hE
  have q6 : xR m1 586 = xR m 586 := xR_cg (A1 586 (by decide))
  generalize hP : (fun e => !gz f v (xR m 586 e)) = P
  have hPe : ∀ e, P e = !gz f v (xR m 586 e) := fun e => by rw [← hP]
  generalize hN : (1000000 : Nat) = N
  have goal := xH_ex (Q := fun w m' => chf m m' ∧ ((full (xR m 587) (xR m 588) E b P n ∧ w = -2 ∧ xR m' 536 57 = 0 ∧ (∀ k, k ≠ 57 → m' 536 k = m 536 k) ∧ m' 586 = m 586 ∧ m' 587 = m 587 ∧ m' 588 = m 588) ∨ (∃ fi, ((n = 0 ∧ fi = 2) ∨ (cnt P E.toNat < 200 ∧ isRoom (xR m 587) (xR m 588) E b n fi ∧ 2 ≤ fi)) ∧ chng m m' P E n kd fi lf wr w))) (xl6_rule (F := yl305_22 B) (fun y2 y3 y4 y5 x6 x7 m' => (y2 = kd ∧ y3 = f ∧ y4 = v ∧ y5 = n) ∧ m' = m1 ∧ 0 ≤ x7 ∧ x7 ≤ E ∧ x6 = cnt P x7.toNat) (fun _ _ _ _ _ x7 _ => (E - x7).toNat) ?_ N kd f v n 0 0 m1 ⟨⟨rfl, rfl, rfl, rfl⟩, rfl, by omega, E0, rfl⟩ (by omega))
  · obtain ⟨w, m', e, h⟩ := goal
    exact ⟨m', w, e, h⟩
  · intro r y2 y3 y4 y5 x6 x7 m2 ⟨⟨b1, b2, b3, b4⟩, b5, a0, a1, a2⟩ ih
    subst b1 b2 b3 b4 b5
    have hc := cnt_b P x7.toNat
    unfold yl305_22
    rw [q52]
    by_cases h : x7 < E
    · have hs : cnt P (x7 + 1).toNat = cnt P x7.toNat + (if P x7 = true then 1 else 0) := by
        rw [show (x7 + 1).toNat = x7.toNat + 1 from by omega]
        show _ + (if P (x7.toNat : Int) = true then 1 else 0) = _
        rw [Int.toNat_of_nonneg a0]
      rw [if_pos h, if_pos ⟨a0, by omega⟩, goes_ok, xB_ret, w32_id (x := x7 + 1) (by omega) (by omega), q6]
      have hp := hPe x7
      cases h3 : gz y3 y4 (xR m 586 x7)
      · rw [h3] at hp
        rw [if_neg (show ¬ false = true by decide), if_pos rfl, w32_id (by omega) (by omega)]
        refine ih _ _ _ _ _ _ _ ⟨⟨rfl, rfl, rfl, rfl⟩, rfl, by omega, by omega, ?_⟩ (by omega)
        rw [hs, hp, if_pos (show (!false) = true by decide), a2]
      · rw [h3] at hp
        rw [if_pos rfl, if_neg (by decide), w32_id (by omega) (by omega)]
        refine ih _ _ _ _ _ _ _ ⟨⟨rfl, rfl, rfl, rfl⟩, rfl, by omega, by omega, ?_⟩ (by omega)
        rw [hs, hp, if_neg (by decide), a2]
    · have ee : x7 = E := by omega
      subst ee
      have hle : cnt P x7.toNat ≤ 200 := by omega
      rw [if_neg h]
      have Cz : chf m m2 := ⟨fun a h1 _ _ _ _ => A1 a h1, fun k _ _ _ _ h5 => A2 k h5⟩
      by_cases hz : y5 = 0
      · obtain ⟨m', w, e, C', D⟩ := room93_ok (B := B) (m := m2) (m0 := m) (kd := y2) (f := y3) (v := y4) (n := y5) (fi := 2) q52 E0 E1 ((A3 51 (by decide)).trans hlf) hlf1 hlf0 ((A3 50 (by decide)).trans hwr) wr0 wr1 n0 n1 (Or.inr hz) hkd (by decide) (by decide) A57 Cz (A1 586 (by decide)) (A1 587 (by decide)) (A1 588 (by decide))
        rw [if_pos hz, if_neg (by omega), e, xH_ret]
        rw [hP] at D
        exact ⟨C', Or.inr ⟨2, Or.inl ⟨hz, rfl⟩, D⟩⟩
      · have e7 : xR m2 587 = xR m 587 := xR_cg (A1 587 (by decide))
        have e8 : xR m2 588 = xR m 588 := xR_cg (A1 588 (by decide))
        obtain ⟨m3, vv, e3, F3, I3⟩ := placeFor_ok (B := B) (m := m2) (E := x7) (b := b) hb ((A3 49 (by decide)).trans hb0) q52 (by rw [e7, e8]; exact hx) (n := y5) (by omega) n1
        rw [e7, e8] at I3
        rw [if_neg hz, e3, xB_ret, if_pos (by omega)]
        have C3 : chf m m3 := ⟨fun a h1 h2 h3 h4 h5 => (F3 a h5).trans (A1 a h1), fun k _ _ _ _ h5 => by rw [F3 536 (by decide)]; exact A2 k h5⟩
        have fullc : full (xR m 587) (xR m 588) x7 b P y5 → chf m m3 ∧ ((full (xR m 587) (xR m 588) x7 b P y5 ∧ (-2 : Int) = -2 ∧ xR m3 536 57 = 0 ∧ (∀ k, k ≠ 57 → m3 536 k = m 536 k) ∧ m3 586 = m 586 ∧ m3 587 = m 587 ∧ m3 588 = m 588) ∨ (∃ fi, ((y5 = 0 ∧ fi = 2) ∨ (cnt P x7.toNat < 200 ∧ isRoom (xR m 587) (xR m 588) x7 b y5 fi ∧ 2 ≤ fi)) ∧ chng m m3 P x7 y5 y2 fi lf wr (-2))) := fun hf => ⟨C3, Or.inl ⟨hf, rfl, by rw [xR_cg (F3 536 (by decide))]; exact A57, fun k hk => by rw [F3 536 (by decide)]; exact A2 k hk, (F3 586 (by decide)).trans (A1 586 (by decide)), (F3 587 (by decide)).trans (A1 587 (by decide)), (F3 588 (by decide)).trans (A1 588 (by decide))⟩⟩
        by_cases h200 : x6 = 200
        · rw [if_pos h200, xH_ret]
          exact fullc ⟨by omega, Or.inl (by rw [← a2]; exact h200)⟩
        · rw [if_neg h200]
          rcases I3 with hI | hI
          · obtain ⟨i1, i2⟩ := hI
            unfold yk305_93
            rw [if_pos (by omega), xH_ret]
            exact fullc ⟨by omega, Or.inr (Or.inl ⟨rfl, i2⟩)⟩
          · have hv2 : 2 ≤ vv := hI.1.1
            have hv3 : vv + y5 ≤ b := hI.1.2
            have P52 : xR m3 536 52 = x7 := by rw [xR_cg (F3 536 (by decide))]; exact q52
            obtain ⟨m', w, e, C', D⟩ := room93_ok (B := B) (m := m3) (m0 := m) (kd := y2) (f := y3) (v := y4) (n := y5) (fi := vv) P52 E0 E1 (by rw [xR_cg (F3 536 (by decide))]; exact (A3 51 (by decide)).trans hlf) hlf1 hlf0 (by rw [xR_cg (F3 536 (by decide))]; exact (A3 50 (by decide)).trans hwr) wr0 wr1 n0 n1 (by
              left
              have : (fun e => !gz y3 y4 (xR m3 586 e)) = P := by rw [xR_cg (F3 586 (by decide)), q6, hP]
              rw [this]
              omega) hkd hv2 (by omega) (by rw [xR_cg (F3 536 (by decide))]; exact A57) C3 ((F3 586 (by decide)).trans (A1 586 (by decide))) ((F3 587 (by decide)).trans (A1 587 (by decide))) ((F3 588 (by decide)).trans (A1 588 (by decide)))
            rw [e, xH_ret]
            rw [hP] at D
            exact ⟨C', Or.inr ⟨vv, Or.inr ⟨by omega, Or.inr hI, hv2⟩, D⟩⟩
end CHANGE2
