/-! THE ANSWER, by the class: a part's rows come in (addPart) -/
theorem AS_fr {m m' : xw_M} {t k it n S : Int} {mk ls K : Int → Int} {hl : Nat → Bool} {rk : Nat → Int → Int} {cf : Nat → Int} {mo : Nat → Int → Int} {J : Nat} (k8 : k ≤ 8) (it24 : it ≤ 24) (h : ∀ a, t ≤ a → a ≤ t + 43 → m' a = m a) (A : AS m t k it n S mk ls K hl rk cf mo J) : AS m' t k it n S mk ls K hl rk cf mo J := by
  obtain ⟨a1, a2, a3, a4⟩ := A
  have e : ∀ r g, 0 ≤ g → g < k → xR m' (t + 4 + g) r = xR m (t + 4 + g) r := fun r g g0 g1 => by rw [xR_cg (h _ (by omega) (by omega))]
  refine ⟨RT_fr k8 a1 (by rw [h _ (by omega) (by omega)]) (h _ (by omega) (by omega)) (fun g g0 g1 => h _ (by omega) (by omega)), fun r r0 r1 => ⟨?_, fun i i0 i1 => ?_⟩, fun r r0 r1 => KV_cg (e r) (a3 r r0 r1), fun κ V => ?_⟩
  · rw [ffc_cg (e r) J, ← (a2 r r0 r1).1]; unfold xJ; rw [h _ (by omega) (by omega)]
  · rw [ffi_cg (e r) J, ← (a2 r r0 r1).2 i i0 i1]; unfold xJ; rw [h _ (by omega) (by omega)]
  · obtain ⟨r, q, z⟩ := a4 κ V
    exact ⟨r, q, fun g g0 g1 => by rw [e r g g0 g1]; exact z g g0 g1⟩
theorem AO_fr {m m' : xw_M} {t k S : Int} {mk ls : Int → Int} {hl : Nat → Bool} {rk : Nat → Int → Int} {J : Nat} (k8 : k ≤ 8) (h : ∀ a, t ≤ a → a ≤ t + 43 → m' a = m a) (A : AO m t k S mk ls hl rk J) : AO m' t k S mk ls hl rk J := by
  obtain ⟨a0, a1, a3, κ, a4, a5⟩ := A
  have e : ∀ r g, 0 ≤ g → g < k → xR m' (t + 4 + g) r = xR m (t + 4 + g) r := fun r g g0 g1 => by rw [xR_cg (h _ (by omega) (by omega))]
  refine ⟨by rw [xR_cg (h t (by omega) (by omega))]; exact a0, RT_fr k8 a1 (by rw [h _ (by omega) (by omega)]) (h _ (by omega) (by omega)) (fun g g0 g1 => h _ (by omega) (by omega)), fun r r0 r1 => KV_cg (e r) (a3 r r0 r1), κ, a4, fun r r0 r1 z => a5 r r0 r1 (fun g g0 g1 => by rw [← e r g g0 g1]; exact z g g0 g1)⟩
theorem ST_fr {m m' : xw_M} {t k it S : Int} {mk ls K : Int → Int} {hl : Nat → Bool} {rk : Nat → Int → Int} {cf : Nat → Int} {mo : Nat → Int → Int} {J : Nat} (k8 : k ≤ 8) (it24 : it ≤ 24) (h : ∀ a, t ≤ a → a ≤ t + 43 → m' a = m a) (s : ST m t k it S mk ls K hl rk cf mo J) : ST m' t k it S mk ls K hl rk cf mo J := by
  rcases s with ⟨s0, n, s⟩ | ⟨j, j1, s⟩
  · exact Or.inl ⟨by rw [xR_cg (h t (by omega) (by omega))]; exact s0, n, AS_fr k8 it24 h s⟩
  · exact Or.inr ⟨j, j1, AO_fr k8 h s⟩
/-- what a part that comes in changes -/
def fPt (t : Int) (m m' : xw_M) : Prop := (∀ a, (a < 304 ∨ 336 < a) → (a < t ∨ t + 42 < a) → a ≠ 530 → a ≠ 532 → m' a = m a) ∧ (∀ k, k ≠ 2 → m' 530 k = m 530 k) ∧ ∀ k, k ≠ 8 → m' t k = m t k
theorem fPt_tr {t : Int} {a b c : xw_M} (h : fPt t a b) (k : fPt t b c) : fPt t a c := ⟨fun x x1 x2 x3 x4 => by rw [k.1 x x1 x2 x3 x4, h.1 x x1 x2 x3 x4], fun x hx => by rw [k.2.1 x hx, h.2.1 x hx], fun x hx => by rw [k.2.2 x hx, h.2.2 x hx]⟩
theorem fPt_r {t : Int} {m : xw_M} : fPt t m m := ⟨fun _ _ _ _ _ => rfl, fun _ _ => rfl, fun _ _ => rfl⟩
theorem fPt_A {t : Int} {m m' : xw_M} (h : t = 420 ∨ t = 464) (f : fAW t m m') : fPt t m m' := ⟨fun a a1 a2 a3 a4 => f.1 a (by omega) (by omega) (by omega) (by omega) (by omega) (by omega) (by omega), fun k _ => by rw [f.1 530 (by omega) (by omega) (by omega) (by omega) (by omega) (by omega) (by omega)], f.2⟩
theorem fPt_S {t : Int} {m m' : xw_M} (h : t = 420 ∨ t = 464) (f : rfS m m' 304) : fPt t m m' := ⟨fun a a1 a2 a3 a4 => f.1 a a3 a4 (by omega), f.2, fun k _ => by rw [f.1 t (by omega) (by omega) (by omega)]⟩
section PRT
variable {B : Nat} {t k it S : Int} {mk ls K : Int → Int} {hl : Nat → Bool} {rk : Nat → Int → Int} {cf : Nat → Int} {mo : Nat → Int → Int}
/-- the rows of the part are the source's from J0 on -/
def SRC (B : Nat) (m0 : xw_M) (R w : Int) (kk : Nat) (T : Int → Int → Int) (J0 : Nat) (k it : Int) (hl : Nat → Bool) (rk : Nat → Int → Int) (cf : Nat → Int) (mo : Nat → Int → Int) : Prop := ∀ (mm : xw_M) (x j : Int), 0 ≤ x → x < 1024 → 0 ≤ j → j < R → (∀ a, a < 420 → (a < 304 ∨ 336 < a) → mm a = m0 a) → (∀ c : Nat, c < kk → bt w c = true → xJ mm (304 + c) x = T c j) → RDY B mm x k it (hl (J0 + j.toNat)) (rk (J0 + j.toNat)) (cf (J0 + j.toNat)) (mo (J0 + j.toNat))
theorem part_l {m0 : xw_M} {R p w : Int} {kk : Nat} {T : Int → Int → Int} {J0 : Nat} (hB : B ≤ 512) (hT : cwd T) (hk : kk ≤ 33) (h6 : xR m0 302 6 = kk) (hP : Part (m0 516) p R kk T) (p0 : 0 ≤ p) (hf : p + 8 * partB T R kk ≤ 64 * (B * 512 : Nat)) (F : FX m0 t k it S mk ls K) (Q : SRC B m0 R w kk T J0 k it hl rk cf mo) (dd : ∀ j : Int, 0 ≤ j → j < R → ∀ s s', 0 ≤ s → s < S → 0 ≤ s' → s' < S → (∀ g, 0 ≤ g → g < k → skey (rk (J0 + j.toNat)) ls (mk s) g = skey (rk (J0 + j.toNat)) ls (mk s') g) → s = s') : ∀ (N s : Nat) (m : xw_M), 1024 * (s : Int) < R + 1024 → (R + 1024 - 1024 * (s : Int)).toNat < N → rs B m (p + 32 + 8 * ssum T R kk s) → fPt t m0 m → ST m t k it S mk ls K hl rk cf mo (J0 + (min R (1024 * (s : Int))).toNat) → ∃ m', xl4 (yl110_14 B) N t 530 (R - 1024 * (s : Int)) w m = some (.inl 0, m') ∧ fPt t m0 m' ∧ ST m' t k it S mk ls K hl rk cf mo (J0 + R.toNat) ∧ ∃ p', rs B m' p' := by
  have O9 : Unit → xw_obb 9 t = true := fun _ => (an_f B F.1).1
  obtain ⟨t1, b1, b2⟩ := hP
  unfold partB at hf
  have tt := F.1
  intro N
  induction N with
  | zero => intro s m _ h; omega
  | succ N ih =>
    intro s m s1 hN R2 f st
    rw [xl4_s]
    have IH := ih (s + 1)
    clear ih
    generalize hG : xl4 (yl110_14 B) N = G at IH ⊢
    unfold yl110_14
    by_cases c : 0 < R - 1024 * (s : Int)
    · rw [if_pos c, if_pos (O9 ())]
      by_cases h8 : xR m t 8 = 0
      · have hS := b2 s (by omega)
        have es : ssum T R kk (s + 1) = ssum T R kk s + (2 + csum (Tseg T s) (nrow R s) kk) := rfl
        have mono := ssum_mono hT hk (R := R) (s + 1) (nseg R - (s + 1)) (by unfold nseg; omega)
        rw [show s + 1 + (nseg R - (s + 1)) = nseg R from by unfold nseg; omega] at mono
        have snn := ssum_nn hT hk (R := R) (s := s) (by omega)
        have hnr : 1 ≤ nrow R s ∧ nrow R s ≤ 1024 ∧ 1024 * (s : Int) + nrow R s ≤ R := by unfold nrow; omega
        have hnr2 : min R (1024 * (s : Int)) + nrow R s = min R (1024 * ((s + 1 : Nat) : Int)) := by unfold nrow; omega
        have q6 : xR m 302 6 = kk := by rw [xR_cg (f.1 302 (by omega) (by omega) (by omega) (by omega))]; exact h6
        rw [← f.1 516 (by omega) (by omega) (by omega) (by omega)] at hS
        obtain ⟨m3, e3, R3, F3, V3⟩ := rd_seg (w := w) (a := 303) (b := 304) hB (Tseg_w hT s) (Or.inl ⟨rfl, rfl⟩) hk hnr.1 hnr.2.1 q6 R2 hS (by omega)
        rw [if_pos h8, e3, xB_ret]
        have f3 := fPt_tr f (fPt_S tt F3)
        have lo3 : ∀ a, a < 420 → (a < 304 ∨ 336 < a) → m3 a = m0 a := fun a a0 a1 => f3.1 a a1 (by omega) (by omega) (by omega)
        have FX3 : FX m3 t k it S mk ls K := by
          obtain ⟨f0, f1, f2, f3', f4, f5, f6⟩ := F
          have e1 := xR_cg (lo3 223 (by omega) (by omega))
          have e2 := xR_cg (lo3 224 (by omega) (by omega))
          have e4 := xR_cg (lo3 228 (by omega) (by omega))
          have e5 := xR_cg (f3.1 (t + 43) (by omega) (by omega) (by omega) (by omega))
          refine ⟨f0, by rw [e1]; exact f1, ?_, by rw [e1]; exact f3', by rw [e4]; exact f4, by rw [e5]; exact f5, by rw [e2]; exact f6⟩
          unfold xR; rw [f3.2.2 6 (by decide)]; exact f2
        have st3 : ST m3 t k it S mk ls K hl rk cf mo (J0 + (min R (1024 * (s : Int))).toNat) := ST_fr F.2.1.2.2 F.2.2.1.2.2 (fun a a0 a1 => F3.1 a (by omega) (by omega) (by omega)) st
        have jx : ∀ x : Nat, (x : Int) < nrow R s → J0 + (min R (1024 * (s : Int))).toNat + x = J0 + (1024 * (s : Int) + x).toNat := fun x hx => by omega
        generalize hM : (1000000 : Nat) = M'
        obtain ⟨m4, e4, f4, s4⟩ := rows_l (B := B) (m0 := m3) (J0 := J0 + (min R (1024 * (s : Int))).toNat) (n := nrow R s) (x3 := 530) (x4 := R - 1024 * (s : Int)) (x5 := w) (r14 := G) (hl := hl) (rk := rk) (cf := cf) (mo := mo) hnr.2.1 FX3 (fun x hx => by rw [jx x hx]; exact Q m3 x _ (by omega) (by omega) (by omega) (by omega) lo3 (fun c hc hb => V3 c hc hb x (by omega) hx)) (fun x hx => by rw [jx x hx]; exact dd _ (by omega) (by omega)) M' 0 m3 (by omega) (by omega) fAW_r st3
        rw [show ((0 : Nat) : Int) = 0 from rfl] at e4
        rw [e4, show w32 (R - 1024 * (s : Int) + -1024) = R - 1024 * ((s + 1 : Nat) : Int) from by rw [w32_id (by omega) (by omega)]; omega]
        refine IH m4 (by omega) (by omega) ?_ (fPt_tr f3 (fPt_A tt f4)) ?_
        · rw [es, show p + 32 + 8 * (ssum T R kk s + (2 + csum (Tseg T s) (nrow R s) kk)) = p + 32 + 8 * ssum T R kk s + 16 + 8 * csum (Tseg T s) (nrow R s) kk from by omega]
          exact rs_fr R3 (f4.1 530 (by omega) (by omega) (by omega) (by omega) (by omega) (by omega) (by omega))
        · rw [show J0 + (min R (1024 * ((s + 1 : Nat) : Int))).toNat = J0 + (min R (1024 * (s : Int))).toNat + (nrow R s).toNat from by omega]
          exact s4
      · rw [if_neg h8]
        exact ⟨m, rfl, f, ST_m (by omega) h8 st, _, R2⟩
    · rw [if_neg c]
      exact ⟨m, rfl, f, by rw [show min R (1024 * (s : Int)) = R from by omega] at st; exact st, _, R2⟩
end PRT
