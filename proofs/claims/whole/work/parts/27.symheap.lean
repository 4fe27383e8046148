/-! symbolic runs: instructions over cells -/
theorem xy_not_lt {a b : Int32} : ¬ a < b ↔ b ≤ a := by
  rw [Int32.lt_iff_toInt_lt, Int32.le_iff_toInt_le]
  omega
theorem xy_nle {a b : Int32} : decide (b ≤ a) = xor (decide (a < b)) true := by
  rw [Bool.xor_true, ← decide_not]
  exact decide_eq_decide.mpr xy_not_lt.symm
section XY5
variable {u : xy_U} {n0 : Nat} {h0 : xm_H} {N : xy_N} {xs : Nat → Int32} {L : Nat} {C : xy_Q} {s : xy_S} {h : xm_H} {ns nL : Nat} {ret : Option FieldType} {l : List (xy_Q × xy_S)}
theorem xy_cl {t : Nat} {vs : List Value} (ht : t < 64) : xy_c u (t, vs) = (t, vs.map (xy_v u)) := if_pos ht
theorem xy_cg {t : Nat} {vs : List Value} (ht : ¬ t < 64) : xy_c u (t, vs) = (t - 64, xy_ar u vs) := if_neg ht
theorem xy_vr (a : Nat) : xy_v u (.ref a) = .ref (u.2.2 a) := rfl
theorem xy_gfok {t k : Nat} (hC : xy_ok u C) (H : xy_H u n0 h0 s.2.2.2.1 h) (hns : ns ≤ s.2.2.2.2) (e : xy_gf C t k s = some l) : xy_G u n0 h0 l (xm_gf t k (xy_s u s h ns)) := by
  unfold xy_gf at e
  split at e
  · next a r hst =>
    split at e
    · next t' vs hc =>
      cases hb : Nat.beq t' t && Nat.blt t 64 with
      | false =>
        rw [hb] at e
        cases e
      | true =>
        rw [hb, cond_true] at e
        rw [Bool.and_eq_true] at hb
        obtain rfl := Nat.eq_of_beq_eq_true hb.1
        split at e
        · next v hv =>
          refine xy_g1 e h ns hC H hns ?_
          have h1 := H.1 a _ hc
          rw [xy_cl (xy_tb hb.2)] at h1
          unfold xm_gf xm_go xy_s
          dsimp only
          rw [hst, List.map_cons, xy_vr]
          dsimp only
          rw [h1]
          dsimp only
          rw [if_pos rfl, List.getElem?_map, hv]
          rfl
        · cases e
    · cases e
  · cases e
theorem xy_okvok {t k : Nat} {v : Value} (e : xy_okv t k v = true) : xm_okv t k (xy_v u v) = true := by
  unfold xm_okv
  rw [xq_fte]
  revert e
  unfold xy_okv
  generalize xq_ft t k = ty
  intro e
  cases v <;> cases ty <;> first | (cases e; done) | (exact Bool.and_eq_true_iff.mpr ⟨decide_eq_true rfl, rfl⟩) | skip
  next x =>
    rcases Bool.or_eq_true_iff.mp e with h | h
    · rw [of_decide_eq_true h]
      show (decide (narrow .boolean (.int 0) = .int 0) && fits .boolean (.int 0)) = true
      decide +kernel
    · rw [of_decide_eq_true h]
      show (decide (narrow .boolean (.int 1) = .int 1) && fits .boolean (.int 1)) = true
      decide +kernel
theorem xy_pfok {t k : Nat} (A : xy_A u n0 h0) (hC : xy_ok u C) (H : xy_H u n0 h0 s.2.2.2.1 h) (hns : ns ≤ s.2.2.2.2) (e : xy_pf C t k s = some l) : xy_G u n0 h0 l (xm_pf (xm_okv t k) t k (xy_s u s h ns)) := by
  unfold xy_pf at e
  split at e
  · next v a r hst =>
    split at e
    · next t' vs hc =>
      cases hb : Nat.beq t' t && (Nat.blt t 64 && (Nat.blt k vs.length && xy_okv t k v)) with
      | false =>
        rw [hb] at e
        cases e
      | true =>
        rw [hb, cond_true] at e
        rw [Bool.and_eq_true, Bool.and_eq_true, Bool.and_eq_true] at hb
        obtain ⟨hb1, hb2, hb3, hb4⟩ := hb
        obtain rfl := Nat.eq_of_beq_eq_true hb1
        have ht := xy_tb hb2
        refine xy_g1 e (h.set (u.2.2 a) (xy_c u (t', vs.set k v))) ns hC (xy_Hset A H hc) hns ?_
        have h1 := H.1 a _ hc
        rw [xy_cl ht] at h1
        unfold xm_pf xm_go xy_s
        dsimp only
        rw [hst, List.map_cons, List.map_cons, xy_vr]
        dsimp only
        rw [h1]
        dsimp only
        refine Eq.trans (if_pos ⟨rfl, by rw [List.length_map]; exact xy_tb hb3, xy_okvok hb4⟩) ?_
        rw [xy_cl ht, List.map_set]
    · cases e
  · cases e
theorem xy_rmok {c b : Nat} (hN : xy_Nok u N xs L h0) (H : xy_H u n0 h0 s.2.2.2.1 h) (e : xy_rm N s c b = true) : s.2.2.2.1.2 + c ≤ 1024 ∧ h.length + c ≤ xm_cm ∧ s.2.2.2.2 + b ≤ xm_sm := by
  unfold xy_rm at e
  rw [Bool.and_eq_true, Bool.and_eq_true] at e
  have h1 := Nat.le_of_ble_eq_true e.1
  have h2 := Nat.le_of_ble_eq_true e.2.1
  have h3 := Nat.le_of_ble_eq_true e.2.2
  have h4 := hN.2.2.1
  have h5 := H.2.1
  exact ⟨h1, by omega, h3⟩
theorem xy_newok {t : Nat} {fs : List Value} (hN : xy_Nok u N xs L h0) (A : xy_A u n0 h0) (hC : xy_ok u C) (H : xy_H u n0 h0 s.2.2.2.1 h) (hns : ns ≤ s.2.2.2.2) (e : xy_new N C t fs s = some l) : xy_G u n0 h0 l (xm_new t fs (xy_s u s h ns)) := by
  unfold xy_new at e
  cases hb : Nat.blt t 64 && (xy_rm N s 1 fs.length && fs.all xy_fx) with
  | false =>
    rw [hb] at e
    cases e
  | true =>
    rw [hb, cond_true] at e
    rw [Bool.and_eq_true, Bool.and_eq_true] at hb
    obtain ⟨hb1, hb2, hb3⟩ := hb
    obtain ⟨r1, r2, r3⟩ := xy_rmok hN H hb2
    have hH := xy_Happ (c := (t, fs)) A H (by omega)
    rw [xy_cl (xy_tb hb1), xy_mf hb3] at hH
    refine xy_g1 e _ (ns + fs.length) hC hH (Nat.add_le_add_right hns _) ?_
    unfold xm_new xm_go xy_s
    dsimp only
    refine Eq.trans (if_pos ⟨r2, by omega⟩) ?_
    rw [List.map_cons, xy_vr, xy_Hnew A H]
theorem xy_bdok {n : Value} {lo hi : Nat} (hN : xy_Nok u N xs L h0) (e : xy_bd N n = some (lo, hi)) : xy_isI n = true ∧ ¬ xy_I u n < 0 ∧ lo ≤ (xy_I u n).toNatClampNeg ∧ (xy_I u n).toNatClampNeg ≤ hi := by
  unfold xy_bd at e
  split at e
  · next x =>
    by_cases hx : x < 0
    · rw [if_pos hx] at e
      cases e
    · rw [if_neg hx] at e
      cases e
      exact ⟨rfl, hx, Nat.le_refl _, Nat.le_refl _⟩
  · split at e
    · next q hq =>
      have h1 := hN.2.1 q (List.mem_of_find?_eq_some hq)
      have h2 := List.find?_some hq
      rw [of_decide_eq_true h2, Option.some.inj e] at h1
      exact h1
    · cases e
theorem xy_naok {len t : Nat} {dv : Value} (hdv : xy_v u dv = dv) (hN : xy_Nok u N xs L h0) (A : xy_A u n0 h0) (hC : xy_ok u C) (H : xy_H u n0 h0 s.2.2.2.1 h) (hns : ns ≤ s.2.2.2.2) (e : xy_na N C len t dv s = some l) : xy_G u n0 h0 l (xm_na len t dv (xy_s u s h ns)) := by
  unfold xy_na at e
  split at e
  · next n r hst =>
    split at e
    · next lo hi hbd =>
      cases hb : Nat.ble (hi * 8) 536870912 && xy_rm N s 1 hi with
      | false =>
        rw [hb] at e
        cases e
      | true =>
        rw [hb, cond_true] at e
        rw [Bool.and_eq_true] at hb
        obtain ⟨b1, b2, b3, b4⟩ := xy_bdok hN hbd
        obtain ⟨r1, r2, r3⟩ := xy_rmok hN H hb.2
        have h8 := Nat.le_of_ble_eq_true hb.1
        have hH := xy_Happ (c := (t + 64, [n, dv])) A H (by omega)
        rw [xy_cg (by omega), Nat.add_sub_cancel] at hH
        have har : xy_ar u [n, dv] = List.replicate (xy_I u n).toNatClampNeg dv := by
          show xy_ov u (List.replicate (xy_I u n).toNatClampNeg (xy_v u dv)) [] = _
          rw [hdv]
          rfl
        rw [har] at hH
        refine xy_g1 e _ (ns + (xy_I u n).toNatClampNeg) hC hH (Nat.add_le_add hns b4) ?_
        unfold xm_na xm_go xy_s
        dsimp only
        rw [hst, List.map_cons, xy_vI b1]
        dsimp only
        refine Eq.trans (if_pos ⟨b2, by omega, r2, by omega⟩) ?_
        rw [List.map_cons, xy_vr, xy_Hnew A H]
    · cases e
  · cases e
theorem xy_maok {t w : Nat} {dv : Value} (ht : t < 64) (hdv : xy_v u dv = dv) (hN : xy_Nok u N xs L h0) (A : xy_A u n0 h0) (hC : xy_ok u C) (H : xy_H u n0 h0 s.2.2.2.1 h) (hns : ns ≤ s.2.2.2.2) (e : xy_ma N C t w dv s = some l) : xy_G u n0 h0 l (xm_ma t w dv (xy_s u s h ns)) := by
  unfold xy_ma at e
  split at e
  · next k n r hst =>
    split at e
    · next hb =>
      obtain ⟨b1, b2, b3, b4, b5⟩ := hb
      obtain ⟨r1, r2, r3⟩ := xy_rmok hN H b5
      have hnew := xy_Hnew A H
      have hH := xy_Hlist ((t, (List.range n.toNatClampNeg).map (fun i => Value.ref (s.2.2.2.1.2 + 1 + i))) :: List.replicate n.toNatClampNeg (w + 64, [.int k, dv])) A H (by rw [List.length_cons, List.length_replicate]; omega)
      have har : xy_c u (w + 64, [.int k, dv]) = (w, List.replicate k.toNatClampNeg dv) := by
        rw [xy_cg (by omega), Nat.add_sub_cancel]
        show (w, xy_ov u (List.replicate k.toNatClampNeg (xy_v u dv)) []) = _
        rw [hdv]
        rfl
      have hrf : xy_c u (t, (List.range n.toNatClampNeg).map (fun i => Value.ref (s.2.2.2.1.2 + 1 + i))) = (t, (List.range n.toNatClampNeg).map (fun i => Value.ref (h.length + 1 + i))) := by
        rw [xy_cl ht, List.map_map]
        congr 1
        refine List.map_congr_left (fun i _ => ?_)
        show Value.ref (u.2.2 (s.2.2.2.1.2 + 1 + i)) = Value.ref (h.length + 1 + i)
        have h2 := A.2 (s.2.2.2.1.2 + 1 + i) (by have := H.2.2.1; omega)
        have h3 := A.2 s.2.2.2.1.2 H.2.2.1
        have h4 := H.2.2.1
        have h5 : u.2.2 (s.2.2.2.1.2 + 1 + i) = h.length + 1 + i := by
          rw [← hnew]
          omega
        rw [h5]
      rw [List.map_cons, List.map_replicate, har, hrf] at hH
      refine xy_g1 e _ (ns + n.toNatClampNeg + n.toNatClampNeg * k.toNatClampNeg) hC hH (by show _ ≤ s.2.2.2.2 + (n.toNatClampNeg + n.toNatClampNeg * k.toNatClampNeg); omega) ?_
      unfold xm_ma xm_go xy_s
      dsimp only
      rw [hst, List.map_cons, List.map_cons]
      dsimp only [xy_v]
      refine Eq.trans (if_pos ⟨b1, b2, b3, b4, by omega, by omega⟩) ?_
      rw [List.map_cons]
      dsimp only [xy_v]
      rw [hnew]
    · cases e
  · cases e
theorem xy_arl {n dv : Value} {vs : List Value} : (xy_ar u (n :: dv :: vs)).length = (xy_I u n).toNatClampNeg := by
  show (xy_ov u _ vs).length = _
  rw [xy_ovl, List.length_replicate]
theorem xy_alok (hN : xy_Nok u N xs L h0) (hC : xy_ok u C) (H : xy_H u n0 h0 s.2.2.2.1 h) (hns : ns ≤ s.2.2.2.2) (e : xy_al N C s = some l) : xy_G u n0 h0 l (xm_al L (xy_s u s h ns)) := by
  unfold xy_al at e
  split at e
  · next a r hst =>
    split at e
    · next t vs hc =>
      have h1 := H.1 a _ hc
      cases hb : Nat.ble 16 t && Nat.blt t 24 with
      | true =>
        rw [hb, cond_true] at e
        rw [Bool.and_eq_true] at hb
        have b1 := Nat.le_of_ble_eq_true hb.1
        have b2 := xy_tb hb.2
        rw [xy_cl (by omega)] at h1
        refine xy_g1 e h ns hC H hns ?_
        unfold xm_al xm_go xy_s
        dsimp only
        rw [hst, List.map_cons, xy_vr]
        dsimp only
        rw [h1]
        dsimp only
        refine Eq.trans (if_pos ⟨b1, b2⟩) ?_
        rw [List.length_map]
        rfl
      | false =>
        rw [hb, cond_false] at e
        cases hb2 : Nat.ble 80 t && Nat.blt t 88 with
        | false =>
          rw [hb2] at e
          cases e
        | true =>
          rw [hb2, cond_true] at e
          rw [Bool.and_eq_true] at hb2
          have b1 := Nat.le_of_ble_eq_true hb2.1
          have b2 := xy_tb hb2.2
          rw [xy_cg (by omega)] at h1
          split at e
          · next n dv vs' =>
            split at e
            · next p hbd =>
              obtain ⟨lo, hi⟩ := p
              obtain ⟨c1, c2, c3, c4⟩ := xy_bdok hN hbd
              refine xy_g1 e h ns hC H hns ?_
              unfold xm_al xm_go xy_s
              dsimp only
              rw [hst, List.map_cons, xy_vr]
              dsimp only
              rw [h1]
              dsimp only
              refine Eq.trans (if_pos ⟨by omega, by omega⟩) ?_
              rw [xy_arl, List.map_cons, xy_vI c1]
              have : (xy_I u n).toNatClampNeg.toInt32 = xy_I u n := Int32.ofNat_toNatClampNeg _ (xy_not_lt.mp c2)
              rw [this]
            · cases e
          · cases e
    · cases e
  · next r hst =>
    refine xy_g1 e h ns hC H hns ?_
    unfold xm_al xm_go xy_s
    dsimp only
    rw [hst, List.map_cons]
    exact congrArg (fun v => some (Sum.inl (s.1 + 1, xy_ml u s.2.1, v :: r.map (xy_v u), h, ns))) (xy_snok hN.2.2.2.2).symm
  · cases e
theorem xy_in_lt {j : Int32} {n m : Nat} (hnm : n ≤ m) (e : xm_in j n = true) : xm_in j m = true ∧ j.toNatClampNeg < n := by
  unfold xm_in at e ⊢
  have h1 := of_decide_eq_true e
  exact ⟨decide_eq_true (fun hh => h1 (hh.imp_right (fun hq => by omega))), by
    by_cases hlt : j.toNatClampNeg < n
    · exact hlt
    · exact absurd (Or.inr (by omega)) h1⟩
theorem xy_aldok {T : Nat → Bool} (hN : xy_Nok u N xs L h0) (hC : xy_ok u C) (H : xy_H u n0 h0 s.2.2.2.1 h) (hns : ns ≤ s.2.2.2.2) (e : xy_ald N C T s = some l) : xy_G u n0 h0 l (xm_ald T (xy_s u s h ns)) := by
  unfold xy_ald at e
  split at e
  · next j a r hst =>
    split at e
    · next t vs hc =>
      have h1 := H.1 a _ hc
      cases hb : Nat.blt t 64 with
      | true =>
        rw [hb, cond_true] at e
        rw [xy_cl (xy_tb hb)] at h1
        cases hb2 : T t && xm_in j vs.length with
        | false =>
          rw [hb2] at e
          cases e
        | true =>
          rw [hb2, cond_true] at e
          rw [Bool.and_eq_true] at hb2
          split at e
          · next v hv =>
            refine xy_g1 e h ns hC H hns ?_
            unfold xm_ald xm_go xy_s
            dsimp only
            rw [hst, List.map_cons, List.map_cons, xy_vr]
            dsimp only [xy_v]
            rw [h1]
            dsimp only
            refine Eq.trans (if_pos ⟨hb2.1, by rw [List.length_map]; exact hb2.2⟩) ?_
            rw [List.getElem?_map, hv]
            rfl
          · cases e
      | false =>
        rw [hb, cond_false] at e
        rw [xy_cg (fun hh => by rw [xy_bt hh] at hb; cases hb)] at h1
        cases hT : T (t - 64) with
        | false =>
          rw [hT] at e
          cases e
        | true =>
          rw [hT, cond_true] at e
          split at e
          · next n dv vs' =>
            split at e
            · next lo hi hbd =>
              obtain ⟨c1, c2, c3, c4⟩ := xy_bdok hN hbd
              cases hin : xm_in j lo with
              | false =>
                rw [hin] at e
                cases e
              | true =>
                rw [hin, cond_true] at e
                obtain ⟨d1, d2⟩ := xy_in_lt c3 hin
                refine xy_g1 e h ns hC H hns ?_
                unfold xm_ald xm_go xy_s
                dsimp only
                rw [hst, List.map_cons, List.map_cons, xy_vr]
                dsimp only [xy_v]
                rw [h1]
                dsimp only
                have h3 : (xy_ar u (n :: dv :: vs'))[j.toNatClampNeg]? = some (xy_v u (xy_at j.toNatClampNeg dv vs')) := xy_ova _ dv _ (by rw [List.length_replicate]; omega) (by rw [List.getElem?_replicate, if_pos (by omega)]) vs'
                refine Eq.trans (if_pos ⟨hT, by rw [xy_arl]; exact d1⟩) ?_
                rw [h3]
                rfl
            · cases e
          · cases e
    · cases e
  · cases e
theorem xy_sldok (hN : xy_Nok u N xs L h0) (hC : xy_ok u C) (H : xy_H u n0 h0 s.2.2.2.1 h) (hns : ns ≤ s.2.2.2.2) (e : xy_sld N C s = some l) : xy_G u n0 h0 l (xm_sld xs L (xy_s u s h ns)) := by
  unfold xy_sld at e
  split at e
  · next j r hst =>
    cases hin : xm_in j (xy_sm N.2.2.2.2) with
    | false =>
      rw [hin] at e
      cases e
    | true =>
      rw [hin, cond_true] at e
      obtain ⟨hin2, d2⟩ := xy_in_lt (xy_smok hN.2.2.2.2) hin
      refine xy_g1 e h ns hC H hns ?_
      unfold xm_sld xm_go xy_s
      dsimp only
      rw [hst, List.map_cons, List.map_cons]
      refine Eq.trans (show _ = (if xm_in j L = true then some (Sum.inl (s.1 + 1, xy_ml u s.2.1, Value.int (xs j.toNatClampNeg) :: r.map (xy_v u), h, ns)) else none) from rfl) ?_
      rw [if_pos hin2, List.map_cons, hN.2.2.2.1 _ (Nat.lt_of_lt_of_le d2 (xy_smok hN.2.2.2.2))]
  · next hne =>
    have h1 := xy_aldok hN hC H hns e
    have h2 : xm_sld xs L (xy_s u s h ns) = xm_ald (fun t => t == 16) (xy_s u s h ns) := by
      unfold xm_sld
      split
      · next j r hst =>
        exfalso
        have hst2 : s.2.2.1.map (xy_v u) = .int j :: .retAddr 9 :: r := hst
        cases hs : s.2.2.1 with
        | nil =>
          have hl := congrArg List.length hst2
          rw [hs] at hl
          simp at hl
        | cons a q =>
          cases q with
          | nil =>
            have hl := congrArg List.length hst2
            rw [hs] at hl
            simp at hl
          | cons b q =>
            rw [hs, List.map_cons, List.map_cons] at hst2
            injection hst2 with e1 e2
            injection e2 with e2 e3
            cases b with
            | retAddr x =>
              cases e2
              cases a with
              | int x => exact hne x q hs
              | float x =>
                unfold xy_ald at e
                rw [hs] at e
                cases e
              | _ => cases e1
            | _ => cases e2
      · rfl
    rw [h2]
    exact h1
theorem xy_sets {α : Type} {l : List α} {j : Nat} {x : α} (h : l[j]? = some x) : l.set j x = l := by
  apply List.ext_getElem?
  intro i
  rw [List.getElem?_set]
  by_cases e : j = i
  · subst e
    rw [if_pos rfl, if_pos (List.getElem?_eq_some_iff.mp h).1, h]
  · rw [if_neg e]
theorem xy_astok {T : Nat → Bool} {nar : xy_W → Nat → Value → Option Value} {nar' : Nat → Value → Option Value} (hT : ∀ t, T t = true → t < 64) (hnar : ∀ t v w, T t = true → nar s.2.2.2.1 t v = some w → nar' t (xy_v u v) = some (xy_v u w)) (hN : xy_Nok u N xs L h0) (A : xy_A u n0 h0) (hC : xy_ok u C) (H : xy_H u n0 h0 s.2.2.2.1 h) (hns : ns ≤ s.2.2.2.2) (e : xy_ast N C T nar s = some l) : xy_G u n0 h0 l (xm_ast T nar' (xy_s u s h ns)) := by
  unfold xy_ast at e
  split at e
  · next v j a r hst =>
    split at e
    · next t vs hc =>
      have h1 := H.1 a _ hc
      cases hb : Nat.blt t 64 with
      | true =>
        rw [hb, cond_true] at e
        rw [xy_cl (xy_tb hb)] at h1
        cases hb2 : T t && xm_in j vs.length with
        | false =>
          rw [hb2] at e
          cases e
        | true =>
          rw [hb2, cond_true] at e
          rw [Bool.and_eq_true] at hb2
          split at e
          · next w hw =>
            refine xy_g1 e (h.set (u.2.2 a) (xy_c u (t, vs.set j.toNatClampNeg w))) ns hC (xy_Hset A H hc) hns ?_
            unfold xm_ast xm_go xy_s
            dsimp only
            rw [hst, List.map_cons, List.map_cons, List.map_cons, xy_vr, show xy_v u (Value.int j) = Value.int j from rfl]
            dsimp only
            rw [h1]
            dsimp only
            refine Eq.trans (if_pos ⟨hb2.1, by rw [List.length_map]; exact hb2.2⟩) ?_
            rw [hnar t v w hb2.1 hw, xy_cl (xy_tb hb), List.map_set]
          · cases e
      | false =>
        rw [hb, cond_false] at e
        have hge : ¬ t < 64 := fun hh => by rw [xy_bt hh] at hb; cases hb
        rw [xy_cg hge] at h1
        cases hT2 : T (t - 64) with
        | false =>
          rw [hT2] at e
          cases e
        | true =>
          rw [hT2, cond_true] at e
          split at e
          · next n dv vs' =>
            split at e
            · next lo hi hbd =>
              obtain ⟨c1, c2, c3, c4⟩ := xy_bdok hN hbd
              cases hin : xm_in j lo with
              | false =>
                rw [hin] at e
                cases e
              | true =>
                rw [hin, cond_true] at e
                obtain ⟨d1, d2⟩ := xy_in_lt c3 hin
                split at e
                · next w hw =>
                  have hm : ∀ (h'' : xm_H), h.set (u.2.2 a) (t - 64, (xy_ar u (n :: dv :: vs')).set j.toNatClampNeg (xy_v u w)) = h'' → xm_ast T nar' (xy_s u s h ns) = some (.inl (s.1 + 1, xy_ml u s.2.1, r.map (xy_v u), h'', ns)) := by
                    intro h'' e2
                    unfold xm_ast xm_go xy_s
                    dsimp only
                    rw [hst, List.map_cons, List.map_cons, List.map_cons, xy_vr, show xy_v u (Value.int j) = Value.int j from rfl]
                    dsimp only
                    rw [h1]
                    dsimp only
                    refine Eq.trans (if_pos ⟨hT2, by rw [xy_arl]; exact d1⟩) ?_
                    rw [hnar (t - 64) v w hT2 hw]
                    dsimp only
                    rw [e2]
                  cases hd : decide (w = xy_at j.toNatClampNeg dv vs') with
                  | true =>
                    rw [hd, cond_true] at e
                    have hw2 := of_decide_eq_true hd
                    have h3 : (xy_ar u (n :: dv :: vs'))[j.toNatClampNeg]? = some (xy_v u (xy_at j.toNatClampNeg dv vs')) := xy_ova _ dv _ (by rw [List.length_replicate]; omega) (by rw [List.getElem?_replicate, if_pos (by omega)]) vs'
                    exact xy_g1 e h ns hC H hns (hm h (by rw [hw2, xy_sets h3, xy_sets h1]))
                  | false =>
                    rw [hd, cond_false] at e
                    exact xy_g1 e (h.set (u.2.2 a) (xy_c u (t, n :: dv :: .retAddr j.toNatClampNeg :: w :: vs'))) ns hC (xy_Hset A H hc) hns (hm _ (by rw [xy_cg hge]; rfl))
                · cases e
            · cases e
          · cases e
    · cases e
  · cases e
theorem xy_nIok {w : xy_W} {t : Nat} {v z : Value} (e : xy_nI w t v = some z) : xm_nI t (xy_v u v) = some (xy_v u z) := by
  unfold xy_nI at e
  cases hi : xy_isI v with
  | false =>
    rw [hi] at e
    cases e
  | true =>
    rw [hi] at e
    cases e
    rw [xy_vI hi]
    rfl
theorem xy_nJok {w : xy_W} {t : Nat} {v z : Value} (e : xy_nJ w t v = some z) : xm_nJ t (xy_v u v) = some (xy_v u z) := by
  unfold xy_nJ at e
  cases hi : xy_isJ v with
  | false =>
    rw [hi] at e
    cases e
  | true =>
    rw [hi] at e
    cases e
    rw [xy_vJ hi]
    rfl
theorem xy_nBok {w : xy_W} {t : Nat} {v z : Value} (hN : xy_Nok u N xs L h0) (e : xy_nB N w t v = some z) : xm_nB t (xy_v u v) = some (xy_v u z) := by
  unfold xy_nB at e
  cases hi : xy_isI v with
  | false =>
    rw [hi] at e
    cases e
  | true =>
    rw [hi, cond_true] at e
    cases hb : Nat.beq t 18 with
    | true =>
      rw [hb, cond_true] at e
      have h1 := xy_lkok hN e
      rw [List.map_cons, List.map_nil, xy_vI hi] at h1
      rw [xy_vI hi, ← Option.some.inj h1]
      unfold xm_nB
      dsimp only
      rw [if_pos (Nat.eq_of_beq_eq_true hb)]
      rfl
    | false =>
      rw [hb, cond_false] at e
      have h1 := xy_lkok hN e
      rw [List.map_cons, List.map_cons, List.map_nil, xy_vI hi] at h1
      rw [xy_vI hi, ← Option.some.inj h1]
      unfold xm_nB
      dsimp only
      rw [if_neg (fun hh => by rw [hh] at hb; cases hb)]
      rfl
theorem xy_nDok {t : Nat} {v z : Value} (H : xy_H u n0 h0 s.2.2.2.1 h) (e : xy_nD s.2.2.2.1 t v = some z) : xm_nD h t (xy_v u v) = some (xy_v u z) := by
  unfold xy_nD at e
  split at e
  · next b =>
    cases hb : Nat.beq t 23 with
    | false =>
      rw [hb] at e
      cases e
    | true =>
      rw [hb, cond_true] at e
      split at e
      · next vs hc =>
        cases e
        have h1 := H.1 b _ hc
        rw [xy_cl (by omega)] at h1
        unfold xm_nD
        dsimp only [xy_v]
        rw [if_pos (Nat.eq_of_beq_eq_true hb), h1]
        rfl
      · cases e
  · cases e
end XY5
