/-! symbolic runs: a run -/
theorem xy_ccok {α β : Type} {f : α → Option (List β)} {l : List α} {r : List β} (e : xy_cc f l = some r) {a : α} (ha : a ∈ l) : ∃ x, f a = some x ∧ ∀ b ∈ x, b ∈ r := by
  induction l generalizing r with
  | nil => cases ha
  | cons c l ih =>
    unfold xy_cc at e
    split at e
    · cases e
    · next x hx =>
      split at e
      · cases e
      · next y hy =>
        cases e
        rcases List.mem_cons.mp ha with rfl | ha
        · exact ⟨x, hx, fun b hb => List.mem_append_left _ hb⟩
        · obtain ⟨x', h1, h2⟩ := ih hy ha
          exact ⟨x', h1, fun b hb => List.mem_append_right _ (h2 b hb)⟩
theorem xy_cte {α β : Type} (f : α → Option (List β)) (l : List α) : xy_ct f l = xy_cc f l := by
  unfold xy_ct
  split
  · next q =>
    unfold xy_cc xy_cc
    cases f q with
    | none => rfl
    | some x => exact congrArg some (List.append_nil x).symm
  · rfl
theorem xy_ctok {α β : Type} {f : α → Option (List β)} {l : List α} {r : List β} (e : xy_ct f l = some r) {a : α} (ha : a ∈ l) : ∃ x, f a = some x ∧ ∀ b ∈ x, b ∈ r := by
  rw [xy_cte] at e
  exact xy_ccok e ha
def xy_r (u : xy_U) : Option Value ⊕ Nat → Option Value ⊕ Nat
  | .inl v => .inl (v.map (xy_v u))
  | .inr a => .inr (u.2.2 a)
def xy_out (u : xy_U) (n0 : Nat) (h0 : xm_H) (xs : Nat → Int32) (L : Nat) (P : xm_P) (d j : Nat) (M : xm_M) (S0 : xm_S) : xy_O → Prop
  | .inl (r, sh', ns') => ∃ h' n', xy_H u n0 h0 sh' h' ∧ n' ≤ ns' ∧ xr (xm_gg xs L) P d j M S0 (xy_r u r, h', n')
  | .inr s' => ∃ h' n', xy_H u n0 h0 s'.2.2.2.1 h' ∧ n' ≤ s'.2.2.2.2 ∧ ∀ r, xr (xm_gg xs L) P d j M (xy_s u s' h' n') r → xr (xm_gg xs L) P d j M S0 r
section XY7
variable {u : xy_U} {n0 : Nat} {h0 : xm_H} {N : xy_N} {xs : Nat → Int32} {L : Nat} {C : xy_Q} {P : xm_P} {d j : Nat} {M : xm_M}
theorem xy_outs {S0 S1 : xm_S} {o : xy_O} (hm : ∀ r, xr (xm_gg xs L) P d j M S1 r → xr (xm_gg xs L) P d j M S0 r) (e : xy_out u n0 h0 xs L P d j M S1 o) : xy_out u n0 h0 xs L P d j M S0 o := by
  cases o with
  | inl q =>
    obtain ⟨r, sh', ns'⟩ := q
    obtain ⟨h', n', e1, e2, e3⟩ := e
    exact ⟨h', n', e1, e2, hm _ e3⟩
  | inr s' =>
    obtain ⟨h', n', e1, e2, e3⟩ := e
    exact ⟨h', n', e1, e2, fun r hr => hm r (e3 r hr)⟩
theorem xy_rtok {ret : Option FieldType} {i : Instr} {st : List Value} {v : Option Value} (e : xy_rt ret i st = some v) : xm_rt ret i (st.map (xy_v u)) = some (v.map (xy_v u)) := by
  unfold xy_rt at e
  split at e
  · next x =>
    split at e
    · cases hr : decide (ret = some .int) with
      | false =>
        rw [hr] at e
        cases e
      | true =>
        rw [hr] at e
        cases e
        rw [of_decide_eq_true hr]
        exact if_pos rfl
    · cases e
  · next x =>
    split at e
    · cases hr : decide (ret = some .long) with
      | false =>
        rw [hr] at e
        cases e
      | true =>
        rw [hr] at e
        cases e
        rw [of_decide_eq_true hr]
        rfl
    · cases e
  · next h1 h2 =>
    unfold xm_rt at e ⊢
    split at e
    · split at e
      · split at e
        · split at e
          · next hn =>
            cases e
            exact if_pos hn
          · cases e
        · cases e
      · cases e
    · split at e
      · split at e
        · next hn =>
          cases e
          exact if_pos hn
        · cases e
      · cases e
    · split at e
      · split at e
        · cases e
          rfl
        · cases e
      · cases e
    · split at e
      · split at e
        · next hn =>
          cases e
          exact if_pos hn
        · cases e
      · cases e
    · cases e
theorem xy_rcvok {nL t : Nat} {as : List Value} {sh : xy_W} {h : xm_H} (H : xy_H u n0 h0 sh h) (e : xy_rcv nL t as sh = true) : xm_rcv nL t (as.map (xy_v u)) h = true := by
  unfold xy_rcv at e
  rw [Bool.and_eq_true] at e
  unfold xm_rcv
  rw [Bool.and_eq_true]
  refine ⟨decide_eq_true (by rw [xy_cats]; exact Nat.le_of_ble_eq_true e.1), ?_⟩
  by_cases ht : t = 0
  · rw [if_pos ht]
  · rw [if_neg ht]
    have e2 := e.2
    rw [show Nat.beq t 0 = false from by
      cases hc : Nat.beq t 0 with
      | false => rfl
      | true => exact absurd (Nat.eq_of_beq_eq_true hc) ht, cond_false] at e2
    split at e2
    · next b r =>
      split at e2
      · next w vs hc =>
        rw [Bool.and_eq_true] at e2
        have h1 := H.1 b _ hc
        rw [xy_cl (xy_tb e2.1)] at h1
        rw [List.map_cons, xy_vr]
        dsimp only
        rw [h1]
        exact beq_iff_eq.mpr (Nat.eq_of_beq_eq_true e2.2)
      · cases e2
    · cases e2
theorem xy_natok {k : Nat} {as : List Value} {h : xm_H} {l : List (xy_Q × Option Value)} (hC : xy_ok u C) (e : xy_nat C k as = some l) : ∃ q ∈ l, xy_ok u q.1 ∧ xm_nat k (as.map (xy_v u)) h = some (q.2.map (xy_v u), h) := by
  unfold xy_nat at e
  cases h1 : Nat.beq k 1000 with
  | true =>
    rw [h1, cond_true] at e
    obtain rfl := Nat.eq_of_beq_eq_true h1
    split at e
    · cases e
      exact ⟨_, List.mem_singleton_self _, hC, rfl⟩
    · cases e
  | false =>
    rw [h1, cond_false] at e
    cases h2 : Nat.beq k 1001 with
    | true =>
      rw [h2, cond_true] at e
      obtain rfl := Nat.eq_of_beq_eq_true h2
      split at e
      · next x y =>
        cases hi : xy_isI x && xy_isI y with
        | false =>
          rw [hi] at e
          cases e
        | true =>
          rw [hi, cond_true] at e
          cases e
          rw [Bool.and_eq_true] at hi
          obtain ⟨q, hq, hq1, hq2⟩ := xy_spok (f := fun b => some (bif b then y else x)) hC 0 x y
          refine ⟨q, hq, hq1, ?_⟩
          rw [hq2, List.map_cons, List.map_cons, List.map_nil, xy_vI hi.1, xy_vI hi.2]
          have ht : xy_t u 0 x y = decide (xy_I u x < xy_I u y) := rfl
          rw [ht]
          by_cases hlt : xy_I u x < xy_I u y
          · rw [decide_eq_true hlt]
            show some (some (Value.int (if xy_I u x < xy_I u y then xy_I u y else xy_I u x)), h) = some (some (xy_v u y), h)
            rw [if_pos hlt, xy_vI hi.2]
          · rw [decide_eq_false hlt]
            show some (some (Value.int (if xy_I u x < xy_I u y then xy_I u y else xy_I u x)), h) = some (some (xy_v u x), h)
            rw [if_neg hlt, xy_vI hi.1]
      · cases e
    | false =>
      rw [h2, cond_false] at e
      cases h3 : Nat.beq k 1002 with
      | false =>
        rw [h3] at e
        cases e
      | true =>
        rw [h3, cond_true] at e
        obtain rfl := Nat.eq_of_beq_eq_true h3
        split at e
        · next x y =>
          cases hi : xy_isI x && xy_isI y with
          | false =>
            rw [hi] at e
            cases e
          | true =>
            rw [hi, cond_true] at e
            cases e
            rw [Bool.and_eq_true] at hi
            obtain ⟨q, hq, hq1, hq2⟩ := xy_spok (f := fun b => some (bif b then y else x)) hC 0 y x
            refine ⟨q, hq, hq1, ?_⟩
            rw [hq2, List.map_cons, List.map_cons, List.map_nil, xy_vI hi.1, xy_vI hi.2]
            have ht : xy_t u 0 y x = decide (xy_I u y < xy_I u x) := rfl
            rw [ht]
            by_cases hlt : xy_I u y < xy_I u x
            · rw [decide_eq_true hlt]
              show some (some (Value.int (if xy_I u y < xy_I u x then xy_I u y else xy_I u x)), h) = some (some (xy_v u y), h)
              rw [if_pos hlt, xy_vI hi.2]
            · rw [decide_eq_false hlt]
              show some (some (Value.int (if xy_I u y < xy_I u x then xy_I u y else xy_I u x)), h) = some (some (xy_v u x), h)
              rw [if_neg hlt, xy_vI hi.1]
        · cases e
theorem xy_kd {E : xm_E} (h1 : xm_kind E ≠ 0) (h2 : xm_kind E ≠ 1) (h3 : xm_kind E ≠ 2) : xm_kind E = 3 := by
  obtain ⟨i, len, x, z⟩ := E
  cases i <;> first | exact absurd rfl h1 | exact absurd rfl h2 | exact absurd rfl h3 | skip
  next n =>
    by_cases hx : 14 ≤ x
    · exact if_pos hx
    · exact absurd (if_neg hx) h1
theorem xy_stl {s : xy_S} {h : xm_H} {ns n : Nat} : (((xy_s u s h ns).2.2.1.take n).reverse) = ((s.2.2.1.take n).reverse).map (xy_v u) := by
  show ((s.2.2.1.map (xy_v u)).take n).reverse = _
  rw [← List.map_take, List.map_reverse]
theorem xy_sound (hP : P.2.2 = xm_nat) (hN : xy_Nok u N xs L h0) (A : xy_A u n0 h0) : ∀ (n : Nat) (stop : Nat → Nat → Bool) (d j : Nat) (M : xm_M) (s : xy_S) (C : xy_Q) (l : List (xy_Q × xy_O)), xy_run N P n stop d j M s C = some l → xy_ok u C →
    ∀ (h : xm_H) (ns : Nat), xy_H u n0 h0 s.2.2.2.1 h → ns ≤ s.2.2.2.2 → ∃ q ∈ l, xy_ok u q.1 ∧ xy_out u n0 h0 xs L P d j M (xy_s u s h ns) q.2 := by
  intro n
  induction n with
  | zero =>
    intro stop d j M s C l e
    cases e
  | succ n ih =>
    intro stop d j M s C l e hC h ns H hns
    unfold xy_run at e
    cases hs : stop n s.1 with
    | true =>
      rw [hs, cond_true] at e
      cases e
      exact ⟨_, List.mem_singleton_self _, hC, h, ns, H, hns, fun r hr => hr⟩
    | false =>
      rw [hs, cond_false] at e
      split at e
      · cases e
      · next E hE =>
        split at e
        · next hk =>
          split at e
          · cases e
          · next l' hl' =>
            obtain ⟨q, hq, hq1, h', ns', H', hns', hr⟩ := xy_step hN A hC H hns hl'
            obtain ⟨x, hx1, hx2⟩ := xy_ctok e hq
            obtain ⟨q', hq', hq1', hout⟩ := ih _ _ _ _ _ _ _ hx1 hq1 h' ns' H' hns'
            exact ⟨q', hx2 _ hq', hq1', xy_outs (fun r hr' => xr_go hE hk hr hr') hout⟩
        · next hk =>
          split at e
          · next v hv =>
            cases e
            exact ⟨_, List.mem_singleton_self _, hC, h, ns, H, hns, xr_ret hE hk (xy_rtok hv)⟩
          · cases e
        · next hk =>
          split at e
          · next hl =>
            have hlS : E.2.2.2 ≤ (xy_s u s h ns).2.2.1.length ∧ (((xy_s u s h ns).2.2.1.drop E.2.2.2).map (fun v => v.category)).sum ≤ 8 := by
              show E.2.2.2 ≤ (s.2.2.1.map (xy_v u)).length ∧ (((s.2.2.1.map (xy_v u)).drop E.2.2.2).map (fun v => v.category)).sum ≤ 8
              rw [List.length_map, ← List.map_drop, xy_cats]
              exact hl
            split at e
            · next hge =>
              split at e
              · cases e
              · next l' hl' =>
                obtain ⟨q, hq, hq1, hn⟩ := xy_natok (h := h) hC hl'
                obtain ⟨x, hx1, hx2⟩ := xy_ctok e hq
                obtain ⟨q', hq', hq1', hout⟩ := ih _ _ _ _ _ _ _ hx1 hq1 h ns H hns
                refine ⟨q', hx2 _ hq', hq1', xy_outs (fun r hr' => xr_nat hE hk hlS hge (v := q.2.map (xy_v u)) (h' := h) (by rw [hP, xy_stl]; exact hn) ?_) hout⟩
                have he : (q.2.toList ++ s.2.2.1.drop E.2.2.2).map (xy_v u) = (q.2.map (xy_v u)).toList ++ (s.2.2.1.map (xy_v u)).drop E.2.2.2 := by
                  rw [List.map_append, List.map_drop]
                  cases q.2 <;> rfl
                have hr2 : xr (xm_gg xs L) P d j M (s.1 + 3, xy_ml u s.2.1, (q.2.toList ++ s.2.2.1.drop E.2.2.2).map (xy_v u), h, ns) r := hr'
                rw [he] at hr2
                exact hr2
            · next hlt =>
              split at e
              · cases e
              · next d' =>
                split at e
                · cases e
                · next M' hM =>
                  split at e
                  · next hrc =>
                    have hrS : xm_rcv M'.1 M'.2.2.2 ((xy_s u s h ns).2.2.1.take E.2.2.2).reverse (xy_s u s h ns).2.2.2.1 = true := by
                      rw [xy_stl]
                      exact xy_rcvok H hrc
                    split at e
                    · cases e
                    · next l' hl' =>
                      obtain ⟨q, hq, hq1, hout⟩ := ih _ _ _ _ _ _ _ hl' hC h ns H hns
                      have hin : xy_s u (0, xm_args 0 (s.2.2.1.take E.2.2.2).reverse, [], s.2.2.2) h ns = (0, xm_args 0 ((xy_s u s h ns).2.2.1.take E.2.2.2).reverse, [], (xy_s u s h ns).2.2.2) := by
                        rw [xy_stl, xy_ags]
                        rfl
                      rw [hin] at hout
                      obtain ⟨x, hx1, hx2⟩ := xy_ctok e hq
                      obtain ⟨Cq, oq⟩ := q
                      cases oq with
                      | inr s' => cases hx1
                      | inl q2 =>
                        obtain ⟨rr, sh', ns'⟩ := q2
                        obtain ⟨h', n', H', hn', hrun⟩ := hout
                        cases rr with
                        | inl v =>
                          obtain ⟨q', hq', hq1', hout'⟩ := ih _ _ _ _ _ _ _ hx1 hq1 h' n' H' hn'
                          refine ⟨q', hx2 _ hq', hq1', xy_outs (fun r hr' => xr_call hE hk hlS hlt hM hrS hrun ?_) hout'⟩
                          have he : (v.toList ++ s.2.2.1.drop E.2.2.2).map (xy_v u) = (v.map (xy_v u)).toList ++ (s.2.2.1.map (xy_v u)).drop E.2.2.2 := by
                            rw [List.map_append, List.map_drop]
                            cases v <;> rfl
                          have hr2 : xr (xm_gg xs L) P (d' + 1) j M (s.1 + 3, xy_ml u s.2.1, (v.toList ++ s.2.2.1.drop E.2.2.2).map (xy_v u), h', n') r := hr'
                          rw [he] at hr2
                          exact hr2
                        | inr a =>
                          dsimp only at hx1
                          split at hx1
                          · next t vs hc =>
                            split at hx1
                            · next ht =>
                              have hcc := H'.1 a _ hc
                              rw [xy_cl ht] at hcc
                              split at hx1
                              · next hno =>
                                cases hx1
                                exact ⟨_, hx2 _ (List.mem_singleton_self _), hq1, h', n', H', hn', xr_callT hE hk hlS hlt hM hrS hrun hcc hno⟩
                              · next hno =>
                                split at hx1
                                · next p hp =>
                                  obtain ⟨q', hq', hq1', hout'⟩ := ih _ _ _ _ _ _ _ hx1 hq1 h' n' H' hn'
                                  exact ⟨q', hx2 _ hq', hq1', xy_outs (fun r hr' => xr_callC hE hk hlS hlt hM hrS hrun hcc (fun hh => hno hh) hp hr') hout'⟩
                                · cases hx1
                            · cases hx1
                          · cases hx1
                  · cases e
          · cases e
        · next k0 k1 k2 =>
          split at e
          · next hb =>
            cases e
            obtain ⟨b1, b2, b3, b4⟩ := hb
            obtain ⟨r1, r2, r3⟩ := xy_rmok hN H b4
            have hH := xy_Happ (c := (E.2.2.1, List.replicate 6 .null)) A H (by omega)
            rw [xy_cl b3, List.map_replicate] at hH
            refine ⟨_, List.mem_singleton_self _, hC, _, ns + 6, hH, by show ns + 6 ≤ s.2.2.2.2 + 6; omega, ?_⟩
            have hthr := xr_thr (G := xm_gg xs L) (P := P) (d := d) (j := j) (M := M) (S := xy_s u s h ns) hE (xy_kd k0 k1 k2) ⟨b1, by show s.2.2.1.map (xy_v u) = []; rw [b2]; rfl, r2, by show ns + 6 ≤ xm_sm; omega⟩
            show xr _ _ _ _ _ _ (Sum.inr (u.2.2 s.2.2.2.1.2), _, _)
            rw [xy_Hnew A H]
            exact hthr
          · cases e
end XY7
