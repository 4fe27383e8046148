/-! CHOOSE, by the class -/
/-- the class's memory before a choice's commit: x views at pl, nb blocks -/
def ctm (B : Nat) (m mL : xw_M) (D M x nb pl q2 : Int) (K pkv Rs : Int → Int) : Prop := (0 < x → vps (mL 517) m D M 0 (xR m 536 31) x pkv Rs 64 q2 ∧ q2 ≤ nb * 32768) ∧ (∀ a, a ≠ 0 → (a < 295 ∨ 336 < a) → a ≠ 371 → a ≠ 372 → (a < 395 ∨ 416 < a) → a ≠ 419 → a ≠ 508 → (a < 510 ∨ 515 < a) → (a < 517 ∨ 523 < a) → a ≠ 530 → a ≠ 532 → mL a = m a) ∧ tpz 518 517 (B * 512 : Nat) mL ∧ (∃ p, rs B mL p) ∧ (∀ k, k ≠ 16 → mL 0 k = m 0 k) ∧ xR mL 0 16 = xR m 0 16 + 1 ∧ (∀ k, k ≠ 11 → k ≠ 14 → mL 508 k = m 508 k) ∧ xR mL 508 11 = x ∧ xR mL 508 14 = cnt (fun e => decide (K e ≠ 3)) (xR m 536 52).toNat + (if 0 < x then 1 else 0) ∧ (∀ i, 0 ≤ i → i < x → xR mL 511 i = pkv i ∧ xR mL 512 i = Rs i) ∧ (∀ e, 0 ≤ e → e < xR m 536 52 → K e ≠ 3 → xR mL 513 (cnt (fun e => decide (K e ≠ 3)) e.toNat) = K e ∧ xR mL 514 (cnt (fun e => decide (K e ≠ 3)) e.toNat) = xR m 587 e ∧ xR mL 515 (cnt (fun e => decide (K e ≠ 3)) e.toNat) = xR m 588 e) ∧ (0 < x → xR mL 513 (cnt (fun e => decide (K e ≠ 3)) (xR m 536 52).toNat) = 3 ∧ xR mL 514 (cnt (fun e => decide (K e ≠ 3)) (xR m 536 52).toNat) = pl ∧ xR mL 515 (cnt (fun e => decide (K e ≠ 3)) (xR m 536 52).toNat) = nb)
section CHC
variable {B : Nat} {m : xw_M} {c D M tu : Int} {K Rf : Int → Int} {Rv : Int → Int → Int}
theorem df_eq (F : dsk B m D M tu K Rf Rv) (r : ram m D M tu K) : ∀ d k, 0 ≤ d → d < D → 0 ≤ k → k < xR m 538 d → xR m (15 + 26 * d + 23) k = xR m 574 (4 * d + k) ∧ 1 ≤ xR m 574 (4 * d + k) ∧ xR m 574 (4 * d + k) ≤ 1000 := fun d l d0 d1 l0 l1 => by
  have hc := r.cg
  have sz := hc.sz d d0 d1
  obtain ⟨K', e, b, R⟩ := r.ar d d0 d1 l l0 (by rw [← sz.2.1]; exact l1)
  obtain ⟨u, R'⟩ := (F.rk d d0 d1).1 l l0 l1
  have n1 := (hc.cn.2.2.2.2.1 d d0 d1).2.2.1
  have n2 := F.dm.2.2 d d0 d1
  rw [sz.2.2.1] at R' n2
  have U := RK_uniq R R' (fun i i0 i1 => (r.vl d d0 d1).1 l i l0 (by rw [← sz.2.1]; exact l1) i0 i1)
  have k0 := R'.1
  have k1 := (R'.2.2.1 0 (Int.le_refl _) (by omega)).1
  refine ⟨by rw [e]; exact U.1, by omega, by omega⟩
/-- levels, as the chooser has them -/
theorem chs_of (F : dsk B m D M tu K Rf Rv) (r : ram m D M tu K) : (1 ≤ D ∧ D ≤ 8) ∧ (∀ d, 0 ≤ d → d < D → 1 ≤ xR m 538 d ∧ xR m 538 d ≤ 4) ∧ xR m 3 1 = D ∧ ∀ d, 0 ≤ d → d < D → xR m (15 + 26 * d) 10 = xR m 538 d := by
  have hc := r.cg
  refine ⟨⟨F.dm.1, hc.cn.1.2⟩, fun d d0 d1 => ?_, hc.cn.2.2.1, fun d d0 d1 => (hc.sz d d0 d1).2.1.symm⟩
  rw [(hc.sz d d0 d1).2.1]
  exact ⟨(hc.sz d d0 d1).1, (hc.cn.2.2.2.2.1 d d0 d1).2.1.2⟩
/-- behind the room: what the class keeps of the choice, up to its commit -/
theorem choose_t {x nb pl : Int} {m7 : xw_M} {pkv Rs : Int → Int} (r : ram m D M tu K) (E0 : 0 ≤ xR m 536 52 ∧ xR m 536 52 ≤ 200) (h16 : xR m 0 16 < 100) (h16' : 0 ≤ xR m 0 16) (x0 : 0 ≤ x ∧ x ≤ 16) (ct : 0 < x → cnt (fun e => decide (K e ≠ 3)) (xR m 536 52).toNat < 200) (f7 : ∀ a, (a < 295 ∨ 336 < a) → a ≠ 371 → a ≠ 372 → (a < 395 ∨ 416 < a) → a ≠ 419 → a ≠ 510 → (a < 517 ∨ 523 < a) → a ≠ 530 → a ≠ 532 → m7 a = m a) (t7 : tpz 518 517 (B * 512 : Nat) m7) (r7 : ∃ p, rs B m7 p) (pb : 0 < x → (-1 ≤ pl ∧ pl ≤ 1000) ∧ 0 ≤ nb ∧ nb ≤ 1000000) (hv : ∀ i, 0 ≤ i → i < x → xR m7 296 i = pkv i ∧ xR m7 419 i = Rs i) (hP : 0 < x → ∃ q2, vps (m7 517) m D M 0 (xR m 536 31) x pkv Rs 64 q2 ∧ q2 ≤ nb * 32768) : ∃ mL q2, ctm B m mL D M x nb pl q2 K pkv Rs ∧ yk200_156 B x nb pl m7 = xB (yf160 B pl nb mL) fun v12 m12 => if v12 = 0 then (xB (yf163 B m12) fun v13 m13 => some (.inl v13, m13)) else (some (.inl x, m12)) := by
  have c508 : m7 508 = m 508 := f7 508 (by omega) (by omega) (by omega) (by omega) (by omega) (by omega) (by omega) (by omega) (by omega)
  have c0 : m7 0 = m 0 := f7 0 (by omega) (by omega) (by omega) (by omega) (by omega) (by omega) (by omega) (by omega) (by omega)
  have c51 : ∀ a, 513 ≤ a → a ≤ 515 → m7 a = m a := fun a h1 h2 => f7 a (by omega) (by omega) (by omega) (by omega) (by omega) (by omega) (by omega) (by omega) (by omega)
  generalize hm8 : xw_u m7 0 16 (xR m7 0 16 + 1) = m8
  have k8 : ∀ a, a ≠ 0 → m8 a = m7 a := fun a ha => by rw [← hm8, xu_c ha]
  have k80 : ∀ k, k ≠ 16 → m8 0 k = m 0 k := fun k hk => by rw [← hm8, xu_ne (by omega), c0]
  have k816 : xR m8 0 16 = xR m 0 16 + 1 := by rw [← hm8, xR_at (w32_id (by rw [xR_cg c0]; omega) (by rw [xR_cg c0]; omega)), xR_cg c0]
  obtain ⟨m9, z9, a1, a2, a3, a4⟩ := drop_ok (B := B) (m := m8) (E := xR m 536 52) (K := xR m8 513) (S := xR m8 514) (L := xR m8 515) (by rw [xR_cg (k8 508 (by omega)), xR_cg c508]; exact r.ex) E0.1 E0.2 rfl rfl rfl
  have e513 : ∀ e, 0 ≤ e → e < xR m 536 52 → xR m8 513 e = K e ∧ xR m8 514 e = xR m 587 e ∧ xR m8 515 e = xR m 588 e := fun e e0 e1 => by
    rw [xR_cg (k8 513 (by omega)), xR_cg (k8 514 (by omega)), xR_cg (k8 515 (by omega)), xR_cg (c51 513 (by omega) (by omega)), xR_cg (c51 514 (by omega) (by omega)), xR_cg (c51 515 (by omega) (by omega))]
    exact r.le e e0 e1
  have ceq : ∀ n : Nat, (n : Int) ≤ xR m 536 52 → cnt (fun e => decide (xR m8 513 e ≠ 3)) n = cnt (fun e => decide (K e ≠ 3)) n := fun n hn => cnt_cg n (fun i hi => by show decide (xR m8 513 (i : Int) ≠ 3) = decide (K (i : Int) ≠ 3); rw [(e513 i (by omega) (by omega)).1])
  rw [ceq _ (by omega)] at a3
  have a4' : ∀ e, 0 ≤ e → e < xR m 536 52 → K e ≠ 3 → xR m9 513 (cnt (fun e => decide (K e ≠ 3)) e.toNat) = K e ∧ xR m9 514 (cnt (fun e => decide (K e ≠ 3)) e.toNat) = xR m 587 e ∧ xR m9 515 (cnt (fun e => decide (K e ≠ 3)) e.toNat) = xR m 588 e := fun e e0 e1 h3 => by
    have q := a4 e e0 e1 (by rw [(e513 e e0 e1).1]; exact h3)
    rw [ceq _ (by omega), (e513 e e0 e1).1, (e513 e e0 e1).2.1, (e513 e e0 e1).2.2] at q
    exact q
  have cb := cnt_b (fun e => decide (K e ≠ 3)) (xR m 536 52).toNat
  have tail : ∀ mB : xw_M, (∀ a, a ≠ 508 → a ≠ 513 → a ≠ 514 → a ≠ 515 → mB a = m8 a) → (∀ k, k ≠ 14 → mB 508 k = m 508 k) → xR mB 508 14 = cnt (fun e => decide (K e ≠ 3)) (xR m 536 52).toNat + (if 0 < x then 1 else 0) → (∀ e, 0 ≤ e → e < xR m 536 52 → K e ≠ 3 → xR mB 513 (cnt (fun e => decide (K e ≠ 3)) e.toNat) = K e ∧ xR mB 514 (cnt (fun e => decide (K e ≠ 3)) e.toNat) = xR m 587 e ∧ xR mB 515 (cnt (fun e => decide (K e ≠ 3)) e.toNat) = xR m 588 e) → (0 < x → xR mB 513 (cnt (fun e => decide (K e ≠ 3)) (xR m 536 52).toNat) = 3 ∧ xR mB 514 (cnt (fun e => decide (K e ≠ 3)) (xR m 536 52).toNat) = pl ∧ xR mB 515 (cnt (fun e => decide (K e ≠ 3)) (xR m 536 52).toNat) = nb) → ∃ mL q2, ctm B m mL D M x nb pl q2 K pkv Rs ∧ yk200_188 B x nb pl mB = xB (yf160 B pl nb mL) fun v12 m12 => if v12 = 0 then (xB (yf163 B m12) fun v13 m13 => some (.inl v13, m13)) else (some (.inl x, m12)) := by
    intro mB b1 b2 b3 b4 b5
    have l1 : xw_le B 296 = 16 := le_B B (by omega) (by omega) (by omega)
    have l2 : xw_le B 419 = 16 := le_B B (by omega) (by omega) (by omega)
    obtain ⟨mL, zL, t1, t2, t3, t4⟩ := take_views (B := B) (m := mB) (a := 296) (r := 419) (n := x) x0.1 x0.2 (by decide) (by decide) (by omega) (by omega) (by omega) (by omega) (by omega) (by omega) (by omega)
    have L7 : ∀ a, a ≠ 0 → a ≠ 508 → (a < 511 ∨ 515 < a) → mL a = m7 a := fun a h1 h2 h3 => by rw [t1 a h2 (by omega) (by omega), b1 a h2 (by omega) (by omega) (by omega), k8 a h1]
    have q : ∃ q2, 0 < x → vps (m7 517) m D M 0 (xR m 536 31) x pkv Rs 64 q2 ∧ q2 ≤ nb * 32768 := by
      by_cases hx : 0 < x
      · obtain ⟨q2, h2⟩ := hP hx
        exact ⟨q2, fun _ => h2⟩
      · exact ⟨0, fun h => absurd h hx⟩
    obtain ⟨q2, hq⟩ := q
    refine ⟨mL, q2, ⟨fun hx => by rw [L7 517 (by omega) (by omega) (by omega)]; exact hq hx, fun a h0 h1 h2 h3 h4 h5 h6 h7 h8 h9 h10 => by rw [L7 a h0 h6 (by omega)]; exact f7 a h1 h2 h3 h4 h5 (by omega) h8 h9 h10, tpz_fr t7 (L7 518 (by omega) (by omega) (by omega)) (L7 517 (by omega) (by omega) (by omega)), ?_, fun k hk => ?_, ?_, fun k h1 h2 => by rw [t2 k h1, b2 k h2], t3, by rw [xR_fld (t2 14 (by omega))]; exact b3, fun i i0 i1 => ?_, fun e e0 e1 h3 => ?_, fun hx => ?_⟩, ?_⟩
    · obtain ⟨p, hp⟩ := r7
      exact ⟨p, rs_fr hp (L7 530 (by omega) (by omega) (by omega))⟩
    · rw [t1 0 (by omega) (by omega) (by omega), b1 0 (by omega) (by omega) (by omega) (by omega)]; exact k80 k hk
    · rw [xR_cg (t1 0 (by omega) (by omega) (by omega)), xR_cg (b1 0 (by omega) (by omega) (by omega) (by omega))]; exact k816
    · obtain ⟨q1, q2⟩ := t4 i i0 i1
      rw [q1, q2, xR_cg (b1 296 (by omega) (by omega) (by omega) (by omega)), xR_cg (b1 419 (by omega) (by omega) (by omega) (by omega)), xR_cg (k8 296 (by omega)), xR_cg (k8 419 (by omega))]
      exact hv i i0 i1
    · rw [xR_cg (t1 513 (by omega) (by omega) (by omega)), xR_cg (t1 514 (by omega) (by omega) (by omega)), xR_cg (t1 515 (by omega) (by omega) (by omega))]
      exact b4 e e0 e1 h3
    · rw [xR_cg (t1 513 (by omega) (by omega) (by omega)), xR_cg (t1 514 (by omega) (by omega) (by omega)), xR_cg (t1 515 (by omega) (by omega) (by omega))]
      exact b5 hx
    · unfold yk200_188
      rw [zL, xB_ret]
  unfold yk200_156
  rw [hm8, z9, xB_ret]
  have a2' : ∀ k, k ≠ 14 → m9 508 k = m 508 k := fun k hk => by rw [a2 k hk, k8 508 (by omega), c508]
  by_cases hx : 0 < x
  · rw [if_pos hx]
    have pb' := pb hx
    obtain ⟨mA, zA, b1, b2, b3, b4, b5, b6, b7⟩ := add_ext (B := B) (m := m9) (kd := 3) (st := pl) (ln := nb) a3 cb.1 (ct hx)
    rw [zA, xB_ret]
    refine tail mA (fun a h1 h2 h3 h4 => by rw [b1 a h1 h2 h3 h4, a1 a h1 h2 h3 h4]) (fun k hk => by rw [b2 k hk, a2' k hk]) (by rw [b3, if_pos hx]) (fun e e0 e1 h3 => ?_) (fun _ => ⟨by rw [b5]; decide, by rw [b6]; exact w32_id (by omega) (by omega), by rw [b7]; exact w32_id (by omega) (by omega)⟩)
    have lt := cnt_lt (P := fun e => decide (K e ≠ 3)) (i := e.toNat) (n := (xR m 536 52).toNat) (by omega) (by show decide (K (e.toNat : Int) ≠ 3) = true; rw [Int.toNat_of_nonneg e0]; exact decide_eq_true h3)
    have q := b4 (cnt (fun e => decide (K e ≠ 3)) e.toNat) (by omega)
    rw [q.1, q.2.1, q.2.2]
    exact a4' e e0 e1 h3
  · rw [if_neg hx]
    exact tail m9 a1 a2' (by rw [a3, if_neg hx, Int.add_zero]) a4' (fun h => absurd h hx)
end CHC
