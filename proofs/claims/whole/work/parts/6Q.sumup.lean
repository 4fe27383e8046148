/-! A VIEW'S TABLE: its rows out of sorted facts (sumUp) -/
def gop (w x y : Int) : Int := if w = 0 then w64 (x + y) else if w = 1 then min x y else max x y
/-- sum (0), least (1), greatest (2) of k + 1 facts from a on -/
def ga (w : Int) (A o : Int → Int) (a : Int) : Nat → Int
  | 0 => A (o a)
  | k + 1 => gop w (ga w A o a k) (A (o (a + ((k : Nat) + 1))))
/-- the cells of a row of the facts a .. b -/
def Tvp (κ A : Int → Int → Int) (P : Int) (hd o : Int → Int) (a b c : Int) : Int := if c < P then κ (hd c) (o a) else if c = P then b - a + 1 else ga ((c - P - 1) % 3) (A ((c - P - 1) / 3)) o a (b - a).toNat
def Tvw (κ A : Int → Int → Int) (P : Int) (hd o st : Int → Int) (c j : Int) : Int := Tvp κ A P hd o (st j) (st (j + 1) - 1) c
theorem ga_w {w : Int} {A o : Int → Int} (hA : ∀ x, w64 (A x) = A x) (a : Int) (k : Nat) : w64 (ga w A o a k) = ga w A o a k := by
  induction k with
  | zero => exact hA _
  | succ k ih =>
    unfold ga gop
    split
    · exact w64_w _
    · split
      · exact w64_mn ih (hA _)
      · exact w64_mx ih (hA _)
theorem Tvw_w {κ A : Int → Int → Int} {P : Int} {hd o st : Int → Int} (hκ : ∀ d x, w64 (κ d x) = κ d x) (hA : ∀ k x, w64 (A k x) = A k x) (hst : ∀ j, xw_rg (st j)) : cwd (Tvw κ A P hd o st) := by
  intro c j
  unfold Tvw Tvp
  split
  · exact hκ _ _
  · split
    · have h1 := hst j
      have h2 := hst (j + 1)
      unfold xw_rg at h1 h2
      exact w64_id (by omega) (by omega)
    · exact ga_w (hA _) _ _
theorem SR_ex (tb N : Int) (κ : Int → Int → Int) (o : Int → Int) (n : Nat) : ∃ R st, SR tb N κ o st n R ∧ ∀ j, 0 ≤ st j ∧ st j ≤ n := by
  induction n with
  | zero => exact ⟨0, fun _ => 0, ⟨by decide, by decide, fun h => absurd h (by decide), rfl, fun j h1 h2 => by omega⟩, fun j => ⟨Int.le_refl 0, Int.le_refl 0⟩⟩
  | succ n ih =>
    obtain ⟨R, st, ⟨h1, h2, h3, h4, h5⟩, hb⟩ := ih
    by_cases hn : n = 0
    · subst hn
      refine ⟨1, fun j => if j ≤ 0 then 0 else 1, ⟨by decide, by decide, fun _ => ⟨by decide, rfl⟩, rfl, fun j q1 q2 => ?_⟩, fun j => ?_⟩
      · have : j = 0 := by omega
        subst this
        exact ⟨by decide, fun q q3 q4 => by
          have q3 : (0 : Int) < q := q3
          have q4 : q < 1 := q4
          omega, fun h => by omega⟩
      · dsimp only
        split <;> exact ⟨by decide, by decide⟩
    · obtain ⟨hR, hst0⟩ := h3 (by omega)
      by_cases he : eqv tb N κ o ((n : Int) - 1) n
      · refine ⟨R, fun j => if j = R then ((n + 1 : Nat) : Int) else st j, ⟨h1, by omega, fun _ => ⟨hR, ?_⟩, if_pos rfl, fun j q1 q2 => ?_⟩, fun j => ?_⟩
        · dsimp only
          rw [if_neg (by omega)]
          exact hst0
        · dsimp only
          obtain ⟨k1, k2, k3⟩ := h5 j q1 q2
          rw [if_neg (show ¬ j = R by omega)]
          by_cases ej : j + 1 = R
          · rw [if_pos ej]
            rw [ej, h4] at k1 k2
            refine ⟨by omega, fun q q3 q4 => ?_, k3⟩
            by_cases eq2 : q = n
            · rw [eq2]; exact he
            · exact k2 q q3 (by omega)
          · rw [if_neg ej]
            exact ⟨k1, k2, k3⟩
        · dsimp only
          have := hb j
          split <;> omega
      · refine ⟨R + 1, fun j => if j = R + 1 then ((n + 1 : Nat) : Int) else st j, ⟨by omega, by omega, fun _ => ⟨by omega, ?_⟩, if_pos rfl, fun j q1 q2 => ?_⟩, fun j => ?_⟩
        · dsimp only
          rw [if_neg (by omega)]
          exact hst0
        · dsimp only
          rw [if_neg (show ¬ j = R + 1 by omega)]
          by_cases ej : j = R
          · subst ej
            rw [if_pos rfl, h4]
            exact ⟨by omega, fun q q3 q4 => by omega, fun _ => he⟩
          · rw [if_neg (show ¬ j + 1 = R + 1 by omega)]
            exact h5 j q1 (by omega)
        · dsimp only
          have := hb j
          split <;> omega
theorem SR_mono {tb N : Int} {κ : Int → Int → Int} {o st : Int → Int} {n R : Int} (h : SR tb N κ o st n R) : ∀ (k : Nat) (j : Int), 0 ≤ j → j + k ≤ R → st j + k ≤ st (j + k) := by
  intro k
  induction k with
  | zero => intro j _ _; simp
  | succ k ih =>
    intro j h0 h1
    have q1 := ih j h0 (by omega)
    have q2 := (h.2.2.2.2 (j + k) (by omega) (by omega)).1
    rw [show j + ((k + 1 : Nat) : Int) = j + (k : Int) + 1 from by omega]
    omega
section SUMUP
variable {B : Nat} {m : xw_M} {r W cap D M P n R : Int} {hd st : Int → Int}
theorem sumup_ok (hr : rwo r W cap) (hv : vsh m D M P hd) (ht : tsok m r D n) (hn : 0 ≤ n ∧ n ≤ cap) (h5 : xR m r 5 = n) (ho : prm (xR m (r + 12 + W)) n) (hS : SR 0 D (tkey m r) (xR m (r + 12 + W)) st n R) {s : Nat} (hs : 1024 * (s : Int) < R) :
    ∃ m', yf194 B r (st (1024 * (s : Int))) m = some (.inl (st (min R (1024 * ((s : Int) + 1)))), m') ∧ (∀ a, a < 302 ∨ 336 < a → m' a = m a) ∧ (∀ k, k ≠ 8 → m' 302 k = m 302 k) ∧ xR m' 302 8 = nrow R s ∧ ∀ c i, 0 ≤ c → c < P + 1 + 3 * M → 0 ≤ i → i < nrow R s → xJ m' (304 + c) i = Tvw (tkey m r) (fun k => xJ m (r + 12 + k)) P hd (xR m (r + 12 + W)) st c (1024 * (s : Int) + i) := by
  have hb := rw_b hr
  obtain ⟨f1, ⟨f2, f3, f4, f5, f6⟩, ⟨f7, f8, f9, f10, f11⟩, ⟨f12, f13, f14, f15, f16⟩⟩ := rw_f B hr
  obtain ⟨⟨hD0, hD8⟩, ⟨hM0, hM8⟩, ⟨hP0, hPD⟩, _⟩ := hv
  have hS2 := hS
  obtain ⟨s1, s2, s3, s4, s5⟩ := hS2
  have mono := SR_mono hS
  have hst0 : ∀ j, 0 ≤ j → j ≤ R → 0 ≤ st j ∧ st j ≤ n := by
    intro j h0 h1
    by_cases hn0 : 0 < n
    · have q1 := mono j.toNat 0 (by omega) (by omega)
      have q2 := mono (R - j).toNat j h0 (by omega)
      rw [(s3 hn0).2, show (0 : Int) + (j.toNat : Nat) = j from by omega] at q1
      rw [show j + ((R - j).toNat : Nat) = R from by omega, s4] at q2
      omega
    · have : j = R := by omega
      rw [this, s4]
      omega
  generalize hof : xR m (r + 12 + W) = o at *
  generalize hAf : (fun k => xJ m (r + 12 + k)) = A
  have hA : ∀ k, xJ m (r + 12 + k) = A k := fun k => by rw [← hAf]
  have hAw : ∀ k x, w64 (A k x) = A k x := fun k x => by rw [← hA]; exact w64_xJ _ _ _
  have hfrom := hst0 (1024 * (s : Int)) (by omega) (by omega)
  have hfl : st (1024 * (s : Int)) < n := by
    have := mono (R - 1024 * (s : Int)).toNat (1024 * (s : Int)) (by omega) (by omega)
    rw [show 1024 * (s : Int) + ((R - 1024 * (s : Int)).toNat : Nat) = R from by omega, s4] at this
    omega
  unfold yf194
  have goal := xH_ex (Q := fun v m' => v = st (min R (1024 * ((s : Int) + 1))) ∧ (∀ a, a < 302 ∨ 336 < a → m' a = m a) ∧ (∀ k, k ≠ 8 → m' 302 k = m 302 k) ∧ xR m' 302 8 = nrow R s ∧ ∀ c i, 0 ≤ c → c < P + 1 + 3 * M → 0 ≤ i → i < nrow R s → xJ m' (304 + c) i = Tvw (tkey m r) A P hd o st c (1024 * (s : Int) + i)) (xl3_rule (F := yl194_7 B) (fun x0 x1 x2 m' => x0 = r ∧ x1 = st (1024 * (s : Int)) ∧ x1 ≤ x2 ∧ x2 ≤ n ∧ (∀ a, a < 302 ∨ 336 < a → m' a = m a) ∧ (∀ k, k ≠ 8 → m' 302 k = m 302 k) ∧ ((x2 = x1 ∧ xR m' 302 8 = 0) ∨ ∃ z, 0 ≤ z ∧ z < 1024 ∧ xR m' 302 8 = z + 1 ∧ 1024 * (s : Int) + z < R ∧ st (1024 * (s : Int) + z) < x2 ∧ x2 ≤ st (1024 * (s : Int) + z + 1) ∧ (∀ c i, 0 ≤ c → c < P + 1 + 3 * M → 0 ≤ i → i < z → xJ m' (304 + c) i = Tvw (tkey m r) A P hd o st c (1024 * (s : Int) + i)) ∧ ∀ c, 0 ≤ c → c < P + 1 + 3 * M → xJ m' (304 + c) z = Tvp (tkey m r) A P hd o (st (1024 * (s : Int) + z)) (x2 - 1) c)) (fun _ _ x2 _ => (n - x2).toNat) ?_ 1000000 r (st (1024 * (s : Int))) (st (1024 * (s : Int))) (xw_u m 302 8 0) ⟨rfl, rfl, by omega, by omega, fun a ha => xu_c (by omega), fun k hk => by unfold xw_u; rw [if_neg (fun e => hk e.2)], Or.inl ⟨rfl, by rw [xR_u, if_pos ⟨rfl, rfl⟩]; rfl⟩⟩ (by omega))
  · obtain ⟨v, m', e, rfl, h⟩ := goal
    exact ⟨m', e, h⟩
  · intro q x0 x1 x2 m2 ⟨a0, a1, a2, a3, F, G, S⟩ ih
    subst a0 a1
    have r5 : xR m2 x0 5 = n := by rw [xR_cg (F x0 (by omega))]; exact h5
    have ro : xR m2 (x0 + 12 + W) = o := by rw [xR_cg (F _ (by omega)), hof]
    have hv2 : vsh m2 D M P hd := vsh_cg (show vsh m D M P hd from ⟨⟨hD0, hD8⟩, ⟨hM0, hM8⟩, ⟨hP0, hPD⟩, by assumption⟩) (F 3 (by omega)) (G 5 (by decide)) (G 6 (by decide)) (F 372 (by omega))
    have hk2 : ∀ mm : xw_M, (∀ a, a < 302 ∨ 336 < a → mm a = m a) → ∀ d x, 0 ≤ d → d < D → tkey mm x0 d x = tkey m x0 d x := fun mm FF d x d0 d1 => tkey_cg (D := D) (fun a ha => FF a (by omega)) (FF 371 (by omega)) (FF 372 (by omega)) (fun a h1 h2 => FF a (by omega)) hr ⟨d0, d1⟩ hD8 (fun hp => (ht d d0 d1 hp).1)
    have ht2 : ∀ mm : xw_M, (∀ a, a < 302 ∨ 336 < a → mm a = m a) → tsok mm x0 D n := fun mm FF d d0 d1 hp => by
      rw [xR_cg (FF 372 (by omega))] at hp
      obtain ⟨t1, t2, t3⟩ := ht d d0 d1 hp
      rw [xR_cg (FF 371 (by omega)), xR_cg (FF (15 + 26 * d + 23) (by omega)), xR_cg (FF (x0 + 3 + d) (by omega))]
      exact ⟨t1, t2, fun i i0 i1 => by rw [hk2 mm FF d i d0 d1]; exact t3 i i0 i1⟩
    -- a new row, z the one in the making then
    have new : ∀ z, 0 ≤ z → z < 1024 → x2 < n → xR m2 302 8 = z → 1024 * (s : Int) + z < R → st (1024 * (s : Int) + z) = x2 → (∀ c i, 0 ≤ c → c < P + 1 + 3 * M → 0 ≤ i → i < z → xJ m2 (304 + c) i = Tvw (tkey m x0) A P hd o st c (1024 * (s : Int) + i)) → xH (yk194_56 B q x0 (st (1024 * (s : Int))) x2 (o x2) m2) (fun v m' => v = st (min R (1024 * ((s : Int) + 1))) ∧ (∀ a, a < 302 ∨ 336 < a → m' a = m a) ∧ (∀ k, k ≠ 8 → m' 302 k = m 302 k) ∧ xR m' 302 8 = nrow R s ∧ ∀ c i, 0 ≤ c → c < P + 1 + 3 * M → 0 ≤ i → i < nrow R s → xJ m' (304 + c) i = Tvw (tkey m x0) A P hd o st c (1024 * (s : Int) + i)) (fun _ _ => False) := by
      intro z z0 z1 hx h8 hzR hzs hcells
      have hox := ho.1 x2 (by omega) hx
      have hstep := (s5 (1024 * (s : Int) + z) (by omega) hzR).1
      unfold yk194_56
      rw [h8, if_pos z1]
      have F3 : ∀ a, a < 302 ∨ 336 < a → (xw_u m2 302 8 (z + 1)) a = m a := fun a ha => by rw [xu_c (by omega)]; exact F a ha
      have hv3 : vsh (xw_u m2 302 8 (z + 1)) D M P hd := vsh_cg hv2 (xu_c (by decide)) (by unfold xw_u; rw [if_neg (by decide)]) (by unfold xw_u; rw [if_neg (by decide)]) (xu_c (by decide))
      obtain ⟨m3, e3, R3, K3, C3, A3⟩ := begin_ok (B := B) (m := xw_u m2 302 8 (z + 1)) (n := n) (x := o x2) (l := z) hr hv3 (ht2 _ F3) hn.2 hox ⟨z0, z1⟩ (by rw [xR_u, if_pos ⟨rfl, rfl⟩]; exact w32_id (by omega) (by omega))
      rw [e3, xB_ret, w32_id (by omega) (by omega)]
      refine ih _ _ _ _ ⟨rfl, rfl, by omega, by omega, fun a ha => by rw [R3.1 a (by omega)]; exact F3 a ha, fun k hk => by rw [R3.1 302 (by omega)]; unfold xw_u; rw [if_neg (fun e => hk e.2)]; exact G k hk, Or.inr ⟨z, z0, z1, ?_, hzR, by omega, by omega, fun c i c0 c1 i0 i1 => ?_, fun c c0 c1 => ?_⟩⟩ (by omega)
      · rw [xR_cg (R3.1 302 (by omega)), xR_u, if_pos ⟨rfl, rfl⟩]
        exact w32_id (by omega) (by omega)
      · have : xJ m3 (304 + c) i = xJ m2 (304 + c) i := by
          unfold xJ
          rw [R3.2 c i c0 (by omega) (by omega), xu_c (by omega)]
        rw [this]
        exact hcells c i c0 c1 i0 i1
      · unfold Tvp
        by_cases q1 : c < P
        · rw [if_pos q1, K3 c c0 q1, hzs]
          obtain ⟨_, _, _, _, _, _, _, _, hhd⟩ := hv3
          exact hk2 _ F3 _ _ (hhd c c0 q1).1.1 (hhd c c0 q1).1.2
        · rw [if_neg q1]
          by_cases q2 : c = P
          · rw [if_pos q2, q2, C3, hzs]
            omega
          · rw [if_neg q2, A3 c (by omega) c1, hzs, show (x2 + 1 - 1 - x2).toNat = 0 from by omega, xJ_cg (F3 (x0 + 12 + (c - P - 1) / 3) (by omega)), hA]
            rfl
    unfold yl194_7
    rw [if_pos f1, r5, f4]
    by_cases hx : x2 < n
    · rw [if_pos hx, if_pos ⟨by omega, by omega⟩, if_pos f7, ro]
      rcases S with ⟨e1, e2⟩ | ⟨z, z0, z1, h8, hzR, hz2, hz3, hcl, hcp⟩
      · rw [if_neg (by omega)]
        exact new 0 (by omega) (by omega) hx e2 (by omega) (by rw [Int.add_zero]; exact e1.symm) (fun c i _ _ i0 i1 => by omega)
      · have hgt : st (1024 * (s : Int)) < x2 := by
          have := mono z.toNat (1024 * (s : Int)) (by omega) (by omega)
          rw [show 1024 * (s : Int) + (z.toNat : Nat) = 1024 * (s : Int) + z from by omega] at this
          omega
        have hstz := (hst0 (1024 * (s : Int) + z) (by omega) (by omega)).1
        have hox := ho.1 x2 (by omega) hx
        have hoy := ho.1 (x2 - 1) (by omega) (by omega)
        obtain ⟨v, ev, vb, v1⟩ := same_ok (B := B) hr hv2 (ht2 m2 F) hn.2 hox hoy
        rw [if_pos hgt, if_pos ⟨by omega, by omega⟩, ev, xB_ret]
        have hval : v = 1 ↔ eqv 0 D (tkey m x0) o (x2 - 1) x2 := by
          rw [v1]
          constructor
          · intro h
            exact ⟨by decide, fun d d0 d1 => by rw [← hk2 m2 F d _ d0 d1, ← hk2 m2 F d _ d0 d1]; exact (h d d0 d1).symm⟩
          · intro h d d0 d1
            rw [hk2 m2 F d _ d0 d1, hk2 m2 F d _ d0 d1]
            exact (h.2 d d0 d1).symm
        have hin : x2 < st (1024 * (s : Int) + z + 1) ↔ v = 1 := by
          constructor
          · intro h
            exact hval.mpr ((s5 (1024 * (s : Int) + z) (by omega) hzR).2.1 x2 hz2 h)
          · intro h
            refine Classical.byContradiction (fun hc => ?_)
            have he : x2 = st (1024 * (s : Int) + z + 1) := by omega
            have hlt : 1024 * (s : Int) + z + 1 < R := by
              refine Classical.byContradiction (fun hc2 => ?_)
              have : 1024 * (s : Int) + z + 1 = R := by omega
              rw [this, s4] at he
              omega
            exact (s5 (1024 * (s : Int) + z + 1) (by omega) hlt).2.2 (by omega) (by rw [← he]; exact hval.mp h)
        by_cases hv0 : v = 0
        · rw [if_pos hv0]
          have he : x2 = st (1024 * (s : Int) + z + 1) := by
            have : ¬ x2 < st (1024 * (s : Int) + z + 1) := fun h => by have := hin.mp h; omega
            omega
          have hlt : 1024 * (s : Int) + z + 1 < R := by
            refine Classical.byContradiction (fun hc2 => ?_)
            have : 1024 * (s : Int) + z + 1 = R := by omega
            rw [this, s4] at he
            omega
          have hdone : ∀ c i, 0 ≤ c → c < P + 1 + 3 * M → 0 ≤ i → i < z + 1 → xJ m2 (304 + c) i = Tvw (tkey m x0) A P hd o st c (1024 * (s : Int) + i) := by
            intro c i c0 c1 i0 i1
            by_cases ei : i = z
            · rw [ei, hcp c c0 c1, he]
              rfl
            · exact hcl c i c0 c1 i0 (by omega)
          by_cases hzl : z + 1 < 1024
          · refine new (z + 1) (by omega) hzl hx h8 (by omega) (by rw [← Int.add_assoc]; exact he.symm) hdone
          · unfold yk194_56
            rw [h8, if_neg hzl, xH_ret]
            have ez : z = 1023 := by omega
            subst ez
            refine ⟨?_, F, G, ?_, fun c i c0 c1 i0 i1 => hdone c i c0 c1 i0 (by unfold nrow at i1; omega)⟩
            · rw [show min R (1024 * ((s : Int) + 1)) = 1024 * (s : Int) + 1023 + 1 from by omega]
              exact he
            · rw [h8]
              unfold nrow
              omega
        · rw [if_neg hv0]
          have hlt := hin.mpr (by omega)
          obtain ⟨m3, e3, R3, K3, C3, A3⟩ := add_ok (B := B) (m := m2) (n := n) (x := o x2) (l := z) hr hv2 hn.2 hox ⟨z0, z1⟩ h8
          rw [e3, xB_ret, w32_id (by omega) (by omega)]
          refine ih _ _ _ _ ⟨rfl, rfl, by omega, by omega, fun a ha => by rw [R3.1 a (by omega)]; exact F a ha, fun k hk => by rw [R3.1 302 (by omega)]; exact G k hk, Or.inr ⟨z, z0, z1, by rw [xR_cg (R3.1 302 (by omega))]; exact h8, hzR, by omega, by omega, fun c i c0 c1 i0 i1 => ?_, fun c c0 c1 => ?_⟩⟩ (by omega)
          · have : xJ m3 (304 + c) i = xJ m2 (304 + c) i := by
              unfold xJ
              rw [R3.2 c i c0 (by omega) (by omega)]
            rw [this]
            exact hcl c i c0 c1 i0 i1
          · have hp := hcp c c0 c1
            unfold Tvp at hp ⊢
            by_cases q1 : c < P
            · rw [if_pos q1] at hp ⊢
              rw [K3 c c0 q1]
              exact hp
            · rw [if_neg q1] at hp ⊢
              by_cases q2 : c = P
              · rw [if_pos q2] at hp ⊢
                rw [q2] at hp ⊢
                rw [C3, hp]
                exact (w64_id (by omega) (by omega)).trans (by omega)
              · rw [if_neg q2] at hp ⊢
                obtain ⟨k1, k2, k3⟩ := A3 ((c - P - 1) / 3) (by omega) (by omega)
                rw [show (x2 + 1 - 1 - st (1024 * (s : Int) + z)).toNat = (x2 - 1 - st (1024 * (s : Int) + z)).toNat + 1 from by omega]
                show _ = gop _ (ga _ _ o _ _) (A _ (o (st (1024 * (s : Int) + z) + ((((x2 - 1 - st (1024 * (s : Int) + z)).toNat : Nat) : Int) + 1))))
                rw [show st (1024 * (s : Int) + z) + ((((x2 - 1 - st (1024 * (s : Int) + z)).toNat : Nat) : Int) + 1) = x2 from by omega, ← hp, ← hA]
                have ra : xJ m2 (x0 + 12 + (c - P - 1) / 3) = xJ m (x0 + 12 + (c - P - 1) / 3) := xJ_cg (F _ (by omega))
                rw [ra] at k1 k2 k3
                unfold gop
                rcases (by omega : (c - P - 1) % 3 = 0 ∨ (c - P - 1) % 3 = 1 ∨ (c - P - 1) % 3 = 2) with w | w | w
                · rw [if_pos w]
                  rw [show P + 1 + 3 * ((c - P - 1) / 3) = c from by omega] at k1
                  exact k1
                · rw [if_neg (by omega), if_pos w]
                  rw [show P + 1 + 3 * ((c - P - 1) / 3) + 1 = c from by omega] at k2
                  exact k2
                · rw [if_neg (by omega), if_neg (by omega)]
                  rw [show P + 1 + 3 * ((c - P - 1) / 3) + 2 = c from by omega] at k3
                  exact k3
    · rw [if_neg hx, xH_ret]
      have ex : x2 = n := by omega
      rcases S with ⟨e1, e2⟩ | ⟨z, z0, z1, h8, hzR, hz2, hz3, hcl, hcp⟩
      · omega
      · have heR : 1024 * (s : Int) + z + 1 = R := by
          refine Classical.byContradiction (fun hc => ?_)
          have := mono (R - (1024 * (s : Int) + z + 1)).toNat (1024 * (s : Int) + z + 1) (by omega) (by omega)
          rw [show 1024 * (s : Int) + z + 1 + ((R - (1024 * (s : Int) + z + 1)).toNat : Nat) = R from by omega, s4] at this
          omega
        refine ⟨?_, F, G, ?_, fun c i c0 c1 i0 i1 => ?_⟩
        · rw [show min R (1024 * ((s : Int) + 1)) = R from by omega, s4]
        · rw [h8]
          unfold nrow
          omega
        · by_cases ei : i = z
          · rw [ei, hcp c c0 c1]
            unfold Tvw
            rw [heR, s4, ex]
          · exact hcl c i c0 c1 i0 (by unfold nrow at i1; omega)
end SUMUP
