/-! THE READERS: what a comparison is, by the class; the reference's comparison in pieces -/
def rcE (B : Nat) (x : Int) (m : xw_M) : xP := xB (yf266 B 61 m) fun v5 m5 => if v5 = 0 then (xB (yf266 B 15422 m5) fun v6 m6 => if v6 = 0 then (xB (yf266 B 60 m6) fun v7 m7 => if v7 = 0 then (xB (yf266 B 15421 m7) fun v8 m8 => if v8 = 0 then (xB (yf266 B 62 m8) fun v9 m9 => if v9 = 0 then (xB (yf266 B 15933 m9) fun v10 m10 => if v10 = 0 then (xB (yf257 B 17 m10) fun v11 m11 => if v11 = 0 then (xB (yf257 B 18 m11) fun v12 m12 => if v12 = 0 then (xB (yf257 B 16 m12) fun v13 m13 => if v13 = 0 then (xB (yf258 B 0 m13) fun v14 m14 => if v14 = 0 then (some (.inl 0, m14)) else (if xw_obb 13 (m14 536 23) = true then if (0 : Int) ≤ x ∧ x < (xw_le B (xw_rf (m14 536 23) 15)) then if xw_obb 16 (xw_rf (m14 536 23) 15) = true then (yk277_242 B x (-1) (xw_u m14 (xw_rf (m14 536 23) 15) x (-1))) else none else none else none)) else (xB (yf258 B 1 m13) fun v15 m15 => if v15 = 0 then (some (.inl 0, m15)) else (if xw_obb 13 (m15 536 23) = true then if (0 : Int) ≤ x ∧ x < (xw_le B (xw_rf (m15 536 23) 15)) then if xw_obb 16 (xw_rf (m15 536 23) 15) = true then xB (yf248 B (xw_u m15 (xw_rf (m15 536 23) 15) x 8)) fun _ m16 => xB (yf257 B 18 m16) fun v17 m17 => xB (yf258 B v17 m17) fun v18 m18 => yk277_242 B x 8 m18 else none else none else none))) else (xB (yf258 B 1 m12) fun v19 m19 => if v19 = 0 then (some (.inl 0, m19)) else (if xw_obb 13 (m19 536 23) = true then if (0 : Int) ≤ x ∧ x < (xw_le B (xw_rf (m19 536 23) 15)) then if xw_obb 16 (xw_rf (m19 536 23) 15) = true then (yk277_242 B x 7 (xw_u m19 (xw_rf (m19 536 23) 15) x 7)) else none else none else none))) else (xB (yf258 B 1 m11) fun v20 m20 => if v20 = 0 then (some (.inl 0, m20)) else (if xw_obb 13 (m20 536 23) = true then if (0 : Int) ≤ x ∧ x < (xw_le B (xw_rf (m20 536 23) 15)) then if xw_obb 16 (xw_rf (m20 536 23) 15) = true then (yk277_242 B x 6 (xw_u m20 (xw_rf (m20 536 23) 15) x 6)) else none else none else none))) else (xB (yf258 B 1 m10) fun v21 m21 => if v21 = 0 then (some (.inl 0, m21)) else (if xw_obb 13 (m21 536 23) = true then if (0 : Int) ≤ x ∧ x < (xw_le B (xw_rf (m21 536 23) 15)) then if xw_obb 16 (xw_rf (m21 536 23) 15) = true then (yk277_242 B x 5 (xw_u m21 (xw_rf (m21 536 23) 15) x 5)) else none else none else none))) else (xB (yf258 B 1 m9) fun v22 m22 => if v22 = 0 then (some (.inl 0, m22)) else (if xw_obb 13 (m22 536 23) = true then if (0 : Int) ≤ x ∧ x < (xw_le B (xw_rf (m22 536 23) 15)) then if xw_obb 16 (xw_rf (m22 536 23) 15) = true then (yk277_242 B x 4 (xw_u m22 (xw_rf (m22 536 23) 15) x 4)) else none else none else none))) else (xB (yf258 B 1 m8) fun v23 m23 => if v23 = 0 then (some (.inl 0, m23)) else (if xw_obb 13 (m23 536 23) = true then if (0 : Int) ≤ x ∧ x < (xw_le B (xw_rf (m23 536 23) 15)) then if xw_obb 16 (xw_rf (m23 536 23) 15) = true then (yk277_242 B x 3 (xw_u m23 (xw_rf (m23 536 23) 15) x 3)) else none else none else none))) else (xB (yf258 B 1 m7) fun v24 m24 => if v24 = 0 then (some (.inl 0, m24)) else (if xw_obb 13 (m24 536 23) = true then if (0 : Int) ≤ x ∧ x < (xw_le B (xw_rf (m24 536 23) 15)) then if xw_obb 16 (xw_rf (m24 536 23) 15) = true then (yk277_242 B x 2 (xw_u m24 (xw_rf (m24 536 23) 15) x 2)) else none else none else none))) else (xB (yf258 B 1 m6) fun v25 m25 => if v25 = 0 then (some (.inl 0, m25)) else (if xw_obb 13 (m25 536 23) = true then if (0 : Int) ≤ x ∧ x < (xw_le B (xw_rf (m25 536 23) 15)) then if xw_obb 16 (xw_rf (m25 536 23) 15) = true then (yk277_242 B x 1 (xw_u m25 (xw_rf (m25 536 23) 15) x 1)) else none else none else none))) else (xB (yf258 B 1 m5) fun v26 m26 => if v26 = 0 then (some (.inl 0, m26)) else (if xw_obb 13 (m26 536 23) = true then if (0 : Int) ≤ x ∧ x < (xw_le B (xw_rf (m26 536 23) 15)) then if xw_obb 16 (xw_rf (m26 536 23) 15) = true then (yk277_242 B x 0 (xw_u m26 (xw_rf (m26 536 23) 15) x 0)) else none else none else none))
/-- a comparison holds for a value: how, first, second, the list -/
def cmv (h a b : Int) (L : Int → Int) (v : Int) : Prop := (h = 0 ∧ v = a) ∨ (h = 1 ∧ v ≠ a) ∨ (h = 2 ∧ v < a) ∨ (h = 3 ∧ v ≤ a) ∨ (h = 4 ∧ a < v) ∨ (h = 5 ∧ a ≤ v) ∨ (h = 6 ∧ a ≤ v ∧ v ≤ b) ∨ (h = 7 ∧ ∃ k, 0 ≤ k ∧ k < a ∧ L k = v) ∨ (h = 8 ∧ ¬ ∃ k, 0 ≤ k ∧ k < a ∧ L k = v)
theorem hold_f (B : Nat) {k : Int} (k0 : 0 ≤ k) (k1 : k < 60) : xw_obb 18 (231 + k) = true ∧ xw_le B (231 + k) = 1000 := by
  have h1 : ∀ j : Nat, j < 60 → xw_obb 18 (231 + (j : Int)) = true := by decide
  have h2 : ∀ j : Nat, j < 60 → (xw_ly (231 + j)).2.1 = 1000 := by decide
  obtain ⟨j, rfl⟩ : ∃ j : Nat, k = j := ⟨k.toNat, by omega⟩
  refine ⟨h1 j (by omega), ?_⟩
  have e : (231 + (j : Int)).toNat = 231 + j := by omega
  have n1 : Nat.beq (231 + j) 516 = false := by
    rw [Bool.eq_false_iff]
    intro h
    have := Nat.eq_of_beq_eq_true h
    omega
  have n2 : Nat.beq (231 + j) 517 = false := by
    rw [Bool.eq_false_iff]
    intro h
    have := Nat.eq_of_beq_eq_true h
    omega
  unfold xw_le xw_ln
  rw [e, n1, n2, h2 j (by omega)]
  rfl
section CMP
variable {B : Nat} {c r : xw_M}
theorem adm_l {lo hi t vc ce n : Int} {V : Int → Int} (ot : xw_obb 3 t = true) (ov : xw_obb 16 vc = true) (lv : xw_le B vc = 1000) (oc : xw_obb 18 ce = true) (lc : xw_le B ce = 1000) (tc : t ≠ ce) (vn : vc ≠ ce) (n1 : n ≤ 1000) : ∀ (N : Nat) (x : Int) (c : xw_M), 0 ≤ x → (n - x).toNat < N → xR c t 11 = n → (∀ p, xR c vc p = V p) → ∃ c', xl6 (yl78_55 B) N lo hi t vc ce x c = some (.inl 0, c') ∧ (∀ a, a ≠ ce → c' a = c a) ∧ ∀ p, xR c' ce p = if x ≤ p ∧ p < n ∧ lo ≤ V p ∧ V p ≤ hi then 1 else xR c ce p := by
  intro N
  induction N with
  | zero => intro x c _ h; omega
  | succ N ih =>
    intro x c x0 hx hn hV
    show ∃ c', yl78_55 B (xl6 (yl78_55 B) N) lo hi t vc ce x c = _ ∧ _
    unfold yl78_55
    rw [if_pos ot, hn]
    by_cases e : x < n
    · rw [if_pos e, lv, if_pos ⟨x0, by omega⟩, if_pos ov, hV, w32_id (by omega) (by omega)]
      by_cases a : V x < lo
      · rw [if_pos a]
        obtain ⟨c', z, f, g⟩ := ih (x + 1) c (by omega) (by omega) hn hV
        refine ⟨c', z, f, fun p => ?_⟩
        rw [g p]
        by_cases h : x + 1 ≤ p ∧ p < n ∧ lo ≤ V p ∧ V p ≤ hi
        · rw [if_pos h, if_pos ⟨by omega, h.2⟩]
        · rw [if_neg h, if_neg (fun k => h ⟨by
            by_cases q : p = x
            · subst q; omega
            · omega, k.2⟩)]
      · rw [if_neg a]
        by_cases b : hi < V x
        · rw [if_pos b]
          obtain ⟨c', z, f, g⟩ := ih (x + 1) c (by omega) (by omega) hn hV
          refine ⟨c', z, f, fun p => ?_⟩
          rw [g p]
          by_cases h : x + 1 ≤ p ∧ p < n ∧ lo ≤ V p ∧ V p ≤ hi
          · rw [if_pos h, if_pos ⟨by omega, h.2⟩]
          · rw [if_neg h, if_neg (fun k => h ⟨by
              by_cases q : p = x
              · subst q; omega
              · omega, k.2⟩)]
        · rw [if_neg b, lc, if_pos ⟨x0, by omega⟩, if_pos oc]
          obtain ⟨c', z, f, g⟩ := ih (x + 1) (xw_u c ce x (w8 1)) (by omega) (by omega) (by rw [xR_cg (xu_c tc)]; exact hn) (fun p => by rw [xR_cg (xu_c vn)]; exact hV p)
          refine ⟨c', z, fun a ha => by rw [f a ha, xu_c ha], fun p => ?_⟩
          rw [g p]
          by_cases q : p = x
          · subst q
            rw [if_neg (by omega), if_pos ⟨by omega, by omega, by omega, by omega⟩]
            exact xR_at (by decide)
          · rw [xR_ne (by omega)]
            by_cases h : x + 1 ≤ p ∧ p < n ∧ lo ≤ V p ∧ V p ≤ hi
            · rw [if_pos h, if_pos ⟨by omega, h.2⟩]
            · rw [if_neg h, if_neg (fun k => h ⟨by omega, k.2⟩)]
    · rw [if_neg e]
      refine ⟨c, rfl, fun _ _ => rfl, fun p => ?_⟩
      rw [if_neg (by omega)]
/-- the comparison in the making holds for values from lo to hi, too -/
theorem adm_ok {lo hi n d l : Int} (hn : xR c 223 10 = n + 1) (n0 : 0 ≤ n) (n1 : n < 60) (hc : xR c 229 n = 4 * d + l) (d0 : 0 ≤ d) (d1 : d < 8) (l0 : 0 ≤ l) (l1 : l < 4) (hm : xR c (15 + 26 * d) 11 ≤ 1000) : ∃ c', yf78 B lo hi c = some (.inl 0, c') ∧ (∀ a, a ≠ 231 + n → c' a = c a) ∧ ∀ p, xR c' (231 + n) p = if 0 ≤ p ∧ p < xR c (15 + 26 * d) 11 ∧ lo ≤ xR c (15 + 26 * d + 9 + l) p ∧ xR c (15 + 26 * d + 9 + l) p ≤ hi then 1 else xR c (231 + n) p := by
  obtain ⟨o0, ⟨_, _, _, r3, _⟩, ⟨_, _, _, ob8, _⟩, ⟨_, _, _, le8, _⟩⟩ := dm_f B d0 d1
  obtain ⟨⟨kd, rf, ob, le⟩, _⟩ := dm_l B d0 d1 l0 l1
  obtain ⟨h1, h2⟩ := hold_f B n0 n1
  have dv : (4 * d + l) / 4 = d := by omega
  have md : (4 * d + l) % 4 = l := by omega
  unfold yf78
  rw [hn, show n + 1 - 1 = n by omega, hc, dv, md, r3, le8, rf]
  rw [if_pos ⟨n0, n1⟩, if_pos (by omega), if_pos ⟨d0, d1⟩, if_pos o0, if_pos ⟨l0, by omega⟩, if_pos kd, if_pos ob8]
  generalize hN : (1000000 : Nat) = N
  exact adm_l (V := fun p => xR c (15 + 26 * d + 9 + l) p) o0 ob le h1 h2 (by omega) (by omega) hm N 0 c (by omega) (by omega) rfl (fun _ => rfl)
theorem turn_l {ce : Int} (oc : xw_obb 18 ce = true) (lc : xw_le B ce = 1000) : ∀ (N : Nat) (x : Int) (c : xw_M), 0 ≤ x → (1000 - x).toNat < N → (∀ p, x ≤ p → p < 1000 → xR c ce p = 0 ∨ xR c ce p = 1) → ∃ c', xl2 (yl81_14 B) N ce x c = some (.inl 0, c') ∧ (∀ a, a ≠ ce → c' a = c a) ∧ ∀ p, xR c' ce p = if x ≤ p ∧ p < 1000 then 1 - xR c ce p else xR c ce p := by
  intro N
  induction N with
  | zero => intro x c _ h; omega
  | succ N ih =>
    intro x c x0 hx hb
    show ∃ c', yl81_14 B (xl2 (yl81_14 B) N) ce x c = _ ∧ _
    unfold yl81_14
    by_cases e : x < 1000
    · rw [if_pos e, lc, if_pos ⟨x0, e⟩, if_pos oc, w32_id (by omega) (by omega)]
      have v : w8 (w8 (xw_ixorf (xR c ce x) 1)) = 1 - xR c ce x := by
        rcases hb x (by omega) e with k | k <;> rw [k] <;> decide
      rw [v]
      obtain ⟨c', z, f, g⟩ := ih (x + 1) (xw_u c ce x (1 - xR c ce x)) (by omega) (by omega) (fun p p0 p1 => by rw [xR_ne (by omega)]; exact hb p (by omega) p1)
      refine ⟨c', z, fun a ha => by rw [f a ha, xu_c ha], fun p => ?_⟩
      rw [g p]
      by_cases q : p = x
      · subst q
        rw [if_neg (by omega), if_pos ⟨by omega, e⟩]
        have := hb p (by omega) e
        exact xR_at (w32_id (by omega) (by omega))
      · rw [xR_ne (by omega)]
        by_cases h : x ≤ p ∧ p < 1000
        · rw [if_pos h, if_pos ⟨by omega, h.2⟩]
        · rw [if_neg h, if_neg (fun k => h ⟨by omega, k.2⟩)]
    · rw [if_neg e]
      refine ⟨c, rfl, fun _ _ => rfl, fun p => ?_⟩
      rw [if_neg (by omega)]
theorem turn_ok {n : Int} (hn : xR c 223 10 = n + 1) (n0 : 0 ≤ n) (n1 : n < 60) (hb : ∀ p, 0 ≤ p → p < 1000 → xR c (231 + n) p = 0 ∨ xR c (231 + n) p = 1) : ∃ c', yf81 B c = some (.inl 0, c') ∧ (∀ a, a ≠ 231 + n → c' a = c a) ∧ ∀ p, xR c' (231 + n) p = if 0 ≤ p ∧ p < 1000 then 1 - xR c (231 + n) p else xR c (231 + n) p := by
  obtain ⟨h1, h2⟩ := hold_f B n0 n1
  unfold yf81
  rw [hn, show n + 1 - 1 = n by omega, if_pos ⟨n0, n1⟩]
  generalize hN : (1000000 : Nat) = N
  exact turn_l h1 h2 N 0 c (by omega) (by omega) hb
/-- the lowest levels that are asked for: n comparisons, g groups -/
def LW (c : xw_M) (n g : Int) : Prop := ∀ d, 0 ≤ d → d < 8 → ∀ v, v ≤ xR c 292 d ↔ v ≤ 4 ∧ (∀ i, 0 ≤ i → i < n → xR c 229 i / 4 = d → v ≤ xR c 229 i % 4) ∧ ∀ i, 0 ≤ i → i < g → xR c 227 i / 4 = d → v ≤ xR c 227 i % 4
theorem LW_need {n g col : Int} (h : LW c n g) (c0 : 0 ≤ col) (c1 : col < 32) : ∃ c', yf75 B col c = some (.inl 0, c') ∧ (∀ a, a ≠ 292 → c' a = c a) ∧ ∀ d, 0 ≤ d → d < 8 → ∀ v, v ≤ xR c' 292 d ↔ v ≤ xR c 292 d ∧ (col / 4 = d → v ≤ col % 4) := by
  unfold yf75
  rw [if_pos c0, if_pos ⟨by omega, by omega⟩]
  refine ⟨_, rfl, fun a ha => xu_c ha, fun d d0 d1 v => ?_⟩
  by_cases e : col / 4 = d
  · subst e
    have b4 := (h (col / 4) (by omega) (by omega) (xR c 292 (col / 4))).mp (Int.le_refl _)
    have w := w32_cg (w32_xR c 292 (col / 4))
    rw [xR_at (w32_id (by have := w.1; omega) (by omega))]
    omega
  · rw [xR_ne (by omega)]
    omega
/-- a comparison begins -/
theorem begc {n g p col : Int} (hn : xR c 223 10 = n) (n0 : 0 ≤ n) (n1 : n < 60) (c0 : 0 ≤ col) (c1 : col < 32) (p0 : 0 ≤ p) (S : SB c n p) (L : LW c n g) : ∃ c', yf74 B col c = some (.inl 0, c') ∧ (∀ a, a ≠ 223 → a ≠ 229 → a ≠ 231 + n → a ≠ 291 → a ≠ 292 → c' a = c a) ∧ (∀ k, k ≠ 10 → k ≠ 13 → c' 223 k = c 223 k) ∧ xR c' 223 10 = n + 1 ∧ xR c' 229 n = col ∧ (∀ i, i ≠ n → c' 229 i = c 229 i) ∧ (∀ x, 0 ≤ x → x < 1000 → xR c' (231 + n) x = 0) ∧ SB c' (n + 1) (p + 1) ∧ (∀ v, SC c' v = v n :: SC c v) ∧ LW c' (n + 1) g := by
  obtain ⟨c1', z1, f1, g1⟩ := LW_need (B := B) L c0 c1
  obtain ⟨h1, h2⟩ := hold_f B n0 n1
  unfold yf74
  rw [z1, xB_ret, xR_cg (f1 223 (by omega)), hn, if_pos ⟨n0, n1⟩, fill76 (by decide) h1 (by omega) (by omega), xB_ret, h2]
  generalize h3 : xfill (xw_u c1' 229 n col) (231 + n) 0 1000 0 = c3
  have e3 : ∀ a, a ≠ 229 → a ≠ 231 + n → a ≠ 292 → c3 a = c a := fun a a1 a2 a3 => by rw [← h3, xfill_ne a2, xu_c a1, f1 a a3]
  have S3 : SB c3 n p := by
    have k1 : c3 223 = c 223 := e3 223 (by omega) (by omega) (by omega)
    have k2 : c3 291 = c 291 := e3 291 (by omega) (by omega) (by omega)
    unfold SB SC at *
    rw [xR_cg k1, xR_cg k2]
    exact S
  have n3 : xR c3 223 10 = n := by rw [xR_cg (e3 223 (by omega) (by omega) (by omega))]; exact hn
  obtain ⟨c4, z4, f4, S4, E4⟩ := add_n (B := B) S3 n0 n1 p0
  rw [n3, z4, xB_ret]
  have n4 : xR c4 223 10 = n := by rw [xR_fld (f4.2 10 (by omega))]; exact n3
  rw [n4]
  have q : ∀ a, a ≠ 223 → a ≠ 291 → xw_u c4 223 10 (n + 1) a = c3 a := fun a a1 a2 => by rw [xu_c a1, f4.1 a a1 a2]
  have i229 : ∀ i, i ≠ n → c3 229 i = c 229 i := fun i hi => by rw [← h3, xfill_ne (by omega), xu_ne (by omega), f1 229 (by omega)]
  have i229n : xR c3 229 n = col := by
    rw [← h3, xR_cg (xfill_ne (by omega))]
    exact xR_at (w32_id (by omega) (by omega))
  refine ⟨_, rfl, fun a a1 a2 a3 a4 a5 => by rw [q a a1 a4, e3 a a2 a3 a5], fun k k1 k2 => by rw [xu_ne (by omega), f4.2 k k2, e3 223 (by omega) (by omega) (by omega)], xR_at (w32_id (by omega) (by omega)), by rw [xR_cg (q 229 (by omega) (by omega))]; exact i229n, fun i hi => by rw [q 229 (by omega) (by omega)]; exact i229 i hi, fun x x0 x1 => ?_, ?_, fun v => ?_, fun d d0 d1 v => ?_⟩
  · rw [xR_cg (q (231 + n) (by omega) (by omega)), ← h3]
    unfold xR
    rw [xfill_at x0 x1]
    rfl
  · have k13 : xR (xw_u c4 223 10 (n + 1)) 223 13 = xR c4 223 13 := xR_ne (by omega)
    have k291 : xR (xw_u c4 223 10 (n + 1)) 291 = xR c4 291 := xR_cg (xu_c (by omega))
    unfold SB SC at S4 ⊢
    rw [k13, k291]
    exact S4
  · rw [SC_fr (c := c4) (xu_ne (by omega)) (fun i _ _ => by rw [xR_cg (xu_c (by omega))]), E4 v]
    congr 1
    unfold SC
    rw [xR_cg (e3 223 (by omega) (by omega) (by omega)), xR_cg (e3 291 (by omega) (by omega) (by omega))]
  · have k292 : xR (xw_u c4 223 10 (n + 1)) 292 = xR c1' 292 := by rw [xR_cg (q 292 (by omega) (by omega)), ← h3, xR_cg (xfill_ne (by omega)), xR_cg (xu_c (by omega))]
    have k227 : xR (xw_u c4 223 10 (n + 1)) 227 = xR c 227 := by rw [xR_cg (q 227 (by omega) (by omega)), xR_cg (e3 227 (by omega) (by omega) (by omega))]
    have k229 : xR (xw_u c4 223 10 (n + 1)) 229 = xR c3 229 := xR_cg (q 229 (by omega) (by omega))
    rw [k292, k227, k229, g1 d d0 d1 v, L d d0 d1 v]
    refine ⟨fun ⟨⟨a1, a2, a3⟩, b⟩ => ⟨a1, fun i i0 i1 e => ?_, a3⟩, fun ⟨a1, a2, a3⟩ => ⟨⟨a1, fun i i0 i1 e => ?_, a3⟩, fun e => ?_⟩⟩
    · by_cases hi : i = n
      · rw [hi, i229n] at e ⊢; exact b e
      · rw [xR_fld (i229 i hi)] at e ⊢; exact a2 i i0 (by omega) e
    · have := a2 i i0 (by omega) (by rw [xR_fld (i229 i (by omega))]; exact e)
      rw [xR_fld (i229 i (by omega))] at this
      exact this
    · have := a2 n n0 (by omega) (by rw [i229n]; exact e)
      rw [i229n] at this
      exact this
end CMP
