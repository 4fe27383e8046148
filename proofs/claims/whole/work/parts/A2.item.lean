/-! THE READERS: an item of a question, both sides -/
theorem q_l (B : Nat) {q : Int} (h : q = 544 ∨ q = 558) : xw_obb 13 q = true ∧ (xw_rf q 1 = q + 1 ∧ xw_rf q 2 = q + 2 ∧ xw_rf q 3 = q + 3 ∧ xw_rf q 5 = q + 4 ∧ xw_rf q 7 = q + 5 ∧ xw_rf q 8 = q + 6 ∧ xw_rf q 10 = q + 7 ∧ xw_rf q 12 = q + 8 ∧ xw_rf q 14 = q + 9 ∧ xw_rf q 15 = q + 10 ∧ xw_rf q 16 = q + 11 ∧ xw_rf q 17 = q + 12 ∧ xw_rf q 18 = q + 13) ∧ (∀ j, 1 ≤ j → j ≤ 13 → xw_obb 16 (q + j) = true) ∧ (xw_le B (q + 1) = 24 ∧ xw_le B (q + 2) = 24 ∧ xw_le B (q + 3) = 24 ∧ xw_le B (q + 4) = 8 ∧ xw_le B (q + 5) = 8 ∧ xw_le B (q + 6) = 8 ∧ xw_le B (q + 7) = 32 ∧ xw_le B (q + 8) = 2600 ∧ xw_le B (q + 9) = 60 ∧ xw_le B (q + 10) = 60 ∧ xw_le B (q + 11) = 60 ∧ xw_le B (q + 12) = 60 ∧ xw_le B (q + 13) = 2400) := by
  refine ⟨?_, ?_, fun j j0 j1 => ?_, ?_⟩
  · rcases h with rfl | rfl <;> rfl
  · rcases h with rfl | rfl <;> exact ⟨rfl, rfl, rfl, rfl, rfl, rfl, rfl, rfl, rfl, rfl, rfl, rfl, rfl⟩
  · have : j = 1 ∨ j = 2 ∨ j = 3 ∨ j = 4 ∨ j = 5 ∨ j = 6 ∨ j = 7 ∨ j = 8 ∨ j = 9 ∨ j = 10 ∨ j = 11 ∨ j = 12 ∨ j = 13 := by omega
    rcases h with rfl | rfl <;> rcases this with rfl | rfl | rfl | rfl | rfl | rfl | rfl | rfl | rfl | rfl | rfl | rfl | rfl <;> rfl
  · rcases h with rfl | rfl <;> exact ⟨rfl, rfl, rfl, rfl, rfl, rfl, rfl, rfl, rfl, rfl, rfl, rfl, rfl⟩
/-- all that reading a question may change -/
def QC (c c' : xw_M) : Prop := (∀ a, a ≠ 1 → ¬ (223 ≤ a ∧ a ≤ 294) → c' a = c a) ∧ ∀ k, (k < 2 ∨ 7 < k) → c' 1 k = c 1 k
def QR (q : Int) (r r' : xw_M) : Prop := (∀ a, a ≠ 536 → ¬ (q ≤ a ∧ a ≤ q + 13) → r' a = r a) ∧ ∀ k, (k < 6 ∨ 13 < k) → k ≠ 25 → k ≠ 26 → r' 536 k = r 536 k
theorem QC_tr {a b c : xw_M} (h : QC a b) (k : QC b c) : QC a c := ⟨fun x hx hy => by rw [k.1 x hx hy, h.1 x hx hy], fun x hx => by rw [k.2 x hx, h.2 x hx]⟩
theorem QR_tr {q : Int} {a b c : xw_M} (h : QR q a b) (k : QR q b c) : QR q a c := ⟨fun x hx hy => by rw [k.1 x hx hy, h.1 x hx hy], fun x hx y z => by rw [k.2 x hx y z, h.2 x hx y z]⟩
theorem QC_y {c c' : xw_M} (h : fTy c c') : QC c c' := ⟨fun a ha _ => h.1 a ha, h.2⟩
theorem QR_y {q : Int} {r r' : xw_M} (h : fRy r r') : QR q r r' := ⟨fun a ha _ => h.1 a ha, fun k hk _ _ => h.2 k hk⟩
theorem QC_x {c c' : xw_M} (h : fTx c c') : QC c c' := QC_y (fTy_of h)
theorem QR_x {q : Int} {r r' : xw_M} (h : fRx r r') : QR q r r' := QR_y (fRy_of h)
/-- the kind of an item by the reference -/
def kmp (K : Int) : Int := if K = 210 then 1 else if K = 212 then 2 else if K = 213 then 3 else if K = 211 then 4 else if K = 209 then 5 else 0
def itm (c r : xw_M) (q M i : Int) : Prop := (xR c 224 i = 1 ∨ (209 ≤ xR c 224 i ∧ xR c 224 i ≤ 213)) ∧ xR r (q + 1) i = kmp (xR c 224 i) ∧ xR r (q + 2) i = xR c 225 i ∧ xR r (q + 3) i = xR c 226 i ∧ (0 ≤ xR c 225 i ∧ xR c 225 i < 32) ∧ (xR c 224 i = 210 ∨ xR c 224 i = 212 ∨ xR c 224 i = 213 → xR c 225 i < M)
def itq (c r : xw_M) (q M n : Int) : Prop := xR c 223 2 = n ∧ xR r q 0 = n ∧ 0 ≤ n ∧ n ≤ 24 ∧ ∀ i, 0 ≤ i → i < n → itm c r q M i
/-- what an item changes -/
def fCi (c c' : xw_M) : Prop := (∀ a, a ≠ 1 → ¬ (223 ≤ a ∧ a ≤ 226) → c' a = c a) ∧ (∀ k, (k < 2 ∨ 5 < k) → c' 1 k = c 1 k) ∧ ∀ k, k ≠ 2 → c' 223 k = c 223 k
def fRi (q : Int) (r r' : xw_M) : Prop := (∀ a, a ≠ 536 → ¬ (q ≤ a ∧ a ≤ q + 3) → r' a = r a) ∧ (∀ k, (k < 8 ∨ 13 < k) → r' 536 k = r 536 k) ∧ ∀ k, k ≠ 0 → r' q k = r q k
theorem fCi_tr {a b c : xw_M} (h : fCi a b) (k : fCi b c) : fCi a c := ⟨fun x hx hy => by rw [k.1 x hx hy, h.1 x hx hy], fun x hx => by rw [k.2.1 x hx, h.2.1 x hx], fun x hx => by rw [k.2.2 x hx, h.2.2 x hx]⟩
theorem fRi_tr {q : Int} {a b c : xw_M} (h : fRi q a b) (k : fRi q b c) : fRi q a c := ⟨fun x hx hy => by rw [k.1 x hx hy, h.1 x hx hy], fun x hx => by rw [k.2.1 x hx, h.2.1 x hx], fun x hx => by rw [k.2.2 x hx, h.2.2 x hx]⟩
theorem fCi_x {c c' : xw_M} (h : fTx c c') : fCi c c' := ⟨fun a ha _ => h.1 a ha, h.2, fun k _ => by rw [h.1 223 (by omega)]⟩
theorem fRi_x {q : Int} {r r' : xw_M} (hq : q = 544 ∨ q = 558) (h : fRx r r') : fRi q r r' := ⟨fun a ha _ => h.1 a ha, h.2, fun k _ => by rw [h.1 q (by omega)]⟩
theorem QC_i {c c' : xw_M} (h : fCi c c') : QC c c' := ⟨fun a ha hb => h.1 a ha (by omega), fun k hk => h.2.1 k (by omega)⟩
theorem QR_i {q : Int} {r r' : xw_M} (h : fRi q r r') : QR q r r' := ⟨fun a ha hb => h.1 a ha (by omega), fun k hk _ _ => h.2.1 k (by omega)⟩
theorem TK_fr {c c' r r' : xw_M} (h : TK c r) (c1 : ∀ k, 1 ≤ k → k ≤ 7 → c' 1 k = c 1 k) (c2 : c' 2 = c 2) (r1 : ∀ k, 5 ≤ k → k ≤ 13 → r' 536 k = r 536 k) (r2 : r' 537 = r 537) : TK c' r' := by
  unfold TK PS TX kdr at *
  rw [xR_fld (c1 1 (by omega) (by omega)), xR_fld (c1 2 (by omega) (by omega)), xR_fld (c1 3 (by omega) (by omega)), xR_fld (c1 4 (by omega) (by omega)), xR_fld (c1 5 (by omega) (by omega)), xR_fld (c1 6 (by omega) (by omega)), xR_fld (c1 7 (by omega) (by omega)), xR_fld (r1 5 (by omega) (by omega)), xR_fld (r1 6 (by omega) (by omega)), xR_fld (r1 7 (by omega) (by omega)), xR_fld (r1 8 (by omega) (by omega)), xR_fld (r1 9 (by omega) (by omega)), xR_fld (r1 10 (by omega) (by omega)), xR_fld (r1 11 (by omega) (by omega)), xR_fld (r1 12 (by omega) (by omega)), xR_fld (r1 13 (by omega) (by omega)), xR_cg c2, xR_cg r2]
  exact h
theorem xB_as {o : xP} {F G : Int → xw_M → xP} : xB (xB o F) G = xB o (fun v m => xB (F v m) G) := by
  cases o with
  | none => rfl
  | some z => obtain ⟨z, m⟩ := z; cases z <;> rfl
section RDC
variable {B : Nat} {c r : xw_M}
/-- the reference's test of room, then G -/
def riH (B : Nat) (s : Int) (G : xw_M → xP) (m : xw_M) : xP := if xw_obb 13 (m 536 23) = true then if (xR m (m 536 23) 0) < 24 then (xB (yf254 B 1 7 s m) fun v m1 => if v = 0 then (some (.inl 0, m1)) else G m1) else (xB (yf254 B 0 7 s m) fun v m1 => if v = 0 then (some (.inl 0, m1)) else G m1) else none
def riN (B : Nat) (m : xw_M) : xP := xB (yf261 B m) fun v1 m1 => if v1 = 0 then (xB (yf254 B 1 5 (xR m1 536 9) m1) fun v2 m2 => some (.inl 0, m2)) else (xB (yf262 B 40 (xR m1 536 19) m1) fun v3 m3 => if v3 < 0 then (xB (yf254 B 0 5 (xR m3 536 9) m3) fun v4 m4 => some (.inl v3, m4)) else (xB (yf254 B 1 5 (xR m3 536 9) m3) fun v5 m5 => some (.inl v3, m5)))
def riM (B : Nat) (s k : Int) (m : xw_M) : xP := xB (yf265 B 40 m) fun v32 m32 => xB (yf248 B m32) fun _ m33 => xB (yf261 B m33) fun v34 m34 => if v34 = 0 then (xB (yf254 B 1 5 (xR m34 536 9) m34) fun v35 m35 => yk271_226 B s k 0 m35) else (xB (yf262 B 40 (xR m34 536 19) m34) fun v36 m36 => if v36 < 0 then (xB (yf254 B 0 5 (xR m36 536 9) m36) fun v37 m37 => yk271_226 B s k v36 m37) else (xB (yf254 B 1 5 (xR m36 536 9) m36) fun v38 m38 => yk271_226 B s k v36 m38))
theorem riM_e {s k : Int} {m : xw_M} : riM B s k m = xB (yf265 B 40 m) fun _ m32 => xB (yf248 B m32) fun _ m33 => xB (riN B m33) fun w m34 => yk271_226 B s k w m34 := by
  unfold riM riN
  refine congrArg (xB _) (funext fun v => funext fun m1 => congrArg (xB _) (funext fun v' => funext fun m2 => ?_))
  rw [xB_as]
  refine congrArg (xB _) (funext fun v => funext fun m1 => ?_)
  rw [xB_if, xB_as, xB_as]
  simp only [xB_if, xB_as]
  rfl
theorem riH_ok {n : Int} {q : Int} {F G : xw_M → xP} {Q : Int → xw_M → Int → xw_M → Prop} {Z : xw_M → Int → xw_M → Prop} (h : TK c r) (hq : r 536 23 = q) (q0 : q = 544 ∨ q = 558) (hn : xR c 223 2 = n) (hr : xR r q 0 = n) (hF : n < 24 → duo (F c) (G r) Q Z) (hZ : ∀ c' r', fTy c c' → fRy r r' → Z c' 0 r') : duo (xB (yf64 B (xR c 223 2) 24 c) fun _ m1 => F m1) (riH B (xR r 536 9) G r) Q Z := by
  have nf := h.nf
  unfold riH yf64
  rw [hq, if_pos (q_l B q0).1, hr, hn]
  by_cases e : n < 24
  · rw [if_pos e, if_pos e, ok254 nf, xB_ret, xB_ret, if_neg (by decide)]
    exact hF e
  · rw [if_neg e, if_neg e, no254 nf (by decide) (by decide), xB_ret, if_pos rfl]
    unfold yf54
    have X := flt (c := c) (r := r) (f := 7) (p := xR c 1 4) (p' := xR r 536 9) (by decide) (by decide) (w32_xR _ _ _) h.2.1.1
    exact duo_f X.1 (hZ _ _ X.2.1 X.2.2)
/-- the item goes into the lists, by the class -/
theorem addi_c {K of s n : Int} (hn : xR c 223 2 = n) (n0 : 0 ≤ n) (n1 : n < 24) (hK : w32 K = K) (ho : w32 of = of) (hs : w32 s = s) : ∃ c', yf67 B K of s c = some (.inl 0, c') ∧ fCi c c' ∧ (∀ k, c' 1 k = c 1 k) ∧ xR c' 223 2 = n + 1 ∧ xR c' 224 n = K ∧ xR c' 225 n = of ∧ xR c' 226 n = s ∧ ∀ a i, 224 ≤ a → a ≤ 226 → i ≠ n → c' a i = c a i := by
  unfold yf67
  rw [hn, if_pos ⟨n0, n1⟩]
  refine ⟨_, rfl, ⟨fun a ha hb => by rw [xu_c (by omega), xu_c (by omega), xu_c (by omega), xu_c (by omega)], fun k _ => by rw [xu_ne (by omega), xu_ne (by omega), xu_ne (by omega), xu_ne (by omega)], fun k hk => by rw [xu_ne (by omega), xu_ne (by omega), xu_ne (by omega), xu_ne (by omega)]⟩, fun k => by rw [xu_ne (by omega), xu_ne (by omega), xu_ne (by omega), xu_ne (by omega)], xR_at (w32_id (by omega) (by omega)), ?_, ?_, ?_, fun a i a0 a1 hi => by rw [xu_ne (by omega), xu_ne (by omega), xu_ne (by omega), xu_ne (by omega)]⟩
  · rw [xR_ne (by omega), xR_ne (by omega), xR_ne (by omega)]; exact xR_at hK
  · rw [xR_ne (by omega), xR_ne (by omega)]; exact xR_at ho
  · rw [xR_ne (by omega)]; exact xR_at hs
/-- by the reference -/
theorem addi_w {k of s n q : Int} (hq : r 536 23 = q) (q0 : q = 544 ∨ q = 558) (hn : xR r q 0 = n) (n0 : 0 ≤ n) (n1 : n < 24) : yk271_234 B s k of r = some (.inl 0, xw_u (xw_u (xw_u (xw_u r (q + 1) n k) (q + 2) n of) (q + 3) n s) q 0 (n + 1)) := by
  obtain ⟨o, ⟨f1, f2, f3, _⟩, ob, ⟨l1, l2, l3, _⟩⟩ := q_l B q0
  unfold yk271_234
  rw [hq, if_pos o, hn, f1, f2, f3, l1, l2, l3, if_pos ⟨n0, n1⟩, if_pos (ob 1 (by decide) (by decide)), if_pos ⟨n0, n1⟩, if_pos (ob 2 (by decide) (by decide)), if_pos ⟨n0, n1⟩, if_pos (ob 3 (by decide) (by decide))]
theorem addi_r {k of s n q : Int} (hq : r 536 23 = q) (q0 : q = 544 ∨ q = 558) (hn : xR r q 0 = n) (n0 : 0 ≤ n) (n1 : n < 24) (hk : w32 k = k) (ho : w32 of = of) (hs : w32 s = s) : ∃ r', yk271_234 B s k of r = some (.inl 0, r') ∧ fRi q r r' ∧ (∀ k, r' 536 k = r 536 k) ∧ xR r' q 0 = n + 1 ∧ xR r' (q + 1) n = k ∧ xR r' (q + 2) n = of ∧ xR r' (q + 3) n = s ∧ ∀ a i, q + 1 ≤ a → a ≤ q + 3 → i ≠ n → r' a i = r a i := by
  rw [addi_w hq q0 hn n0 n1]
  refine ⟨_, rfl, ⟨fun a ha hb => by rw [xu_c (by omega), xu_c (by omega), xu_c (by omega), xu_c (by omega)], fun k _ => by rw [xu_ne (by omega), xu_ne (by omega), xu_ne (by omega), xu_ne (by omega)], fun k hk => by rw [xu_ne (by omega), xu_ne (by omega), xu_ne (by omega), xu_ne (by omega)]⟩, fun k => by rw [xu_ne (by omega), xu_ne (by omega), xu_ne (by omega), xu_ne (by omega)], xR_at (w32_id (by omega) (by omega)), ?_, ?_, ?_, fun a i a0 a1 hi => by rw [xu_ne (by omega), xu_ne (by omega), xu_ne (by omega), xu_ne (by omega)]⟩
  · rw [xR_ne (by omega), xR_ne (by omega), xR_ne (by omega)]; exact xR_at hk
  · rw [xR_ne (by omega), xR_ne (by omega)]; exact xR_at ho
  · rw [xR_ne (by omega)]; exact xR_at hs
/-- behind a fault it is laid down all the same -/
theorem addi_d {k of s n q : Int} (f : FL c r) (hq : r 536 23 = q) (q0 : q = 544 ∨ q = 558) (hn : xR r q 0 = n) (n0 : 0 ≤ n) (n1 : n < 24) : ∃ r', yk271_234 B s k of r = some (.inl 0, r') ∧ FL c r' ∧ QR q r r' := by
  rw [addi_w hq q0 hn n0 n1]
  refine ⟨_, rfl, ?_, ⟨fun a ha hb => by rw [xu_c (by omega), xu_c (by omega), xu_c (by omega), xu_c (by omega)], fun k _ _ _ => by rw [xu_ne (by omega), xu_ne (by omega), xu_ne (by omega), xu_ne (by omega)]⟩⟩
  unfold FL
  rw [xR_ne (by omega), xR_ne (by omega), xR_ne (by omega), xR_ne (by omega), xR_ne (by omega), xR_ne (by omega), xR_ne (by omega), xR_ne (by omega)]
  exact f
theorem addi_e {k of s n q : Int} (f : FL c r) (hq : r 536 23 = q) (q0 : q = 544 ∨ q = 558) (hn : xR r q 0 = n) (n0 : 0 ≤ n) (n1 : n < 24) : ∃ r', yk271_226 B s k of r = some (.inl 0, r') ∧ FL c r' ∧ QR q r r' := by
  unfold yk271_226
  rw [d265 f.1, xB_ret]
  exact addi_d f hq q0 hn n0 n1
theorem itq_add {c' r' : xw_M} {q M n K of s : Int} (q0 : q = 544 ∨ q = 558) (h : itq c r q M n) (c2 : xR c' 223 2 = n + 1) (r0 : xR r' q 0 = n + 1) (n1 : n < 24) (k1 : xR c' 224 n = K) (k2 : xR c' 225 n = of) (k3 : xR c' 226 n = s) (m1 : xR r' (q + 1) n = kmp K) (m2 : xR r' (q + 2) n = of) (m3 : xR r' (q + 3) n = s) (e1 : ∀ a i, 224 ≤ a → a ≤ 226 → i ≠ n → c' a i = c a i) (e2 : ∀ a i, q + 1 ≤ a → a ≤ q + 3 → i ≠ n → r' a i = r a i) (hK : K = 1 ∨ (209 ≤ K ∧ K ≤ 213)) (ho : 0 ≤ of ∧ of < 32) (hm : K = 210 ∨ K = 212 ∨ K = 213 → of < M) : itq c' r' q M (n + 1) := by
  obtain ⟨a1, a2, a3, a4, a5⟩ := h
  refine ⟨c2, r0, by omega, by omega, fun i i0 i1 => ?_⟩
  by_cases e : i = n
  · subst e
    unfold itm
    rw [k1, k2, k3, m1, m2, m3]
    exact ⟨hK, rfl, rfl, rfl, ho, hm⟩
  · have := a5 i i0 (by omega)
    unfold itm at this ⊢
    rw [xR_fld (e1 224 i (by omega) (by omega) e), xR_fld (e1 225 i (by omega) (by omega) e), xR_fld (e1 226 i (by omega) (by omega) e), xR_fld (e2 (q + 1) i (by omega) (by omega) e), xR_fld (e2 (q + 2) i (by omega) (by omega) e), xR_fld (e2 (q + 3) i (by omega) (by omega) e)]
    exact this
end RDC
