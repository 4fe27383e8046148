/-! THE READERS: what stands here, on both sides; the reference behind a fault -/
section RDA
variable {B : Nat} {c r : xw_M}
theorem fTy_rf {c : xw_M} : fTy c c := ⟨fun _ _ => rfl, fun _ _ => rfl⟩
theorem fRy_rf {r : xw_M} : fRy r r := ⟨fun _ _ => rfl, fun _ _ => rfl⟩
theorem fTy_tr {a b c : xw_M} (h : fTy a b) (k : fTy b c) : fTy a c := ⟨fun x hx => by rw [k.1 x hx, h.1 x hx], fun x hx => by rw [k.2 x hx, h.2 x hx]⟩
theorem fRy_tr {a b c : xw_M} (h : fRy a b) (k : fRy b c) : fRy a c := ⟨fun x hx => by rw [k.1 x hx, h.1 x hx], fun x hx => by rw [k.2 x hx, h.2 x hx]⟩
/-- the same fault is noted on both sides -/
theorem flt {f p p' : Int} (f0 : 0 < f) (f1 : f < 100) (hp : w32 p = p) (e : p' = p) : FL (xw_u (xw_u c 1 6 f) 1 7 p) (xw_u (xw_u r 536 6 f) 536 7 p') ∧ fTy c (xw_u (xw_u c 1 6 f) 1 7 p) ∧ fRy r (xw_u (xw_u r 536 6 f) 536 7 p') := by
  rw [e]
  have hf : w32 f = f := w32_id (by omega) (by omega)
  refine ⟨⟨?_, ?_, ?_⟩, ⟨fun a ha => by rw [xu_c ha, xu_c ha], fun k hk => by rw [xu_ne (by omega), xu_ne (by omega)]⟩, ⟨fun a ha => by rw [xu_c ha, xu_c ha], fun k hk => by rw [xu_ne (by omega), xu_ne (by omega)]⟩⟩
  · rw [xR_ne (by omega), xR_at hf]; exact f0
  · rw [xR_ne (by omega), xR_at hf, xR_ne (by omega), xR_at hf]
  · rw [xR_at hp, xR_at hp]
/-! behind a fault the reference changes nothing -/
theorem d248 (d : 0 < xR r 536 6) : yf248 B r = some (.inl 0, r) := by
  unfold yf248
  rw [if_pos d]
theorem d254 {x f p : Int} (d : 0 < xR r 536 6) : yf254 B x f p r = some (.inl 0, r) := by
  unfold yf254 yk254_21
  rw [if_neg (by omega), if_neg (by omega)]
theorem d258 {x : Int} (d : 0 < xR r 536 6) : yf258 B x r = some (.inl 0, r) := by
  unfold yf258
  split <;> rw [d254 d, xB_ret]
theorem d261 (d : 0 < xR r 536 6) : yf261 B r = some (.inl 0, r) := by
  unfold yf261
  split <;> rw [d258 d, xB_ret, if_pos rfl]
theorem p257 {w : Int} : yf257 B w r = some (.inl (if xR r 536 10 = 1 ∧ xR r 536 11 = w then 1 else 0), r) := by
  unfold yf257
  by_cases a : xR r 536 10 = 1
  · rw [if_pos a]
    by_cases b : xR r 536 11 = w
    · rw [if_pos b, if_pos ⟨a, b⟩]
    · rw [if_neg b, if_neg (fun h => b h.2)]
  · rw [if_neg a, if_neg (fun h => a h.1)]
theorem p266 {w : Int} : yf266 B w r = some (.inl (if xR r 536 10 = 3 ∧ xR r 536 13 = w then 1 else 0), r) := by
  unfold yf266
  by_cases a : xR r 536 10 = 3
  · rw [if_pos a]
    by_cases b : xR r 536 13 = w
    · rw [if_pos b, if_pos ⟨a, b⟩]
    · rw [if_neg b, if_neg (fun h => b h.2)]
  · rw [if_neg a, if_neg (fun h => a h.1)]
theorem d265 {x : Int} (d : 0 < xR r 536 6) : yf265 B x r = some (.inl 0, r) := by
  unfold yf265
  rw [d248 d, xB_ret, p266, xB_ret, d258 d, xB_ret]
theorem d272 (d : 0 < xR r 536 6) : yf272 B r = some (.inl 0, r) := by
  unfold yf272
  rw [d261 d, xB_ret, if_pos rfl, d254 d, xB_ret, if_pos rfl]
theorem d273 {x : Int} (d : 0 < xR r 536 6) : yf273 B x r = some (.inl 0, r) := by
  unfold yf273
  rw [d265 d, xB_ret, if_pos rfl]
theorem d278 (d : 0 < xR r 536 6) : yf278 B r = some (.inl 0, r) := by
  unfold yf278
  rw [d248 d, xB_ret]
  split <;> rw [d258 d, xB_ret, if_pos rfl]
theorem d280 {x : Int} (d : 0 < xR r 536 6) : yf280 B x r = some (.inl 0, r) := by
  unfold yf280
  rw [if_neg (by omega)]
/-! with no fault -/
theorem TK.nf (h : TK c r) : xR r 536 6 = 0 := h.1.2.2.2.2.2.2.1
theorem ok258 (h : xR r 536 6 = 0) : yf258 B 1 r = some (.inl 1, r) := by
  unfold yf258
  split <;> rw [ok254 h, xB_ret]
theorem TK.w32s (h : TK c r) : w32 (xR c 1 4) = xR c 1 4 := w32_xR _ _ _
/-- what stands here may not stand here -/
theorem fhere (h : TK c r) : ∃ c' r', yf56 B c = some (.inr 14, c') ∧ yf258 B 0 r = some (.inl 0, r') ∧ FL c' r' ∧ fTy c c' ∧ fRy r r' := by
  have n := h.nf
  obtain ⟨h1, ⟨h9, h4, h2⟩, k⟩ := h
  unfold yf56 yf258 yf54
  by_cases e : xR c 1 3 = 0
  · have t : xR r 536 10 = 0 := by
      rcases k with k | k | k | k
      · exact k.2
      · have := k.1; revert this; split
        · omega
        · split <;> omega
      · omega
      · have := k.2.2; rw [e] at this; exact absurd this (by decide)
    have F := flt (c := c) (r := r) (f := 3) (p := xR c 1 4) (p' := xR r 536 9) (by decide) (by decide) (w32_xR _ _ _) h9
    rw [if_pos e, if_pos t, xB_thr, no254 n (by decide) (by decide), xB_ret]
    exact ⟨_, _, rfl, rfl, F⟩
  · have t : ¬ xR r 536 10 = 0 := by
      rcases k with k | k | k | k <;> omega
    have F := flt (c := c) (r := r) (f := 4) (p := xR c 1 4) (p' := xR r 536 9) (by decide) (by decide) (w32_xR _ _ _) h9
    rw [if_neg e, if_neg t, xB_thr, no254 n (by decide) (by decide), xB_ret]
    exact ⟨_, _, rfl, rfl, F⟩
theorem isw {w : Int} (h : TK c r) (w0 : 0 ≤ w) (w1 : w ≤ 18) : yf257 B w r = some (.inl (if xR c 1 3 = 200 + w then 1 else 0), r) := by
  rw [p257]
  have e : (xR r 536 10 = 1 ∧ xR r 536 11 = w) ↔ xR c 1 3 = 200 + w := by
    obtain ⟨h1, h2, k⟩ := h
    rcases k with k | k | k | k
    · omega
    · obtain ⟨k1, k2, k3, k4, k5⟩ := k
      rw [k1]
      split
      · omega
      · split <;> omega
    · omega
    · have k3 : xR c 1 3 < 200 := by
        rcases k.2.2 with s | s
        · have := of_decide_eq_true s; omega
        · omega
      omega
  by_cases a : xR c 1 3 = 200 + w
  · rw [if_pos a, if_pos (e.mpr a)]
  · rw [if_neg a, if_neg (fun z => a (e.mp z))]
theorem sgr_inj {K K' : Int} (a : sg1 K = true ∨ K = 100 ∨ K = 101 ∨ K = 102) (b : sg1 K' = true ∨ K' = 100 ∨ K' = 101 ∨ K' = 102) : sgr K = sgr K' ↔ K = K' := by
  have u : ∀ K, (sg1 K = true ∨ K = 100 ∨ K = 101 ∨ K = 102) → 40 ≤ K ∧ K ≤ 102 ∧ (sgr K = K ∨ 1000 < sgr K) := fun K a => by
    unfold sgr
    rcases a with s | s | s | s
    · have := of_decide_eq_true s
      rw [if_neg (by omega), if_neg (by omega), if_neg (by omega)]
      omega
    · rw [if_pos s]; omega
    · rw [if_neg (by omega), if_pos s]; omega
    · rw [if_neg (by omega), if_neg (by omega), if_pos s]; omega
  have p := u K a
  have q := u K' b
  refine ⟨fun e => ?_, fun e => by rw [e]⟩
  unfold sgr at e p q
  revert e p q
  split
  · split
    · omega
    · split
      · omega
      · split <;> omega
  · split
    · split
      · omega
      · split
        · omega
        · split <;> omega
    · split
      · split
        · omega
        · split
          · omega
          · split <;> omega
      · split
        · omega
        · split
          · omega
          · split <;> omega
theorem iss {K g : Int} (h : TK c r) (hg : g = sgr K) (hK : sg1 K = true ∨ K = 100 ∨ K = 101 ∨ K = 102) : yf266 B g r = some (.inl (if xR c 1 3 = K then 1 else 0), r) := by
  rw [p266, hg]
  have kb : 40 ≤ K ∧ K ≤ 102 := by
    rcases hK with s | s
    · have := of_decide_eq_true s; omega
    · omega
  have e : (xR r 536 10 = 3 ∧ xR r 536 13 = sgr K) ↔ xR c 1 3 = K := by
    obtain ⟨h1, h2, k⟩ := h
    rcases k with k | k | k | k
    · omega
    · obtain ⟨k1, k2, k3, k4, k5⟩ := k
      rw [k1]
      split
      · omega
      · split <;> omega
    · omega
    · rw [k.2.1, sgr_inj k.2.2 hK]
      exact ⟨fun z => z.2, fun z => ⟨k.1, z⟩⟩
  by_cases a : xR c 1 3 = K
  · rw [if_pos a, if_pos (e.mpr a)]
  · rw [if_neg a, if_neg (fun z => a (e.mp z))]
theorem isn (h : TK c r) : (xR r 536 10 = 2 ↔ xR c 1 3 = 3) ∧ (xR c 1 3 = 3 → xR c 1 5 = xR r 536 12) := by
  obtain ⟨h1, h2, k⟩ := h
  rcases k with k | k | k | k
  · omega
  · obtain ⟨k1, k2, k3, k4, k5⟩ := k
    rw [k1]
    split
    · omega
    · split <;> omega
  · exact ⟨by omega, fun _ => k.2.2⟩
  · rcases k.2.2 with s | s
    · have := of_decide_eq_true s; omega
    · omega
/-- a kind is 0, 1, 2, 3, a sign or a word -/
theorem kd_rg (h : TK c r) : 0 ≤ xR c 1 3 ∧ xR c 1 3 ≤ 218 ∧ (xR c 1 3 = 1 → xR c 1 2 - xR c 1 4 ≤ 40) := by
  obtain ⟨h1, h2, k⟩ := h
  rcases k with k | k | k | k
  · omega
  · obtain ⟨k1, k2, k3, k4, k5⟩ := k
    rw [k1]
    split
    · omega
    · split <;> omega
  · omega
  · rcases k.2.2 with s | s
    · have := of_decide_eq_true s; omega
    · omega
/-- expect a sign: needSign -/
theorem esg {K g : Int} (h : PS c r) (hg : g = sgr K) (hK : sg1 K = true ∨ K = 100 ∨ K = 101 ∨ K = 102) : duo (yf68 B K c) (yf265 B g r) (fun _ c' w r' => w = 1 ∧ xR c' 1 3 = K ∧ nxQ c r c' r') (fun c' w r' => w = 0 ∧ fTy c c' ∧ fRy r r') := by
  unfold yf68 yf265
  refine duo_B (nx h) (fun v c1 w r1 q => ?_) (fun c1 w r1 f z => ⟨0, r1, by rw [p266, xB_ret, d258 f.1, xB_ret], f, rfl, z⟩)
  rw [iss q.1 hg hK, xB_ret]
  by_cases a : xR c1 1 3 = K
  · rw [if_pos a, if_pos a, ok258 q.1.nf, xB_ret]
    exact duo_r ⟨rfl, a, q⟩
  · rw [if_neg a, if_neg a]
    obtain ⟨c2, r2, z1, z2, F, f1, f2⟩ := fhere (B := B) q.1
    rw [z1, z2, xB_thr, xB_ret]
    exact duo_f F ⟨rfl, fTy_tr (fTy_of q.2.1) f1, fRy_tr (fRy_of q.2.2.1) f2⟩
/-- expect a number: needNumber -/
theorem enm (h : PS c r) : duo (yf68 B 3 c) (yf278 B r) (fun _ c' w r' => w = xR c' 1 5 ∧ nxQ c r c' r' ∧ xR c' 1 3 = 3) (fun c' w r' => w = 0 ∧ fTy c c' ∧ fRy r r') := by
  unfold yf68 yf278
  refine duo_B (nx h) (fun v c1 w r1 q => ?_) (fun c1 w r1 f z => ⟨0, r1, by split <;> rw [d258 f.1, xB_ret, if_pos rfl], f, rfl, z⟩)
  have n := isn q.1
  by_cases a : xR c1 1 3 = 3
  · rw [if_pos a, if_pos (n.1.mpr a), ok258 q.1.nf, xB_ret, if_neg (by decide)]
    exact duo_r ⟨(n.2 a).symm, q, a⟩
  · rw [if_neg a, if_neg (fun z => a (n.1.mp z))]
    obtain ⟨c2, r2, z1, z2, F, f1, f2⟩ := fhere (B := B) q.1
    rw [z1, z2, xB_thr, xB_ret, if_pos rfl]
    exact duo_f F ⟨rfl, fTy_tr (fTy_of q.2.1) f1, fRy_tr (fRy_of q.2.2.1) f2⟩
/-- a name must stand here -/
theorem nam (h : TK c r) : duo (yf61 B c) (yf261 B r) (fun _ c' w r' => c' = c ∧ r' = r ∧ w = 1 ∧ xR c 1 3 = 1 ∧ xR c 1 2 - xR c 1 4 ≤ 40) (fun c' w r' => w = 0 ∧ fTy c c' ∧ fRy r r') := by
  have n := h.nf
  have hh := h
  obtain ⟨⟨_, p8, p2, p3, _⟩, ⟨h9, h4, h2⟩, k⟩ := hh
  have wb : xR c 1 1 ≤ 65536 := h.1.1.2.2.1
  have dif : w32 (xR r 536 8 - xR r 536 9) = xR c 1 2 - xR c 1 4 := by rw [p8, h9]; exact w32_id (by omega) (by omega)
  unfold yf61 yf261 yk61_26
  by_cases t : xR r 536 10 = 1
  · rw [if_pos t, ok258 n, xB_ret, if_neg (show ¬ (1 : Int) = 0 by decide), dif]
    have k' : xR c 1 3 = (if 40 < xR c 1 2 - xR c 1 4 then 2 else if xR r 536 11 = -1 then 1 else 200 + xR r 536 11) ∧ -1 ≤ xR r 536 11 ∧ xR r 536 11 ≤ 18 ∧ (xR r 536 11 ≠ -1 → xR c 1 2 - xR c 1 4 ≤ 40) := by
      rcases k with k | k | k | k
      · omega
      · exact ⟨k.1, k.2.2⟩
      · omega
      · omega
    obtain ⟨k1, k2, k3, k4⟩ := k'
    have F := flt (c := c) (r := r) (f := 5) (p := xR c 1 4) (p' := xR r 536 9) (by decide) (by decide) (w32_xR _ _ _) h9
    by_cases a : 40 < xR c 1 2 - xR c 1 4
    · rw [if_pos a] at k1
      have w1 : xR r 536 11 < 0 := by by_cases z : xR r 536 11 = -1 <;> omega
      rw [if_neg (by omega), if_pos k1, if_pos w1, if_pos a, no254 n (by decide) (by decide), xB_ret, if_pos rfl]
      unfold yf54
      rw [xB_thr]
      exact duo_f F.1 ⟨rfl, F.2⟩
    · rw [if_neg a] at k1
      by_cases b : xR r 536 11 = -1
      · rw [if_pos b] at k1
        rw [if_pos k1, if_pos (by omega), if_neg a, ok254 n, xB_ret, if_neg (by decide)]
        exact duo_r ⟨rfl, rfl, rfl, k1, by omega⟩
      · rw [if_neg b] at k1
        rw [if_neg (by omega), if_neg (by omega), if_neg (by omega), if_neg (show ¬ xR r 536 11 < 0 by omega), no254 n (by decide) (by decide), xB_ret, if_pos rfl]
        unfold yf54
        rw [xB_thr]
        exact duo_f F.1 ⟨rfl, F.2⟩
  · rw [if_neg t]
    have k1 : xR c 1 3 ≠ 1 ∧ xR c 1 3 ≠ 2 ∧ xR c 1 3 < 200 := by
      rcases k with k | k | k | k
      · omega
      · omega
      · omega
      · rcases k.2.2 with s | s
        · have := of_decide_eq_true s; omega
        · omega
    rw [if_neg k1.1, if_neg k1.2.1, if_pos k1.2.2]
    obtain ⟨c2, r2, z1, z2, F, f1, f2⟩ := fhere (B := B) h
    rw [z2, xB_ret, if_pos rfl]
    unfold yf56 at z1
    rw [z1]
    exact duo_f F ⟨rfl, f1, f2⟩
end RDA
