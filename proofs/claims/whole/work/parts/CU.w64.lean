/-! what the reference's calls answer is a long -/
theorem w4_dv {x y : Int} (h : w64 x = x) (x0 : 0 ≤ x) (y0 : 0 ≤ y) : w64 (x / y) = x / y := by
  have b := w64_cg h
  unfold xw_rJ at b
  have a1 := Int.ediv_nonneg x0 y0
  have a2 := Int.ediv_le_self y x0
  exact w64_id (by omega) (by omega)
def W4 (o : xP) : Prop := ∀ v m', o = some (.inl v, m') → w64 v = v
theorem W4_none : W4 none := fun _ _ h => by cases h
theorem W4_some {v : Int} {m : xw_M} (h : w64 v = v) : W4 (some (.inl v, m)) := fun _ _ e => by cases e; exact h
theorem W4_thr {t : Nat} {m : xw_M} : W4 (some (.inr t, m)) := fun _ _ h => by cases h
theorem W4_if {c : Prop} {i : Decidable c} {a b : xP} (h1 : c → W4 a) (h2 : ¬ c → W4 b) : W4 (@ite _ c i a b) := by
  by_cases h : c
  · rw [if_pos h]; exact h1 h
  · rw [if_neg h]; exact h2 h
theorem W4_B {o : xP} {F : Int → xw_M → xP} (h2 : ∀ v m, W4 (F v m)) : W4 (xB o F) := by
  rcases o with _ | ⟨v | t, m⟩
  · exact W4_none
  · exact h2 v m
  · exact W4_thr
theorem W4_Bi {o : xP} {F : Int → xw_M → xP} (h1 : W4 o) (h2 : ∀ v m, w64 v = v → W4 (F v m)) : W4 (xB o F) := by
  rcases o with _ | ⟨v | t, m⟩
  · exact W4_none
  · exact h2 v m (h1 _ _ rfl)
  · exact W4_thr
theorem W4_l1 {F : (Int → xw_M → xP) → Int → xw_M → xP} (h : ∀ r, (∀ a0 m, w64 a0 = a0 → W4 (r a0 m)) → ∀ a0 m, w64 a0 = a0 → W4 (F r a0 m)) : ∀ (N : Nat) (a0 : Int) (m : xw_M), w64 a0 = a0 → W4 (xl1 F N a0 m)
  | 0 => fun _ _ _ => W4_none
  | N + 1 => fun a0 m h0 => h _ (W4_l1 h N) a0 m h0
theorem W4_l2 {F : (Int → Int → xw_M → xP) → Int → Int → xw_M → xP} (h : ∀ r, (∀ a0 a1 m, w64 a0 = a0 → w64 a1 = a1 → W4 (r a0 a1 m)) → ∀ a0 a1 m, w64 a0 = a0 → w64 a1 = a1 → W4 (F r a0 a1 m)) : ∀ (N : Nat) (a0 a1 : Int) (m : xw_M), w64 a0 = a0 → w64 a1 = a1 → W4 (xl2 F N a0 a1 m)
  | 0 => fun _ _ _ _ _ => W4_none
  | N + 1 => fun a0 a1 m h0 h1 => h _ (W4_l2 h N) a0 a1 m h0 h1
theorem W4_l3 {F : (Int → Int → Int → xw_M → xP) → Int → Int → Int → xw_M → xP} (h : ∀ r, (∀ a0 a1 a2 m, w64 a0 = a0 → w64 a1 = a1 → w64 a2 = a2 → W4 (r a0 a1 a2 m)) → ∀ a0 a1 a2 m, w64 a0 = a0 → w64 a1 = a1 → w64 a2 = a2 → W4 (F r a0 a1 a2 m)) : ∀ (N : Nat) (a0 a1 a2 : Int) (m : xw_M), w64 a0 = a0 → w64 a1 = a1 → w64 a2 = a2 → W4 (xl3 F N a0 a1 a2 m)
  | 0 => fun _ _ _ _ _ _ _ => W4_none
  | N + 1 => fun a0 a1 a2 m h0 h1 h2 => h _ (W4_l3 h N) a0 a1 a2 m h0 h1 h2
theorem W4_l4 {F : (Int → Int → Int → Int → xw_M → xP) → Int → Int → Int → Int → xw_M → xP} (h : ∀ r, (∀ a0 a1 a2 a3 m, w64 a0 = a0 → w64 a1 = a1 → w64 a2 = a2 → w64 a3 = a3 → W4 (r a0 a1 a2 a3 m)) → ∀ a0 a1 a2 a3 m, w64 a0 = a0 → w64 a1 = a1 → w64 a2 = a2 → w64 a3 = a3 → W4 (F r a0 a1 a2 a3 m)) : ∀ (N : Nat) (a0 a1 a2 a3 : Int) (m : xw_M), w64 a0 = a0 → w64 a1 = a1 → w64 a2 = a2 → w64 a3 = a3 → W4 (xl4 F N a0 a1 a2 a3 m)
  | 0 => fun _ _ _ _ _ _ _ _ _ => W4_none
  | N + 1 => fun a0 a1 a2 a3 m h0 h1 h2 h3 => h _ (W4_l4 h N) a0 a1 a2 a3 m h0 h1 h2 h3
theorem W4_l5 {F : (Int → Int → Int → Int → Int → xw_M → xP) → Int → Int → Int → Int → Int → xw_M → xP} (h : ∀ r, (∀ a0 a1 a2 a3 a4 m, w64 a0 = a0 → w64 a1 = a1 → w64 a2 = a2 → w64 a3 = a3 → w64 a4 = a4 → W4 (r a0 a1 a2 a3 a4 m)) → ∀ a0 a1 a2 a3 a4 m, w64 a0 = a0 → w64 a1 = a1 → w64 a2 = a2 → w64 a3 = a3 → w64 a4 = a4 → W4 (F r a0 a1 a2 a3 a4 m)) : ∀ (N : Nat) (a0 a1 a2 a3 a4 : Int) (m : xw_M), w64 a0 = a0 → w64 a1 = a1 → w64 a2 = a2 → w64 a3 = a3 → w64 a4 = a4 → W4 (xl5 F N a0 a1 a2 a3 a4 m)
  | 0 => fun _ _ _ _ _ _ _ _ _ _ _ => W4_none
  | N + 1 => fun a0 a1 a2 a3 a4 m h0 h1 h2 h3 h4 => h _ (W4_l5 h N) a0 a1 a2 a3 a4 m h0 h1 h2 h3 h4
theorem W4_l6 {F : (Int → Int → Int → Int → Int → Int → xw_M → xP) → Int → Int → Int → Int → Int → Int → xw_M → xP} (h : ∀ r, (∀ a0 a1 a2 a3 a4 a5 m, w64 a0 = a0 → w64 a1 = a1 → w64 a2 = a2 → w64 a3 = a3 → w64 a4 = a4 → w64 a5 = a5 → W4 (r a0 a1 a2 a3 a4 a5 m)) → ∀ a0 a1 a2 a3 a4 a5 m, w64 a0 = a0 → w64 a1 = a1 → w64 a2 = a2 → w64 a3 = a3 → w64 a4 = a4 → w64 a5 = a5 → W4 (F r a0 a1 a2 a3 a4 a5 m)) : ∀ (N : Nat) (a0 a1 a2 a3 a4 a5 : Int) (m : xw_M), w64 a0 = a0 → w64 a1 = a1 → w64 a2 = a2 → w64 a3 = a3 → w64 a4 = a4 → w64 a5 = a5 → W4 (xl6 F N a0 a1 a2 a3 a4 a5 m)
  | 0 => fun _ _ _ _ _ _ _ _ _ _ _ _ _ => W4_none
  | N + 1 => fun a0 a1 a2 a3 a4 a5 m h0 h1 h2 h3 h4 h5 => h _ (W4_l6 h N) a0 a1 a2 a3 a4 a5 m h0 h1 h2 h3 h4 h5
theorem W4_l7 {F : (Int → Int → Int → Int → Int → Int → Int → xw_M → xP) → Int → Int → Int → Int → Int → Int → Int → xw_M → xP} (h : ∀ r, (∀ a0 a1 a2 a3 a4 a5 a6 m, w64 a0 = a0 → w64 a1 = a1 → w64 a2 = a2 → w64 a3 = a3 → w64 a4 = a4 → w64 a5 = a5 → w64 a6 = a6 → W4 (r a0 a1 a2 a3 a4 a5 a6 m)) → ∀ a0 a1 a2 a3 a4 a5 a6 m, w64 a0 = a0 → w64 a1 = a1 → w64 a2 = a2 → w64 a3 = a3 → w64 a4 = a4 → w64 a5 = a5 → w64 a6 = a6 → W4 (F r a0 a1 a2 a3 a4 a5 a6 m)) : ∀ (N : Nat) (a0 a1 a2 a3 a4 a5 a6 : Int) (m : xw_M), w64 a0 = a0 → w64 a1 = a1 → w64 a2 = a2 → w64 a3 = a3 → w64 a4 = a4 → w64 a5 = a5 → w64 a6 = a6 → W4 (xl7 F N a0 a1 a2 a3 a4 a5 a6 m)
  | 0 => fun _ _ _ _ _ _ _ _ _ _ _ _ _ _ _ => W4_none
  | N + 1 => fun a0 a1 a2 a3 a4 a5 a6 m h0 h1 h2 h3 h4 h5 h6 => h _ (W4_l7 h N) a0 a1 a2 a3 a4 a5 a6 m h0 h1 h2 h3 h4 h5 h6
theorem W4_l8 {F : (Int → Int → Int → Int → Int → Int → Int → Int → xw_M → xP) → Int → Int → Int → Int → Int → Int → Int → Int → xw_M → xP} (h : ∀ r, (∀ a0 a1 a2 a3 a4 a5 a6 a7 m, w64 a0 = a0 → w64 a1 = a1 → w64 a2 = a2 → w64 a3 = a3 → w64 a4 = a4 → w64 a5 = a5 → w64 a6 = a6 → w64 a7 = a7 → W4 (r a0 a1 a2 a3 a4 a5 a6 a7 m)) → ∀ a0 a1 a2 a3 a4 a5 a6 a7 m, w64 a0 = a0 → w64 a1 = a1 → w64 a2 = a2 → w64 a3 = a3 → w64 a4 = a4 → w64 a5 = a5 → w64 a6 = a6 → w64 a7 = a7 → W4 (F r a0 a1 a2 a3 a4 a5 a6 a7 m)) : ∀ (N : Nat) (a0 a1 a2 a3 a4 a5 a6 a7 : Int) (m : xw_M), w64 a0 = a0 → w64 a1 = a1 → w64 a2 = a2 → w64 a3 = a3 → w64 a4 = a4 → w64 a5 = a5 → w64 a6 = a6 → w64 a7 = a7 → W4 (xl8 F N a0 a1 a2 a3 a4 a5 a6 a7 m)
  | 0 => fun _ _ _ _ _ _ _ _ _ _ _ _ _ _ _ _ _ => W4_none
  | N + 1 => fun a0 a1 a2 a3 a4 a5 a6 a7 m h0 h1 h2 h3 h4 h5 h6 h7 => h _ (W4_l8 h N) a0 a1 a2 a3 a4 a5 a6 a7 m h0 h1 h2 h3 h4 h5 h6 h7
theorem w4_yf244 (B : Nat) (p0 p1 p2 p3 p4 : Int) (m : xw_M) (zp0 : w64 p0 = p0) (zp1 : w64 p1 = p1) (zp2 : w64 p2 = p2) (zp3 : w64 p3 = p3) (zp4 : w64 p4 = p4) : W4 (yf244 B p0 p1 p2 p3 p4 m) := by
  unfold yf244
  repeat' first
    | with_reducible exact W4_none
    | with_reducible refine W4_some ?_
    | with_reducible exact W4_thr
    | with_reducible refine W4_if (fun _ => ?_) (fun _ => ?_)
    | with_reducible refine W4_B (fun _ _ => ?_)
    | assumption
    | with_reducible exact w64_xR _ _ _
    | with_reducible exact w64_xJ _ _ _
    | with_reducible exact w64_32 (w32_w _)
    | with_reducible exact w64_w _
    | with_reducible decide
    | with_reducible exact w64_md (w64_32 (w32_w _)) ⟨by assumption, by assumption⟩
    | with_reducible exact w4_dv (by assumption) (by assumption) (Int.le_of_lt (by assumption))
    | with_reducible exact w4_dv (w64_32 (w32_w _)) (by assumption) (by decide)
    | exact w64_mn (w64_32 (w32_w _)) (w64_32 (w32_w _))
    | exact w64_mn (w64_32 (w32_w _)) (w64_xR _ _ _)
theorem w4_yf246 (B : Nat) (p0 : Int) (m : xw_M) (zp0 : w64 p0 = p0) : W4 (yf246 B p0 m) := by
  unfold yf246
  repeat' first
    | with_reducible exact W4_none
    | with_reducible refine W4_some ?_
    | with_reducible exact W4_thr
    | with_reducible refine W4_if (fun _ => ?_) (fun _ => ?_)
    | with_reducible refine W4_B (fun _ _ => ?_)
    | assumption
    | with_reducible exact w64_xR _ _ _
    | with_reducible exact w64_xJ _ _ _
    | with_reducible exact w64_32 (w32_w _)
    | with_reducible exact w64_w _
    | with_reducible decide
    | with_reducible exact w64_md (w64_32 (w32_w _)) ⟨by assumption, by assumption⟩
    | with_reducible exact w4_dv (by assumption) (by assumption) (Int.le_of_lt (by assumption))
    | with_reducible exact w4_dv (w64_32 (w32_w _)) (by assumption) (by decide)
    | exact w64_mn (w64_32 (w32_w _)) (w64_32 (w32_w _))
    | exact w64_mn (w64_32 (w32_w _)) (w64_xR _ _ _)
theorem w4_yl291_10 (B : Nat) (r10 : Int → Int → Int → xw_M → xP) (hr10 : ∀ a0 a1 a2 m, w64 a0 = a0 → w64 a1 = a1 → w64 a2 = a2 → W4 (r10 a0 a1 a2 m)) (x2 x3 x4 : Int) (m : xw_M) (zx2 : w64 x2 = x2) (zx3 : w64 x3 = x3) (zx4 : w64 x4 = x4) : W4 (yl291_10 B r10 x2 x3 x4 m) := by
  unfold yl291_10
  repeat' first
    | with_reducible exact W4_none
    | with_reducible refine W4_some ?_
    | with_reducible exact W4_thr
    | with_reducible refine W4_if (fun _ => ?_) (fun _ => ?_)
    | with_reducible refine W4_B (fun _ _ => ?_)
    | with_reducible refine hr10 _ _ _ _ ?_ ?_ ?_
    | assumption
    | with_reducible exact w64_xR _ _ _
    | with_reducible exact w64_xJ _ _ _
    | with_reducible exact w64_32 (w32_w _)
    | with_reducible exact w64_w _
    | with_reducible decide
    | with_reducible exact w64_md (w64_32 (w32_w _)) ⟨by assumption, by assumption⟩
    | with_reducible exact w4_dv (by assumption) (by assumption) (Int.le_of_lt (by assumption))
    | with_reducible exact w4_dv (w64_32 (w32_w _)) (by assumption) (by decide)
    | exact w64_mn (w64_32 (w32_w _)) (w64_32 (w32_w _))
    | exact w64_mn (w64_32 (w32_w _)) (w64_xR _ _ _)
theorem w4_yf291 (B : Nat) (p0 p1 : Int) (m : xw_M) (zp0 : w64 p0 = p0) (zp1 : w64 p1 = p1) : W4 (yf291 B p0 p1 m) := by
  unfold yf291
  repeat' first
    | with_reducible exact W4_none
    | with_reducible refine W4_some ?_
    | with_reducible exact W4_thr
    | with_reducible refine W4_if (fun _ => ?_) (fun _ => ?_)
    | with_reducible refine W4_B (fun _ _ => ?_)
    | with_reducible refine W4_l3 (w4_yl291_10 B ) _ _ _ _ _ ?_ ?_ ?_
    | assumption
    | with_reducible exact w64_xR _ _ _
    | with_reducible exact w64_xJ _ _ _
    | with_reducible exact w64_32 (w32_w _)
    | with_reducible exact w64_w _
    | with_reducible decide
    | with_reducible exact w64_md (w64_32 (w32_w _)) ⟨by assumption, by assumption⟩
    | with_reducible exact w4_dv (by assumption) (by assumption) (Int.le_of_lt (by assumption))
    | with_reducible exact w4_dv (w64_32 (w32_w _)) (by assumption) (by decide)
    | exact w64_mn (w64_32 (w32_w _)) (w64_32 (w32_w _))
    | exact w64_mn (w64_32 (w32_w _)) (w64_xR _ _ _)
theorem w4_yl247_51 (B : Nat) (r51 : Int → xw_M → xP) (hr51 : ∀ a0 m, w64 a0 = a0 → W4 (r51 a0 m)) (x1 : Int) (m : xw_M) (zx1 : w64 x1 = x1) : W4 (yl247_51 B r51 x1 m) := by
  unfold yl247_51
  repeat' first
    | with_reducible exact W4_none
    | with_reducible refine W4_some ?_
    | with_reducible exact W4_thr
    | with_reducible refine W4_if (fun _ => ?_) (fun _ => ?_)
    | with_reducible refine W4_B (fun _ _ => ?_)
    | with_reducible refine hr51 _ _ ?_
    | assumption
    | with_reducible exact w64_xR _ _ _
    | with_reducible exact w64_xJ _ _ _
    | with_reducible exact w64_32 (w32_w _)
    | with_reducible exact w64_w _
    | with_reducible decide
    | with_reducible exact w64_md (w64_32 (w32_w _)) ⟨by assumption, by assumption⟩
    | with_reducible exact w4_dv (by assumption) (by assumption) (Int.le_of_lt (by assumption))
    | with_reducible exact w4_dv (w64_32 (w32_w _)) (by assumption) (by decide)
    | exact w64_mn (w64_32 (w32_w _)) (w64_32 (w32_w _))
    | exact w64_mn (w64_32 (w32_w _)) (w64_xR _ _ _)
theorem w4_yf247 (B : Nat) (m : xw_M)  : W4 (yf247 B m) := by
  unfold yf247
  repeat' first
    | with_reducible exact W4_none
    | with_reducible refine W4_some ?_
    | with_reducible exact W4_thr
    | with_reducible refine W4_if (fun _ => ?_) (fun _ => ?_)
    | with_reducible refine W4_B (fun _ _ => ?_)
    | with_reducible refine W4_l1 (w4_yl247_51 B ) _ _ _ ?_
    | assumption
    | with_reducible exact w64_xR _ _ _
    | with_reducible exact w64_xJ _ _ _
    | with_reducible exact w64_32 (w32_w _)
    | with_reducible exact w64_w _
    | with_reducible decide
    | with_reducible exact w64_md (w64_32 (w32_w _)) ⟨by assumption, by assumption⟩
    | with_reducible exact w4_dv (by assumption) (by assumption) (Int.le_of_lt (by assumption))
    | with_reducible exact w4_dv (w64_32 (w32_w _)) (by assumption) (by decide)
    | exact w64_mn (w64_32 (w32_w _)) (w64_32 (w32_w _))
    | exact w64_mn (w64_32 (w32_w _)) (w64_xR _ _ _)
theorem w4_yf302 (B : Nat) (p0 : Int) (m : xw_M) (zp0 : w64 p0 = p0) : W4 (yf302 B p0 m) := by
  unfold yf302
  repeat' first
    | with_reducible exact W4_none
    | with_reducible refine W4_some ?_
    | with_reducible exact W4_thr
    | with_reducible refine W4_if (fun _ => ?_) (fun _ => ?_)
    | with_reducible refine W4_B (fun _ _ => ?_)
    | assumption
    | with_reducible exact w64_xR _ _ _
    | with_reducible exact w64_xJ _ _ _
    | with_reducible exact w64_32 (w32_w _)
    | with_reducible exact w64_w _
    | with_reducible decide
    | with_reducible exact w64_md (w64_32 (w32_w _)) ⟨by assumption, by assumption⟩
    | with_reducible exact w4_dv (by assumption) (by assumption) (Int.le_of_lt (by assumption))
    | with_reducible exact w4_dv (w64_32 (w32_w _)) (by assumption) (by decide)
    | exact w64_mn (w64_32 (w32_w _)) (w64_32 (w32_w _))
    | exact w64_mn (w64_32 (w32_w _)) (w64_xR _ _ _)
theorem w4_yl304_26 (B : Nat) (r5 : Int → Int → xw_M → xP) (hr5 : ∀ a0 a1 m, w64 a0 = a0 → w64 a1 = a1 → W4 (r5 a0 a1 m)) (r26 : Int → Int → Int → xw_M → xP) (hr26 : ∀ a0 a1 a2 m, w64 a0 = a0 → w64 a1 = a1 → w64 a2 = a2 → W4 (r26 a0 a1 a2 m)) (x1 x2 x3 : Int) (m : xw_M) (zx1 : w64 x1 = x1) (zx2 : w64 x2 = x2) (zx3 : w64 x3 = x3) : W4 (yl304_26 B r5 r26 x1 x2 x3 m) := by
  unfold yl304_26
  repeat' first
    | with_reducible exact W4_none
    | with_reducible refine W4_some ?_
    | with_reducible exact W4_thr
    | with_reducible refine W4_if (fun _ => ?_) (fun _ => ?_)
    | with_reducible refine W4_B (fun _ _ => ?_)
    | with_reducible refine hr5 _ _ _ ?_ ?_
    | with_reducible refine hr26 _ _ _ _ ?_ ?_ ?_
    | assumption
    | with_reducible exact w64_xR _ _ _
    | with_reducible exact w64_xJ _ _ _
    | with_reducible exact w64_32 (w32_w _)
    | with_reducible exact w64_w _
    | with_reducible decide
    | with_reducible exact w64_md (w64_32 (w32_w _)) ⟨by assumption, by assumption⟩
    | with_reducible exact w4_dv (by assumption) (by assumption) (Int.le_of_lt (by assumption))
    | with_reducible exact w4_dv (w64_32 (w32_w _)) (by assumption) (by decide)
    | exact w64_mn (w64_32 (w32_w _)) (w64_32 (w32_w _))
    | exact w64_mn (w64_32 (w32_w _)) (w64_xR _ _ _)
theorem w4_yl304_77 (B : Nat) (r77 : Int → Int → xw_M → xP) (hr77 : ∀ a0 a1 m, w64 a0 = a0 → w64 a1 = a1 → W4 (r77 a0 a1 m)) (x1 x2 : Int) (m : xw_M) (zx1 : w64 x1 = x1) (zx2 : w64 x2 = x2) : W4 (yl304_77 B r77 x1 x2 m) := by
  unfold yl304_77
  repeat' first
    | with_reducible exact W4_none
    | with_reducible refine W4_some ?_
    | with_reducible exact W4_thr
    | with_reducible refine W4_if (fun _ => ?_) (fun _ => ?_)
    | with_reducible refine W4_B (fun _ _ => ?_)
    | with_reducible refine hr77 _ _ _ ?_ ?_
    | assumption
    | with_reducible exact w64_xR _ _ _
    | with_reducible exact w64_xJ _ _ _
    | with_reducible exact w64_32 (w32_w _)
    | with_reducible exact w64_w _
    | with_reducible decide
    | with_reducible exact w64_md (w64_32 (w32_w _)) ⟨by assumption, by assumption⟩
    | with_reducible exact w4_dv (by assumption) (by assumption) (Int.le_of_lt (by assumption))
    | with_reducible exact w4_dv (w64_32 (w32_w _)) (by assumption) (by decide)
    | exact w64_mn (w64_32 (w32_w _)) (w64_32 (w32_w _))
    | exact w64_mn (w64_32 (w32_w _)) (w64_xR _ _ _)
theorem w4_yl304_5 (B : Nat) (r5 : Int → Int → xw_M → xP) (hr5 : ∀ a0 a1 m, w64 a0 = a0 → w64 a1 = a1 → W4 (r5 a0 a1 m)) (x1 x2 : Int) (m : xw_M) (zx1 : w64 x1 = x1) (zx2 : w64 x2 = x2) : W4 (yl304_5 B r5 x1 x2 m) := by
  unfold yl304_5
  repeat' first
    | with_reducible exact W4_none
    | with_reducible refine W4_some ?_
    | with_reducible exact W4_thr
    | with_reducible refine W4_if (fun _ => ?_) (fun _ => ?_)
    | with_reducible refine W4_B (fun _ _ => ?_)
    | with_reducible refine W4_l3 (w4_yl304_26 B _ (by assumption)) _ _ _ _ _ ?_ ?_ ?_
    | with_reducible refine W4_l2 (w4_yl304_77 B ) _ _ _ _ ?_ ?_
    | with_reducible refine hr5 _ _ _ ?_ ?_
    | assumption
    | with_reducible exact w64_xR _ _ _
    | with_reducible exact w64_xJ _ _ _
    | with_reducible exact w64_32 (w32_w _)
    | with_reducible exact w64_w _
    | with_reducible decide
    | with_reducible exact w64_md (w64_32 (w32_w _)) ⟨by assumption, by assumption⟩
    | with_reducible exact w4_dv (by assumption) (by assumption) (Int.le_of_lt (by assumption))
    | with_reducible exact w4_dv (w64_32 (w32_w _)) (by assumption) (by decide)
    | exact w64_mn (w64_32 (w32_w _)) (w64_32 (w32_w _))
    | exact w64_mn (w64_32 (w32_w _)) (w64_xR _ _ _)
theorem w4_yf304 (B : Nat) (m : xw_M)  : W4 (yf304 B m) := by
  unfold yf304
  repeat' first
    | with_reducible exact W4_none
    | with_reducible refine W4_some ?_
    | with_reducible exact W4_thr
    | with_reducible refine W4_if (fun _ => ?_) (fun _ => ?_)
    | with_reducible refine W4_B (fun _ _ => ?_)
    | with_reducible refine W4_l2 (w4_yl304_5 B ) _ _ _ _ ?_ ?_
    | assumption
    | with_reducible exact w64_xR _ _ _
    | with_reducible exact w64_xJ _ _ _
    | with_reducible exact w64_32 (w32_w _)
    | with_reducible exact w64_w _
    | with_reducible decide
    | with_reducible exact w64_md (w64_32 (w32_w _)) ⟨by assumption, by assumption⟩
    | with_reducible exact w4_dv (by assumption) (by assumption) (Int.le_of_lt (by assumption))
    | with_reducible exact w4_dv (w64_32 (w32_w _)) (by assumption) (by decide)
    | exact w64_mn (w64_32 (w32_w _)) (w64_32 (w32_w _))
    | exact w64_mn (w64_32 (w32_w _)) (w64_xR _ _ _)
theorem w4_yk307_55 (B : Nat) (r6 : Int → Int → xw_M → xP) (hr6 : ∀ a0 a1 m, w64 a0 = a0 → w64 a1 = a1 → W4 (r6 a0 a1 m)) (x1 x2 x3 : Int) (m : xw_M) (zx1 : w64 x1 = x1) (zx2 : w64 x2 = x2) (zx3 : w64 x3 = x3) : W4 (yk307_55 B r6 x1 x2 x3 m) := by
  unfold yk307_55
  repeat' first
    | with_reducible exact W4_none
    | with_reducible refine W4_some ?_
    | with_reducible exact W4_thr
    | with_reducible refine W4_if (fun _ => ?_) (fun _ => ?_)
    | with_reducible refine W4_B (fun _ _ => ?_)
    | with_reducible refine hr6 _ _ _ ?_ ?_
    | assumption
    | with_reducible exact w64_xR _ _ _
    | with_reducible exact w64_xJ _ _ _
    | with_reducible exact w64_32 (w32_w _)
    | with_reducible exact w64_w _
    | with_reducible decide
    | with_reducible exact w64_md (w64_32 (w32_w _)) ⟨by assumption, by assumption⟩
    | with_reducible exact w4_dv (by assumption) (by assumption) (Int.le_of_lt (by assumption))
    | with_reducible exact w4_dv (w64_32 (w32_w _)) (by assumption) (by decide)
    | exact w64_mn (w64_32 (w32_w _)) (w64_32 (w32_w _))
    | exact w64_mn (w64_32 (w32_w _)) (w64_xR _ _ _)
theorem w4_yl307_21 (B : Nat) (r6 : Int → Int → xw_M → xP) (hr6 : ∀ a0 a1 m, w64 a0 = a0 → w64 a1 = a1 → W4 (r6 a0 a1 m)) (r21 : Int → Int → Int → Int → xw_M → xP) (hr21 : ∀ a0 a1 a2 a3 m, w64 a0 = a0 → w64 a1 = a1 → w64 a2 = a2 → w64 a3 = a3 → W4 (r21 a0 a1 a2 a3 m)) (x1 x2 x3 x4 : Int) (m : xw_M) (zx1 : w64 x1 = x1) (zx2 : w64 x2 = x2) (zx3 : w64 x3 = x3) (zx4 : w64 x4 = x4) : W4 (yl307_21 B r6 r21 x1 x2 x3 x4 m) := by
  unfold yl307_21
  repeat' first
    | with_reducible exact W4_none
    | with_reducible refine W4_some ?_
    | with_reducible exact W4_thr
    | with_reducible refine W4_if (fun _ => ?_) (fun _ => ?_)
    | with_reducible refine W4_B (fun _ _ => ?_)
    | with_reducible refine w4_yk307_55 B _ (by assumption) _ _ _ _ ?_ ?_ ?_
    | with_reducible refine hr6 _ _ _ ?_ ?_
    | with_reducible refine hr21 _ _ _ _ _ ?_ ?_ ?_ ?_
    | assumption
    | with_reducible exact w64_xR _ _ _
    | with_reducible exact w64_xJ _ _ _
    | with_reducible exact w64_32 (w32_w _)
    | with_reducible exact w64_w _
    | with_reducible decide
    | with_reducible exact w64_md (w64_32 (w32_w _)) ⟨by assumption, by assumption⟩
    | with_reducible exact w4_dv (by assumption) (by assumption) (Int.le_of_lt (by assumption))
    | with_reducible exact w4_dv (w64_32 (w32_w _)) (by assumption) (by decide)
    | exact w64_mn (w64_32 (w32_w _)) (w64_32 (w32_w _))
    | exact w64_mn (w64_32 (w32_w _)) (w64_xR _ _ _)
theorem w4_yl307_6 (B : Nat) (r6 : Int → Int → xw_M → xP) (hr6 : ∀ a0 a1 m, w64 a0 = a0 → w64 a1 = a1 → W4 (r6 a0 a1 m)) (x1 x2 : Int) (m : xw_M) (zx1 : w64 x1 = x1) (zx2 : w64 x2 = x2) : W4 (yl307_6 B r6 x1 x2 m) := by
  unfold yl307_6
  repeat' first
    | with_reducible exact W4_none
    | with_reducible refine W4_some ?_
    | with_reducible exact W4_thr
    | with_reducible refine W4_if (fun _ => ?_) (fun _ => ?_)
    | with_reducible refine W4_B (fun _ _ => ?_)
    | with_reducible refine W4_l4 (w4_yl307_21 B _ (by assumption)) _ _ _ _ _ _ ?_ ?_ ?_ ?_
    | with_reducible refine hr6 _ _ _ ?_ ?_
    | assumption
    | with_reducible exact w64_xR _ _ _
    | with_reducible exact w64_xJ _ _ _
    | with_reducible exact w64_32 (w32_w _)
    | with_reducible exact w64_w _
    | with_reducible decide
    | with_reducible exact w64_md (w64_32 (w32_w _)) ⟨by assumption, by assumption⟩
    | with_reducible exact w4_dv (by assumption) (by assumption) (Int.le_of_lt (by assumption))
    | with_reducible exact w4_dv (w64_32 (w32_w _)) (by assumption) (by decide)
    | exact w64_mn (w64_32 (w32_w _)) (w64_32 (w32_w _))
    | exact w64_mn (w64_32 (w32_w _)) (w64_xR _ _ _)
theorem w4_yf307 (B : Nat) (p0 : Int) (m : xw_M) (zp0 : w64 p0 = p0) : W4 (yf307 B p0 m) := by
  unfold yf307
  repeat' first
    | with_reducible exact W4_none
    | with_reducible refine W4_some ?_
    | with_reducible exact W4_thr
    | with_reducible refine W4_if (fun _ => ?_) (fun _ => ?_)
    | with_reducible refine W4_B (fun _ _ => ?_)
    | with_reducible refine W4_l2 (w4_yl307_6 B ) _ _ _ _ ?_ ?_
    | assumption
    | with_reducible exact w64_xR _ _ _
    | with_reducible exact w64_xJ _ _ _
    | with_reducible exact w64_32 (w32_w _)
    | with_reducible exact w64_w _
    | with_reducible decide
    | with_reducible exact w64_md (w64_32 (w32_w _)) ⟨by assumption, by assumption⟩
    | with_reducible exact w4_dv (by assumption) (by assumption) (Int.le_of_lt (by assumption))
    | with_reducible exact w4_dv (w64_32 (w32_w _)) (by assumption) (by decide)
    | exact w64_mn (w64_32 (w32_w _)) (w64_32 (w32_w _))
    | exact w64_mn (w64_32 (w32_w _)) (w64_xR _ _ _)
theorem w4_yk305_337 (B : Nat) (x5 x8 : Int) (m : xw_M) (zx5 : w64 x5 = x5) (zx8 : w64 x8 = x8) : W4 (yk305_337 B x5 x8 m) := by
  unfold yk305_337
  repeat' first
    | with_reducible exact W4_none
    | with_reducible refine W4_some ?_
    | with_reducible exact W4_thr
    | with_reducible refine W4_if (fun _ => ?_) (fun _ => ?_)
    | with_reducible refine W4_B (fun _ _ => ?_)
    | assumption
    | with_reducible exact w64_xR _ _ _
    | with_reducible exact w64_xJ _ _ _
    | with_reducible exact w64_32 (w32_w _)
    | with_reducible exact w64_w _
    | with_reducible decide
    | with_reducible exact w64_md (w64_32 (w32_w _)) ⟨by assumption, by assumption⟩
    | with_reducible exact w4_dv (by assumption) (by assumption) (Int.le_of_lt (by assumption))
    | with_reducible exact w4_dv (w64_32 (w32_w _)) (by assumption) (by decide)
    | exact w64_mn (w64_32 (w32_w _)) (w64_32 (w32_w _))
    | exact w64_mn (w64_32 (w32_w _)) (w64_xR _ _ _)
theorem w4_yl305_208 (B : Nat) (r208 : Int → Int → Int → Int → Int → Int → Int → Int → xw_M → xP) (hr208 : ∀ a0 a1 a2 a3 a4 a5 a6 a7 m, w64 a0 = a0 → w64 a1 = a1 → w64 a2 = a2 → w64 a3 = a3 → w64 a4 = a4 → w64 a5 = a5 → w64 a6 = a6 → w64 a7 = a7 → W4 (r208 a0 a1 a2 a3 a4 a5 a6 a7 m)) (x2 x3 x4 x5 x7 x8 x10 x11 : Int) (m : xw_M) (zx2 : w64 x2 = x2) (zx3 : w64 x3 = x3) (zx4 : w64 x4 = x4) (zx5 : w64 x5 = x5) (zx7 : w64 x7 = x7) (zx8 : w64 x8 = x8) (zx10 : w64 x10 = x10) (zx11 : w64 x11 = x11) : W4 (yl305_208 B r208 x2 x3 x4 x5 x7 x8 x10 x11 m) := by
  unfold yl305_208
  repeat' first
    | with_reducible exact W4_none
    | with_reducible refine W4_some ?_
    | with_reducible exact W4_thr
    | with_reducible refine W4_if (fun _ => ?_) (fun _ => ?_)
    | with_reducible refine W4_B (fun _ _ => ?_)
    | with_reducible refine w4_yk305_337 B  _ _ _ ?_ ?_
    | with_reducible refine hr208 _ _ _ _ _ _ _ _ _ ?_ ?_ ?_ ?_ ?_ ?_ ?_ ?_
    | assumption
    | with_reducible exact w64_xR _ _ _
    | with_reducible exact w64_xJ _ _ _
    | with_reducible exact w64_32 (w32_w _)
    | with_reducible exact w64_w _
    | with_reducible decide
    | with_reducible exact w64_md (w64_32 (w32_w _)) ⟨by assumption, by assumption⟩
    | with_reducible exact w4_dv (by assumption) (by assumption) (Int.le_of_lt (by assumption))
    | with_reducible exact w4_dv (w64_32 (w32_w _)) (by assumption) (by decide)
    | exact w64_mn (w64_32 (w32_w _)) (w64_32 (w32_w _))
    | exact w64_mn (w64_32 (w32_w _)) (w64_xR _ _ _)
theorem w4_yk305_123 (B : Nat) (x2 x3 x4 x5 x7 : Int) (m : xw_M) (zx2 : w64 x2 = x2) (zx3 : w64 x3 = x3) (zx4 : w64 x4 = x4) (zx5 : w64 x5 = x5) (zx7 : w64 x7 = x7) : W4 (yk305_123 B x2 x3 x4 x5 x7 m) := by
  unfold yk305_123
  repeat' first
    | with_reducible exact W4_none
    | with_reducible refine W4_some ?_
    | with_reducible exact W4_thr
    | with_reducible refine W4_if (fun _ => ?_) (fun _ => ?_)
    | with_reducible refine W4_B (fun _ _ => ?_)
    | with_reducible refine W4_l8 (w4_yl305_208 B ) _ _ _ _ _ _ _ _ _ _ ?_ ?_ ?_ ?_ ?_ ?_ ?_ ?_
    | with_reducible refine w4_yk305_337 B  _ _ _ ?_ ?_
    | assumption
    | with_reducible exact w64_xR _ _ _
    | with_reducible exact w64_xJ _ _ _
    | with_reducible exact w64_32 (w32_w _)
    | with_reducible exact w64_w _
    | with_reducible decide
    | with_reducible exact w64_md (w64_32 (w32_w _)) ⟨by assumption, by assumption⟩
    | with_reducible exact w4_dv (by assumption) (by assumption) (Int.le_of_lt (by assumption))
    | with_reducible exact w4_dv (w64_32 (w32_w _)) (by assumption) (by decide)
    | exact w64_mn (w64_32 (w32_w _)) (w64_32 (w32_w _))
    | exact w64_mn (w64_32 (w32_w _)) (w64_xR _ _ _)
theorem w4_yk305_93 (B : Nat) (x2 x3 x4 x5 x7 : Int) (m : xw_M) (zx2 : w64 x2 = x2) (zx3 : w64 x3 = x3) (zx4 : w64 x4 = x4) (zx5 : w64 x5 = x5) (zx7 : w64 x7 = x7) : W4 (yk305_93 B x2 x3 x4 x5 x7 m) := by
  unfold yk305_93
  repeat' first
    | with_reducible exact W4_none
    | with_reducible refine W4_some ?_
    | with_reducible exact W4_thr
    | with_reducible refine W4_if (fun _ => ?_) (fun _ => ?_)
    | with_reducible refine W4_B (fun _ _ => ?_)
    | with_reducible refine w4_yk305_123 B  _ _ _ _ _ _ ?_ ?_ ?_ ?_ ?_
    | with_reducible refine W4_l8 (w4_yl305_208 B ) _ _ _ _ _ _ _ _ _ _ ?_ ?_ ?_ ?_ ?_ ?_ ?_ ?_
    | with_reducible refine w4_yk305_337 B  _ _ _ ?_ ?_
    | assumption
    | with_reducible exact w64_xR _ _ _
    | with_reducible exact w64_xJ _ _ _
    | with_reducible exact w64_32 (w32_w _)
    | with_reducible exact w64_w _
    | with_reducible decide
    | with_reducible exact w64_md (w64_32 (w32_w _)) ⟨by assumption, by assumption⟩
    | with_reducible exact w4_dv (by assumption) (by assumption) (Int.le_of_lt (by assumption))
    | with_reducible exact w4_dv (w64_32 (w32_w _)) (by assumption) (by decide)
    | exact w64_mn (w64_32 (w32_w _)) (w64_32 (w32_w _))
    | exact w64_mn (w64_32 (w32_w _)) (w64_xR _ _ _)
theorem w4_yl305_22 (B : Nat) (r22 : Int → Int → Int → Int → Int → Int → xw_M → xP) (hr22 : ∀ a0 a1 a2 a3 a4 a5 m, w64 a0 = a0 → w64 a1 = a1 → w64 a2 = a2 → w64 a3 = a3 → w64 a4 = a4 → w64 a5 = a5 → W4 (r22 a0 a1 a2 a3 a4 a5 m)) (x2 x3 x4 x5 x6 x7 : Int) (m : xw_M) (zx2 : w64 x2 = x2) (zx3 : w64 x3 = x3) (zx4 : w64 x4 = x4) (zx5 : w64 x5 = x5) (zx6 : w64 x6 = x6) (zx7 : w64 x7 = x7) : W4 (yl305_22 B r22 x2 x3 x4 x5 x6 x7 m) := by
  unfold yl305_22
  repeat' first
    | with_reducible exact W4_none
    | with_reducible refine W4_some ?_
    | with_reducible exact W4_thr
    | with_reducible refine W4_if (fun _ => ?_) (fun _ => ?_)
    | with_reducible refine W4_Bi (w4_yf307 B _ _ ?_) (fun _ _ _ => ?_)
    | with_reducible refine W4_B (fun _ _ => ?_)
    | with_reducible refine w4_yk305_93 B  _ _ _ _ _ _ ?_ ?_ ?_ ?_ ?_
    | with_reducible refine w4_yf307 B  _ _ ?_
    | with_reducible refine hr22 _ _ _ _ _ _ _ ?_ ?_ ?_ ?_ ?_ ?_
    | assumption
    | with_reducible exact w64_xR _ _ _
    | with_reducible exact w64_xJ _ _ _
    | with_reducible exact w64_32 (w32_w _)
    | with_reducible exact w64_w _
    | with_reducible decide
    | with_reducible exact w64_md (w64_32 (w32_w _)) ⟨by assumption, by assumption⟩
    | with_reducible exact w4_dv (by assumption) (by assumption) (Int.le_of_lt (by assumption))
    | with_reducible exact w4_dv (w64_32 (w32_w _)) (by assumption) (by decide)
    | exact w64_mn (w64_32 (w32_w _)) (w64_32 (w32_w _))
    | exact w64_mn (w64_32 (w32_w _)) (w64_xR _ _ _)
theorem w4_yf305 (B : Nat) (p0 p1 p2 p3 : Int) (m : xw_M) (zp0 : w64 p0 = p0) (zp1 : w64 p1 = p1) (zp2 : w64 p2 = p2) (zp3 : w64 p3 = p3) : W4 (yf305 B p0 p1 p2 p3 m) := by
  unfold yf305
  repeat' first
    | with_reducible exact W4_none
    | with_reducible refine W4_some ?_
    | with_reducible exact W4_thr
    | with_reducible refine W4_if (fun _ => ?_) (fun _ => ?_)
    | with_reducible refine W4_B (fun _ _ => ?_)
    | with_reducible refine W4_l6 (w4_yl305_22 B ) _ _ _ _ _ _ _ _ ?_ ?_ ?_ ?_ ?_ ?_
    | assumption
    | with_reducible exact w64_xR _ _ _
    | with_reducible exact w64_xJ _ _ _
    | with_reducible exact w64_32 (w32_w _)
    | with_reducible exact w64_w _
    | with_reducible decide
    | with_reducible exact w64_md (w64_32 (w32_w _)) ⟨by assumption, by assumption⟩
    | with_reducible exact w4_dv (by assumption) (by assumption) (Int.le_of_lt (by assumption))
    | with_reducible exact w4_dv (w64_32 (w32_w _)) (by assumption) (by decide)
    | exact w64_mn (w64_32 (w32_w _)) (w64_32 (w32_w _))
    | exact w64_mn (w64_32 (w32_w _)) (w64_xR _ _ _)
theorem w4_yf312 (B : Nat) (p0 : Int) (m : xw_M) (zp0 : w64 p0 = p0) : W4 (yf312 B p0 m) := by
  unfold yf312
  repeat' first
    | with_reducible exact W4_none
    | with_reducible refine W4_some ?_
    | with_reducible exact W4_thr
    | with_reducible refine W4_if (fun _ => ?_) (fun _ => ?_)
    | with_reducible refine W4_B (fun _ _ => ?_)
    | assumption
    | with_reducible exact w64_xR _ _ _
    | with_reducible exact w64_xJ _ _ _
    | with_reducible exact w64_32 (w32_w _)
    | with_reducible exact w64_w _
    | with_reducible decide
    | with_reducible exact w64_md (w64_32 (w32_w _)) ⟨by assumption, by assumption⟩
    | with_reducible exact w4_dv (by assumption) (by assumption) (Int.le_of_lt (by assumption))
    | with_reducible exact w4_dv (w64_32 (w32_w _)) (by assumption) (by decide)
    | exact w64_mn (w64_32 (w32_w _)) (w64_32 (w32_w _))
    | exact w64_mn (w64_32 (w32_w _)) (w64_xR _ _ _)
theorem w4_yk303_136 (B : Nat) (x2 : Int) (m : xw_M) (zx2 : w64 x2 = x2) : W4 (yk303_136 B x2 m) := by
  unfold yk303_136
  repeat' first
    | with_reducible exact W4_none
    | with_reducible refine W4_some ?_
    | with_reducible exact W4_thr
    | with_reducible refine W4_if (fun _ => ?_) (fun _ => ?_)
    | with_reducible refine W4_Bi (w4_yf312 B _ _ ?_) (fun _ _ _ => ?_)
    | with_reducible refine W4_B (fun _ _ => ?_)
    | with_reducible refine w4_yf312 B  _ _ ?_
    | assumption
    | with_reducible exact w64_xR _ _ _
    | with_reducible exact w64_xJ _ _ _
    | with_reducible exact w64_32 (w32_w _)
    | with_reducible exact w64_w _
    | with_reducible decide
    | with_reducible exact w64_md (w64_32 (w32_w _)) ⟨by assumption, by assumption⟩
    | with_reducible exact w4_dv (by assumption) (by assumption) (Int.le_of_lt (by assumption))
    | with_reducible exact w4_dv (w64_32 (w32_w _)) (by assumption) (by decide)
    | exact w64_mn (w64_32 (w32_w _)) (w64_32 (w32_w _))
    | exact w64_mn (w64_32 (w32_w _)) (w64_xR _ _ _)
theorem w4_yl303_117 (B : Nat) (r117 : Int → Int → xw_M → xP) (hr117 : ∀ a0 a1 m, w64 a0 = a0 → w64 a1 = a1 → W4 (r117 a0 a1 m)) (x2 x3 : Int) (m : xw_M) (zx2 : w64 x2 = x2) (zx3 : w64 x3 = x3) : W4 (yl303_117 B r117 x2 x3 m) := by
  unfold yl303_117
  repeat' first
    | with_reducible exact W4_none
    | with_reducible refine W4_some ?_
    | with_reducible exact W4_thr
    | with_reducible refine W4_if (fun _ => ?_) (fun _ => ?_)
    | with_reducible refine W4_B (fun _ _ => ?_)
    | with_reducible refine w4_yk303_136 B  _ _ ?_
    | with_reducible refine hr117 _ _ _ ?_ ?_
    | assumption
    | with_reducible exact w64_xR _ _ _
    | with_reducible exact w64_xJ _ _ _
    | with_reducible exact w64_32 (w32_w _)
    | with_reducible exact w64_w _
    | with_reducible decide
    | with_reducible exact w64_md (w64_32 (w32_w _)) ⟨by assumption, by assumption⟩
    | with_reducible exact w4_dv (by assumption) (by assumption) (Int.le_of_lt (by assumption))
    | with_reducible exact w4_dv (w64_32 (w32_w _)) (by assumption) (by decide)
    | exact w64_mn (w64_32 (w32_w _)) (w64_32 (w32_w _))
    | exact w64_mn (w64_32 (w32_w _)) (w64_xR _ _ _)
theorem w4_yl303_36 (B : Nat) (r36 : Int → Int → xw_M → xP) (hr36 : ∀ a0 a1 m, w64 a0 = a0 → w64 a1 = a1 → W4 (r36 a0 a1 m)) (x1 x2 : Int) (m : xw_M) (zx1 : w64 x1 = x1) (zx2 : w64 x2 = x2) : W4 (yl303_36 B r36 x1 x2 m) := by
  unfold yl303_36
  repeat' first
    | with_reducible exact W4_none
    | with_reducible refine W4_some ?_
    | with_reducible exact W4_thr
    | with_reducible refine W4_if (fun _ => ?_) (fun _ => ?_)
    | with_reducible refine W4_Bi (w4_yf304 B  _ ) (fun _ _ _ => ?_)
    | with_reducible refine W4_Bi (w4_yf305 B _ _ _ _ _ ?_ ?_ ?_ ?_) (fun _ _ _ => ?_)
    | with_reducible refine W4_B (fun _ _ => ?_)
    | with_reducible refine w4_yf304 B   _ 
    | with_reducible refine w4_yf305 B  _ _ _ _ _ ?_ ?_ ?_ ?_
    | with_reducible refine w4_yk303_136 B  _ _ ?_
    | with_reducible refine W4_l2 (w4_yl303_117 B ) _ _ _ _ ?_ ?_
    | with_reducible refine hr36 _ _ _ ?_ ?_
    | assumption
    | with_reducible exact w64_xR _ _ _
    | with_reducible exact w64_xJ _ _ _
    | with_reducible exact w64_32 (w32_w _)
    | with_reducible exact w64_w _
    | with_reducible decide
    | with_reducible exact w64_md (w64_32 (w32_w _)) ⟨by assumption, by assumption⟩
    | with_reducible exact w4_dv (by assumption) (by assumption) (Int.le_of_lt (by assumption))
    | with_reducible exact w4_dv (w64_32 (w32_w _)) (by assumption) (by decide)
    | exact w64_mn (w64_32 (w32_w _)) (w64_32 (w32_w _))
    | exact w64_mn (w64_32 (w32_w _)) (w64_xR _ _ _)
theorem w4_yf303 (B : Nat) (m : xw_M)  : W4 (yf303 B m) := by
  unfold yf303
  repeat' first
    | with_reducible exact W4_none
    | with_reducible refine W4_some ?_
    | with_reducible exact W4_thr
    | with_reducible refine W4_if (fun _ => ?_) (fun _ => ?_)
    | with_reducible refine W4_B (fun _ _ => ?_)
    | with_reducible refine W4_l2 (w4_yl303_36 B ) _ _ _ _ ?_ ?_
    | assumption
    | with_reducible exact w64_xR _ _ _
    | with_reducible exact w64_xJ _ _ _
    | with_reducible exact w64_32 (w32_w _)
    | with_reducible exact w64_w _
    | with_reducible decide
    | with_reducible exact w64_md (w64_32 (w32_w _)) ⟨by assumption, by assumption⟩
    | with_reducible exact w4_dv (by assumption) (by assumption) (Int.le_of_lt (by assumption))
    | with_reducible exact w4_dv (w64_32 (w32_w _)) (by assumption) (by decide)
    | exact w64_mn (w64_32 (w32_w _)) (w64_32 (w32_w _))
    | exact w64_mn (w64_32 (w32_w _)) (w64_xR _ _ _)
theorem w4_yf317 (B : Nat) (p0 p1 : Int) (m : xw_M) (zp0 : w64 p0 = p0) (zp1 : w64 p1 = p1) : W4 (yf317 B p0 p1 m) := by
  unfold yf317
  repeat' first
    | with_reducible exact W4_none
    | with_reducible refine W4_some ?_
    | with_reducible exact W4_thr
    | with_reducible refine W4_if (fun _ => ?_) (fun _ => ?_)
    | with_reducible refine W4_B (fun _ _ => ?_)
    | assumption
    | with_reducible exact w64_xR _ _ _
    | with_reducible exact w64_xJ _ _ _
    | with_reducible exact w64_32 (w32_w _)
    | with_reducible exact w64_w _
    | with_reducible decide
    | with_reducible exact w64_md (w64_32 (w32_w _)) ⟨by assumption, by assumption⟩
    | with_reducible exact w4_dv (by assumption) (by assumption) (Int.le_of_lt (by assumption))
    | with_reducible exact w4_dv (w64_32 (w32_w _)) (by assumption) (by decide)
    | exact w64_mn (w64_32 (w32_w _)) (w64_32 (w32_w _))
    | exact w64_mn (w64_32 (w32_w _)) (w64_xR _ _ _)
theorem w4_yl318_49 (B : Nat) (r35 : Int → Int → xw_M → xP) (hr35 : ∀ a0 a1 m, w64 a0 = a0 → w64 a1 = a1 → W4 (r35 a0 a1 m)) (r49 : Int → Int → Int → xw_M → xP) (hr49 : ∀ a0 a1 a2 m, w64 a0 = a0 → w64 a1 = a1 → w64 a2 = a2 → W4 (r49 a0 a1 a2 m)) (x1 x2 x3 : Int) (m : xw_M) (zx1 : w64 x1 = x1) (zx2 : w64 x2 = x2) (zx3 : w64 x3 = x3) : W4 (yl318_49 B r35 r49 x1 x2 x3 m) := by
  unfold yl318_49
  repeat' first
    | with_reducible exact W4_none
    | with_reducible refine W4_some ?_
    | with_reducible exact W4_thr
    | with_reducible refine W4_if (fun _ => ?_) (fun _ => ?_)
    | with_reducible refine W4_B (fun _ _ => ?_)
    | with_reducible refine hr35 _ _ _ ?_ ?_
    | with_reducible refine hr49 _ _ _ _ ?_ ?_ ?_
    | assumption
    | with_reducible exact w64_xR _ _ _
    | with_reducible exact w64_xJ _ _ _
    | with_reducible exact w64_32 (w32_w _)
    | with_reducible exact w64_w _
    | with_reducible decide
    | with_reducible exact w64_md (w64_32 (w32_w _)) ⟨by assumption, by assumption⟩
    | with_reducible exact w4_dv (by assumption) (by assumption) (Int.le_of_lt (by assumption))
    | with_reducible exact w4_dv (w64_32 (w32_w _)) (by assumption) (by decide)
    | exact w64_mn (w64_32 (w32_w _)) (w64_32 (w32_w _))
    | exact w64_mn (w64_32 (w32_w _)) (w64_xR _ _ _)
theorem w4_yk318_137 (B : Nat) (m : xw_M)  : W4 (yk318_137 B m) := by
  unfold yk318_137
  repeat' first
    | with_reducible exact W4_none
    | with_reducible refine W4_some ?_
    | with_reducible exact W4_thr
    | with_reducible refine W4_if (fun _ => ?_) (fun _ => ?_)
    | with_reducible refine W4_B (fun _ _ => ?_)
    | assumption
    | with_reducible exact w64_xR _ _ _
    | with_reducible exact w64_xJ _ _ _
    | with_reducible exact w64_32 (w32_w _)
    | with_reducible exact w64_w _
    | with_reducible decide
    | with_reducible exact w64_md (w64_32 (w32_w _)) ⟨by assumption, by assumption⟩
    | with_reducible exact w4_dv (by assumption) (by assumption) (Int.le_of_lt (by assumption))
    | with_reducible exact w4_dv (w64_32 (w32_w _)) (by assumption) (by decide)
    | exact w64_mn (w64_32 (w32_w _)) (w64_32 (w32_w _))
    | exact w64_mn (w64_32 (w32_w _)) (w64_xR _ _ _)
theorem w4_yl318_35 (B : Nat) (r35 : Int → Int → xw_M → xP) (hr35 : ∀ a0 a1 m, w64 a0 = a0 → w64 a1 = a1 → W4 (r35 a0 a1 m)) (x1 x2 : Int) (m : xw_M) (zx1 : w64 x1 = x1) (zx2 : w64 x2 = x2) : W4 (yl318_35 B r35 x1 x2 m) := by
  unfold yl318_35
  repeat' first
    | with_reducible exact W4_none
    | with_reducible refine W4_some ?_
    | with_reducible exact W4_thr
    | with_reducible refine W4_if (fun _ => ?_) (fun _ => ?_)
    | with_reducible refine W4_B (fun _ _ => ?_)
    | with_reducible refine W4_l3 (w4_yl318_49 B _ (by assumption)) _ _ _ _ _ ?_ ?_ ?_
    | with_reducible refine w4_yk318_137 B   _ 
    | with_reducible refine hr35 _ _ _ ?_ ?_
    | assumption
    | with_reducible exact w64_xR _ _ _
    | with_reducible exact w64_xJ _ _ _
    | with_reducible exact w64_32 (w32_w _)
    | with_reducible exact w64_w _
    | with_reducible decide
    | with_reducible exact w64_md (w64_32 (w32_w _)) ⟨by assumption, by assumption⟩
    | with_reducible exact w4_dv (by assumption) (by assumption) (Int.le_of_lt (by assumption))
    | with_reducible exact w4_dv (w64_32 (w32_w _)) (by assumption) (by decide)
    | exact w64_mn (w64_32 (w32_w _)) (w64_32 (w32_w _))
    | exact w64_mn (w64_32 (w32_w _)) (w64_xR _ _ _)
theorem w4_yf318 (B : Nat) (p0 : Int) (m : xw_M) (zp0 : w64 p0 = p0) : W4 (yf318 B p0 m) := by
  unfold yf318
  repeat' first
    | with_reducible exact W4_none
    | with_reducible refine W4_some ?_
    | with_reducible exact W4_thr
    | with_reducible refine W4_if (fun _ => ?_) (fun _ => ?_)
    | with_reducible refine W4_B (fun _ _ => ?_)
    | with_reducible refine W4_l2 (w4_yl318_35 B ) _ _ _ _ ?_ ?_
    | assumption
    | with_reducible exact w64_xR _ _ _
    | with_reducible exact w64_xJ _ _ _
    | with_reducible exact w64_32 (w32_w _)
    | with_reducible exact w64_w _
    | with_reducible decide
    | with_reducible exact w64_md (w64_32 (w32_w _)) ⟨by assumption, by assumption⟩
    | with_reducible exact w4_dv (by assumption) (by assumption) (Int.le_of_lt (by assumption))
    | with_reducible exact w4_dv (w64_32 (w32_w _)) (by assumption) (by decide)
    | exact w64_mn (w64_32 (w32_w _)) (w64_32 (w32_w _))
    | exact w64_mn (w64_32 (w32_w _)) (w64_xR _ _ _)
theorem w4_yl321_120 (B : Nat) (r39 : Int → Int → Int → xw_M → xP) (hr39 : ∀ a0 a1 a2 m, w64 a0 = a0 → w64 a1 = a1 → w64 a2 = a2 → W4 (r39 a0 a1 a2 m)) (r120 : Int → Int → Int → Int → xw_M → xP) (hr120 : ∀ a0 a1 a2 a3 m, w64 a0 = a0 → w64 a1 = a1 → w64 a2 = a2 → w64 a3 = a3 → W4 (r120 a0 a1 a2 a3 m)) (x1 x4 x6 x7 : Int) (m : xw_M) (zx1 : w64 x1 = x1) (zx4 : w64 x4 = x4) (zx6 : w64 x6 = x6) (zx7 : w64 x7 = x7) : W4 (yl321_120 B r39 r120 x1 x4 x6 x7 m) := by
  unfold yl321_120
  repeat' first
    | with_reducible exact W4_none
    | with_reducible refine W4_some ?_
    | with_reducible exact W4_thr
    | with_reducible refine W4_if (fun _ => ?_) (fun _ => ?_)
    | with_reducible refine W4_B (fun _ _ => ?_)
    | with_reducible refine hr39 _ _ _ _ ?_ ?_ ?_
    | with_reducible refine hr120 _ _ _ _ _ ?_ ?_ ?_ ?_
    | assumption
    | with_reducible exact w64_xR _ _ _
    | with_reducible exact w64_xJ _ _ _
    | with_reducible exact w64_32 (w32_w _)
    | with_reducible exact w64_w _
    | with_reducible decide
    | with_reducible exact w64_md (w64_32 (w32_w _)) ⟨by assumption, by assumption⟩
    | with_reducible exact w4_dv (by assumption) (by assumption) (Int.le_of_lt (by assumption))
    | with_reducible exact w4_dv (w64_32 (w32_w _)) (by assumption) (by decide)
    | exact w64_mn (w64_32 (w32_w _)) (w64_32 (w32_w _))
    | exact w64_mn (w64_32 (w32_w _)) (w64_xR _ _ _)
theorem w4_yl321_55 (B : Nat) (r39 : Int → Int → Int → xw_M → xP) (hr39 : ∀ a0 a1 a2 m, w64 a0 = a0 → w64 a1 = a1 → w64 a2 = a2 → W4 (r39 a0 a1 a2 m)) (r55 : Int → Int → Int → Int → xw_M → xP) (hr55 : ∀ a0 a1 a2 a3 m, w64 a0 = a0 → w64 a1 = a1 → w64 a2 = a2 → w64 a3 = a3 → W4 (r55 a0 a1 a2 a3 m)) (x1 x4 x6 x7 : Int) (m : xw_M) (zx1 : w64 x1 = x1) (zx4 : w64 x4 = x4) (zx6 : w64 x6 = x6) (zx7 : w64 x7 = x7) : W4 (yl321_55 B r39 r55 x1 x4 x6 x7 m) := by
  unfold yl321_55
  repeat' first
    | with_reducible exact W4_none
    | with_reducible refine W4_some ?_
    | with_reducible exact W4_thr
    | with_reducible refine W4_if (fun _ => ?_) (fun _ => ?_)
    | with_reducible refine W4_B (fun _ _ => ?_)
    | with_reducible refine W4_l4 (w4_yl321_120 B _ (by assumption)) _ _ _ _ _ _ ?_ ?_ ?_ ?_
    | with_reducible refine hr39 _ _ _ _ ?_ ?_ ?_
    | with_reducible refine hr55 _ _ _ _ _ ?_ ?_ ?_ ?_
    | assumption
    | with_reducible exact w64_xR _ _ _
    | with_reducible exact w64_xJ _ _ _
    | with_reducible exact w64_32 (w32_w _)
    | with_reducible exact w64_w _
    | with_reducible decide
    | with_reducible exact w64_md (w64_32 (w32_w _)) ⟨by assumption, by assumption⟩
    | with_reducible exact w4_dv (by assumption) (by assumption) (Int.le_of_lt (by assumption))
    | with_reducible exact w4_dv (w64_32 (w32_w _)) (by assumption) (by decide)
    | exact w64_mn (w64_32 (w32_w _)) (w64_32 (w32_w _))
    | exact w64_mn (w64_32 (w32_w _)) (w64_xR _ _ _)
theorem w4_yk321_204 (B : Nat) (m : xw_M)  : W4 (yk321_204 B m) := by
  unfold yk321_204
  repeat' first
    | with_reducible exact W4_none
    | with_reducible refine W4_some ?_
    | with_reducible exact W4_thr
    | with_reducible refine W4_if (fun _ => ?_) (fun _ => ?_)
    | with_reducible refine W4_B (fun _ _ => ?_)
    | assumption
    | with_reducible exact w64_xR _ _ _
    | with_reducible exact w64_xJ _ _ _
    | with_reducible exact w64_32 (w32_w _)
    | with_reducible exact w64_w _
    | with_reducible decide
    | with_reducible exact w64_md (w64_32 (w32_w _)) ⟨by assumption, by assumption⟩
    | with_reducible exact w4_dv (by assumption) (by assumption) (Int.le_of_lt (by assumption))
    | with_reducible exact w4_dv (w64_32 (w32_w _)) (by assumption) (by decide)
    | exact w64_mn (w64_32 (w32_w _)) (w64_32 (w32_w _))
    | exact w64_mn (w64_32 (w32_w _)) (w64_xR _ _ _)
theorem w4_yl321_39 (B : Nat) (r39 : Int → Int → Int → xw_M → xP) (hr39 : ∀ a0 a1 a2 m, w64 a0 = a0 → w64 a1 = a1 → w64 a2 = a2 → W4 (r39 a0 a1 a2 m)) (x1 x4 x6 : Int) (m : xw_M) (zx1 : w64 x1 = x1) (zx4 : w64 x4 = x4) (zx6 : w64 x6 = x6) : W4 (yl321_39 B r39 x1 x4 x6 m) := by
  unfold yl321_39
  repeat' first
    | with_reducible exact W4_none
    | with_reducible refine W4_some ?_
    | with_reducible exact W4_thr
    | with_reducible refine W4_if (fun _ => ?_) (fun _ => ?_)
    | with_reducible refine W4_B (fun _ _ => ?_)
    | with_reducible refine W4_l4 (w4_yl321_55 B _ (by assumption)) _ _ _ _ _ _ ?_ ?_ ?_ ?_
    | with_reducible refine w4_yk321_204 B   _ 
    | with_reducible refine hr39 _ _ _ _ ?_ ?_ ?_
    | assumption
    | with_reducible exact w64_xR _ _ _
    | with_reducible exact w64_xJ _ _ _
    | with_reducible exact w64_32 (w32_w _)
    | with_reducible exact w64_w _
    | with_reducible decide
    | with_reducible exact w64_md (w64_32 (w32_w _)) ⟨by assumption, by assumption⟩
    | with_reducible exact w4_dv (by assumption) (by assumption) (Int.le_of_lt (by assumption))
    | with_reducible exact w4_dv (w64_32 (w32_w _)) (by assumption) (by decide)
    | exact w64_mn (w64_32 (w32_w _)) (w64_32 (w32_w _))
    | exact w64_mn (w64_32 (w32_w _)) (w64_xR _ _ _)
theorem w4_yf321 (B : Nat) (p0 p1 : Int) (m : xw_M) (zp0 : w64 p0 = p0) (zp1 : w64 p1 = p1) : W4 (yf321 B p0 p1 m) := by
  unfold yf321
  repeat' first
    | with_reducible exact W4_none
    | with_reducible refine W4_some ?_
    | with_reducible exact W4_thr
    | with_reducible refine W4_if (fun _ => ?_) (fun _ => ?_)
    | with_reducible refine W4_B (fun _ _ => ?_)
    | with_reducible refine W4_l3 (w4_yl321_39 B ) _ _ _ _ _ ?_ ?_ ?_
    | assumption
    | with_reducible exact w64_xR _ _ _
    | with_reducible exact w64_xJ _ _ _
    | with_reducible exact w64_32 (w32_w _)
    | with_reducible exact w64_w _
    | with_reducible decide
    | with_reducible exact w64_md (w64_32 (w32_w _)) ⟨by assumption, by assumption⟩
    | with_reducible exact w4_dv (by assumption) (by assumption) (Int.le_of_lt (by assumption))
    | with_reducible exact w4_dv (w64_32 (w32_w _)) (by assumption) (by decide)
    | exact w64_mn (w64_32 (w32_w _)) (w64_32 (w32_w _))
    | exact w64_mn (w64_32 (w32_w _)) (w64_xR _ _ _)
theorem w4_yf322 (B : Nat) (m : xw_M)  : W4 (yf322 B m) := by
  unfold yf322
  repeat' first
    | with_reducible exact W4_none
    | with_reducible refine W4_some ?_
    | with_reducible exact W4_thr
    | with_reducible refine W4_if (fun _ => ?_) (fun _ => ?_)
    | with_reducible refine W4_B (fun _ _ => ?_)
    | assumption
    | with_reducible exact w64_xR _ _ _
    | with_reducible exact w64_xJ _ _ _
    | with_reducible exact w64_32 (w32_w _)
    | with_reducible exact w64_w _
    | with_reducible decide
    | with_reducible exact w64_md (w64_32 (w32_w _)) ⟨by assumption, by assumption⟩
    | with_reducible exact w4_dv (by assumption) (by assumption) (Int.le_of_lt (by assumption))
    | with_reducible exact w4_dv (w64_32 (w32_w _)) (by assumption) (by decide)
    | exact w64_mn (w64_32 (w32_w _)) (w64_32 (w32_w _))
    | exact w64_mn (w64_32 (w32_w _)) (w64_xR _ _ _)
theorem w4_yk323_185 (B : Nat) (x2 : Int) (m : xw_M) (zx2 : w64 x2 = x2) : W4 (yk323_185 B x2 m) := by
  unfold yk323_185
  repeat' first
    | with_reducible exact W4_none
    | with_reducible refine W4_some ?_
    | with_reducible exact W4_thr
    | with_reducible refine W4_if (fun _ => ?_) (fun _ => ?_)
    | with_reducible refine W4_Bi (w4_yf312 B _ _ ?_) (fun _ _ _ => ?_)
    | with_reducible refine W4_B (fun _ _ => ?_)
    | with_reducible refine w4_yf312 B  _ _ ?_
    | assumption
    | with_reducible exact w64_xR _ _ _
    | with_reducible exact w64_xJ _ _ _
    | with_reducible exact w64_32 (w32_w _)
    | with_reducible exact w64_w _
    | with_reducible decide
    | with_reducible exact w64_md (w64_32 (w32_w _)) ⟨by assumption, by assumption⟩
    | with_reducible exact w4_dv (by assumption) (by assumption) (Int.le_of_lt (by assumption))
    | with_reducible exact w4_dv (w64_32 (w32_w _)) (by assumption) (by decide)
    | exact w64_mn (w64_32 (w32_w _)) (w64_32 (w32_w _))
    | exact w64_mn (w64_32 (w32_w _)) (w64_xR _ _ _)
theorem w4_yl323_156 (B : Nat) (r156 : Int → Int → xw_M → xP) (hr156 : ∀ a0 a1 m, w64 a0 = a0 → w64 a1 = a1 → W4 (r156 a0 a1 m)) (x2 x3 : Int) (m : xw_M) (zx2 : w64 x2 = x2) (zx3 : w64 x3 = x3) : W4 (yl323_156 B r156 x2 x3 m) := by
  unfold yl323_156
  repeat' first
    | with_reducible exact W4_none
    | with_reducible refine W4_some ?_
    | with_reducible exact W4_thr
    | with_reducible refine W4_if (fun _ => ?_) (fun _ => ?_)
    | with_reducible refine W4_B (fun _ _ => ?_)
    | with_reducible refine w4_yk323_185 B  _ _ ?_
    | with_reducible refine hr156 _ _ _ ?_ ?_
    | assumption
    | with_reducible exact w64_xR _ _ _
    | with_reducible exact w64_xJ _ _ _
    | with_reducible exact w64_32 (w32_w _)
    | with_reducible exact w64_w _
    | with_reducible decide
    | with_reducible exact w64_md (w64_32 (w32_w _)) ⟨by assumption, by assumption⟩
    | with_reducible exact w4_dv (by assumption) (by assumption) (Int.le_of_lt (by assumption))
    | with_reducible exact w4_dv (w64_32 (w32_w _)) (by assumption) (by decide)
    | exact w64_mn (w64_32 (w32_w _)) (w64_32 (w32_w _))
    | exact w64_mn (w64_32 (w32_w _)) (w64_xR _ _ _)
theorem w4_yl323_56 (B : Nat) (r56 : Int → Int → xw_M → xP) (hr56 : ∀ a0 a1 m, w64 a0 = a0 → w64 a1 = a1 → W4 (r56 a0 a1 m)) (x1 x2 : Int) (m : xw_M) (zx1 : w64 x1 = x1) (zx2 : w64 x2 = x2) : W4 (yl323_56 B r56 x1 x2 m) := by
  unfold yl323_56
  repeat' first
    | with_reducible exact W4_none
    | with_reducible refine W4_some ?_
    | with_reducible exact W4_thr
    | with_reducible refine W4_if (fun _ => ?_) (fun _ => ?_)
    | with_reducible refine W4_Bi (w4_yf305 B _ _ _ _ _ ?_ ?_ ?_ ?_) (fun _ _ _ => ?_)
    | with_reducible refine W4_B (fun _ _ => ?_)
    | with_reducible refine w4_yf305 B  _ _ _ _ _ ?_ ?_ ?_ ?_
    | with_reducible refine w4_yk323_185 B  _ _ ?_
    | with_reducible refine W4_l2 (w4_yl323_156 B ) _ _ _ _ ?_ ?_
    | with_reducible refine hr56 _ _ _ ?_ ?_
    | assumption
    | with_reducible exact w64_xR _ _ _
    | with_reducible exact w64_xJ _ _ _
    | with_reducible exact w64_32 (w32_w _)
    | with_reducible exact w64_w _
    | with_reducible decide
    | with_reducible exact w64_md (w64_32 (w32_w _)) ⟨by assumption, by assumption⟩
    | with_reducible exact w4_dv (by assumption) (by assumption) (Int.le_of_lt (by assumption))
    | with_reducible exact w4_dv (w64_32 (w32_w _)) (by assumption) (by decide)
    | exact w64_mn (w64_32 (w32_w _)) (w64_32 (w32_w _))
    | exact w64_mn (w64_32 (w32_w _)) (w64_xR _ _ _)
theorem w4_yf323 (B : Nat) (m : xw_M)  : W4 (yf323 B m) := by
  unfold yf323
  repeat' first
    | with_reducible exact W4_none
    | with_reducible refine W4_some ?_
    | with_reducible exact W4_thr
    | with_reducible refine W4_if (fun _ => ?_) (fun _ => ?_)
    | with_reducible refine W4_B (fun _ _ => ?_)
    | with_reducible refine W4_l2 (w4_yl323_56 B ) _ _ _ _ ?_ ?_
    | assumption
    | with_reducible exact w64_xR _ _ _
    | with_reducible exact w64_xJ _ _ _
    | with_reducible exact w64_32 (w32_w _)
    | with_reducible exact w64_w _
    | with_reducible decide
    | with_reducible exact w64_md (w64_32 (w32_w _)) ⟨by assumption, by assumption⟩
    | with_reducible exact w4_dv (by assumption) (by assumption) (Int.le_of_lt (by assumption))
    | with_reducible exact w4_dv (w64_32 (w32_w _)) (by assumption) (by decide)
    | exact w64_mn (w64_32 (w32_w _)) (w64_32 (w32_w _))
    | exact w64_mn (w64_32 (w32_w _)) (w64_xR _ _ _)
theorem w4_yk330_210 (B : Nat) (x3 : Int) (m : xw_M) (zx3 : w64 x3 = x3) : W4 (yk330_210 B x3 m) := by
  unfold yk330_210
  repeat' first
    | with_reducible exact W4_none
    | with_reducible refine W4_some ?_
    | with_reducible exact W4_thr
    | with_reducible refine W4_if (fun _ => ?_) (fun _ => ?_)
    | with_reducible refine W4_Bi (w4_yf312 B _ _ ?_) (fun _ _ _ => ?_)
    | with_reducible refine W4_B (fun _ _ => ?_)
    | with_reducible refine w4_yf312 B  _ _ ?_
    | assumption
    | with_reducible exact w64_xR _ _ _
    | with_reducible exact w64_xJ _ _ _
    | with_reducible exact w64_32 (w32_w _)
    | with_reducible exact w64_w _
    | with_reducible decide
    | with_reducible exact w64_md (w64_32 (w32_w _)) ⟨by assumption, by assumption⟩
    | with_reducible exact w4_dv (by assumption) (by assumption) (Int.le_of_lt (by assumption))
    | with_reducible exact w4_dv (w64_32 (w32_w _)) (by assumption) (by decide)
    | exact w64_mn (w64_32 (w32_w _)) (w64_32 (w32_w _))
    | exact w64_mn (w64_32 (w32_w _)) (w64_xR _ _ _)
theorem w4_yl330_167 (B : Nat) (r167 : Int → Int → xw_M → xP) (hr167 : ∀ a0 a1 m, w64 a0 = a0 → w64 a1 = a1 → W4 (r167 a0 a1 m)) (x3 x4 : Int) (m : xw_M) (zx3 : w64 x3 = x3) (zx4 : w64 x4 = x4) : W4 (yl330_167 B r167 x3 x4 m) := by
  unfold yl330_167
  repeat' first
    | with_reducible exact W4_none
    | with_reducible refine W4_some ?_
    | with_reducible exact W4_thr
    | with_reducible refine W4_if (fun _ => ?_) (fun _ => ?_)
    | with_reducible refine W4_B (fun _ _ => ?_)
    | with_reducible refine w4_yk330_210 B  _ _ ?_
    | with_reducible refine hr167 _ _ _ ?_ ?_
    | assumption
    | with_reducible exact w64_xR _ _ _
    | with_reducible exact w64_xJ _ _ _
    | with_reducible exact w64_32 (w32_w _)
    | with_reducible exact w64_w _
    | with_reducible decide
    | with_reducible exact w64_md (w64_32 (w32_w _)) ⟨by assumption, by assumption⟩
    | with_reducible exact w4_dv (by assumption) (by assumption) (Int.le_of_lt (by assumption))
    | with_reducible exact w4_dv (w64_32 (w32_w _)) (by assumption) (by decide)
    | exact w64_mn (w64_32 (w32_w _)) (w64_32 (w32_w _))
    | exact w64_mn (w64_32 (w32_w _)) (w64_xR _ _ _)
theorem w4_yl330_79 (B : Nat) (r79 : Int → Int → xw_M → xP) (hr79 : ∀ a0 a1 m, w64 a0 = a0 → w64 a1 = a1 → W4 (r79 a0 a1 m)) (x2 x3 : Int) (m : xw_M) (zx2 : w64 x2 = x2) (zx3 : w64 x3 = x3) : W4 (yl330_79 B r79 x2 x3 m) := by
  unfold yl330_79
  repeat' first
    | with_reducible exact W4_none
    | with_reducible refine W4_some ?_
    | with_reducible exact W4_thr
    | with_reducible refine W4_if (fun _ => ?_) (fun _ => ?_)
    | with_reducible refine W4_Bi (w4_yf305 B _ _ _ _ _ ?_ ?_ ?_ ?_) (fun _ _ _ => ?_)
    | with_reducible refine W4_B (fun _ _ => ?_)
    | with_reducible refine w4_yf305 B  _ _ _ _ _ ?_ ?_ ?_ ?_
    | with_reducible refine w4_yk330_210 B  _ _ ?_
    | with_reducible refine W4_l2 (w4_yl330_167 B ) _ _ _ _ ?_ ?_
    | with_reducible refine hr79 _ _ _ ?_ ?_
    | assumption
    | with_reducible exact w64_xR _ _ _
    | with_reducible exact w64_xJ _ _ _
    | with_reducible exact w64_32 (w32_w _)
    | with_reducible exact w64_w _
    | with_reducible decide
    | with_reducible exact w64_md (w64_32 (w32_w _)) ⟨by assumption, by assumption⟩
    | with_reducible exact w4_dv (by assumption) (by assumption) (Int.le_of_lt (by assumption))
    | with_reducible exact w4_dv (w64_32 (w32_w _)) (by assumption) (by decide)
    | exact w64_mn (w64_32 (w32_w _)) (w64_32 (w32_w _))
    | exact w64_mn (w64_32 (w32_w _)) (w64_xR _ _ _)
theorem w4_yf330 (B : Nat) (p0 : Int) (m : xw_M) (zp0 : w64 p0 = p0) : W4 (yf330 B p0 m) := by
  unfold yf330
  repeat' first
    | with_reducible exact W4_none
    | with_reducible refine W4_some ?_
    | with_reducible exact W4_thr
    | with_reducible refine W4_if (fun _ => ?_) (fun _ => ?_)
    | with_reducible refine W4_B (fun _ _ => ?_)
    | with_reducible refine W4_l2 (w4_yl330_79 B ) _ _ _ _ ?_ ?_
    | assumption
    | with_reducible exact w64_xR _ _ _
    | with_reducible exact w64_xJ _ _ _
    | with_reducible exact w64_32 (w32_w _)
    | with_reducible exact w64_w _
    | with_reducible decide
    | with_reducible exact w64_md (w64_32 (w32_w _)) ⟨by assumption, by assumption⟩
    | with_reducible exact w4_dv (by assumption) (by assumption) (Int.le_of_lt (by assumption))
    | with_reducible exact w4_dv (w64_32 (w32_w _)) (by assumption) (by decide)
    | exact w64_mn (w64_32 (w32_w _)) (w64_32 (w32_w _))
    | exact w64_mn (w64_32 (w32_w _)) (w64_xR _ _ _)
theorem w4_yk336_155 (B : Nat) (x2 : Int) (m : xw_M) (zx2 : w64 x2 = x2) : W4 (yk336_155 B x2 m) := by
  unfold yk336_155
  repeat' first
    | with_reducible exact W4_none
    | with_reducible refine W4_some ?_
    | with_reducible exact W4_thr
    | with_reducible refine W4_if (fun _ => ?_) (fun _ => ?_)
    | with_reducible refine W4_Bi (w4_yf312 B _ _ ?_) (fun _ _ _ => ?_)
    | with_reducible refine W4_B (fun _ _ => ?_)
    | with_reducible refine w4_yf312 B  _ _ ?_
    | assumption
    | with_reducible exact w64_xR _ _ _
    | with_reducible exact w64_xJ _ _ _
    | with_reducible exact w64_32 (w32_w _)
    | with_reducible exact w64_w _
    | with_reducible decide
    | with_reducible exact w64_md (w64_32 (w32_w _)) ⟨by assumption, by assumption⟩
    | with_reducible exact w4_dv (by assumption) (by assumption) (Int.le_of_lt (by assumption))
    | with_reducible exact w4_dv (w64_32 (w32_w _)) (by assumption) (by decide)
    | exact w64_mn (w64_32 (w32_w _)) (w64_32 (w32_w _))
    | exact w64_mn (w64_32 (w32_w _)) (w64_xR _ _ _)
theorem w4_yl336_122 (B : Nat) (r122 : Int → Int → xw_M → xP) (hr122 : ∀ a0 a1 m, w64 a0 = a0 → w64 a1 = a1 → W4 (r122 a0 a1 m)) (x2 x3 : Int) (m : xw_M) (zx2 : w64 x2 = x2) (zx3 : w64 x3 = x3) : W4 (yl336_122 B r122 x2 x3 m) := by
  unfold yl336_122
  repeat' first
    | with_reducible exact W4_none
    | with_reducible refine W4_some ?_
    | with_reducible exact W4_thr
    | with_reducible refine W4_if (fun _ => ?_) (fun _ => ?_)
    | with_reducible refine W4_B (fun _ _ => ?_)
    | with_reducible refine w4_yk336_155 B  _ _ ?_
    | with_reducible refine hr122 _ _ _ ?_ ?_
    | assumption
    | with_reducible exact w64_xR _ _ _
    | with_reducible exact w64_xJ _ _ _
    | with_reducible exact w64_32 (w32_w _)
    | with_reducible exact w64_w _
    | with_reducible decide
    | with_reducible exact w64_md (w64_32 (w32_w _)) ⟨by assumption, by assumption⟩
    | with_reducible exact w4_dv (by assumption) (by assumption) (Int.le_of_lt (by assumption))
    | with_reducible exact w4_dv (w64_32 (w32_w _)) (by assumption) (by decide)
    | exact w64_mn (w64_32 (w32_w _)) (w64_32 (w32_w _))
    | exact w64_mn (w64_32 (w32_w _)) (w64_xR _ _ _)
theorem w4_yl336_50 (B : Nat) (r50 : Int → Int → xw_M → xP) (hr50 : ∀ a0 a1 m, w64 a0 = a0 → w64 a1 = a1 → W4 (r50 a0 a1 m)) (x1 x2 : Int) (m : xw_M) (zx1 : w64 x1 = x1) (zx2 : w64 x2 = x2) : W4 (yl336_50 B r50 x1 x2 m) := by
  unfold yl336_50
  repeat' first
    | with_reducible exact W4_none
    | with_reducible refine W4_some ?_
    | with_reducible exact W4_thr
    | with_reducible refine W4_if (fun _ => ?_) (fun _ => ?_)
    | with_reducible refine W4_Bi (w4_yf305 B _ _ _ _ _ ?_ ?_ ?_ ?_) (fun _ _ _ => ?_)
    | with_reducible refine W4_B (fun _ _ => ?_)
    | with_reducible refine w4_yf305 B  _ _ _ _ _ ?_ ?_ ?_ ?_
    | with_reducible refine W4_l2 (w4_yl336_122 B ) _ _ _ _ ?_ ?_
    | with_reducible refine hr50 _ _ _ ?_ ?_
    | assumption
    | with_reducible exact w64_xR _ _ _
    | with_reducible exact w64_xJ _ _ _
    | with_reducible exact w64_32 (w32_w _)
    | with_reducible exact w64_w _
    | with_reducible decide
    | with_reducible exact w64_md (w64_32 (w32_w _)) ⟨by assumption, by assumption⟩
    | with_reducible exact w4_dv (by assumption) (by assumption) (Int.le_of_lt (by assumption))
    | with_reducible exact w4_dv (w64_32 (w32_w _)) (by assumption) (by decide)
    | exact w64_mn (w64_32 (w32_w _)) (w64_32 (w32_w _))
    | exact w64_mn (w64_32 (w32_w _)) (w64_xR _ _ _)
theorem w4_yf336 (B : Nat) (m : xw_M)  : W4 (yf336 B m) := by
  unfold yf336
  repeat' first
    | with_reducible exact W4_none
    | with_reducible refine W4_some ?_
    | with_reducible exact W4_thr
    | with_reducible refine W4_if (fun _ => ?_) (fun _ => ?_)
    | with_reducible refine W4_B (fun _ _ => ?_)
    | with_reducible refine W4_l2 (w4_yl336_50 B ) _ _ _ _ ?_ ?_
    | assumption
    | with_reducible exact w64_xR _ _ _
    | with_reducible exact w64_xJ _ _ _
    | with_reducible exact w64_32 (w32_w _)
    | with_reducible exact w64_w _
    | with_reducible decide
    | with_reducible exact w64_md (w64_32 (w32_w _)) ⟨by assumption, by assumption⟩
    | with_reducible exact w4_dv (by assumption) (by assumption) (Int.le_of_lt (by assumption))
    | with_reducible exact w4_dv (w64_32 (w32_w _)) (by assumption) (by decide)
    | exact w64_mn (w64_32 (w32_w _)) (w64_32 (w32_w _))
    | exact w64_mn (w64_32 (w32_w _)) (w64_xR _ _ _)
theorem w4_yl339_108 (B : Nat) (r108 : Int → Int → xw_M → xP) (hr108 : ∀ a0 a1 m, w64 a0 = a0 → w64 a1 = a1 → W4 (r108 a0 a1 m)) (x2 x3 : Int) (m : xw_M) (zx2 : w64 x2 = x2) (zx3 : w64 x3 = x3) : W4 (yl339_108 B r108 x2 x3 m) := by
  unfold yl339_108
  repeat' first
    | with_reducible exact W4_none
    | with_reducible refine W4_some ?_
    | with_reducible exact W4_thr
    | with_reducible refine W4_if (fun _ => ?_) (fun _ => ?_)
    | with_reducible refine W4_B (fun _ _ => ?_)
    | with_reducible refine hr108 _ _ _ ?_ ?_
    | assumption
    | with_reducible exact w64_xR _ _ _
    | with_reducible exact w64_xJ _ _ _
    | with_reducible exact w64_32 (w32_w _)
    | with_reducible exact w64_w _
    | with_reducible decide
    | with_reducible exact w64_md (w64_32 (w32_w _)) ⟨by assumption, by assumption⟩
    | with_reducible exact w4_dv (by assumption) (by assumption) (Int.le_of_lt (by assumption))
    | with_reducible exact w4_dv (w64_32 (w32_w _)) (by assumption) (by decide)
    | exact w64_mn (w64_32 (w32_w _)) (w64_32 (w32_w _))
    | exact w64_mn (w64_32 (w32_w _)) (w64_xR _ _ _)
theorem w4_yf339 (B : Nat) (p0 : Int) (m : xw_M) (zp0 : w64 p0 = p0) : W4 (yf339 B p0 m) := by
  unfold yf339
  repeat' first
    | with_reducible exact W4_none
    | with_reducible refine W4_some ?_
    | with_reducible exact W4_thr
    | with_reducible refine W4_if (fun _ => ?_) (fun _ => ?_)
    | with_reducible refine W4_B (fun _ _ => ?_)
    | with_reducible refine W4_l2 (w4_yl339_108 B ) _ _ _ _ ?_ ?_
    | assumption
    | with_reducible exact w64_xR _ _ _
    | with_reducible exact w64_xJ _ _ _
    | with_reducible exact w64_32 (w32_w _)
    | with_reducible exact w64_w _
    | with_reducible decide
    | with_reducible exact w64_md (w64_32 (w32_w _)) ⟨by assumption, by assumption⟩
    | with_reducible exact w4_dv (by assumption) (by assumption) (Int.le_of_lt (by assumption))
    | with_reducible exact w4_dv (w64_32 (w32_w _)) (by assumption) (by decide)
    | exact w64_mn (w64_32 (w32_w _)) (w64_32 (w32_w _))
    | exact w64_mn (w64_32 (w32_w _)) (w64_xR _ _ _)
theorem w4_yf340 (B : Nat) (p0 p1 : Int) (m : xw_M) (zp0 : w64 p0 = p0) (zp1 : w64 p1 = p1) : W4 (yf340 B p0 p1 m) := by
  unfold yf340
  repeat' first
    | with_reducible exact W4_none
    | with_reducible refine W4_some ?_
    | with_reducible exact W4_thr
    | with_reducible refine W4_if (fun _ => ?_) (fun _ => ?_)
    | with_reducible refine W4_Bi (w4_yf291 B _ _ _ ?_ ?_) (fun _ _ _ => ?_)
    | with_reducible refine W4_B (fun _ _ => ?_)
    | with_reducible refine w4_yf291 B  _ _ _ ?_ ?_
    | assumption
    | with_reducible exact w64_xR _ _ _
    | with_reducible exact w64_xJ _ _ _
    | with_reducible exact w64_32 (w32_w _)
    | with_reducible exact w64_w _
    | with_reducible decide
    | with_reducible exact w64_md (w64_32 (w32_w _)) ⟨by assumption, by assumption⟩
    | with_reducible exact w4_dv (by assumption) (by assumption) (Int.le_of_lt (by assumption))
    | with_reducible exact w4_dv (w64_32 (w32_w _)) (by assumption) (by decide)
    | exact w64_mn (w64_32 (w32_w _)) (w64_32 (w32_w _))
    | exact w64_mn (w64_32 (w32_w _)) (w64_xR _ _ _)
theorem w4_yf341 (B : Nat) (m : xw_M)  : W4 (yf341 B m) := by
  unfold yf341
  repeat' first
    | with_reducible exact W4_none
    | with_reducible refine W4_some ?_
    | with_reducible exact W4_thr
    | with_reducible refine W4_if (fun _ => ?_) (fun _ => ?_)
    | with_reducible refine W4_B (fun _ _ => ?_)
    | assumption
    | with_reducible exact w64_xR _ _ _
    | with_reducible exact w64_xJ _ _ _
    | with_reducible exact w64_32 (w32_w _)
    | with_reducible exact w64_w _
    | with_reducible decide
    | with_reducible exact w64_md (w64_32 (w32_w _)) ⟨by assumption, by assumption⟩
    | with_reducible exact w4_dv (by assumption) (by assumption) (Int.le_of_lt (by assumption))
    | with_reducible exact w4_dv (w64_32 (w32_w _)) (by assumption) (by decide)
    | exact w64_mn (w64_32 (w32_w _)) (w64_32 (w32_w _))
    | exact w64_mn (w64_32 (w32_w _)) (w64_xR _ _ _)
theorem w4_yf342 (B : Nat) (p0 p1 : Int) (m : xw_M) (zp0 : w64 p0 = p0) (zp1 : w64 p1 = p1) : W4 (yf342 B p0 p1 m) := by
  unfold yf342
  repeat' first
    | with_reducible exact W4_none
    | with_reducible refine W4_some ?_
    | with_reducible exact W4_thr
    | with_reducible refine W4_if (fun _ => ?_) (fun _ => ?_)
    | with_reducible refine W4_B (fun _ _ => ?_)
    | assumption
    | with_reducible exact w64_xR _ _ _
    | with_reducible exact w64_xJ _ _ _
    | with_reducible exact w64_32 (w32_w _)
    | with_reducible exact w64_w _
    | with_reducible decide
    | with_reducible exact w64_md (w64_32 (w32_w _)) ⟨by assumption, by assumption⟩
    | with_reducible exact w4_dv (by assumption) (by assumption) (Int.le_of_lt (by assumption))
    | with_reducible exact w4_dv (w64_32 (w32_w _)) (by assumption) (by decide)
    | exact w64_mn (w64_32 (w32_w _)) (w64_32 (w32_w _))
    | exact w64_mn (w64_32 (w32_w _)) (w64_xR _ _ _)
theorem w4_yf347 (B : Nat) (m : xw_M)  : W4 (yf347 B m) := by
  unfold yf347
  repeat' first
    | with_reducible exact W4_none
    | with_reducible refine W4_some ?_
    | with_reducible exact W4_thr
    | with_reducible refine W4_if (fun _ => ?_) (fun _ => ?_)
    | with_reducible refine W4_B (fun _ _ => ?_)
    | assumption
    | with_reducible exact w64_xR _ _ _
    | with_reducible exact w64_xJ _ _ _
    | with_reducible exact w64_32 (w32_w _)
    | with_reducible exact w64_w _
    | with_reducible decide
    | with_reducible exact w64_md (w64_32 (w32_w _)) ⟨by assumption, by assumption⟩
    | with_reducible exact w4_dv (by assumption) (by assumption) (Int.le_of_lt (by assumption))
    | with_reducible exact w4_dv (w64_32 (w32_w _)) (by assumption) (by decide)
    | exact w64_mn (w64_32 (w32_w _)) (w64_32 (w32_w _))
    | exact w64_mn (w64_32 (w32_w _)) (w64_xR _ _ _)
theorem w4_yf348 (B : Nat) (m : xw_M)  : W4 (yf348 B m) := by
  unfold yf348
  repeat' first
    | with_reducible exact W4_none
    | with_reducible refine W4_some ?_
    | with_reducible exact W4_thr
    | with_reducible refine W4_if (fun _ => ?_) (fun _ => ?_)
    | with_reducible refine W4_B (fun _ _ => ?_)
    | assumption
    | with_reducible exact w64_xR _ _ _
    | with_reducible exact w64_xJ _ _ _
    | with_reducible exact w64_32 (w32_w _)
    | with_reducible exact w64_w _
    | with_reducible decide
    | with_reducible exact w64_md (w64_32 (w32_w _)) ⟨by assumption, by assumption⟩
    | with_reducible exact w4_dv (by assumption) (by assumption) (Int.le_of_lt (by assumption))
    | with_reducible exact w4_dv (w64_32 (w32_w _)) (by assumption) (by decide)
    | exact w64_mn (w64_32 (w32_w _)) (w64_32 (w32_w _))
    | exact w64_mn (w64_32 (w32_w _)) (w64_xR _ _ _)
