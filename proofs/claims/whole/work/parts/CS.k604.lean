/-! THE REFERENCE leaves the cell 604 as it is (2) -/
theorem k4_yk284_123 {x : Int → Int} (B : Nat) (r14 : Int → Int → xw_M → xP) (hr14 : ∀ a0 a1 m, m 604 = x → K4 x (r14 a0 a1 m)) (r26 : Int → Int → Int → Int → Int → xw_M → xP) (hr26 : ∀ a0 a1 a2 a3 a4 m, m 604 = x → K4 x (r26 a0 a1 a2 a3 a4 m)) (x1 x2 x4 x5 : Int) (m : xw_M) (hm : m 604 = x) : K4 x (yk284_123 B r14 r26 x1 x2 x4 x5 m) := by
  unfold yk284_123
  repeat' first
    | with_reducible exact K4_none
    | with_reducible refine K4_some ?_
    | with_reducible refine K4_if (fun _ => ?_) (fun _ => ?_)
    | with_reducible refine K4_B ?_ (fun _ _ _ => ?_)
    | with_reducible refine K4_T ?_ (fun _ _ _ => ?_) (fun _ _ _ => ?_)
    | with_reducible refine hr14 _ _ _ ?_
    | with_reducible refine hr26 _ _ _ _ _ _ ?_
    | assumption
    | with_reducible refine k4u ?_ ?_
    | decide
    | exact k4n (by assumption) (by decide)
theorem k4_yk284_98 {x : Int → Int} (B : Nat) (r14 : Int → Int → xw_M → xP) (hr14 : ∀ a0 a1 m, m 604 = x → K4 x (r14 a0 a1 m)) (r26 : Int → Int → Int → Int → Int → xw_M → xP) (hr26 : ∀ a0 a1 a2 a3 a4 m, m 604 = x → K4 x (r26 a0 a1 a2 a3 a4 m)) (x1 x2 x4 x5 x6 : Int) (m : xw_M) (hm : m 604 = x) : K4 x (yk284_98 B r14 r26 x1 x2 x4 x5 x6 m) := by
  unfold yk284_98
  repeat' first
    | with_reducible exact K4_none
    | with_reducible refine K4_some ?_
    | with_reducible refine K4_if (fun _ => ?_) (fun _ => ?_)
    | with_reducible refine K4_B ?_ (fun _ _ _ => ?_)
    | with_reducible refine K4_T ?_ (fun _ _ _ => ?_) (fun _ _ _ => ?_)
    | with_reducible refine hr14 _ _ _ ?_
    | with_reducible refine hr26 _ _ _ _ _ _ ?_
    | with_reducible refine k4_yk284_119 B _ (by assumption) _ (by assumption) _ _ _ _ _ ?_
    | with_reducible refine k4_yk284_123 B _ (by assumption) _ (by assumption) _ _ _ _ _ ?_
    | assumption
    | with_reducible refine k4u ?_ ?_
    | decide
    | exact k4n (by assumption) (by decide)
theorem k4_yl284_26 {x : Int → Int} (B : Nat) (r14 : Int → Int → xw_M → xP) (hr14 : ∀ a0 a1 m, m 604 = x → K4 x (r14 a0 a1 m)) (r26 : Int → Int → Int → Int → Int → xw_M → xP) (hr26 : ∀ a0 a1 a2 a3 a4 m, m 604 = x → K4 x (r26 a0 a1 a2 a3 a4 m)) (x1 x2 x3 x4 x5 : Int) (m : xw_M) (hm : m 604 = x) : K4 x (yl284_26 B r14 r26 x1 x2 x3 x4 x5 m) := by
  unfold yl284_26
  repeat' first
    | with_reducible exact K4_none
    | with_reducible refine K4_some ?_
    | with_reducible refine K4_if (fun _ => ?_) (fun _ => ?_)
    | with_reducible refine K4_B ?_ (fun _ _ _ => ?_)
    | with_reducible refine K4_T ?_ (fun _ _ _ => ?_) (fun _ _ _ => ?_)
    | with_reducible refine hr14 _ _ _ ?_
    | with_reducible refine hr26 _ _ _ _ _ _ ?_
    | with_reducible refine k4_yk284_123 B _ (by assumption) _ (by assumption) _ _ _ _ _ ?_
    | with_reducible refine k4_yk284_119 B _ (by assumption) _ (by assumption) _ _ _ _ _ ?_
    | with_reducible refine k4_yk284_98 B _ (by assumption) _ (by assumption) _ _ _ _ _ _ ?_
    | assumption
    | with_reducible refine k4u ?_ ?_
    | decide
    | exact k4n (by assumption) (by decide)
theorem k4_yl284_14 {x : Int → Int} (B : Nat) (r14 : Int → Int → xw_M → xP) (hr14 : ∀ a0 a1 m, m 604 = x → K4 x (r14 a0 a1 m)) (x1 x2 : Int) (m : xw_M) (hm : m 604 = x) : K4 x (yl284_14 B r14 x1 x2 m) := by
  unfold yl284_14
  repeat' first
    | with_reducible exact K4_none
    | with_reducible refine K4_some ?_
    | with_reducible refine K4_if (fun _ => ?_) (fun _ => ?_)
    | with_reducible refine K4_B ?_ (fun _ _ _ => ?_)
    | with_reducible refine K4_T ?_ (fun _ _ _ => ?_) (fun _ _ _ => ?_)
    | with_reducible refine hr14 _ _ _ ?_
    | with_reducible refine K4_l5 (k4_yl284_26 B _ (by assumption)) _ _ _ _ _ _ _ ?_
    | assumption
    | with_reducible refine k4u ?_ ?_
    | decide
    | exact k4n (by assumption) (by decide)
theorem k4_yf284 {x : Int → Int} (B : Nat) (p0 : Int) (m : xw_M) (hm : m 604 = x) : K4 x (yf284 B p0 m) := by
  unfold yf284
  repeat' first
    | with_reducible exact K4_none
    | with_reducible refine K4_some ?_
    | with_reducible refine K4_if (fun _ => ?_) (fun _ => ?_)
    | with_reducible refine K4_B ?_ (fun _ _ _ => ?_)
    | with_reducible refine K4_T ?_ (fun _ _ _ => ?_) (fun _ _ _ => ?_)
    | with_reducible refine K4_l2 (k4_yl284_14 B ) _ _ _ _ ?_
    | assumption
    | with_reducible refine k4u ?_ ?_
    | decide
    | exact k4n (by assumption) (by decide)
theorem k4_yf289 {x : Int → Int} (B : Nat) (p0 p1 p2 : Int) (m : xw_M) (hm : m 604 = x) : K4 x (yf289 B p0 p1 p2 m) := by
  unfold yf289
  repeat' first
    | with_reducible exact K4_none
    | with_reducible refine K4_some ?_
    | with_reducible refine K4_if (fun _ => ?_) (fun _ => ?_)
    | with_reducible refine K4_B ?_ (fun _ _ _ => ?_)
    | with_reducible refine K4_T ?_ (fun _ _ _ => ?_) (fun _ _ _ => ?_)
    | assumption
    | with_reducible refine k4u ?_ ?_
    | decide
    | exact k4n (by assumption) (by decide)
theorem k4_yl288_207 {x : Int → Int} (B : Nat) (r207 : Int → Int → Int → Int → Int → xw_M → xP) (hr207 : ∀ a0 a1 a2 a3 a4 m, m 604 = x → K4 x (r207 a0 a1 a2 a3 a4 m)) (x1 x4 x5 x6 x7 : Int) (m : xw_M) (hm : m 604 = x) : K4 x (yl288_207 B r207 x1 x4 x5 x6 x7 m) := by
  unfold yl288_207
  repeat' first
    | with_reducible exact K4_none
    | with_reducible refine K4_some ?_
    | with_reducible refine K4_if (fun _ => ?_) (fun _ => ?_)
    | with_reducible refine K4_B ?_ (fun _ _ _ => ?_)
    | with_reducible refine K4_T ?_ (fun _ _ _ => ?_) (fun _ _ _ => ?_)
    | with_reducible refine hr207 _ _ _ _ _ _ ?_
    | assumption
    | with_reducible refine k4u ?_ ?_
    | decide
    | exact k4n (by assumption) (by decide)
theorem k4_yf288 {x : Int → Int} (B : Nat) (p0 p1 : Int) (m : xw_M) (hm : m 604 = x) : K4 x (yf288 B p0 p1 m) := by
  unfold yf288
  repeat' first
    | with_reducible exact K4_none
    | with_reducible refine K4_some ?_
    | with_reducible refine K4_if (fun _ => ?_) (fun _ => ?_)
    | with_reducible refine K4_B ?_ (fun _ _ _ => ?_)
    | with_reducible refine K4_T ?_ (fun _ _ _ => ?_) (fun _ _ _ => ?_)
    | with_reducible refine k4_yf289 B  _ _ _ _ ?_
    | with_reducible refine K4_l5 (k4_yl288_207 B ) _ _ _ _ _ _ _ ?_
    | assumption
    | with_reducible refine k4u ?_ ?_
    | decide
    | exact k4n (by assumption) (by decide)
theorem k4_yl287_4 {x : Int → Int} (B : Nat) (r4 : Int → Int → Int → xw_M → xP) (hr4 : ∀ a0 a1 a2 m, m 604 = x → K4 x (r4 a0 a1 a2 m)) (x1 x2 x3 : Int) (m : xw_M) (hm : m 604 = x) : K4 x (yl287_4 B r4 x1 x2 x3 m) := by
  unfold yl287_4
  repeat' first
    | with_reducible exact K4_none
    | with_reducible refine K4_some ?_
    | with_reducible refine K4_if (fun _ => ?_) (fun _ => ?_)
    | with_reducible refine K4_B ?_ (fun _ _ _ => ?_)
    | with_reducible refine K4_T ?_ (fun _ _ _ => ?_) (fun _ _ _ => ?_)
    | with_reducible refine hr4 _ _ _ _ ?_
    | with_reducible refine k4_yf288 B  _ _ _ ?_
    | assumption
    | with_reducible refine k4u ?_ ?_
    | decide
    | exact k4n (by assumption) (by decide)
theorem k4_yf287 {x : Int → Int} (B : Nat) (p0 : Int) (m : xw_M) (hm : m 604 = x) : K4 x (yf287 B p0 m) := by
  unfold yf287
  repeat' first
    | with_reducible exact K4_none
    | with_reducible refine K4_some ?_
    | with_reducible refine K4_if (fun _ => ?_) (fun _ => ?_)
    | with_reducible refine K4_B ?_ (fun _ _ _ => ?_)
    | with_reducible refine K4_T ?_ (fun _ _ _ => ?_) (fun _ _ _ => ?_)
    | with_reducible refine K4_l3 (k4_yl287_4 B ) _ _ _ _ _ ?_
    | assumption
    | with_reducible refine k4u ?_ ?_
    | decide
    | exact k4n (by assumption) (by decide)
theorem k4_yl286_7 {x : Int → Int} (B : Nat) (r7 : Int → xw_M → xP) (hr7 : ∀ a0 m, m 604 = x → K4 x (r7 a0 m)) (x1 : Int) (m : xw_M) (hm : m 604 = x) : K4 x (yl286_7 B r7 x1 m) := by
  unfold yl286_7
  repeat' first
    | with_reducible exact K4_none
    | with_reducible refine K4_some ?_
    | with_reducible refine K4_if (fun _ => ?_) (fun _ => ?_)
    | with_reducible refine K4_B ?_ (fun _ _ _ => ?_)
    | with_reducible refine K4_T ?_ (fun _ _ _ => ?_) (fun _ _ _ => ?_)
    | with_reducible refine hr7 _ _ ?_
    | with_reducible refine k4_yf287 B  _ _ ?_
    | assumption
    | with_reducible refine k4u ?_ ?_
    | decide
    | exact k4n (by assumption) (by decide)
theorem k4_yf286 {x : Int → Int} (B : Nat) (m : xw_M) (hm : m 604 = x) : K4 x (yf286 B m) := by
  unfold yf286
  repeat' first
    | with_reducible exact K4_none
    | with_reducible refine K4_some ?_
    | with_reducible refine K4_if (fun _ => ?_) (fun _ => ?_)
    | with_reducible refine K4_B ?_ (fun _ _ _ => ?_)
    | with_reducible refine K4_T ?_ (fun _ _ _ => ?_) (fun _ _ _ => ?_)
    | with_reducible refine K4_l1 (k4_yl286_7 B ) _ _ _ ?_
    | assumption
    | with_reducible refine k4u ?_ ?_
    | decide
    | exact k4n (by assumption) (by decide)
theorem k4_yl291_10 {x : Int → Int} (B : Nat) (r10 : Int → Int → Int → xw_M → xP) (hr10 : ∀ a0 a1 a2 m, m 604 = x → K4 x (r10 a0 a1 a2 m)) (x2 x3 x4 : Int) (m : xw_M) (hm : m 604 = x) : K4 x (yl291_10 B r10 x2 x3 x4 m) := by
  unfold yl291_10
  repeat' first
    | with_reducible exact K4_none
    | with_reducible refine K4_some ?_
    | with_reducible refine K4_if (fun _ => ?_) (fun _ => ?_)
    | with_reducible refine K4_B ?_ (fun _ _ _ => ?_)
    | with_reducible refine K4_T ?_ (fun _ _ _ => ?_) (fun _ _ _ => ?_)
    | with_reducible refine hr10 _ _ _ _ ?_
    | assumption
    | with_reducible refine k4u ?_ ?_
    | decide
    | exact k4n (by assumption) (by decide)
theorem k4_yf291 {x : Int → Int} (B : Nat) (p0 p1 : Int) (m : xw_M) (hm : m 604 = x) : K4 x (yf291 B p0 p1 m) := by
  unfold yf291
  repeat' first
    | with_reducible exact K4_none
    | with_reducible refine K4_some ?_
    | with_reducible refine K4_if (fun _ => ?_) (fun _ => ?_)
    | with_reducible refine K4_B ?_ (fun _ _ _ => ?_)
    | with_reducible refine K4_T ?_ (fun _ _ _ => ?_) (fun _ _ _ => ?_)
    | with_reducible refine K4_l3 (k4_yl291_10 B ) _ _ _ _ _ ?_
    | assumption
    | with_reducible refine k4u ?_ ?_
    | decide
    | exact k4n (by assumption) (by decide)
theorem k4_yf294 {x : Int → Int} (B : Nat) (p0 p1 : Int) (m : xw_M) (hm : m 604 = x) : K4 x (yf294 B p0 p1 m) := by
  unfold yf294
  repeat' first
    | with_reducible exact K4_none
    | with_reducible refine K4_some ?_
    | with_reducible refine K4_if (fun _ => ?_) (fun _ => ?_)
    | with_reducible refine K4_B ?_ (fun _ _ _ => ?_)
    | with_reducible refine K4_T ?_ (fun _ _ _ => ?_) (fun _ _ _ => ?_)
    | assumption
    | with_reducible refine k4u ?_ ?_
    | decide
    | exact k4n (by assumption) (by decide)
theorem k4_yf295 {x : Int → Int} (B : Nat) (p0 p1 p2 : Int) (m : xw_M) (hm : m 604 = x) : K4 x (yf295 B p0 p1 p2 m) := by
  unfold yf295
  repeat' first
    | with_reducible exact K4_none
    | with_reducible refine K4_some ?_
    | with_reducible refine K4_if (fun _ => ?_) (fun _ => ?_)
    | with_reducible refine K4_B ?_ (fun _ _ _ => ?_)
    | with_reducible refine K4_T ?_ (fun _ _ _ => ?_) (fun _ _ _ => ?_)
    | with_reducible refine k4_yf289 B  _ _ _ _ ?_
    | assumption
    | with_reducible refine k4u ?_ ?_
    | decide
    | exact k4n (by assumption) (by decide)
theorem k4_yl293_24 {x : Int → Int} (B : Nat) (r24 : Int → Int → Int → Int → Int → xw_M → xP) (hr24 : ∀ a0 a1 a2 a3 a4 m, m 604 = x → K4 x (r24 a0 a1 a2 a3 a4 m)) (x1 x2 x3 x4 x5 : Int) (m : xw_M) (hm : m 604 = x) : K4 x (yl293_24 B r24 x1 x2 x3 x4 x5 m) := by
  unfold yl293_24
  repeat' first
    | with_reducible exact K4_none
    | with_reducible refine K4_some ?_
    | with_reducible refine K4_if (fun _ => ?_) (fun _ => ?_)
    | with_reducible refine K4_B ?_ (fun _ _ _ => ?_)
    | with_reducible refine K4_T ?_ (fun _ _ _ => ?_) (fun _ _ _ => ?_)
    | with_reducible refine hr24 _ _ _ _ _ _ ?_
    | with_reducible refine k4_yf294 B  _ _ _ ?_
    | with_reducible refine k4_yf295 B  _ _ _ _ ?_
    | assumption
    | with_reducible refine k4u ?_ ?_
    | decide
    | exact k4n (by assumption) (by decide)
theorem k4_yf293 {x : Int → Int} (B : Nat) (p0 p1 p2 : Int) (m : xw_M) (hm : m 604 = x) : K4 x (yf293 B p0 p1 p2 m) := by
  unfold yf293
  repeat' first
    | with_reducible exact K4_none
    | with_reducible refine K4_some ?_
    | with_reducible refine K4_if (fun _ => ?_) (fun _ => ?_)
    | with_reducible refine K4_B ?_ (fun _ _ _ => ?_)
    | with_reducible refine K4_T ?_ (fun _ _ _ => ?_) (fun _ _ _ => ?_)
    | with_reducible refine K4_l5 (k4_yl293_24 B ) _ _ _ _ _ _ _ ?_
    | assumption
    | with_reducible refine k4u ?_ ?_
    | decide
    | exact k4n (by assumption) (by decide)
theorem k4_yk292_50 {x : Int → Int} (B : Nat) (r9 : Int → Int → Int → Int → Int → Int → xw_M → xP) (hr9 : ∀ a0 a1 a2 a3 a4 a5 m, m 604 = x → K4 x (r9 a0 a1 a2 a3 a4 a5 m)) (x2 x3 x4 x5 x6 x7 : Int) (m : xw_M) (hm : m 604 = x) : K4 x (yk292_50 B r9 x2 x3 x4 x5 x6 x7 m) := by
  unfold yk292_50
  repeat' first
    | with_reducible exact K4_none
    | with_reducible refine K4_some ?_
    | with_reducible refine K4_if (fun _ => ?_) (fun _ => ?_)
    | with_reducible refine K4_B ?_ (fun _ _ _ => ?_)
    | with_reducible refine K4_T ?_ (fun _ _ _ => ?_) (fun _ _ _ => ?_)
    | with_reducible refine hr9 _ _ _ _ _ _ _ ?_
    | assumption
    | with_reducible refine k4u ?_ ?_
    | decide
    | exact k4n (by assumption) (by decide)
theorem k4_yk292_54 {x : Int → Int} (B : Nat) (r9 : Int → Int → Int → Int → Int → Int → xw_M → xP) (hr9 : ∀ a0 a1 a2 a3 a4 a5 m, m 604 = x → K4 x (r9 a0 a1 a2 a3 a4 a5 m)) (x2 x3 x4 x5 x6 x7 : Int) (m : xw_M) (hm : m 604 = x) : K4 x (yk292_54 B r9 x2 x3 x4 x5 x6 x7 m) := by
  unfold yk292_54
  repeat' first
    | with_reducible exact K4_none
    | with_reducible refine K4_some ?_
    | with_reducible refine K4_if (fun _ => ?_) (fun _ => ?_)
    | with_reducible refine K4_B ?_ (fun _ _ _ => ?_)
    | with_reducible refine K4_T ?_ (fun _ _ _ => ?_) (fun _ _ _ => ?_)
    | with_reducible refine hr9 _ _ _ _ _ _ _ ?_
    | assumption
    | with_reducible refine k4u ?_ ?_
    | decide
    | exact k4n (by assumption) (by decide)
theorem k4_yl292_9 {x : Int → Int} (B : Nat) (r9 : Int → Int → Int → Int → Int → Int → xw_M → xP) (hr9 : ∀ a0 a1 a2 a3 a4 a5 m, m 604 = x → K4 x (r9 a0 a1 a2 a3 a4 a5 m)) (x2 x3 x4 x5 x6 x7 : Int) (m : xw_M) (hm : m 604 = x) : K4 x (yl292_9 B r9 x2 x3 x4 x5 x6 x7 m) := by
  unfold yl292_9
  repeat' first
    | with_reducible exact K4_none
    | with_reducible refine K4_some ?_
    | with_reducible refine K4_if (fun _ => ?_) (fun _ => ?_)
    | with_reducible refine K4_B ?_ (fun _ _ _ => ?_)
    | with_reducible refine K4_T ?_ (fun _ _ _ => ?_) (fun _ _ _ => ?_)
    | with_reducible refine hr9 _ _ _ _ _ _ _ ?_
    | with_reducible refine k4_yk292_50 B _ (by assumption) _ _ _ _ _ _ _ ?_
    | with_reducible refine k4_yf293 B  _ _ _ _ ?_
    | with_reducible refine k4_yk292_54 B _ (by assumption) _ _ _ _ _ _ _ ?_
    | assumption
    | with_reducible refine k4u ?_ ?_
    | decide
    | exact k4n (by assumption) (by decide)
theorem k4_yf292 {x : Int → Int} (B : Nat) (p0 p1 p2 p3 : Int) (m : xw_M) (hm : m 604 = x) : K4 x (yf292 B p0 p1 p2 p3 m) := by
  unfold yf292
  repeat' first
    | with_reducible exact K4_none
    | with_reducible refine K4_some ?_
    | with_reducible refine K4_if (fun _ => ?_) (fun _ => ?_)
    | with_reducible refine K4_B ?_ (fun _ _ _ => ?_)
    | with_reducible refine K4_T ?_ (fun _ _ _ => ?_) (fun _ _ _ => ?_)
    | with_reducible refine K4_l6 (k4_yl292_9 B ) _ _ _ _ _ _ _ _ ?_
    | assumption
    | with_reducible refine k4u ?_ ?_
    | decide
    | exact k4n (by assumption) (by decide)
theorem k4_yl290_44 {x : Int → Int} (B : Nat) (r34 : Int → Int → xw_M → xP) (hr34 : ∀ a0 a1 m, m 604 = x → K4 x (r34 a0 a1 m)) (r44 : Int → Int → Int → xw_M → xP) (hr44 : ∀ a0 a1 a2 m, m 604 = x → K4 x (r44 a0 a1 a2 m)) (x1 x2 x3 : Int) (m : xw_M) (hm : m 604 = x) : K4 x (yl290_44 B r34 r44 x1 x2 x3 m) := by
  unfold yl290_44
  repeat' first
    | with_reducible exact K4_none
    | with_reducible refine K4_some ?_
    | with_reducible refine K4_if (fun _ => ?_) (fun _ => ?_)
    | with_reducible refine K4_B ?_ (fun _ _ _ => ?_)
    | with_reducible refine K4_T ?_ (fun _ _ _ => ?_) (fun _ _ _ => ?_)
    | with_reducible refine hr34 _ _ _ ?_
    | with_reducible refine hr44 _ _ _ _ ?_
    | with_reducible refine k4_yf292 B  _ _ _ _ _ ?_
    | assumption
    | with_reducible refine k4u ?_ ?_
    | decide
    | exact k4n (by assumption) (by decide)
theorem k4_yk290_160 {x : Int → Int} (B : Nat) (r121 : Int → Int → xw_M → xP) (hr121 : ∀ a0 a1 m, m 604 = x → K4 x (r121 a0 a1 m)) (x1 x2 : Int) (m : xw_M) (hm : m 604 = x) : K4 x (yk290_160 B r121 x1 x2 m) := by
  unfold yk290_160
  repeat' first
    | with_reducible exact K4_none
    | with_reducible refine K4_some ?_
    | with_reducible refine K4_if (fun _ => ?_) (fun _ => ?_)
    | with_reducible refine K4_B ?_ (fun _ _ _ => ?_)
    | with_reducible refine K4_T ?_ (fun _ _ _ => ?_) (fun _ _ _ => ?_)
    | with_reducible refine hr121 _ _ _ ?_
    | assumption
    | with_reducible refine k4u ?_ ?_
    | decide
    | exact k4n (by assumption) (by decide)
theorem k4_yl290_121 {x : Int → Int} (B : Nat) (r121 : Int → Int → xw_M → xP) (hr121 : ∀ a0 a1 m, m 604 = x → K4 x (r121 a0 a1 m)) (x1 x2 : Int) (m : xw_M) (hm : m 604 = x) : K4 x (yl290_121 B r121 x1 x2 m) := by
  unfold yl290_121
  repeat' first
    | with_reducible exact K4_none
    | with_reducible refine K4_some ?_
    | with_reducible refine K4_if (fun _ => ?_) (fun _ => ?_)
    | with_reducible refine K4_B ?_ (fun _ _ _ => ?_)
    | with_reducible refine K4_T ?_ (fun _ _ _ => ?_) (fun _ _ _ => ?_)
    | with_reducible refine hr121 _ _ _ ?_
    | with_reducible refine k4_yk290_160 B _ (by assumption) _ _ _ ?_
    | with_reducible refine k4_yf293 B  _ _ _ _ ?_
    | assumption
    | with_reducible refine k4u ?_ ?_
    | decide
    | exact k4n (by assumption) (by decide)
theorem k4_yl290_34 {x : Int → Int} (B : Nat) (r34 : Int → Int → xw_M → xP) (hr34 : ∀ a0 a1 m, m 604 = x → K4 x (r34 a0 a1 m)) (x1 x2 : Int) (m : xw_M) (hm : m 604 = x) : K4 x (yl290_34 B r34 x1 x2 m) := by
  unfold yl290_34
  repeat' first
    | with_reducible exact K4_none
    | with_reducible refine K4_some ?_
    | with_reducible refine K4_if (fun _ => ?_) (fun _ => ?_)
    | with_reducible refine K4_B ?_ (fun _ _ _ => ?_)
    | with_reducible refine K4_T ?_ (fun _ _ _ => ?_) (fun _ _ _ => ?_)
    | with_reducible refine hr34 _ _ _ ?_
    | with_reducible refine K4_l3 (k4_yl290_44 B _ (by assumption)) _ _ _ _ _ ?_
    | with_reducible refine K4_l2 (k4_yl290_121 B ) _ _ _ _ ?_
    | assumption
    | with_reducible refine k4u ?_ ?_
    | decide
    | exact k4n (by assumption) (by decide)
theorem k4_yl290_2 {x : Int → Int} (B : Nat) (r2 : Int → Int → xw_M → xP) (hr2 : ∀ a0 a1 m, m 604 = x → K4 x (r2 a0 a1 m)) (x1 x2 : Int) (m : xw_M) (hm : m 604 = x) : K4 x (yl290_2 B r2 x1 x2 m) := by
  unfold yl290_2
  repeat' first
    | with_reducible exact K4_none
    | with_reducible refine K4_some ?_
    | with_reducible refine K4_if (fun _ => ?_) (fun _ => ?_)
    | with_reducible refine K4_B ?_ (fun _ _ _ => ?_)
    | with_reducible refine K4_T ?_ (fun _ _ _ => ?_) (fun _ _ _ => ?_)
    | with_reducible refine hr2 _ _ _ ?_
    | with_reducible refine K4_l2 (k4_yl290_34 B ) _ _ _ _ ?_
    | with_reducible refine k4_yf291 B  _ _ _ ?_
    | assumption
    | with_reducible refine k4u ?_ ?_
    | decide
    | exact k4n (by assumption) (by decide)
theorem k4_yf290 {x : Int → Int} (B : Nat) (p0 : Int) (m : xw_M) (hm : m 604 = x) : K4 x (yf290 B p0 m) := by
  unfold yf290
  repeat' first
    | with_reducible exact K4_none
    | with_reducible refine K4_some ?_
    | with_reducible refine K4_if (fun _ => ?_) (fun _ => ?_)
    | with_reducible refine K4_B ?_ (fun _ _ _ => ?_)
    | with_reducible refine K4_T ?_ (fun _ _ _ => ?_) (fun _ _ _ => ?_)
    | with_reducible refine K4_l2 (k4_yl290_2 B ) _ _ _ _ ?_
    | assumption
    | with_reducible refine k4u ?_ ?_
    | decide
    | exact k4n (by assumption) (by decide)
theorem k4_yk285_62 {x : Int → Int} (B : Nat) (x2 : Int) (m : xw_M) (hm : m 604 = x) : K4 x (yk285_62 B x2 m) := by
  unfold yk285_62
  repeat' first
    | with_reducible exact K4_none
    | with_reducible refine K4_some ?_
    | with_reducible refine K4_if (fun _ => ?_) (fun _ => ?_)
    | with_reducible refine K4_B ?_ (fun _ _ _ => ?_)
    | with_reducible refine K4_T ?_ (fun _ _ _ => ?_) (fun _ _ _ => ?_)
    | assumption
    | with_reducible refine k4u ?_ ?_
    | decide
    | exact k4n (by assumption) (by decide)
theorem k4_yl285_8 {x : Int → Int} (B : Nat) (r8 : Int → Int → Int → xw_M → xP) (hr8 : ∀ a0 a1 a2 m, m 604 = x → K4 x (r8 a0 a1 a2 m)) (x1 x2 x3 : Int) (m : xw_M) (hm : m 604 = x) : K4 x (yl285_8 B r8 x1 x2 x3 m) := by
  unfold yl285_8
  repeat' first
    | with_reducible exact K4_none
    | with_reducible refine K4_some ?_
    | with_reducible refine K4_if (fun _ => ?_) (fun _ => ?_)
    | with_reducible refine K4_B ?_ (fun _ _ _ => ?_)
    | with_reducible refine K4_T ?_ (fun _ _ _ => ?_) (fun _ _ _ => ?_)
    | with_reducible refine hr8 _ _ _ _ ?_
    | with_reducible refine k4_yk285_62 B  _ _ ?_
    | with_reducible refine k4_yf290 B  _ _ ?_
    | assumption
    | with_reducible refine k4u ?_ ?_
    | decide
    | exact k4n (by assumption) (by decide)
theorem k4_yf285 {x : Int → Int} (B : Nat) (p0 : Int) (m : xw_M) (hm : m 604 = x) : K4 x (yf285 B p0 m) := by
  unfold yf285
  repeat' first
    | with_reducible exact K4_none
    | with_reducible refine K4_some ?_
    | with_reducible refine K4_if (fun _ => ?_) (fun _ => ?_)
    | with_reducible refine K4_B ?_ (fun _ _ _ => ?_)
    | with_reducible refine K4_T ?_ (fun _ _ _ => ?_) (fun _ _ _ => ?_)
    | with_reducible refine k4_yf286 B   _ ?_
    | with_reducible refine K4_l3 (k4_yl285_8 B ) _ _ _ _ _ ?_
    | assumption
    | with_reducible refine k4u ?_ ?_
    | decide
    | exact k4n (by assumption) (by decide)
theorem k4_yl297_115 {x : Int → Int} (B : Nat) (r90 : Int → Int → Int → Int → xw_M → xP) (hr90 : ∀ a0 a1 a2 a3 m, m 604 = x → K4 x (r90 a0 a1 a2 a3 m)) (r115 : Int → Int → Int → Int → Int → Int → Int → Int → xw_M → xP) (hr115 : ∀ a0 a1 a2 a3 a4 a5 a6 a7 m, m 604 = x → K4 x (r115 a0 a1 a2 a3 a4 a5 a6 a7 m)) (x3 x4 x5 x6 x7 x9 x11 x13 : Int) (m : xw_M) (hm : m 604 = x) : K4 x (yl297_115 B r90 r115 x3 x4 x5 x6 x7 x9 x11 x13 m) := by
  unfold yl297_115
  repeat' first
    | with_reducible exact K4_none
    | with_reducible refine K4_some ?_
    | with_reducible refine K4_if (fun _ => ?_) (fun _ => ?_)
    | with_reducible refine K4_B ?_ (fun _ _ _ => ?_)
    | with_reducible refine K4_T ?_ (fun _ _ _ => ?_) (fun _ _ _ => ?_)
    | with_reducible refine hr90 _ _ _ _ _ ?_
    | with_reducible refine hr115 _ _ _ _ _ _ _ _ _ ?_
    | assumption
    | with_reducible refine k4u ?_ ?_
    | decide
    | exact k4n (by assumption) (by decide)
theorem k4_yl297_90 {x : Int → Int} (B : Nat) (r90 : Int → Int → Int → Int → xw_M → xP) (hr90 : ∀ a0 a1 a2 a3 m, m 604 = x → K4 x (r90 a0 a1 a2 a3 m)) (x3 x4 x5 x6 : Int) (m : xw_M) (hm : m 604 = x) : K4 x (yl297_90 B r90 x3 x4 x5 x6 m) := by
  unfold yl297_90
  repeat' first
    | with_reducible exact K4_none
    | with_reducible refine K4_some ?_
    | with_reducible refine K4_if (fun _ => ?_) (fun _ => ?_)
    | with_reducible refine K4_B ?_ (fun _ _ _ => ?_)
    | with_reducible refine K4_T ?_ (fun _ _ _ => ?_) (fun _ _ _ => ?_)
    | with_reducible refine hr90 _ _ _ _ _ ?_
    | with_reducible refine K4_l8 (k4_yl297_115 B _ (by assumption)) _ _ _ _ _ _ _ _ _ _ ?_
    | assumption
    | with_reducible refine k4u ?_ ?_
    | decide
    | exact k4n (by assumption) (by decide)
theorem k4_yl297_29 {x : Int → Int} (B : Nat) (r29 : Int → Int → Int → Int → Int → Int → xw_M → xP) (hr29 : ∀ a0 a1 a2 a3 a4 a5 m, m 604 = x → K4 x (r29 a0 a1 a2 a3 a4 a5 m)) (x1 x2 x3 x4 x5 x6 : Int) (m : xw_M) (hm : m 604 = x) : K4 x (yl297_29 B r29 x1 x2 x3 x4 x5 x6 m) := by
  unfold yl297_29
  repeat' first
    | with_reducible exact K4_none
    | with_reducible refine K4_some ?_
    | with_reducible refine K4_if (fun _ => ?_) (fun _ => ?_)
    | with_reducible refine K4_B ?_ (fun _ _ _ => ?_)
    | with_reducible refine K4_T ?_ (fun _ _ _ => ?_) (fun _ _ _ => ?_)
    | with_reducible refine hr29 _ _ _ _ _ _ _ ?_
    | with_reducible refine k4_yf295 B  _ _ _ _ ?_
    | with_reducible refine K4_l4 (k4_yl297_90 B ) _ _ _ _ _ _ ?_
    | assumption
    | with_reducible refine k4u ?_ ?_
    | decide
    | exact k4n (by assumption) (by decide)
theorem k4_yf297 {x : Int → Int} (B : Nat) (p0 p1 p2 p3 : Int) (m : xw_M) (hm : m 604 = x) : K4 x (yf297 B p0 p1 p2 p3 m) := by
  unfold yf297
  repeat' first
    | with_reducible exact K4_none
    | with_reducible refine K4_some ?_
    | with_reducible refine K4_if (fun _ => ?_) (fun _ => ?_)
    | with_reducible refine K4_B ?_ (fun _ _ _ => ?_)
    | with_reducible refine K4_T ?_ (fun _ _ _ => ?_) (fun _ _ _ => ?_)
    | with_reducible refine K4_l6 (k4_yl297_29 B ) _ _ _ _ _ _ _ _ ?_
    | assumption
    | with_reducible refine k4u ?_ ?_
    | decide
    | exact k4n (by assumption) (by decide)
theorem k4_yl299_3 {x : Int → Int} (B : Nat) (r3 : Int → Int → Int → Int → xw_M → xP) (hr3 : ∀ a0 a1 a2 a3 m, m 604 = x → K4 x (r3 a0 a1 a2 a3 m)) (x1 x2 x3 x4 : Int) (m : xw_M) (hm : m 604 = x) : K4 x (yl299_3 B r3 x1 x2 x3 x4 m) := by
  unfold yl299_3
  repeat' first
    | with_reducible exact K4_none
    | with_reducible refine K4_some ?_
    | with_reducible refine K4_if (fun _ => ?_) (fun _ => ?_)
    | with_reducible refine K4_B ?_ (fun _ _ _ => ?_)
    | with_reducible refine K4_T ?_ (fun _ _ _ => ?_) (fun _ _ _ => ?_)
    | with_reducible refine hr3 _ _ _ _ _ ?_
    | assumption
    | with_reducible refine k4u ?_ ?_
    | decide
    | exact k4n (by assumption) (by decide)
theorem k4_yf299 {x : Int → Int} (B : Nat) (p0 p1 p2 : Int) (m : xw_M) (hm : m 604 = x) : K4 x (yf299 B p0 p1 p2 m) := by
  unfold yf299
  repeat' first
    | with_reducible exact K4_none
    | with_reducible refine K4_some ?_
    | with_reducible refine K4_if (fun _ => ?_) (fun _ => ?_)
    | with_reducible refine K4_B ?_ (fun _ _ _ => ?_)
    | with_reducible refine K4_T ?_ (fun _ _ _ => ?_) (fun _ _ _ => ?_)
    | with_reducible refine K4_l4 (k4_yl299_3 B ) _ _ _ _ _ _ ?_
    | assumption
    | with_reducible refine k4u ?_ ?_
    | decide
    | exact k4n (by assumption) (by decide)
theorem k4_yk298_125 {x : Int → Int} (B : Nat) (r25 : Int → Int → xw_M → xP) (hr25 : ∀ a0 a1 m, m 604 = x → K4 x (r25 a0 a1 m)) (r35 : Int → Int → Int → xw_M → xP) (hr35 : ∀ a0 a1 a2 m, m 604 = x → K4 x (r35 a0 a1 a2 m)) (r79 : Int → Int → Int → Int → Int → Int → Int → Int → xw_M → xP) (hr79 : ∀ a0 a1 a2 a3 a4 a5 a6 a7 m, m 604 = x → K4 x (r79 a0 a1 a2 a3 a4 a5 a6 a7 m)) (x1 x2 x3 x4 x5 x6 x7 x8 : Int) (m : xw_M) (hm : m 604 = x) : K4 x (yk298_125 B r25 r35 r79 x1 x2 x3 x4 x5 x6 x7 x8 m) := by
  unfold yk298_125
  repeat' first
    | with_reducible exact K4_none
    | with_reducible refine K4_some ?_
    | with_reducible refine K4_if (fun _ => ?_) (fun _ => ?_)
    | with_reducible refine K4_B ?_ (fun _ _ _ => ?_)
    | with_reducible refine K4_T ?_ (fun _ _ _ => ?_) (fun _ _ _ => ?_)
    | with_reducible refine hr25 _ _ _ ?_
    | with_reducible refine hr35 _ _ _ _ ?_
    | with_reducible refine hr79 _ _ _ _ _ _ _ _ _ ?_
    | assumption
    | with_reducible refine k4u ?_ ?_
    | decide
    | exact k4n (by assumption) (by decide)
theorem k4_yk298_129 {x : Int → Int} (B : Nat) (r25 : Int → Int → xw_M → xP) (hr25 : ∀ a0 a1 m, m 604 = x → K4 x (r25 a0 a1 m)) (r35 : Int → Int → Int → xw_M → xP) (hr35 : ∀ a0 a1 a2 m, m 604 = x → K4 x (r35 a0 a1 a2 m)) (r79 : Int → Int → Int → Int → Int → Int → Int → Int → xw_M → xP) (hr79 : ∀ a0 a1 a2 a3 a4 a5 a6 a7 m, m 604 = x → K4 x (r79 a0 a1 a2 a3 a4 a5 a6 a7 m)) (x1 x2 x3 x4 x5 x6 x7 x8 : Int) (m : xw_M) (hm : m 604 = x) : K4 x (yk298_129 B r25 r35 r79 x1 x2 x3 x4 x5 x6 x7 x8 m) := by
  unfold yk298_129
  repeat' first
    | with_reducible exact K4_none
    | with_reducible refine K4_some ?_
    | with_reducible refine K4_if (fun _ => ?_) (fun _ => ?_)
    | with_reducible refine K4_B ?_ (fun _ _ _ => ?_)
    | with_reducible refine K4_T ?_ (fun _ _ _ => ?_) (fun _ _ _ => ?_)
    | with_reducible refine hr25 _ _ _ ?_
    | with_reducible refine hr35 _ _ _ _ ?_
    | with_reducible refine hr79 _ _ _ _ _ _ _ _ _ ?_
    | assumption
    | with_reducible refine k4u ?_ ?_
    | decide
    | exact k4n (by assumption) (by decide)
theorem k4_yl298_79 {x : Int → Int} (B : Nat) (r25 : Int → Int → xw_M → xP) (hr25 : ∀ a0 a1 m, m 604 = x → K4 x (r25 a0 a1 m)) (r35 : Int → Int → Int → xw_M → xP) (hr35 : ∀ a0 a1 a2 m, m 604 = x → K4 x (r35 a0 a1 a2 m)) (r79 : Int → Int → Int → Int → Int → Int → Int → Int → xw_M → xP) (hr79 : ∀ a0 a1 a2 a3 a4 a5 a6 a7 m, m 604 = x → K4 x (r79 a0 a1 a2 a3 a4 a5 a6 a7 m)) (x1 x2 x3 x4 x5 x6 x7 x8 : Int) (m : xw_M) (hm : m 604 = x) : K4 x (yl298_79 B r25 r35 r79 x1 x2 x3 x4 x5 x6 x7 x8 m) := by
  unfold yl298_79
  repeat' first
    | with_reducible exact K4_none
    | with_reducible refine K4_some ?_
    | with_reducible refine K4_if (fun _ => ?_) (fun _ => ?_)
    | with_reducible refine K4_B ?_ (fun _ _ _ => ?_)
    | with_reducible refine K4_T ?_ (fun _ _ _ => ?_) (fun _ _ _ => ?_)
    | with_reducible refine hr25 _ _ _ ?_
    | with_reducible refine hr35 _ _ _ _ ?_
    | with_reducible refine hr79 _ _ _ _ _ _ _ _ _ ?_
    | with_reducible refine k4_yk298_125 B _ (by assumption) _ (by assumption) _ (by assumption) _ _ _ _ _ _ _ _ _ ?_
    | with_reducible refine k4_yf299 B  _ _ _ _ ?_
    | with_reducible refine k4_yk298_129 B _ (by assumption) _ (by assumption) _ (by assumption) _ _ _ _ _ _ _ _ _ ?_
    | assumption
    | with_reducible refine k4u ?_ ?_
    | decide
    | exact k4n (by assumption) (by decide)
theorem k4_yl298_35 {x : Int → Int} (B : Nat) (r25 : Int → Int → xw_M → xP) (hr25 : ∀ a0 a1 m, m 604 = x → K4 x (r25 a0 a1 m)) (r35 : Int → Int → Int → xw_M → xP) (hr35 : ∀ a0 a1 a2 m, m 604 = x → K4 x (r35 a0 a1 a2 m)) (x1 x2 x3 : Int) (m : xw_M) (hm : m 604 = x) : K4 x (yl298_35 B r25 r35 x1 x2 x3 m) := by
  unfold yl298_35
  repeat' first
    | with_reducible exact K4_none
    | with_reducible refine K4_some ?_
    | with_reducible refine K4_if (fun _ => ?_) (fun _ => ?_)
    | with_reducible refine K4_B ?_ (fun _ _ _ => ?_)
    | with_reducible refine K4_T ?_ (fun _ _ _ => ?_) (fun _ _ _ => ?_)
    | with_reducible refine hr25 _ _ _ ?_
    | with_reducible refine hr35 _ _ _ _ ?_
    | with_reducible refine K4_l8 (k4_yl298_79 B _ (by assumption) _ (by assumption)) _ _ _ _ _ _ _ _ _ _ ?_
    | assumption
    | with_reducible refine k4u ?_ ?_
    | decide
    | exact k4n (by assumption) (by decide)
theorem k4_yl298_25 {x : Int → Int} (B : Nat) (r25 : Int → Int → xw_M → xP) (hr25 : ∀ a0 a1 m, m 604 = x → K4 x (r25 a0 a1 m)) (x1 x2 : Int) (m : xw_M) (hm : m 604 = x) : K4 x (yl298_25 B r25 x1 x2 m) := by
  unfold yl298_25
  repeat' first
    | with_reducible exact K4_none
    | with_reducible refine K4_some ?_
    | with_reducible refine K4_if (fun _ => ?_) (fun _ => ?_)
    | with_reducible refine K4_B ?_ (fun _ _ _ => ?_)
    | with_reducible refine K4_T ?_ (fun _ _ _ => ?_) (fun _ _ _ => ?_)
    | with_reducible refine hr25 _ _ _ ?_
    | with_reducible refine K4_l3 (k4_yl298_35 B _ (by assumption)) _ _ _ _ _ ?_
    | assumption
    | with_reducible refine k4u ?_ ?_
    | decide
    | exact k4n (by assumption) (by decide)
theorem k4_yl298_2 {x : Int → Int} (B : Nat) (r2 : Int → Int → xw_M → xP) (hr2 : ∀ a0 a1 m, m 604 = x → K4 x (r2 a0 a1 m)) (x1 x2 : Int) (m : xw_M) (hm : m 604 = x) : K4 x (yl298_2 B r2 x1 x2 m) := by
  unfold yl298_2
  repeat' first
    | with_reducible exact K4_none
    | with_reducible refine K4_some ?_
    | with_reducible refine K4_if (fun _ => ?_) (fun _ => ?_)
    | with_reducible refine K4_B ?_ (fun _ _ _ => ?_)
    | with_reducible refine K4_T ?_ (fun _ _ _ => ?_) (fun _ _ _ => ?_)
    | with_reducible refine hr2 _ _ _ ?_
    | with_reducible refine K4_l2 (k4_yl298_25 B ) _ _ _ _ ?_
    | assumption
    | with_reducible refine k4u ?_ ?_
    | decide
    | exact k4n (by assumption) (by decide)
theorem k4_yf298 {x : Int → Int} (B : Nat) (p0 : Int) (m : xw_M) (hm : m 604 = x) : K4 x (yf298 B p0 m) := by
  unfold yf298
  repeat' first
    | with_reducible exact K4_none
    | with_reducible refine K4_some ?_
    | with_reducible refine K4_if (fun _ => ?_) (fun _ => ?_)
    | with_reducible refine K4_B ?_ (fun _ _ _ => ?_)
    | with_reducible refine K4_T ?_ (fun _ _ _ => ?_) (fun _ _ _ => ?_)
    | with_reducible refine K4_l2 (k4_yl298_2 B ) _ _ _ _ ?_
    | assumption
    | with_reducible refine k4u ?_ ?_
    | decide
    | exact k4n (by assumption) (by decide)
theorem k4_yl301_59 {x : Int → Int} (B : Nat) (r59 : Int → Int → Int → Int → xw_M → xP) (hr59 : ∀ a0 a1 a2 a3 m, m 604 = x → K4 x (r59 a0 a1 a2 a3 m)) (x1 x2 x3 x4 : Int) (m : xw_M) (hm : m 604 = x) : K4 x (yl301_59 B r59 x1 x2 x3 x4 m) := by
  unfold yl301_59
  repeat' first
    | with_reducible exact K4_none
    | with_reducible refine K4_some ?_
    | with_reducible refine K4_if (fun _ => ?_) (fun _ => ?_)
    | with_reducible refine K4_B ?_ (fun _ _ _ => ?_)
    | with_reducible refine K4_T ?_ (fun _ _ _ => ?_) (fun _ _ _ => ?_)
    | with_reducible refine hr59 _ _ _ _ _ ?_
    | with_reducible refine k4_yf291 B  _ _ _ ?_
    | assumption
    | with_reducible refine k4u ?_ ?_
    | decide
    | exact k4n (by assumption) (by decide)
theorem k4_yl301_5 {x : Int → Int} (B : Nat) (r5 : Int → Int → Int → Int → xw_M → xP) (hr5 : ∀ a0 a1 a2 a3 m, m 604 = x → K4 x (r5 a0 a1 a2 a3 m)) (x1 x2 x3 x4 : Int) (m : xw_M) (hm : m 604 = x) : K4 x (yl301_5 B r5 x1 x2 x3 x4 m) := by
  unfold yl301_5
  repeat' first
    | with_reducible exact K4_none
    | with_reducible refine K4_some ?_
    | with_reducible refine K4_if (fun _ => ?_) (fun _ => ?_)
    | with_reducible refine K4_B ?_ (fun _ _ _ => ?_)
    | with_reducible refine K4_T ?_ (fun _ _ _ => ?_) (fun _ _ _ => ?_)
    | with_reducible refine hr5 _ _ _ _ _ ?_
    | with_reducible refine k4_yf291 B  _ _ _ ?_
    | with_reducible refine K4_l4 (k4_yl301_59 B ) _ _ _ _ _ _ ?_
    | assumption
    | with_reducible refine k4u ?_ ?_
    | decide
    | exact k4n (by assumption) (by decide)
theorem k4_yf301 {x : Int → Int} (B : Nat) (p0 p1 : Int) (m : xw_M) (hm : m 604 = x) : K4 x (yf301 B p0 p1 m) := by
  unfold yf301
  repeat' first
    | with_reducible exact K4_none
    | with_reducible refine K4_some ?_
    | with_reducible refine K4_if (fun _ => ?_) (fun _ => ?_)
    | with_reducible refine K4_B ?_ (fun _ _ _ => ?_)
    | with_reducible refine K4_T ?_ (fun _ _ _ => ?_) (fun _ _ _ => ?_)
    | with_reducible refine K4_l4 (k4_yl301_5 B ) _ _ _ _ _ _ ?_
    | assumption
    | with_reducible refine k4u ?_ ?_
    | decide
    | exact k4n (by assumption) (by decide)
theorem k4_yl300_10 {x : Int → Int} (B : Nat) (r10 : Int → Int → Int → Int → xw_M → xP) (hr10 : ∀ a0 a1 a2 a3 m, m 604 = x → K4 x (r10 a0 a1 a2 a3 m)) (x1 x2 x3 x4 : Int) (m : xw_M) (hm : m 604 = x) : K4 x (yl300_10 B r10 x1 x2 x3 x4 m) := by
  unfold yl300_10
  repeat' first
    | with_reducible exact K4_none
    | with_reducible refine K4_some ?_
    | with_reducible refine K4_if (fun _ => ?_) (fun _ => ?_)
    | with_reducible refine K4_B ?_ (fun _ _ _ => ?_)
    | with_reducible refine K4_T ?_ (fun _ _ _ => ?_) (fun _ _ _ => ?_)
    | with_reducible refine hr10 _ _ _ _ _ ?_
    | with_reducible refine k4_yf301 B  _ _ _ ?_
    | assumption
    | with_reducible refine k4u ?_ ?_
    | decide
    | exact k4n (by assumption) (by decide)
theorem k4_yf300 {x : Int → Int} (B : Nat) (p0 : Int) (m : xw_M) (hm : m 604 = x) : K4 x (yf300 B p0 m) := by
  unfold yf300
  repeat' first
    | with_reducible exact K4_none
    | with_reducible refine K4_some ?_
    | with_reducible refine K4_if (fun _ => ?_) (fun _ => ?_)
    | with_reducible refine K4_B ?_ (fun _ _ _ => ?_)
    | with_reducible refine K4_T ?_ (fun _ _ _ => ?_) (fun _ _ _ => ?_)
    | with_reducible refine K4_l4 (k4_yl300_10 B ) _ _ _ _ _ _ ?_
    | assumption
    | with_reducible refine k4u ?_ ?_
    | decide
    | exact k4n (by assumption) (by decide)
theorem k4_yl296_57 {x : Int → Int} (B : Nat) (r11 : Int → Int → xw_M → xP) (hr11 : ∀ a0 a1 m, m 604 = x → K4 x (r11 a0 a1 m)) (r57 : Int → Int → Int → xw_M → xP) (hr57 : ∀ a0 a1 a2 m, m 604 = x → K4 x (r57 a0 a1 a2 m)) (x1 x2 x3 : Int) (m : xw_M) (hm : m 604 = x) : K4 x (yl296_57 B r11 r57 x1 x2 x3 m) := by
  unfold yl296_57
  repeat' first
    | with_reducible exact K4_none
    | with_reducible refine K4_some ?_
    | with_reducible refine K4_if (fun _ => ?_) (fun _ => ?_)
    | with_reducible refine K4_B ?_ (fun _ _ _ => ?_)
    | with_reducible refine K4_T ?_ (fun _ _ _ => ?_) (fun _ _ _ => ?_)
    | with_reducible refine hr11 _ _ _ ?_
    | with_reducible refine hr57 _ _ _ _ ?_
    | with_reducible refine k4_yf297 B  _ _ _ _ _ ?_
    | assumption
    | with_reducible refine k4u ?_ ?_
    | decide
    | exact k4n (by assumption) (by decide)
theorem k4_yl296_11 {x : Int → Int} (B : Nat) (r11 : Int → Int → xw_M → xP) (hr11 : ∀ a0 a1 m, m 604 = x → K4 x (r11 a0 a1 m)) (x1 x2 : Int) (m : xw_M) (hm : m 604 = x) : K4 x (yl296_11 B r11 x1 x2 m) := by
  unfold yl296_11
  repeat' first
    | with_reducible exact K4_none
    | with_reducible refine K4_some ?_
    | with_reducible refine K4_if (fun _ => ?_) (fun _ => ?_)
    | with_reducible refine K4_B ?_ (fun _ _ _ => ?_)
    | with_reducible refine K4_T ?_ (fun _ _ _ => ?_) (fun _ _ _ => ?_)
    | with_reducible refine hr11 _ _ _ ?_
    | with_reducible refine k4_yf297 B  _ _ _ _ _ ?_
    | with_reducible refine k4_yf290 B  _ _ ?_
    | with_reducible refine K4_l3 (k4_yl296_57 B _ (by assumption)) _ _ _ _ _ ?_
    | with_reducible refine k4_yf298 B  _ _ ?_
    | with_reducible refine k4_yf300 B  _ _ ?_
    | assumption
    | with_reducible refine k4u ?_ ?_
    | decide
    | exact k4n (by assumption) (by decide)
theorem k4_yf296 {x : Int → Int} (B : Nat) (p0 : Int) (m : xw_M) (hm : m 604 = x) : K4 x (yf296 B p0 m) := by
  unfold yf296
  repeat' first
    | with_reducible exact K4_none
    | with_reducible refine K4_some ?_
    | with_reducible refine K4_if (fun _ => ?_) (fun _ => ?_)
    | with_reducible refine K4_B ?_ (fun _ _ _ => ?_)
    | with_reducible refine K4_T ?_ (fun _ _ _ => ?_) (fun _ _ _ => ?_)
    | with_reducible refine k4_yf286 B   _ ?_
    | with_reducible refine K4_l2 (k4_yl296_11 B ) _ _ _ _ ?_
    | assumption
    | with_reducible refine k4u ?_ ?_
    | decide
    | exact k4n (by assumption) (by decide)
theorem k4_yl270_196 {x : Int → Int} (B : Nat) (r143 : Int → xw_M → xP) (hr143 : ∀ a0 m, m 604 = x → K4 x (r143 a0 m)) (r196 : Int → Int → Int → xw_M → xP) (hr196 : ∀ a0 a1 a2 m, m 604 = x → K4 x (r196 a0 a1 a2 m)) (x3 x4 x5 : Int) (m : xw_M) (hm : m 604 = x) : K4 x (yl270_196 B r143 r196 x3 x4 x5 m) := by
  unfold yl270_196
  repeat' first
    | with_reducible exact K4_none
    | with_reducible refine K4_some ?_
    | with_reducible refine K4_if (fun _ => ?_) (fun _ => ?_)
    | with_reducible refine K4_B ?_ (fun _ _ _ => ?_)
    | with_reducible refine K4_T ?_ (fun _ _ _ => ?_) (fun _ _ _ => ?_)
    | with_reducible refine hr143 _ _ ?_
    | with_reducible refine hr196 _ _ _ _ ?_
    | with_reducible refine k4_yf254 B  _ _ _ _ ?_
    | assumption
    | with_reducible refine k4u ?_ ?_
    | decide
    | exact k4n (by assumption) (by decide)
theorem k4_yk270_287 {x : Int → Int} (B : Nat) (m : xw_M) (hm : m 604 = x) : K4 x (yk270_287 B m) := by
  unfold yk270_287
  repeat' first
    | with_reducible exact K4_none
    | with_reducible refine K4_some ?_
    | with_reducible refine K4_if (fun _ => ?_) (fun _ => ?_)
    | with_reducible refine K4_B ?_ (fun _ _ _ => ?_)
    | with_reducible refine K4_T ?_ (fun _ _ _ => ?_) (fun _ _ _ => ?_)
    | with_reducible refine k4_yf285 B  _ _ ?_
    | with_reducible refine k4_yf254 B  _ _ _ _ ?_
    | with_reducible refine k4_yf296 B  _ _ ?_
    | assumption
    | with_reducible refine k4u ?_ ?_
    | decide
    | exact k4n (by assumption) (by decide)
theorem k4_yk270_272 {x : Int → Int} (B : Nat) (m : xw_M) (hm : m 604 = x) : K4 x (yk270_272 B m) := by
  unfold yk270_272
  repeat' first
    | with_reducible exact K4_none
    | with_reducible refine K4_some ?_
    | with_reducible refine K4_if (fun _ => ?_) (fun _ => ?_)
    | with_reducible refine K4_B ?_ (fun _ _ _ => ?_)
    | with_reducible refine K4_T ?_ (fun _ _ _ => ?_) (fun _ _ _ => ?_)
    | with_reducible refine k4_yf284 B  _ _ ?_
    | with_reducible refine k4_yk270_287 B   _ ?_
    | assumption
    | with_reducible refine k4u ?_ ?_
    | decide
    | exact k4n (by assumption) (by decide)
theorem k4_yl270_143 {x : Int → Int} (B : Nat) (r143 : Int → xw_M → xP) (hr143 : ∀ a0 m, m 604 = x → K4 x (r143 a0 m)) (x3 : Int) (m : xw_M) (hm : m 604 = x) : K4 x (yl270_143 B r143 x3 m) := by
  unfold yl270_143
  repeat' first
    | with_reducible exact K4_none
    | with_reducible refine K4_some ?_
    | with_reducible refine K4_if (fun _ => ?_) (fun _ => ?_)
    | with_reducible refine K4_B ?_ (fun _ _ _ => ?_)
    | with_reducible refine K4_T ?_ (fun _ _ _ => ?_) (fun _ _ _ => ?_)
    | with_reducible refine hr143 _ _ ?_
    | with_reducible refine K4_l3 (k4_yl270_196 B _ (by assumption)) _ _ _ _ _ ?_
    | with_reducible refine k4_yk270_272 B   _ ?_
    | assumption
    | with_reducible refine k4u ?_ ?_
    | decide
    | exact k4n (by assumption) (by decide)
theorem k4_yk270_130 {x : Int → Int} (B : Nat) (m : xw_M) (hm : m 604 = x) : K4 x (yk270_130 B m) := by
  unfold yk270_130
  repeat' first
    | with_reducible exact K4_none
    | with_reducible refine K4_some ?_
    | with_reducible refine K4_if (fun _ => ?_) (fun _ => ?_)
    | with_reducible refine K4_B ?_ (fun _ _ _ => ?_)
    | with_reducible refine K4_T ?_ (fun _ _ _ => ?_) (fun _ _ _ => ?_)
    | with_reducible refine k4_yf266 B  _ _ ?_
    | with_reducible refine k4_yf258 B  _ _ ?_
    | with_reducible refine K4_l1 (k4_yl270_143 B ) _ _ _ ?_
    | assumption
    | with_reducible refine k4u ?_ ?_
    | decide
    | exact k4n (by assumption) (by decide)
theorem k4_yk270_111 {x : Int → Int} (B : Nat) (m : xw_M) (hm : m 604 = x) : K4 x (yk270_111 B m) := by
  unfold yk270_111
  repeat' first
    | with_reducible exact K4_none
    | with_reducible refine K4_some ?_
    | with_reducible refine K4_if (fun _ => ?_) (fun _ => ?_)
    | with_reducible refine K4_B ?_ (fun _ _ _ => ?_)
    | with_reducible refine K4_T ?_ (fun _ _ _ => ?_) (fun _ _ _ => ?_)
    | with_reducible refine k4_yf257 B  _ _ ?_
    | with_reducible refine k4_yk270_130 B   _ ?_
    | with_reducible refine k4_yf281 B   _ ?_
    | assumption
    | with_reducible refine k4u ?_ ?_
    | decide
    | exact k4n (by assumption) (by decide)
theorem k4_yl270_47 {x : Int → Int} (B : Nat) (r47 : Int → xw_M → xP) (hr47 : ∀ a0 m, m 604 = x → K4 x (r47 a0 m)) (x1 : Int) (m : xw_M) (hm : m 604 = x) : K4 x (yl270_47 B r47 x1 m) := by
  unfold yl270_47
  repeat' first
    | with_reducible exact K4_none
    | with_reducible refine K4_some ?_
    | with_reducible refine K4_if (fun _ => ?_) (fun _ => ?_)
    | with_reducible refine K4_B ?_ (fun _ _ _ => ?_)
    | with_reducible refine K4_T ?_ (fun _ _ _ => ?_) (fun _ _ _ => ?_)
    | with_reducible refine hr47 _ _ ?_
    | with_reducible refine k4_xE _ _ ?_
    | with_reducible refine k4_yf257 B  _ _ ?_
    | with_reducible refine k4_yk270_111 B   _ ?_
    | with_reducible refine k4_yf248 B   _ ?_
    | with_reducible refine k4_yf271 B   _ ?_
    | with_reducible refine k4_yf266 B  _ _ ?_
    | assumption
    | with_reducible refine k4u ?_ ?_
    | decide
    | exact k4n (by assumption) (by decide)
theorem k4_yf270 {x : Int → Int} (B : Nat) (m : xw_M) (hm : m 604 = x) : K4 x (yf270 B m) := by
  unfold yf270
  repeat' first
    | with_reducible exact K4_none
    | with_reducible refine K4_some ?_
    | with_reducible refine K4_if (fun _ => ?_) (fun _ => ?_)
    | with_reducible refine K4_B ?_ (fun _ _ _ => ?_)
    | with_reducible refine K4_T ?_ (fun _ _ _ => ?_) (fun _ _ _ => ?_)
    | with_reducible refine K4_l1 (k4_yl270_47 B ) _ _ _ ?_
    | assumption
    | with_reducible refine k4u ?_ ?_
    | decide
    | exact k4n (by assumption) (by decide)
theorem k4_yk256_24 {x : Int → Int} (B : Nat) (m : xw_M) (hm : m 604 = x) : K4 x (yk256_24 B m) := by
  unfold yk256_24
  repeat' first
    | with_reducible exact K4_none
    | with_reducible refine K4_some ?_
    | with_reducible refine K4_if (fun _ => ?_) (fun _ => ?_)
    | with_reducible refine K4_B ?_ (fun _ _ _ => ?_)
    | with_reducible refine K4_T ?_ (fun _ _ _ => ?_) (fun _ _ _ => ?_)
    | with_reducible refine k4_yf258 B  _ _ ?_
    | with_reducible refine k4_yf254 B  _ _ _ _ ?_
    | with_reducible refine k4_yf257 B  _ _ ?_
    | with_reducible refine k4_yf268 B   _ ?_
    | with_reducible refine k4_yf267 B   _ ?_
    | with_reducible refine k4_yf259 B   _ ?_
    | assumption
    | with_reducible refine k4u ?_ ?_
    | decide
    | exact k4n (by assumption) (by decide)
theorem k4_yf256 {x : Int → Int} (B : Nat) (m : xw_M) (hm : m 604 = x) : K4 x (yf256 B m) := by
  unfold yf256
  repeat' first
    | with_reducible exact K4_none
    | with_reducible refine K4_some ?_
    | with_reducible refine K4_if (fun _ => ?_) (fun _ => ?_)
    | with_reducible refine K4_B ?_ (fun _ _ _ => ?_)
    | with_reducible refine K4_T ?_ (fun _ _ _ => ?_) (fun _ _ _ => ?_)
    | with_reducible refine k4_yf257 B  _ _ ?_
    | with_reducible refine k4_yf258 B  _ _ ?_
    | with_reducible refine k4_yf254 B  _ _ _ _ ?_
    | with_reducible refine k4_yf270 B   _ ?_
    | with_reducible refine k4_yf267 B   _ ?_
    | with_reducible refine k4_yf259 B   _ ?_
    | with_reducible refine k4_yk256_24 B   _ ?_
    | assumption
    | with_reducible refine k4u ?_ ?_
    | decide
    | exact k4n (by assumption) (by decide)
theorem k4_yl247_51 {x : Int → Int} (B : Nat) (r51 : Int → xw_M → xP) (hr51 : ∀ a0 m, m 604 = x → K4 x (r51 a0 m)) (x1 : Int) (m : xw_M) (hm : m 604 = x) : K4 x (yl247_51 B r51 x1 m) := by
  unfold yl247_51
  repeat' first
    | with_reducible exact K4_none
    | with_reducible refine K4_some ?_
    | with_reducible refine K4_if (fun _ => ?_) (fun _ => ?_)
    | with_reducible refine K4_B ?_ (fun _ _ _ => ?_)
    | with_reducible refine K4_T ?_ (fun _ _ _ => ?_) (fun _ _ _ => ?_)
    | with_reducible refine hr51 _ _ ?_
    | with_reducible refine k4_yf256 B   _ ?_
    | with_reducible refine k4_yf248 B   _ ?_
    | assumption
    | with_reducible refine k4u ?_ ?_
    | decide
    | exact k4n (by assumption) (by decide)
theorem k4_yf247 {x : Int → Int} (B : Nat) (m : xw_M) (hm : m 604 = x) : K4 x (yf247 B m) := by
  unfold yf247
  repeat' first
    | with_reducible exact K4_none
    | with_reducible refine K4_some ?_
    | with_reducible refine K4_if (fun _ => ?_) (fun _ => ?_)
    | with_reducible refine K4_B ?_ (fun _ _ _ => ?_)
    | with_reducible refine K4_T ?_ (fun _ _ _ => ?_) (fun _ _ _ => ?_)
    | with_reducible refine k4_yf248 B   _ ?_
    | with_reducible refine K4_l1 (k4_yl247_51 B ) _ _ _ ?_
    | assumption
    | with_reducible refine k4u ?_ ?_
    | decide
    | exact k4n (by assumption) (by decide)
theorem k4_yf302 {x : Int → Int} (B : Nat) (p0 : Int) (m : xw_M) (hm : m 604 = x) : K4 x (yf302 B p0 m) := by
  unfold yf302
  repeat' first
    | with_reducible exact K4_none
    | with_reducible refine K4_some ?_
    | with_reducible refine K4_if (fun _ => ?_) (fun _ => ?_)
    | with_reducible refine K4_B ?_ (fun _ _ _ => ?_)
    | with_reducible refine K4_T ?_ (fun _ _ _ => ?_) (fun _ _ _ => ?_)
    | assumption
    | with_reducible refine k4u ?_ ?_
    | decide
    | exact k4n (by assumption) (by decide)
theorem k4_yl304_26 {x : Int → Int} (B : Nat) (r5 : Int → Int → xw_M → xP) (hr5 : ∀ a0 a1 m, m 604 = x → K4 x (r5 a0 a1 m)) (r26 : Int → Int → Int → xw_M → xP) (hr26 : ∀ a0 a1 a2 m, m 604 = x → K4 x (r26 a0 a1 a2 m)) (x1 x2 x3 : Int) (m : xw_M) (hm : m 604 = x) : K4 x (yl304_26 B r5 r26 x1 x2 x3 m) := by
  unfold yl304_26
  repeat' first
    | with_reducible exact K4_none
    | with_reducible refine K4_some ?_
    | with_reducible refine K4_if (fun _ => ?_) (fun _ => ?_)
    | with_reducible refine K4_B ?_ (fun _ _ _ => ?_)
    | with_reducible refine K4_T ?_ (fun _ _ _ => ?_) (fun _ _ _ => ?_)
    | with_reducible refine hr5 _ _ _ ?_
    | with_reducible refine hr26 _ _ _ _ ?_
    | assumption
    | with_reducible refine k4u ?_ ?_
    | decide
    | exact k4n (by assumption) (by decide)
theorem k4_yl304_77 {x : Int → Int} (B : Nat) (r77 : Int → Int → xw_M → xP) (hr77 : ∀ a0 a1 m, m 604 = x → K4 x (r77 a0 a1 m)) (x1 x2 : Int) (m : xw_M) (hm : m 604 = x) : K4 x (yl304_77 B r77 x1 x2 m) := by
  unfold yl304_77
  repeat' first
    | with_reducible exact K4_none
    | with_reducible refine K4_some ?_
    | with_reducible refine K4_if (fun _ => ?_) (fun _ => ?_)
    | with_reducible refine K4_B ?_ (fun _ _ _ => ?_)
    | with_reducible refine K4_T ?_ (fun _ _ _ => ?_) (fun _ _ _ => ?_)
    | with_reducible refine hr77 _ _ _ ?_
    | assumption
    | with_reducible refine k4u ?_ ?_
    | decide
    | exact k4n (by assumption) (by decide)
theorem k4_yl304_5 {x : Int → Int} (B : Nat) (r5 : Int → Int → xw_M → xP) (hr5 : ∀ a0 a1 m, m 604 = x → K4 x (r5 a0 a1 m)) (x1 x2 : Int) (m : xw_M) (hm : m 604 = x) : K4 x (yl304_5 B r5 x1 x2 m) := by
  unfold yl304_5
  repeat' first
    | with_reducible exact K4_none
    | with_reducible refine K4_some ?_
    | with_reducible refine K4_if (fun _ => ?_) (fun _ => ?_)
    | with_reducible refine K4_B ?_ (fun _ _ _ => ?_)
    | with_reducible refine K4_T ?_ (fun _ _ _ => ?_) (fun _ _ _ => ?_)
    | with_reducible refine hr5 _ _ _ ?_
    | with_reducible refine K4_l3 (k4_yl304_26 B _ (by assumption)) _ _ _ _ _ ?_
    | with_reducible refine K4_l2 (k4_yl304_77 B ) _ _ _ _ ?_
    | assumption
    | with_reducible refine k4u ?_ ?_
    | decide
    | exact k4n (by assumption) (by decide)
theorem k4_yf304 {x : Int → Int} (B : Nat) (m : xw_M) (hm : m 604 = x) : K4 x (yf304 B m) := by
  unfold yf304
  repeat' first
    | with_reducible exact K4_none
    | with_reducible refine K4_some ?_
    | with_reducible refine K4_if (fun _ => ?_) (fun _ => ?_)
    | with_reducible refine K4_B ?_ (fun _ _ _ => ?_)
    | with_reducible refine K4_T ?_ (fun _ _ _ => ?_) (fun _ _ _ => ?_)
    | with_reducible refine K4_l2 (k4_yl304_5 B ) _ _ _ _ ?_
    | assumption
    | with_reducible refine k4u ?_ ?_
    | decide
    | exact k4n (by assumption) (by decide)
theorem k4_yk306_9 {x : Int → Int} (B : Nat) (x0 x2 : Int) (m : xw_M) (hm : m 604 = x) : K4 x (yk306_9 B x0 x2 m) := by
  unfold yk306_9
  repeat' first
    | with_reducible exact K4_none
    | with_reducible refine K4_some ?_
    | with_reducible refine K4_if (fun _ => ?_) (fun _ => ?_)
    | with_reducible refine K4_B ?_ (fun _ _ _ => ?_)
    | with_reducible refine K4_T ?_ (fun _ _ _ => ?_) (fun _ _ _ => ?_)
    | assumption
    | with_reducible refine k4u ?_ ?_
    | decide
    | exact k4n (by assumption) (by decide)
theorem k4_yf306 {x : Int → Int} (B : Nat) (p0 p1 p2 : Int) (m : xw_M) (hm : m 604 = x) : K4 x (yf306 B p0 p1 p2 m) := by
  unfold yf306
  repeat' first
    | with_reducible exact K4_none
    | with_reducible refine K4_some ?_
    | with_reducible refine K4_if (fun _ => ?_) (fun _ => ?_)
    | with_reducible refine K4_B ?_ (fun _ _ _ => ?_)
    | with_reducible refine K4_T ?_ (fun _ _ _ => ?_) (fun _ _ _ => ?_)
    | with_reducible refine k4_yk306_9 B  _ _ _ ?_
    | assumption
    | with_reducible refine k4u ?_ ?_
    | decide
    | exact k4n (by assumption) (by decide)
theorem k4_yl308_43 {x : Int → Int} (B : Nat) (r33 : Int → xw_M → xP) (hr33 : ∀ a0 m, m 604 = x → K4 x (r33 a0 m)) (r43 : Int → Int → xw_M → xP) (hr43 : ∀ a0 a1 m, m 604 = x → K4 x (r43 a0 a1 m)) (x1 x2 : Int) (m : xw_M) (hm : m 604 = x) : K4 x (yl308_43 B r33 r43 x1 x2 m) := by
  unfold yl308_43
  repeat' first
    | with_reducible exact K4_none
    | with_reducible refine K4_some ?_
    | with_reducible refine K4_if (fun _ => ?_) (fun _ => ?_)
    | with_reducible refine K4_B ?_ (fun _ _ _ => ?_)
    | with_reducible refine K4_T ?_ (fun _ _ _ => ?_) (fun _ _ _ => ?_)
    | with_reducible refine hr33 _ _ ?_
    | with_reducible refine hr43 _ _ _ ?_
    | assumption
    | with_reducible refine k4u ?_ ?_
    | decide
    | exact k4n (by assumption) (by decide)
theorem k4_yl308_33 {x : Int → Int} (B : Nat) (r33 : Int → xw_M → xP) (hr33 : ∀ a0 m, m 604 = x → K4 x (r33 a0 m)) (x1 : Int) (m : xw_M) (hm : m 604 = x) : K4 x (yl308_33 B r33 x1 m) := by
  unfold yl308_33
  repeat' first
    | with_reducible exact K4_none
    | with_reducible refine K4_some ?_
    | with_reducible refine K4_if (fun _ => ?_) (fun _ => ?_)
    | with_reducible refine K4_B ?_ (fun _ _ _ => ?_)
    | with_reducible refine K4_T ?_ (fun _ _ _ => ?_) (fun _ _ _ => ?_)
    | with_reducible refine hr33 _ _ ?_
    | with_reducible refine K4_l2 (k4_yl308_43 B _ (by assumption)) _ _ _ _ ?_
    | assumption
    | with_reducible refine k4u ?_ ?_
    | decide
    | exact k4n (by assumption) (by decide)
theorem k4_yl308_2 {x : Int → Int} (B : Nat) (r2 : Int → xw_M → xP) (hr2 : ∀ a0 m, m 604 = x → K4 x (r2 a0 m)) (x1 : Int) (m : xw_M) (hm : m 604 = x) : K4 x (yl308_2 B r2 x1 m) := by
  unfold yl308_2
  repeat' first
    | with_reducible exact K4_none
    | with_reducible refine K4_some ?_
    | with_reducible refine K4_if (fun _ => ?_) (fun _ => ?_)
    | with_reducible refine K4_B ?_ (fun _ _ _ => ?_)
    | with_reducible refine K4_T ?_ (fun _ _ _ => ?_) (fun _ _ _ => ?_)
    | with_reducible refine hr2 _ _ ?_
    | with_reducible refine K4_l1 (k4_yl308_33 B ) _ _ _ ?_
    | assumption
    | with_reducible refine k4u ?_ ?_
    | decide
    | exact k4n (by assumption) (by decide)
theorem k4_yf308 {x : Int → Int} (B : Nat) (m : xw_M) (hm : m 604 = x) : K4 x (yf308 B m) := by
  unfold yf308
  repeat' first
    | with_reducible exact K4_none
    | with_reducible refine K4_some ?_
    | with_reducible refine K4_if (fun _ => ?_) (fun _ => ?_)
    | with_reducible refine K4_B ?_ (fun _ _ _ => ?_)
    | with_reducible refine K4_T ?_ (fun _ _ _ => ?_) (fun _ _ _ => ?_)
    | with_reducible refine K4_l1 (k4_yl308_2 B ) _ _ _ ?_
    | assumption
    | with_reducible refine k4u ?_ ?_
    | decide
    | exact k4n (by assumption) (by decide)
theorem k4_yk307_55 {x : Int → Int} (B : Nat) (r6 : Int → Int → xw_M → xP) (hr6 : ∀ a0 a1 m, m 604 = x → K4 x (r6 a0 a1 m)) (x1 x2 x3 : Int) (m : xw_M) (hm : m 604 = x) : K4 x (yk307_55 B r6 x1 x2 x3 m) := by
  unfold yk307_55
  repeat' first
    | with_reducible exact K4_none
    | with_reducible refine K4_some ?_
    | with_reducible refine K4_if (fun _ => ?_) (fun _ => ?_)
    | with_reducible refine K4_B ?_ (fun _ _ _ => ?_)
    | with_reducible refine K4_T ?_ (fun _ _ _ => ?_) (fun _ _ _ => ?_)
    | with_reducible refine hr6 _ _ _ ?_
    | assumption
    | with_reducible refine k4u ?_ ?_
    | decide
    | exact k4n (by assumption) (by decide)
theorem k4_yl307_21 {x : Int → Int} (B : Nat) (r6 : Int → Int → xw_M → xP) (hr6 : ∀ a0 a1 m, m 604 = x → K4 x (r6 a0 a1 m)) (r21 : Int → Int → Int → Int → xw_M → xP) (hr21 : ∀ a0 a1 a2 a3 m, m 604 = x → K4 x (r21 a0 a1 a2 a3 m)) (x1 x2 x3 x4 : Int) (m : xw_M) (hm : m 604 = x) : K4 x (yl307_21 B r6 r21 x1 x2 x3 x4 m) := by
  unfold yl307_21
  repeat' first
    | with_reducible exact K4_none
    | with_reducible refine K4_some ?_
    | with_reducible refine K4_if (fun _ => ?_) (fun _ => ?_)
    | with_reducible refine K4_B ?_ (fun _ _ _ => ?_)
    | with_reducible refine K4_T ?_ (fun _ _ _ => ?_) (fun _ _ _ => ?_)
    | with_reducible refine hr6 _ _ _ ?_
    | with_reducible refine hr21 _ _ _ _ _ ?_
    | with_reducible refine k4_yk307_55 B _ (by assumption) _ _ _ _ ?_
    | assumption
    | with_reducible refine k4u ?_ ?_
    | decide
    | exact k4n (by assumption) (by decide)
theorem k4_yl307_6 {x : Int → Int} (B : Nat) (r6 : Int → Int → xw_M → xP) (hr6 : ∀ a0 a1 m, m 604 = x → K4 x (r6 a0 a1 m)) (x1 x2 : Int) (m : xw_M) (hm : m 604 = x) : K4 x (yl307_6 B r6 x1 x2 m) := by
  unfold yl307_6
  repeat' first
    | with_reducible exact K4_none
    | with_reducible refine K4_some ?_
    | with_reducible refine K4_if (fun _ => ?_) (fun _ => ?_)
    | with_reducible refine K4_B ?_ (fun _ _ _ => ?_)
    | with_reducible refine K4_T ?_ (fun _ _ _ => ?_) (fun _ _ _ => ?_)
    | with_reducible refine hr6 _ _ _ ?_
    | with_reducible refine K4_l4 (k4_yl307_21 B _ (by assumption)) _ _ _ _ _ _ ?_
    | assumption
    | with_reducible refine k4u ?_ ?_
    | decide
    | exact k4n (by assumption) (by decide)
theorem k4_yf307 {x : Int → Int} (B : Nat) (p0 : Int) (m : xw_M) (hm : m 604 = x) : K4 x (yf307 B p0 m) := by
  unfold yf307
  repeat' first
    | with_reducible exact K4_none
    | with_reducible refine K4_some ?_
    | with_reducible refine K4_if (fun _ => ?_) (fun _ => ?_)
    | with_reducible refine K4_B ?_ (fun _ _ _ => ?_)
    | with_reducible refine K4_T ?_ (fun _ _ _ => ?_) (fun _ _ _ => ?_)
    | with_reducible refine k4_yf308 B   _ ?_
    | with_reducible refine K4_l2 (k4_yl307_6 B ) _ _ _ _ ?_
    | assumption
    | with_reducible refine k4u ?_ ?_
    | decide
    | exact k4n (by assumption) (by decide)
theorem k4_yk305_337 {x : Int → Int} (B : Nat) (x5 x8 : Int) (m : xw_M) (hm : m 604 = x) : K4 x (yk305_337 B x5 x8 m) := by
  unfold yk305_337
  repeat' first
    | with_reducible exact K4_none
    | with_reducible refine K4_some ?_
    | with_reducible refine K4_if (fun _ => ?_) (fun _ => ?_)
    | with_reducible refine K4_B ?_ (fun _ _ _ => ?_)
    | with_reducible refine K4_T ?_ (fun _ _ _ => ?_) (fun _ _ _ => ?_)
    | assumption
    | with_reducible refine k4u ?_ ?_
    | decide
    | exact k4n (by assumption) (by decide)
theorem k4_yl305_208 {x : Int → Int} (B : Nat) (r208 : Int → Int → Int → Int → Int → Int → Int → Int → xw_M → xP) (hr208 : ∀ a0 a1 a2 a3 a4 a5 a6 a7 m, m 604 = x → K4 x (r208 a0 a1 a2 a3 a4 a5 a6 a7 m)) (x2 x3 x4 x5 x7 x8 x10 x11 : Int) (m : xw_M) (hm : m 604 = x) : K4 x (yl305_208 B r208 x2 x3 x4 x5 x7 x8 x10 x11 m) := by
  unfold yl305_208
  repeat' first
    | with_reducible exact K4_none
    | with_reducible refine K4_some ?_
    | with_reducible refine K4_if (fun _ => ?_) (fun _ => ?_)
    | with_reducible refine K4_B ?_ (fun _ _ _ => ?_)
    | with_reducible refine K4_T ?_ (fun _ _ _ => ?_) (fun _ _ _ => ?_)
    | with_reducible refine hr208 _ _ _ _ _ _ _ _ _ ?_
    | with_reducible refine k4_yf306 B  _ _ _ _ ?_
    | with_reducible refine k4_yk305_337 B  _ _ _ ?_
    | assumption
    | with_reducible refine k4u ?_ ?_
    | decide
    | exact k4n (by assumption) (by decide)
theorem k4_yk305_123 {x : Int → Int} (B : Nat) (x2 x3 x4 x5 x7 : Int) (m : xw_M) (hm : m 604 = x) : K4 x (yk305_123 B x2 x3 x4 x5 x7 m) := by
  unfold yk305_123
  repeat' first
    | with_reducible exact K4_none
    | with_reducible refine K4_some ?_
    | with_reducible refine K4_if (fun _ => ?_) (fun _ => ?_)
    | with_reducible refine K4_B ?_ (fun _ _ _ => ?_)
    | with_reducible refine K4_T ?_ (fun _ _ _ => ?_) (fun _ _ _ => ?_)
    | with_reducible refine K4_l8 (k4_yl305_208 B ) _ _ _ _ _ _ _ _ _ _ ?_
    | with_reducible refine k4_yk305_337 B  _ _ _ ?_
    | assumption
    | with_reducible refine k4u ?_ ?_
    | decide
    | exact k4n (by assumption) (by decide)
theorem k4_yk305_93 {x : Int → Int} (B : Nat) (x2 x3 x4 x5 x7 : Int) (m : xw_M) (hm : m 604 = x) : K4 x (yk305_93 B x2 x3 x4 x5 x7 m) := by
  unfold yk305_93
  repeat' first
    | with_reducible exact K4_none
    | with_reducible refine K4_some ?_
    | with_reducible refine K4_if (fun _ => ?_) (fun _ => ?_)
    | with_reducible refine K4_B ?_ (fun _ _ _ => ?_)
    | with_reducible refine K4_T ?_ (fun _ _ _ => ?_) (fun _ _ _ => ?_)
    | with_reducible refine k4_yk305_123 B  _ _ _ _ _ _ ?_
    | with_reducible refine K4_l8 (k4_yl305_208 B ) _ _ _ _ _ _ _ _ _ _ ?_
    | with_reducible refine k4_yk305_337 B  _ _ _ ?_
    | assumption
    | with_reducible refine k4u ?_ ?_
    | decide
    | exact k4n (by assumption) (by decide)
theorem k4_yl305_22 {x : Int → Int} (B : Nat) (r22 : Int → Int → Int → Int → Int → Int → xw_M → xP) (hr22 : ∀ a0 a1 a2 a3 a4 a5 m, m 604 = x → K4 x (r22 a0 a1 a2 a3 a4 a5 m)) (x2 x3 x4 x5 x6 x7 : Int) (m : xw_M) (hm : m 604 = x) : K4 x (yl305_22 B r22 x2 x3 x4 x5 x6 x7 m) := by
  unfold yl305_22
  repeat' first
    | with_reducible exact K4_none
    | with_reducible refine K4_some ?_
    | with_reducible refine K4_if (fun _ => ?_) (fun _ => ?_)
    | with_reducible refine K4_B ?_ (fun _ _ _ => ?_)
    | with_reducible refine K4_T ?_ (fun _ _ _ => ?_) (fun _ _ _ => ?_)
    | with_reducible refine hr22 _ _ _ _ _ _ _ ?_
    | with_reducible refine k4_yf306 B  _ _ _ _ ?_
    | with_reducible refine k4_yk305_93 B  _ _ _ _ _ _ ?_
    | with_reducible refine k4_yf307 B  _ _ ?_
    | assumption
    | with_reducible refine k4u ?_ ?_
    | decide
    | exact k4n (by assumption) (by decide)
theorem k4_yf305 {x : Int → Int} (B : Nat) (p0 p1 p2 p3 : Int) (m : xw_M) (hm : m 604 = x) : K4 x (yf305 B p0 p1 p2 p3 m) := by
  unfold yf305
  repeat' first
    | with_reducible exact K4_none
    | with_reducible refine K4_some ?_
    | with_reducible refine K4_if (fun _ => ?_) (fun _ => ?_)
    | with_reducible refine K4_B ?_ (fun _ _ _ => ?_)
    | with_reducible refine K4_T ?_ (fun _ _ _ => ?_) (fun _ _ _ => ?_)
    | with_reducible refine K4_l6 (k4_yl305_22 B ) _ _ _ _ _ _ _ _ ?_
    | assumption
    | with_reducible refine k4u ?_ ?_
    | decide
    | exact k4n (by assumption) (by decide)
theorem k4_yl311_2 {x : Int → Int} (B : Nat) (r2 : Int → Int → Int → xw_M → xP) (hr2 : ∀ a0 a1 a2 m, m 604 = x → K4 x (r2 a0 a1 a2 m)) (x1 x2 x3 : Int) (m : xw_M) (hm : m 604 = x) : K4 x (yl311_2 B r2 x1 x2 x3 m) := by
  unfold yl311_2
  repeat' first
    | with_reducible exact K4_none
    | with_reducible refine K4_some ?_
    | with_reducible refine K4_if (fun _ => ?_) (fun _ => ?_)
    | with_reducible refine K4_B ?_ (fun _ _ _ => ?_)
    | with_reducible refine K4_T ?_ (fun _ _ _ => ?_) (fun _ _ _ => ?_)
    | with_reducible refine hr2 _ _ _ _ ?_
    | assumption
    | with_reducible refine k4u ?_ ?_
    | decide
    | exact k4n (by assumption) (by decide)
theorem k4_yf311 {x : Int → Int} (B : Nat) (p0 p1 : Int) (m : xw_M) (hm : m 604 = x) : K4 x (yf311 B p0 p1 m) := by
  unfold yf311
  repeat' first
    | with_reducible exact K4_none
    | with_reducible refine K4_some ?_
    | with_reducible refine K4_if (fun _ => ?_) (fun _ => ?_)
    | with_reducible refine K4_B ?_ (fun _ _ _ => ?_)
    | with_reducible refine K4_T ?_ (fun _ _ _ => ?_) (fun _ _ _ => ?_)
    | with_reducible refine K4_l3 (k4_yl311_2 B ) _ _ _ _ _ ?_
    | assumption
    | with_reducible refine k4u ?_ ?_
    | decide
    | exact k4n (by assumption) (by decide)
theorem k4_yl310_58 {x : Int → Int} (B : Nat) (r5 : Int → Int → Int → Int → xw_M → xP) (hr5 : ∀ a0 a1 a2 a3 m, m 604 = x → K4 x (r5 a0 a1 a2 a3 m)) (r58 : Int → Int → Int → Int → Int → Int → Int → xw_M → xP) (hr58 : ∀ a0 a1 a2 a3 a4 a5 a6 m, m 604 = x → K4 x (r58 a0 a1 a2 a3 a4 a5 a6 m)) (x1 x2 x3 x4 x5 x6 x7 : Int) (m : xw_M) (hm : m 604 = x) : K4 x (yl310_58 B r5 r58 x1 x2 x3 x4 x5 x6 x7 m) := by
  unfold yl310_58
  repeat' first
    | with_reducible exact K4_none
    | with_reducible refine K4_some ?_
    | with_reducible refine K4_if (fun _ => ?_) (fun _ => ?_)
    | with_reducible refine K4_B ?_ (fun _ _ _ => ?_)
    | with_reducible refine K4_T ?_ (fun _ _ _ => ?_) (fun _ _ _ => ?_)
    | with_reducible refine hr5 _ _ _ _ _ ?_
    | with_reducible refine hr58 _ _ _ _ _ _ _ _ ?_
    | assumption
    | with_reducible refine k4u ?_ ?_
    | decide
    | exact k4n (by assumption) (by decide)
theorem k4_yl310_109 {x : Int → Int} (B : Nat) (r109 : Int → Int → Int → Int → xw_M → xP) (hr109 : ∀ a0 a1 a2 a3 m, m 604 = x → K4 x (r109 a0 a1 a2 a3 m)) (x1 x2 x3 x4 : Int) (m : xw_M) (hm : m 604 = x) : K4 x (yl310_109 B r109 x1 x2 x3 x4 m) := by
  unfold yl310_109
  repeat' first
    | with_reducible exact K4_none
    | with_reducible refine K4_some ?_
    | with_reducible refine K4_if (fun _ => ?_) (fun _ => ?_)
    | with_reducible refine K4_B ?_ (fun _ _ _ => ?_)
    | with_reducible refine K4_T ?_ (fun _ _ _ => ?_) (fun _ _ _ => ?_)
    | with_reducible refine hr109 _ _ _ _ _ ?_
    | with_reducible refine k4_yf289 B  _ _ _ _ ?_
    | with_reducible refine k4_yf311 B  _ _ _ ?_
    | assumption
    | with_reducible refine k4u ?_ ?_
    | decide
    | exact k4n (by assumption) (by decide)
theorem k4_yl310_5 {x : Int → Int} (B : Nat) (r5 : Int → Int → Int → Int → xw_M → xP) (hr5 : ∀ a0 a1 a2 a3 m, m 604 = x → K4 x (r5 a0 a1 a2 a3 m)) (x1 x2 x3 x4 : Int) (m : xw_M) (hm : m 604 = x) : K4 x (yl310_5 B r5 x1 x2 x3 x4 m) := by
  unfold yl310_5
  repeat' first
    | with_reducible exact K4_none
    | with_reducible refine K4_some ?_
    | with_reducible refine K4_if (fun _ => ?_) (fun _ => ?_)
    | with_reducible refine K4_B ?_ (fun _ _ _ => ?_)
    | with_reducible refine K4_T ?_ (fun _ _ _ => ?_) (fun _ _ _ => ?_)
    | with_reducible refine hr5 _ _ _ _ _ ?_
    | with_reducible refine k4_yf289 B  _ _ _ _ ?_
    | with_reducible refine k4_yf311 B  _ _ _ ?_
    | with_reducible refine K4_l7 (k4_yl310_58 B _ (by assumption)) _ _ _ _ _ _ _ _ _ ?_
    | with_reducible refine K4_l4 (k4_yl310_109 B ) _ _ _ _ _ _ ?_
    | assumption
    | with_reducible refine k4u ?_ ?_
    | decide
    | exact k4n (by assumption) (by decide)
theorem k4_yf310 {x : Int → Int} (B : Nat) (p0 p1 : Int) (m : xw_M) (hm : m 604 = x) : K4 x (yf310 B p0 p1 m) := by
  unfold yf310
  repeat' first
    | with_reducible exact K4_none
    | with_reducible refine K4_some ?_
    | with_reducible refine K4_if (fun _ => ?_) (fun _ => ?_)
    | with_reducible refine K4_B ?_ (fun _ _ _ => ?_)
    | with_reducible refine K4_T ?_ (fun _ _ _ => ?_) (fun _ _ _ => ?_)
    | with_reducible refine K4_l4 (k4_yl310_5 B ) _ _ _ _ _ _ ?_
    | assumption
    | with_reducible refine k4u ?_ ?_
    | decide
    | exact k4n (by assumption) (by decide)
theorem k4_yl309_78 {x : Int → Int} (B : Nat) (r2 : Int → Int → xw_M → xP) (hr2 : ∀ a0 a1 m, m 604 = x → K4 x (r2 a0 a1 m)) (r78 : Int → Int → Int → Int → xw_M → xP) (hr78 : ∀ a0 a1 a2 a3 m, m 604 = x → K4 x (r78 a0 a1 a2 a3 m)) (x1 x2 x3 x4 : Int) (m : xw_M) (hm : m 604 = x) : K4 x (yl309_78 B r2 r78 x1 x2 x3 x4 m) := by
  unfold yl309_78
  repeat' first
    | with_reducible exact K4_none
    | with_reducible refine K4_some ?_
    | with_reducible refine K4_if (fun _ => ?_) (fun _ => ?_)
    | with_reducible refine K4_B ?_ (fun _ _ _ => ?_)
    | with_reducible refine K4_T ?_ (fun _ _ _ => ?_) (fun _ _ _ => ?_)
    | with_reducible refine hr2 _ _ _ ?_
    | with_reducible refine hr78 _ _ _ _ _ ?_
    | assumption
    | with_reducible refine k4u ?_ ?_
    | decide
    | exact k4n (by assumption) (by decide)
theorem k4_yl309_19 {x : Int → Int} (B : Nat) (r2 : Int → Int → xw_M → xP) (hr2 : ∀ a0 a1 m, m 604 = x → K4 x (r2 a0 a1 m)) (r19 : Int → Int → Int → Int → xw_M → xP) (hr19 : ∀ a0 a1 a2 a3 m, m 604 = x → K4 x (r19 a0 a1 a2 a3 m)) (x1 x2 x3 x4 : Int) (m : xw_M) (hm : m 604 = x) : K4 x (yl309_19 B r2 r19 x1 x2 x3 x4 m) := by
  unfold yl309_19
  repeat' first
    | with_reducible exact K4_none
    | with_reducible refine K4_some ?_
    | with_reducible refine K4_if (fun _ => ?_) (fun _ => ?_)
    | with_reducible refine K4_B ?_ (fun _ _ _ => ?_)
    | with_reducible refine K4_T ?_ (fun _ _ _ => ?_) (fun _ _ _ => ?_)
    | with_reducible refine hr2 _ _ _ ?_
    | with_reducible refine hr19 _ _ _ _ _ ?_
    | with_reducible refine K4_l4 (k4_yl309_78 B _ (by assumption)) _ _ _ _ _ _ ?_
    | assumption
    | with_reducible refine k4u ?_ ?_
    | decide
    | exact k4n (by assumption) (by decide)
theorem k4_yl309_158 {x : Int → Int} (B : Nat) (r158 : Int → Int → xw_M → xP) (hr158 : ∀ a0 a1 m, m 604 = x → K4 x (r158 a0 a1 m)) (x1 x2 : Int) (m : xw_M) (hm : m 604 = x) : K4 x (yl309_158 B r158 x1 x2 m) := by
  unfold yl309_158
  repeat' first
    | with_reducible exact K4_none
    | with_reducible refine K4_some ?_
    | with_reducible refine K4_if (fun _ => ?_) (fun _ => ?_)
    | with_reducible refine K4_B ?_ (fun _ _ _ => ?_)
    | with_reducible refine K4_T ?_ (fun _ _ _ => ?_) (fun _ _ _ => ?_)
    | with_reducible refine hr158 _ _ _ ?_
    | with_reducible refine k4_yf310 B  _ _ _ ?_
    | assumption
    | with_reducible refine k4u ?_ ?_
    | decide
    | exact k4n (by assumption) (by decide)
theorem k4_yl309_2 {x : Int → Int} (B : Nat) (r2 : Int → Int → xw_M → xP) (hr2 : ∀ a0 a1 m, m 604 = x → K4 x (r2 a0 a1 m)) (x1 x2 : Int) (m : xw_M) (hm : m 604 = x) : K4 x (yl309_2 B r2 x1 x2 m) := by
  unfold yl309_2
  repeat' first
    | with_reducible exact K4_none
    | with_reducible refine K4_some ?_
    | with_reducible refine K4_if (fun _ => ?_) (fun _ => ?_)
    | with_reducible refine K4_B ?_ (fun _ _ _ => ?_)
    | with_reducible refine K4_T ?_ (fun _ _ _ => ?_) (fun _ _ _ => ?_)
    | with_reducible refine hr2 _ _ _ ?_
    | with_reducible refine K4_l4 (k4_yl309_19 B _ (by assumption)) _ _ _ _ _ _ ?_
    | with_reducible refine K4_l2 (k4_yl309_158 B ) _ _ _ _ ?_
    | assumption
    | with_reducible refine k4u ?_ ?_
    | decide
    | exact k4n (by assumption) (by decide)
