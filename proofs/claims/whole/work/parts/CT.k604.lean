/-! THE REFERENCE leaves the cell 604 as it is (3) -/
theorem k4_yf309 {x : Int → Int} (B : Nat) (p0 : Int) (m : xw_M) (hm : m 604 = x) : K4 x (yf309 B p0 m) := by
  unfold yf309
  repeat' first
    | with_reducible exact K4_none
    | with_reducible refine K4_some ?_
    | with_reducible refine K4_if (fun _ => ?_) (fun _ => ?_)
    | with_reducible refine K4_B ?_ (fun _ _ _ => ?_)
    | with_reducible refine K4_T ?_ (fun _ _ _ => ?_) (fun _ _ _ => ?_)
    | with_reducible refine K4_l2 (k4_yl309_2 B ) _ _ _ _ ?_
    | assumption
    | with_reducible refine k4u ?_ ?_
    | decide
    | exact k4n (by assumption) (by decide)
theorem k4_yl313_32 {x : Int → Int} (B : Nat) (r32 : Int → xw_M → xP) (hr32 : ∀ a0 m, m 604 = x → K4 x (r32 a0 m)) (x1 : Int) (m : xw_M) (hm : m 604 = x) : K4 x (yl313_32 B r32 x1 m) := by
  unfold yl313_32
  repeat' first
    | with_reducible exact K4_none
    | with_reducible refine K4_some ?_
    | with_reducible refine K4_if (fun _ => ?_) (fun _ => ?_)
    | with_reducible refine K4_B ?_ (fun _ _ _ => ?_)
    | with_reducible refine K4_T ?_ (fun _ _ _ => ?_) (fun _ _ _ => ?_)
    | with_reducible refine hr32 _ _ ?_
    | assumption
    | with_reducible refine k4u ?_ ?_
    | decide
    | exact k4n (by assumption) (by decide)
theorem k4_yf313 {x : Int → Int} (B : Nat) (m : xw_M) (hm : m 604 = x) : K4 x (yf313 B m) := by
  unfold yf313
  repeat' first
    | with_reducible exact K4_none
    | with_reducible refine K4_some ?_
    | with_reducible refine K4_if (fun _ => ?_) (fun _ => ?_)
    | with_reducible refine K4_B ?_ (fun _ _ _ => ?_)
    | with_reducible refine K4_T ?_ (fun _ _ _ => ?_) (fun _ _ _ => ?_)
    | with_reducible refine K4_l1 (k4_yl313_32 B ) _ _ _ ?_
    | assumption
    | with_reducible refine k4u ?_ ?_
    | decide
    | exact k4n (by assumption) (by decide)
theorem k4_yf312 {x : Int → Int} (B : Nat) (p0 : Int) (m : xw_M) (hm : m 604 = x) : K4 x (yf312 B p0 m) := by
  unfold yf312
  repeat' first
    | with_reducible exact K4_none
    | with_reducible refine K4_some ?_
    | with_reducible refine K4_if (fun _ => ?_) (fun _ => ?_)
    | with_reducible refine K4_B ?_ (fun _ _ _ => ?_)
    | with_reducible refine K4_T ?_ (fun _ _ _ => ?_) (fun _ _ _ => ?_)
    | with_reducible refine k4_yf313 B   _ ?_
    | assumption
    | with_reducible refine k4u ?_ ?_
    | decide
    | exact k4n (by assumption) (by decide)
theorem k4_yk303_136 {x : Int → Int} (B : Nat) (x2 : Int) (m : xw_M) (hm : m 604 = x) : K4 x (yk303_136 B x2 m) := by
  unfold yk303_136
  repeat' first
    | with_reducible exact K4_none
    | with_reducible refine K4_some ?_
    | with_reducible refine K4_if (fun _ => ?_) (fun _ => ?_)
    | with_reducible refine K4_B ?_ (fun _ _ _ => ?_)
    | with_reducible refine K4_T ?_ (fun _ _ _ => ?_) (fun _ _ _ => ?_)
    | with_reducible refine k4_yf312 B  _ _ ?_
    | assumption
    | with_reducible refine k4u ?_ ?_
    | decide
    | exact k4n (by assumption) (by decide)
theorem k4_yl303_117 {x : Int → Int} (B : Nat) (r117 : Int → Int → xw_M → xP) (hr117 : ∀ a0 a1 m, m 604 = x → K4 x (r117 a0 a1 m)) (x2 x3 : Int) (m : xw_M) (hm : m 604 = x) : K4 x (yl303_117 B r117 x2 x3 m) := by
  unfold yl303_117
  repeat' first
    | with_reducible exact K4_none
    | with_reducible refine K4_some ?_
    | with_reducible refine K4_if (fun _ => ?_) (fun _ => ?_)
    | with_reducible refine K4_B ?_ (fun _ _ _ => ?_)
    | with_reducible refine K4_T ?_ (fun _ _ _ => ?_) (fun _ _ _ => ?_)
    | with_reducible refine hr117 _ _ _ ?_
    | with_reducible refine k4_yf309 B  _ _ ?_
    | with_reducible refine k4_yk303_136 B  _ _ ?_
    | assumption
    | with_reducible refine k4u ?_ ?_
    | decide
    | exact k4n (by assumption) (by decide)
theorem k4_yl303_36 {x : Int → Int} (B : Nat) (r36 : Int → Int → xw_M → xP) (hr36 : ∀ a0 a1 m, m 604 = x → K4 x (r36 a0 a1 m)) (x1 x2 : Int) (m : xw_M) (hm : m 604 = x) : K4 x (yl303_36 B r36 x1 x2 m) := by
  unfold yl303_36
  repeat' first
    | with_reducible exact K4_none
    | with_reducible refine K4_some ?_
    | with_reducible refine K4_if (fun _ => ?_) (fun _ => ?_)
    | with_reducible refine K4_B ?_ (fun _ _ _ => ?_)
    | with_reducible refine K4_T ?_ (fun _ _ _ => ?_) (fun _ _ _ => ?_)
    | with_reducible refine hr36 _ _ _ ?_
    | with_reducible refine k4_yf304 B   _ ?_
    | with_reducible refine k4_yf305 B  _ _ _ _ _ ?_
    | with_reducible refine k4_yk303_136 B  _ _ ?_
    | with_reducible refine K4_l2 (k4_yl303_117 B ) _ _ _ _ ?_
    | assumption
    | with_reducible refine k4u ?_ ?_
    | decide
    | exact k4n (by assumption) (by decide)
theorem k4_yf303 {x : Int → Int} (B : Nat) (m : xw_M) (hm : m 604 = x) : K4 x (yf303 B m) := by
  unfold yf303
  repeat' first
    | with_reducible exact K4_none
    | with_reducible refine K4_some ?_
    | with_reducible refine K4_if (fun _ => ?_) (fun _ => ?_)
    | with_reducible refine K4_B ?_ (fun _ _ _ => ?_)
    | with_reducible refine K4_T ?_ (fun _ _ _ => ?_) (fun _ _ _ => ?_)
    | with_reducible refine K4_l2 (k4_yl303_36 B ) _ _ _ _ ?_
    | assumption
    | with_reducible refine k4u ?_ ?_
    | decide
    | exact k4n (by assumption) (by decide)
theorem k4_yf314 {x : Int → Int} (B : Nat) (p0 : Int) (m : xw_M) (hm : m 604 = x) : K4 x (yf314 B p0 m) := by
  unfold yf314
  repeat' first
    | with_reducible exact K4_none
    | with_reducible refine K4_some ?_
    | with_reducible refine K4_if (fun _ => ?_) (fun _ => ?_)
    | with_reducible refine K4_B ?_ (fun _ _ _ => ?_)
    | with_reducible refine K4_T ?_ (fun _ _ _ => ?_) (fun _ _ _ => ?_)
    | with_reducible refine k4_yf312 B  _ _ ?_
    | assumption
    | with_reducible refine k4u ?_ ?_
    | decide
    | exact k4n (by assumption) (by decide)
theorem k4_yf315 {x : Int → Int} (B : Nat) (m : xw_M) (hm : m 604 = x) : K4 x (yf315 B m) := by
  unfold yf315
  repeat' first
    | with_reducible exact K4_none
    | with_reducible refine K4_some ?_
    | with_reducible refine K4_if (fun _ => ?_) (fun _ => ?_)
    | with_reducible refine K4_B ?_ (fun _ _ _ => ?_)
    | with_reducible refine K4_T ?_ (fun _ _ _ => ?_) (fun _ _ _ => ?_)
    | with_reducible refine k4_yf313 B   _ ?_
    | assumption
    | with_reducible refine k4u ?_ ?_
    | decide
    | exact k4n (by assumption) (by decide)
theorem k4_yl316_41 {x : Int → Int} (B : Nat) (r41 : Int → Int → Int → xw_M → xP) (hr41 : ∀ a0 a1 a2 m, m 604 = x → K4 x (r41 a0 a1 a2 m)) (x1 x2 x3 : Int) (m : xw_M) (hm : m 604 = x) : K4 x (yl316_41 B r41 x1 x2 x3 m) := by
  unfold yl316_41
  repeat' first
    | with_reducible exact K4_none
    | with_reducible refine K4_some ?_
    | with_reducible refine K4_if (fun _ => ?_) (fun _ => ?_)
    | with_reducible refine K4_B ?_ (fun _ _ _ => ?_)
    | with_reducible refine K4_T ?_ (fun _ _ _ => ?_) (fun _ _ _ => ?_)
    | with_reducible refine hr41 _ _ _ _ ?_
    | with_reducible refine k4_yf289 B  _ _ _ _ ?_
    | assumption
    | with_reducible refine k4u ?_ ?_
    | decide
    | exact k4n (by assumption) (by decide)
theorem k4_yf316 {x : Int → Int} (B : Nat) (p0 p1 : Int) (m : xw_M) (hm : m 604 = x) : K4 x (yf316 B p0 p1 m) := by
  unfold yf316
  repeat' first
    | with_reducible exact K4_none
    | with_reducible refine K4_some ?_
    | with_reducible refine K4_if (fun _ => ?_) (fun _ => ?_)
    | with_reducible refine K4_B ?_ (fun _ _ _ => ?_)
    | with_reducible refine K4_T ?_ (fun _ _ _ => ?_) (fun _ _ _ => ?_)
    | with_reducible refine K4_l3 (k4_yl316_41 B ) _ _ _ _ _ ?_
    | assumption
    | with_reducible refine k4u ?_ ?_
    | decide
    | exact k4n (by assumption) (by decide)
theorem k4_yf317 {x : Int → Int} (B : Nat) (p0 p1 : Int) (m : xw_M) (hm : m 604 = x) : K4 x (yf317 B p0 p1 m) := by
  unfold yf317
  repeat' first
    | with_reducible exact K4_none
    | with_reducible refine K4_some ?_
    | with_reducible refine K4_if (fun _ => ?_) (fun _ => ?_)
    | with_reducible refine K4_B ?_ (fun _ _ _ => ?_)
    | with_reducible refine K4_T ?_ (fun _ _ _ => ?_) (fun _ _ _ => ?_)
    | assumption
    | with_reducible refine k4u ?_ ?_
    | decide
    | exact k4n (by assumption) (by decide)
theorem k4_yf320 {x : Int → Int} (B : Nat) (m : xw_M) (hm : m 604 = x) : K4 x (yf320 B m) := by
  unfold yf320
  repeat' first
    | with_reducible exact K4_none
    | with_reducible refine K4_some ?_
    | with_reducible refine K4_if (fun _ => ?_) (fun _ => ?_)
    | with_reducible refine K4_B ?_ (fun _ _ _ => ?_)
    | with_reducible refine K4_T ?_ (fun _ _ _ => ?_) (fun _ _ _ => ?_)
    | assumption
    | with_reducible refine k4u ?_ ?_
    | decide
    | exact k4n (by assumption) (by decide)
theorem k4_yf319 {x : Int → Int} (B : Nat) (p0 : Int) (m : xw_M) (hm : m 604 = x) : K4 x (yf319 B p0 m) := by
  unfold yf319
  repeat' first
    | with_reducible exact K4_none
    | with_reducible refine K4_some ?_
    | with_reducible refine K4_if (fun _ => ?_) (fun _ => ?_)
    | with_reducible refine K4_B ?_ (fun _ _ _ => ?_)
    | with_reducible refine K4_T ?_ (fun _ _ _ => ?_) (fun _ _ _ => ?_)
    | with_reducible refine k4_yf320 B   _ ?_
    | assumption
    | with_reducible refine k4u ?_ ?_
    | decide
    | exact k4n (by assumption) (by decide)
theorem k4_yl318_49 {x : Int → Int} (B : Nat) (r35 : Int → Int → xw_M → xP) (hr35 : ∀ a0 a1 m, m 604 = x → K4 x (r35 a0 a1 m)) (r49 : Int → Int → Int → xw_M → xP) (hr49 : ∀ a0 a1 a2 m, m 604 = x → K4 x (r49 a0 a1 a2 m)) (x1 x2 x3 : Int) (m : xw_M) (hm : m 604 = x) : K4 x (yl318_49 B r35 r49 x1 x2 x3 m) := by
  unfold yl318_49
  repeat' first
    | with_reducible exact K4_none
    | with_reducible refine K4_some ?_
    | with_reducible refine K4_if (fun _ => ?_) (fun _ => ?_)
    | with_reducible refine K4_B ?_ (fun _ _ _ => ?_)
    | with_reducible refine K4_T ?_ (fun _ _ _ => ?_) (fun _ _ _ => ?_)
    | with_reducible refine hr35 _ _ _ ?_
    | with_reducible refine hr49 _ _ _ _ ?_
    | assumption
    | with_reducible refine k4u ?_ ?_
    | decide
    | exact k4n (by assumption) (by decide)
theorem k4_yk318_137 {x : Int → Int} (B : Nat) (m : xw_M) (hm : m 604 = x) : K4 x (yk318_137 B m) := by
  unfold yk318_137
  repeat' first
    | with_reducible exact K4_none
    | with_reducible refine K4_some ?_
    | with_reducible refine K4_if (fun _ => ?_) (fun _ => ?_)
    | with_reducible refine K4_B ?_ (fun _ _ _ => ?_)
    | with_reducible refine K4_T ?_ (fun _ _ _ => ?_) (fun _ _ _ => ?_)
    | assumption
    | with_reducible refine k4u ?_ ?_
    | decide
    | exact k4n (by assumption) (by decide)
theorem k4_yl318_35 {x : Int → Int} (B : Nat) (r35 : Int → Int → xw_M → xP) (hr35 : ∀ a0 a1 m, m 604 = x → K4 x (r35 a0 a1 m)) (x1 x2 : Int) (m : xw_M) (hm : m 604 = x) : K4 x (yl318_35 B r35 x1 x2 m) := by
  unfold yl318_35
  repeat' first
    | with_reducible exact K4_none
    | with_reducible refine K4_some ?_
    | with_reducible refine K4_if (fun _ => ?_) (fun _ => ?_)
    | with_reducible refine K4_B ?_ (fun _ _ _ => ?_)
    | with_reducible refine K4_T ?_ (fun _ _ _ => ?_) (fun _ _ _ => ?_)
    | with_reducible refine hr35 _ _ _ ?_
    | with_reducible refine K4_l3 (k4_yl318_49 B _ (by assumption)) _ _ _ _ _ ?_
    | with_reducible refine k4_yk318_137 B   _ ?_
    | assumption
    | with_reducible refine k4u ?_ ?_
    | decide
    | exact k4n (by assumption) (by decide)
theorem k4_yf318 {x : Int → Int} (B : Nat) (p0 : Int) (m : xw_M) (hm : m 604 = x) : K4 x (yf318 B p0 m) := by
  unfold yf318
  repeat' first
    | with_reducible exact K4_none
    | with_reducible refine K4_some ?_
    | with_reducible refine K4_if (fun _ => ?_) (fun _ => ?_)
    | with_reducible refine K4_B ?_ (fun _ _ _ => ?_)
    | with_reducible refine K4_T ?_ (fun _ _ _ => ?_) (fun _ _ _ => ?_)
    | with_reducible refine K4_l2 (k4_yl318_35 B ) _ _ _ _ ?_
    | with_reducible refine k4_yf319 B  _ _ ?_
    | assumption
    | with_reducible refine k4u ?_ ?_
    | decide
    | exact k4n (by assumption) (by decide)
theorem k4_yl321_120 {x : Int → Int} (B : Nat) (r39 : Int → Int → Int → xw_M → xP) (hr39 : ∀ a0 a1 a2 m, m 604 = x → K4 x (r39 a0 a1 a2 m)) (r120 : Int → Int → Int → Int → xw_M → xP) (hr120 : ∀ a0 a1 a2 a3 m, m 604 = x → K4 x (r120 a0 a1 a2 a3 m)) (x1 x4 x6 x7 : Int) (m : xw_M) (hm : m 604 = x) : K4 x (yl321_120 B r39 r120 x1 x4 x6 x7 m) := by
  unfold yl321_120
  repeat' first
    | with_reducible exact K4_none
    | with_reducible refine K4_some ?_
    | with_reducible refine K4_if (fun _ => ?_) (fun _ => ?_)
    | with_reducible refine K4_B ?_ (fun _ _ _ => ?_)
    | with_reducible refine K4_T ?_ (fun _ _ _ => ?_) (fun _ _ _ => ?_)
    | with_reducible refine hr39 _ _ _ _ ?_
    | with_reducible refine hr120 _ _ _ _ _ ?_
    | assumption
    | with_reducible refine k4u ?_ ?_
    | decide
    | exact k4n (by assumption) (by decide)
theorem k4_yl321_55 {x : Int → Int} (B : Nat) (r39 : Int → Int → Int → xw_M → xP) (hr39 : ∀ a0 a1 a2 m, m 604 = x → K4 x (r39 a0 a1 a2 m)) (r55 : Int → Int → Int → Int → xw_M → xP) (hr55 : ∀ a0 a1 a2 a3 m, m 604 = x → K4 x (r55 a0 a1 a2 a3 m)) (x1 x4 x6 x7 : Int) (m : xw_M) (hm : m 604 = x) : K4 x (yl321_55 B r39 r55 x1 x4 x6 x7 m) := by
  unfold yl321_55
  repeat' first
    | with_reducible exact K4_none
    | with_reducible refine K4_some ?_
    | with_reducible refine K4_if (fun _ => ?_) (fun _ => ?_)
    | with_reducible refine K4_B ?_ (fun _ _ _ => ?_)
    | with_reducible refine K4_T ?_ (fun _ _ _ => ?_) (fun _ _ _ => ?_)
    | with_reducible refine hr39 _ _ _ _ ?_
    | with_reducible refine hr55 _ _ _ _ _ ?_
    | with_reducible refine K4_l4 (k4_yl321_120 B _ (by assumption)) _ _ _ _ _ _ ?_
    | assumption
    | with_reducible refine k4u ?_ ?_
    | decide
    | exact k4n (by assumption) (by decide)
theorem k4_yk321_204 {x : Int → Int} (B : Nat) (m : xw_M) (hm : m 604 = x) : K4 x (yk321_204 B m) := by
  unfold yk321_204
  repeat' first
    | with_reducible exact K4_none
    | with_reducible refine K4_some ?_
    | with_reducible refine K4_if (fun _ => ?_) (fun _ => ?_)
    | with_reducible refine K4_B ?_ (fun _ _ _ => ?_)
    | with_reducible refine K4_T ?_ (fun _ _ _ => ?_) (fun _ _ _ => ?_)
    | assumption
    | with_reducible refine k4u ?_ ?_
    | decide
    | exact k4n (by assumption) (by decide)
theorem k4_yl321_39 {x : Int → Int} (B : Nat) (r39 : Int → Int → Int → xw_M → xP) (hr39 : ∀ a0 a1 a2 m, m 604 = x → K4 x (r39 a0 a1 a2 m)) (x1 x4 x6 : Int) (m : xw_M) (hm : m 604 = x) : K4 x (yl321_39 B r39 x1 x4 x6 m) := by
  unfold yl321_39
  repeat' first
    | with_reducible exact K4_none
    | with_reducible refine K4_some ?_
    | with_reducible refine K4_if (fun _ => ?_) (fun _ => ?_)
    | with_reducible refine K4_B ?_ (fun _ _ _ => ?_)
    | with_reducible refine K4_T ?_ (fun _ _ _ => ?_) (fun _ _ _ => ?_)
    | with_reducible refine hr39 _ _ _ _ ?_
    | with_reducible refine K4_l4 (k4_yl321_55 B _ (by assumption)) _ _ _ _ _ _ ?_
    | with_reducible refine k4_yk321_204 B   _ ?_
    | assumption
    | with_reducible refine k4u ?_ ?_
    | decide
    | exact k4n (by assumption) (by decide)
theorem k4_yf321 {x : Int → Int} (B : Nat) (p0 p1 : Int) (m : xw_M) (hm : m 604 = x) : K4 x (yf321 B p0 p1 m) := by
  unfold yf321
  repeat' first
    | with_reducible exact K4_none
    | with_reducible refine K4_some ?_
    | with_reducible refine K4_if (fun _ => ?_) (fun _ => ?_)
    | with_reducible refine K4_B ?_ (fun _ _ _ => ?_)
    | with_reducible refine K4_T ?_ (fun _ _ _ => ?_) (fun _ _ _ => ?_)
    | with_reducible refine K4_l3 (k4_yl321_39 B ) _ _ _ _ _ ?_
    | with_reducible refine k4_yf319 B  _ _ ?_
    | assumption
    | with_reducible refine k4u ?_ ?_
    | decide
    | exact k4n (by assumption) (by decide)
theorem k4_yf322 {x : Int → Int} (B : Nat) (m : xw_M) (hm : m 604 = x) : K4 x (yf322 B m) := by
  unfold yf322
  repeat' first
    | with_reducible exact K4_none
    | with_reducible refine K4_some ?_
    | with_reducible refine K4_if (fun _ => ?_) (fun _ => ?_)
    | with_reducible refine K4_B ?_ (fun _ _ _ => ?_)
    | with_reducible refine K4_T ?_ (fun _ _ _ => ?_) (fun _ _ _ => ?_)
    | with_reducible refine k4_yf320 B   _ ?_
    | assumption
    | with_reducible refine k4u ?_ ?_
    | decide
    | exact k4n (by assumption) (by decide)
theorem k4_yk325_45 {x : Int → Int} (B : Nat) (r30 : Int → Int → Int → Int → xw_M → xP) (hr30 : ∀ a0 a1 a2 a3 m, m 604 = x → K4 x (r30 a0 a1 a2 a3 m)) (x3 x5 x7 x8 : Int) (m : xw_M) (hm : m 604 = x) : K4 x (yk325_45 B r30 x3 x5 x7 x8 m) := by
  unfold yk325_45
  repeat' first
    | with_reducible exact K4_none
    | with_reducible refine K4_some ?_
    | with_reducible refine K4_if (fun _ => ?_) (fun _ => ?_)
    | with_reducible refine K4_B ?_ (fun _ _ _ => ?_)
    | with_reducible refine K4_T ?_ (fun _ _ _ => ?_) (fun _ _ _ => ?_)
    | with_reducible refine hr30 _ _ _ _ _ ?_
    | with_reducible refine k4_yf294 B  _ _ _ ?_
    | assumption
    | with_reducible refine k4u ?_ ?_
    | decide
    | exact k4n (by assumption) (by decide)
theorem k4_yl325_30 {x : Int → Int} (B : Nat) (r30 : Int → Int → Int → Int → xw_M → xP) (hr30 : ∀ a0 a1 a2 a3 m, m 604 = x → K4 x (r30 a0 a1 a2 a3 m)) (x3 x5 x7 x8 : Int) (m : xw_M) (hm : m 604 = x) : K4 x (yl325_30 B r30 x3 x5 x7 x8 m) := by
  unfold yl325_30
  repeat' first
    | with_reducible exact K4_none
    | with_reducible refine K4_some ?_
    | with_reducible refine K4_if (fun _ => ?_) (fun _ => ?_)
    | with_reducible refine K4_B ?_ (fun _ _ _ => ?_)
    | with_reducible refine K4_T ?_ (fun _ _ _ => ?_) (fun _ _ _ => ?_)
    | with_reducible refine hr30 _ _ _ _ _ ?_
    | with_reducible refine k4_yf294 B  _ _ _ ?_
    | with_reducible refine k4_yk325_45 B _ (by assumption) _ _ _ _ _ ?_
    | with_reducible refine k4_yf295 B  _ _ _ _ ?_
    | assumption
    | with_reducible refine k4u ?_ ?_
    | decide
    | exact k4n (by assumption) (by decide)
theorem k4_yl325_170 {x : Int → Int} (B : Nat) (r170 : Int → Int → Int → Int → Int → xw_M → xP) (hr170 : ∀ a0 a1 a2 a3 a4 m, m 604 = x → K4 x (r170 a0 a1 a2 a3 a4 m)) (x1 x7 x8 x9 x11 : Int) (m : xw_M) (hm : m 604 = x) : K4 x (yl325_170 B r170 x1 x7 x8 x9 x11 m) := by
  unfold yl325_170
  repeat' first
    | with_reducible exact K4_none
    | with_reducible refine K4_some ?_
    | with_reducible refine K4_if (fun _ => ?_) (fun _ => ?_)
    | with_reducible refine K4_B ?_ (fun _ _ _ => ?_)
    | with_reducible refine K4_T ?_ (fun _ _ _ => ?_) (fun _ _ _ => ?_)
    | with_reducible refine hr170 _ _ _ _ _ _ ?_
    | assumption
    | with_reducible refine k4u ?_ ?_
    | decide
    | exact k4n (by assumption) (by decide)
theorem k4_yf325 {x : Int → Int} (B : Nat) (p0 p1 p2 p3 : Int) (m : xw_M) (hm : m 604 = x) : K4 x (yf325 B p0 p1 p2 p3 m) := by
  unfold yf325
  repeat' first
    | with_reducible exact K4_none
    | with_reducible refine K4_some ?_
    | with_reducible refine K4_if (fun _ => ?_) (fun _ => ?_)
    | with_reducible refine K4_B ?_ (fun _ _ _ => ?_)
    | with_reducible refine K4_T ?_ (fun _ _ _ => ?_) (fun _ _ _ => ?_)
    | with_reducible refine K4_l4 (k4_yl325_30 B ) _ _ _ _ _ _ ?_
    | with_reducible refine K4_l5 (k4_yl325_170 B ) _ _ _ _ _ _ _ ?_
    | assumption
    | with_reducible refine k4u ?_ ?_
    | decide
    | exact k4n (by assumption) (by decide)
theorem k4_yk327_97 {x : Int → Int} (B : Nat) (r29 : Int → Int → xw_M → xP) (hr29 : ∀ a0 a1 m, m 604 = x → K4 x (r29 a0 a1 m)) (r35 : Int → Int → Int → xw_M → xP) (hr35 : ∀ a0 a1 a2 m, m 604 = x → K4 x (r35 a0 a1 a2 m)) (x1 x2 x3 x4 x6 : Int) (m : xw_M) (hm : m 604 = x) : K4 x (yk327_97 B r29 r35 x1 x2 x3 x4 x6 m) := by
  unfold yk327_97
  repeat' first
    | with_reducible exact K4_none
    | with_reducible refine K4_some ?_
    | with_reducible refine K4_if (fun _ => ?_) (fun _ => ?_)
    | with_reducible refine K4_B ?_ (fun _ _ _ => ?_)
    | with_reducible refine K4_T ?_ (fun _ _ _ => ?_) (fun _ _ _ => ?_)
    | with_reducible refine hr29 _ _ _ ?_
    | with_reducible refine hr35 _ _ _ _ ?_
    | assumption
    | with_reducible refine k4u ?_ ?_
    | decide
    | exact k4n (by assumption) (by decide)
theorem k4_yl327_51 {x : Int → Int} (B : Nat) (r29 : Int → Int → xw_M → xP) (hr29 : ∀ a0 a1 m, m 604 = x → K4 x (r29 a0 a1 m)) (r35 : Int → Int → Int → xw_M → xP) (hr35 : ∀ a0 a1 a2 m, m 604 = x → K4 x (r35 a0 a1 a2 m)) (r51 : Int → Int → Int → Int → Int → xw_M → xP) (hr51 : ∀ a0 a1 a2 a3 a4 m, m 604 = x → K4 x (r51 a0 a1 a2 a3 a4 m)) (x1 x2 x3 x4 x6 : Int) (m : xw_M) (hm : m 604 = x) : K4 x (yl327_51 B r29 r35 r51 x1 x2 x3 x4 x6 m) := by
  unfold yl327_51
  repeat' first
    | with_reducible exact K4_none
    | with_reducible refine K4_some ?_
    | with_reducible refine K4_if (fun _ => ?_) (fun _ => ?_)
    | with_reducible refine K4_B ?_ (fun _ _ _ => ?_)
    | with_reducible refine K4_T ?_ (fun _ _ _ => ?_) (fun _ _ _ => ?_)
    | with_reducible refine hr29 _ _ _ ?_
    | with_reducible refine hr35 _ _ _ _ ?_
    | with_reducible refine hr51 _ _ _ _ _ _ ?_
    | with_reducible refine k4_yk327_97 B _ (by assumption) _ (by assumption) _ _ _ _ _ _ ?_
    | assumption
    | with_reducible refine k4u ?_ ?_
    | decide
    | exact k4n (by assumption) (by decide)
theorem k4_yl327_35 {x : Int → Int} (B : Nat) (r29 : Int → Int → xw_M → xP) (hr29 : ∀ a0 a1 m, m 604 = x → K4 x (r29 a0 a1 m)) (r35 : Int → Int → Int → xw_M → xP) (hr35 : ∀ a0 a1 a2 m, m 604 = x → K4 x (r35 a0 a1 a2 m)) (x1 x2 x3 : Int) (m : xw_M) (hm : m 604 = x) : K4 x (yl327_35 B r29 r35 x1 x2 x3 m) := by
  unfold yl327_35
  repeat' first
    | with_reducible exact K4_none
    | with_reducible refine K4_some ?_
    | with_reducible refine K4_if (fun _ => ?_) (fun _ => ?_)
    | with_reducible refine K4_B ?_ (fun _ _ _ => ?_)
    | with_reducible refine K4_T ?_ (fun _ _ _ => ?_) (fun _ _ _ => ?_)
    | with_reducible refine hr29 _ _ _ ?_
    | with_reducible refine hr35 _ _ _ _ ?_
    | with_reducible refine K4_l5 (k4_yl327_51 B _ (by assumption) _ (by assumption)) _ _ _ _ _ _ _ ?_
    | assumption
    | with_reducible refine k4u ?_ ?_
    | decide
    | exact k4n (by assumption) (by decide)
theorem k4_yl327_123 {x : Int → Int} (B : Nat) (r123 : Int → Int → Int → xw_M → xP) (hr123 : ∀ a0 a1 a2 m, m 604 = x → K4 x (r123 a0 a1 a2 m)) (x1 x2 x3 : Int) (m : xw_M) (hm : m 604 = x) : K4 x (yl327_123 B r123 x1 x2 x3 m) := by
  unfold yl327_123
  repeat' first
    | with_reducible exact K4_none
    | with_reducible refine K4_some ?_
    | with_reducible refine K4_if (fun _ => ?_) (fun _ => ?_)
    | with_reducible refine K4_B ?_ (fun _ _ _ => ?_)
    | with_reducible refine K4_T ?_ (fun _ _ _ => ?_) (fun _ _ _ => ?_)
    | with_reducible refine hr123 _ _ _ _ ?_
    | assumption
    | with_reducible refine k4u ?_ ?_
    | decide
    | exact k4n (by assumption) (by decide)
theorem k4_yl327_29 {x : Int → Int} (B : Nat) (r29 : Int → Int → xw_M → xP) (hr29 : ∀ a0 a1 m, m 604 = x → K4 x (r29 a0 a1 m)) (x1 x2 : Int) (m : xw_M) (hm : m 604 = x) : K4 x (yl327_29 B r29 x1 x2 m) := by
  unfold yl327_29
  repeat' first
    | with_reducible exact K4_none
    | with_reducible refine K4_some ?_
    | with_reducible refine K4_if (fun _ => ?_) (fun _ => ?_)
    | with_reducible refine K4_B ?_ (fun _ _ _ => ?_)
    | with_reducible refine K4_T ?_ (fun _ _ _ => ?_) (fun _ _ _ => ?_)
    | with_reducible refine hr29 _ _ _ ?_
    | with_reducible refine K4_l3 (k4_yl327_35 B _ (by assumption)) _ _ _ _ _ ?_
    | with_reducible refine K4_l3 (k4_yl327_123 B ) _ _ _ _ _ ?_
    | assumption
    | with_reducible refine k4u ?_ ?_
    | decide
    | exact k4n (by assumption) (by decide)
theorem k4_yl327_2 {x : Int → Int} (B : Nat) (r2 : Int → Int → xw_M → xP) (hr2 : ∀ a0 a1 m, m 604 = x → K4 x (r2 a0 a1 m)) (x1 x2 : Int) (m : xw_M) (hm : m 604 = x) : K4 x (yl327_2 B r2 x1 x2 m) := by
  unfold yl327_2
  repeat' first
    | with_reducible exact K4_none
    | with_reducible refine K4_some ?_
    | with_reducible refine K4_if (fun _ => ?_) (fun _ => ?_)
    | with_reducible refine K4_B ?_ (fun _ _ _ => ?_)
    | with_reducible refine K4_T ?_ (fun _ _ _ => ?_) (fun _ _ _ => ?_)
    | with_reducible refine hr2 _ _ _ ?_
    | with_reducible refine K4_l2 (k4_yl327_29 B ) _ _ _ _ ?_
    | assumption
    | with_reducible refine k4u ?_ ?_
    | decide
    | exact k4n (by assumption) (by decide)
theorem k4_yf327 {x : Int → Int} (B : Nat) (p0 : Int) (m : xw_M) (hm : m 604 = x) : K4 x (yf327 B p0 m) := by
  unfold yf327
  repeat' first
    | with_reducible exact K4_none
    | with_reducible refine K4_some ?_
    | with_reducible refine K4_if (fun _ => ?_) (fun _ => ?_)
    | with_reducible refine K4_B ?_ (fun _ _ _ => ?_)
    | with_reducible refine K4_T ?_ (fun _ _ _ => ?_) (fun _ _ _ => ?_)
    | with_reducible refine K4_l2 (k4_yl327_2 B ) _ _ _ _ ?_
    | assumption
    | with_reducible refine k4u ?_ ?_
    | decide
    | exact k4n (by assumption) (by decide)
theorem k4_yl328_4 {x : Int → Int} (B : Nat) (r4 : Int → Int → xw_M → xP) (hr4 : ∀ a0 a1 m, m 604 = x → K4 x (r4 a0 a1 m)) (x2 x3 : Int) (m : xw_M) (hm : m 604 = x) : K4 x (yl328_4 B r4 x2 x3 m) := by
  unfold yl328_4
  repeat' first
    | with_reducible exact K4_none
    | with_reducible refine K4_some ?_
    | with_reducible refine K4_if (fun _ => ?_) (fun _ => ?_)
    | with_reducible refine K4_B ?_ (fun _ _ _ => ?_)
    | with_reducible refine K4_T ?_ (fun _ _ _ => ?_) (fun _ _ _ => ?_)
    | with_reducible refine hr4 _ _ _ ?_
    | assumption
    | with_reducible refine k4u ?_ ?_
    | decide
    | exact k4n (by assumption) (by decide)
theorem k4_yf328 {x : Int → Int} (B : Nat) (p0 : Int) (m : xw_M) (hm : m 604 = x) : K4 x (yf328 B p0 m) := by
  unfold yf328
  repeat' first
    | with_reducible exact K4_none
    | with_reducible refine K4_some ?_
    | with_reducible refine K4_if (fun _ => ?_) (fun _ => ?_)
    | with_reducible refine K4_B ?_ (fun _ _ _ => ?_)
    | with_reducible refine K4_T ?_ (fun _ _ _ => ?_) (fun _ _ _ => ?_)
    | with_reducible refine K4_l2 (k4_yl328_4 B ) _ _ _ _ ?_
    | assumption
    | with_reducible refine k4u ?_ ?_
    | decide
    | exact k4n (by assumption) (by decide)
theorem k4_yf329 {x : Int → Int} (B : Nat) (p0 : Int) (m : xw_M) (hm : m 604 = x) : K4 x (yf329 B p0 m) := by
  unfold yf329
  repeat' first
    | with_reducible exact K4_none
    | with_reducible refine K4_some ?_
    | with_reducible refine K4_if (fun _ => ?_) (fun _ => ?_)
    | with_reducible refine K4_B ?_ (fun _ _ _ => ?_)
    | with_reducible refine K4_T ?_ (fun _ _ _ => ?_) (fun _ _ _ => ?_)
    | assumption
    | with_reducible refine k4u ?_ ?_
    | decide
    | exact k4n (by assumption) (by decide)
theorem k4_yl326_49 {x : Int → Int} (B : Nat) (r49 : Int → Int → Int → Int → Int → Int → Int → xw_M → xP) (hr49 : ∀ a0 a1 a2 a3 a4 a5 a6 m, m 604 = x → K4 x (r49 a0 a1 a2 a3 a4 a5 a6 m)) (x1 x2 x4 x6 x8 x10 x11 : Int) (m : xw_M) (hm : m 604 = x) : K4 x (yl326_49 B r49 x1 x2 x4 x6 x8 x10 x11 m) := by
  unfold yl326_49
  repeat' first
    | with_reducible exact K4_none
    | with_reducible refine K4_some ?_
    | with_reducible refine K4_if (fun _ => ?_) (fun _ => ?_)
    | with_reducible refine K4_B ?_ (fun _ _ _ => ?_)
    | with_reducible refine K4_T ?_ (fun _ _ _ => ?_) (fun _ _ _ => ?_)
    | with_reducible refine hr49 _ _ _ _ _ _ _ _ ?_
    | with_reducible refine k4_yf327 B  _ _ ?_
    | with_reducible refine k4_yf328 B  _ _ ?_
    | with_reducible refine k4_yf329 B  _ _ ?_
    | assumption
    | with_reducible refine k4u ?_ ?_
    | decide
    | exact k4n (by assumption) (by decide)
theorem k4_yf326 {x : Int → Int} (B : Nat) (p0 : Int) (m : xw_M) (hm : m 604 = x) : K4 x (yf326 B p0 m) := by
  unfold yf326
  repeat' first
    | with_reducible exact K4_none
    | with_reducible refine K4_some ?_
    | with_reducible refine K4_if (fun _ => ?_) (fun _ => ?_)
    | with_reducible refine K4_B ?_ (fun _ _ _ => ?_)
    | with_reducible refine K4_T ?_ (fun _ _ _ => ?_) (fun _ _ _ => ?_)
    | with_reducible refine K4_l7 (k4_yl326_49 B ) _ _ _ _ _ _ _ _ _ ?_
    | assumption
    | with_reducible refine k4u ?_ ?_
    | decide
    | exact k4n (by assumption) (by decide)
theorem k4_yl324_152 {x : Int → Int} (B : Nat) (r112 : Int → Int → Int → Int → Int → xw_M → xP) (hr112 : ∀ a0 a1 a2 a3 a4 m, m 604 = x → K4 x (r112 a0 a1 a2 a3 a4 m)) (r142 : Int → Int → Int → Int → Int → Int → Int → xw_M → xP) (hr142 : ∀ a0 a1 a2 a3 a4 a5 a6 m, m 604 = x → K4 x (r142 a0 a1 a2 a3 a4 a5 a6 m)) (r152 : Int → Int → Int → Int → Int → Int → Int → Int → xw_M → xP) (hr152 : ∀ a0 a1 a2 a3 a4 a5 a6 a7 m, m 604 = x → K4 x (r152 a0 a1 a2 a3 a4 a5 a6 a7 m)) (x3 x4 x5 x6 x7 x8 x9 x10 : Int) (m : xw_M) (hm : m 604 = x) : K4 x (yl324_152 B r112 r142 r152 x3 x4 x5 x6 x7 x8 x9 x10 m) := by
  unfold yl324_152
  repeat' first
    | with_reducible exact K4_none
    | with_reducible refine K4_some ?_
    | with_reducible refine K4_if (fun _ => ?_) (fun _ => ?_)
    | with_reducible refine K4_B ?_ (fun _ _ _ => ?_)
    | with_reducible refine K4_T ?_ (fun _ _ _ => ?_) (fun _ _ _ => ?_)
    | with_reducible refine hr112 _ _ _ _ _ _ ?_
    | with_reducible refine hr142 _ _ _ _ _ _ _ _ ?_
    | with_reducible refine hr152 _ _ _ _ _ _ _ _ _ ?_
    | with_reducible refine k4_yf325 B  _ _ _ _ _ ?_
    | with_reducible refine k4_yf326 B  _ _ ?_
    | assumption
    | with_reducible refine k4u ?_ ?_
    | decide
    | exact k4n (by assumption) (by decide)
theorem k4_yl324_142 {x : Int → Int} (B : Nat) (r112 : Int → Int → Int → Int → Int → xw_M → xP) (hr112 : ∀ a0 a1 a2 a3 a4 m, m 604 = x → K4 x (r112 a0 a1 a2 a3 a4 m)) (r142 : Int → Int → Int → Int → Int → Int → Int → xw_M → xP) (hr142 : ∀ a0 a1 a2 a3 a4 a5 a6 m, m 604 = x → K4 x (r142 a0 a1 a2 a3 a4 a5 a6 m)) (x3 x4 x5 x6 x7 x8 x9 : Int) (m : xw_M) (hm : m 604 = x) : K4 x (yl324_142 B r112 r142 x3 x4 x5 x6 x7 x8 x9 m) := by
  unfold yl324_142
  repeat' first
    | with_reducible exact K4_none
    | with_reducible refine K4_some ?_
    | with_reducible refine K4_if (fun _ => ?_) (fun _ => ?_)
    | with_reducible refine K4_B ?_ (fun _ _ _ => ?_)
    | with_reducible refine K4_T ?_ (fun _ _ _ => ?_) (fun _ _ _ => ?_)
    | with_reducible refine hr112 _ _ _ _ _ _ ?_
    | with_reducible refine hr142 _ _ _ _ _ _ _ _ ?_
    | with_reducible refine K4_l8 (k4_yl324_152 B _ (by assumption) _ (by assumption)) _ _ _ _ _ _ _ _ _ _ ?_
    | assumption
    | with_reducible refine k4u ?_ ?_
    | decide
    | exact k4n (by assumption) (by decide)
theorem k4_yl324_112 {x : Int → Int} (B : Nat) (r112 : Int → Int → Int → Int → Int → xw_M → xP) (hr112 : ∀ a0 a1 a2 a3 a4 m, m 604 = x → K4 x (r112 a0 a1 a2 a3 a4 m)) (x3 x4 x5 x6 x7 : Int) (m : xw_M) (hm : m 604 = x) : K4 x (yl324_112 B r112 x3 x4 x5 x6 x7 m) := by
  unfold yl324_112
  repeat' first
    | with_reducible exact K4_none
    | with_reducible refine K4_some ?_
    | with_reducible refine K4_if (fun _ => ?_) (fun _ => ?_)
    | with_reducible refine K4_B ?_ (fun _ _ _ => ?_)
    | with_reducible refine K4_T ?_ (fun _ _ _ => ?_) (fun _ _ _ => ?_)
    | with_reducible refine hr112 _ _ _ _ _ _ ?_
    | with_reducible refine K4_l7 (k4_yl324_142 B _ (by assumption)) _ _ _ _ _ _ _ _ _ ?_
    | assumption
    | with_reducible refine k4u ?_ ?_
    | decide
    | exact k4n (by assumption) (by decide)
theorem k4_yl324_47 {x : Int → Int} (B : Nat) (r47 : Int → Int → Int → xw_M → xP) (hr47 : ∀ a0 a1 a2 m, m 604 = x → K4 x (r47 a0 a1 a2 m)) (x3 x4 x5 : Int) (m : xw_M) (hm : m 604 = x) : K4 x (yl324_47 B r47 x3 x4 x5 m) := by
  unfold yl324_47
  repeat' first
    | with_reducible exact K4_none
    | with_reducible refine K4_some ?_
    | with_reducible refine K4_if (fun _ => ?_) (fun _ => ?_)
    | with_reducible refine K4_B ?_ (fun _ _ _ => ?_)
    | with_reducible refine K4_T ?_ (fun _ _ _ => ?_) (fun _ _ _ => ?_)
    | with_reducible refine hr47 _ _ _ _ ?_
    | with_reducible refine k4_yf294 B  _ _ _ ?_
    | with_reducible refine K4_l5 (k4_yl324_112 B ) _ _ _ _ _ _ _ ?_
    | assumption
    | with_reducible refine k4u ?_ ?_
    | decide
    | exact k4n (by assumption) (by decide)
theorem k4_yl324_10 {x : Int → Int} (B : Nat) (r10 : Int → Int → Int → xw_M → xP) (hr10 : ∀ a0 a1 a2 m, m 604 = x → K4 x (r10 a0 a1 a2 m)) (x1 x3 x4 : Int) (m : xw_M) (hm : m 604 = x) : K4 x (yl324_10 B r10 x1 x3 x4 m) := by
  unfold yl324_10
  repeat' first
    | with_reducible exact K4_none
    | with_reducible refine K4_some ?_
    | with_reducible refine K4_if (fun _ => ?_) (fun _ => ?_)
    | with_reducible refine K4_B ?_ (fun _ _ _ => ?_)
    | with_reducible refine K4_T ?_ (fun _ _ _ => ?_) (fun _ _ _ => ?_)
    | with_reducible refine hr10 _ _ _ _ ?_
    | with_reducible refine k4_yf290 B  _ _ ?_
    | with_reducible refine K4_l3 (k4_yl324_47 B ) _ _ _ _ _ ?_
    | assumption
    | with_reducible refine k4u ?_ ?_
    | decide
    | exact k4n (by assumption) (by decide)
theorem k4_yf324 {x : Int → Int} (B : Nat) (p0 p1 p2 : Int) (m : xw_M) (hm : m 604 = x) : K4 x (yf324 B p0 p1 p2 m) := by
  unfold yf324
  repeat' first
    | with_reducible exact K4_none
    | with_reducible refine K4_some ?_
    | with_reducible refine K4_if (fun _ => ?_) (fun _ => ?_)
    | with_reducible refine K4_B ?_ (fun _ _ _ => ?_)
    | with_reducible refine K4_T ?_ (fun _ _ _ => ?_) (fun _ _ _ => ?_)
    | with_reducible refine K4_l3 (k4_yl324_10 B ) _ _ _ _ _ ?_
    | assumption
    | with_reducible refine k4u ?_ ?_
    | decide
    | exact k4n (by assumption) (by decide)
theorem k4_yk323_185 {x : Int → Int} (B : Nat) (x2 : Int) (m : xw_M) (hm : m 604 = x) : K4 x (yk323_185 B x2 m) := by
  unfold yk323_185
  repeat' first
    | with_reducible exact K4_none
    | with_reducible refine K4_some ?_
    | with_reducible refine K4_if (fun _ => ?_) (fun _ => ?_)
    | with_reducible refine K4_B ?_ (fun _ _ _ => ?_)
    | with_reducible refine K4_T ?_ (fun _ _ _ => ?_) (fun _ _ _ => ?_)
    | with_reducible refine k4_yf312 B  _ _ ?_
    | assumption
    | with_reducible refine k4u ?_ ?_
    | decide
    | exact k4n (by assumption) (by decide)
theorem k4_yl323_156 {x : Int → Int} (B : Nat) (r156 : Int → Int → xw_M → xP) (hr156 : ∀ a0 a1 m, m 604 = x → K4 x (r156 a0 a1 m)) (x2 x3 : Int) (m : xw_M) (hm : m 604 = x) : K4 x (yl323_156 B r156 x2 x3 m) := by
  unfold yl323_156
  repeat' first
    | with_reducible exact K4_none
    | with_reducible refine K4_some ?_
    | with_reducible refine K4_if (fun _ => ?_) (fun _ => ?_)
    | with_reducible refine K4_B ?_ (fun _ _ _ => ?_)
    | with_reducible refine K4_T ?_ (fun _ _ _ => ?_) (fun _ _ _ => ?_)
    | with_reducible refine hr156 _ _ _ ?_
    | with_reducible refine k4_yk323_185 B  _ _ ?_
    | assumption
    | with_reducible refine k4u ?_ ?_
    | decide
    | exact k4n (by assumption) (by decide)
theorem k4_yl323_56 {x : Int → Int} (B : Nat) (r56 : Int → Int → xw_M → xP) (hr56 : ∀ a0 a1 m, m 604 = x → K4 x (r56 a0 a1 m)) (x1 x2 : Int) (m : xw_M) (hm : m 604 = x) : K4 x (yl323_56 B r56 x1 x2 m) := by
  unfold yl323_56
  repeat' first
    | with_reducible exact K4_none
    | with_reducible refine K4_some ?_
    | with_reducible refine K4_if (fun _ => ?_) (fun _ => ?_)
    | with_reducible refine K4_B ?_ (fun _ _ _ => ?_)
    | with_reducible refine K4_T ?_ (fun _ _ _ => ?_) (fun _ _ _ => ?_)
    | with_reducible refine hr56 _ _ _ ?_
    | with_reducible refine k4_yf324 B  _ _ _ _ ?_
    | with_reducible refine k4_yf305 B  _ _ _ _ _ ?_
    | with_reducible refine k4_yk323_185 B  _ _ ?_
    | with_reducible refine K4_l2 (k4_yl323_156 B ) _ _ _ _ ?_
    | assumption
    | with_reducible refine k4u ?_ ?_
    | decide
    | exact k4n (by assumption) (by decide)
theorem k4_yf323 {x : Int → Int} (B : Nat) (m : xw_M) (hm : m 604 = x) : K4 x (yf323 B m) := by
  unfold yf323
  repeat' first
    | with_reducible exact K4_none
    | with_reducible refine K4_some ?_
    | with_reducible refine K4_if (fun _ => ?_) (fun _ => ?_)
    | with_reducible refine K4_B ?_ (fun _ _ _ => ?_)
    | with_reducible refine K4_T ?_ (fun _ _ _ => ?_) (fun _ _ _ => ?_)
    | with_reducible refine k4_yf320 B   _ ?_
    | with_reducible refine k4_yf324 B  _ _ _ _ ?_
    | with_reducible refine K4_l2 (k4_yl323_56 B ) _ _ _ _ ?_
    | assumption
    | with_reducible refine k4u ?_ ?_
    | decide
    | exact k4n (by assumption) (by decide)
theorem k4_yl331_4 {x : Int → Int} (B : Nat) (r4 : Int → Int → xw_M → xP) (hr4 : ∀ a0 a1 m, m 604 = x → K4 x (r4 a0 a1 m)) (x1 x2 : Int) (m : xw_M) (hm : m 604 = x) : K4 x (yl331_4 B r4 x1 x2 m) := by
  unfold yl331_4
  repeat' first
    | with_reducible exact K4_none
    | with_reducible refine K4_some ?_
    | with_reducible refine K4_if (fun _ => ?_) (fun _ => ?_)
    | with_reducible refine K4_B ?_ (fun _ _ _ => ?_)
    | with_reducible refine K4_T ?_ (fun _ _ _ => ?_) (fun _ _ _ => ?_)
    | with_reducible refine hr4 _ _ _ ?_
    | assumption
    | with_reducible refine k4u ?_ ?_
    | decide
    | exact k4n (by assumption) (by decide)
theorem k4_yf331 {x : Int → Int} (B : Nat) (m : xw_M) (hm : m 604 = x) : K4 x (yf331 B m) := by
  unfold yf331
  repeat' first
    | with_reducible exact K4_none
    | with_reducible refine K4_some ?_
    | with_reducible refine K4_if (fun _ => ?_) (fun _ => ?_)
    | with_reducible refine K4_B ?_ (fun _ _ _ => ?_)
    | with_reducible refine K4_T ?_ (fun _ _ _ => ?_) (fun _ _ _ => ?_)
    | with_reducible refine K4_l2 (k4_yl331_4 B ) _ _ _ _ ?_
    | assumption
    | with_reducible refine k4u ?_ ?_
    | decide
    | exact k4n (by assumption) (by decide)
theorem k4_yl333_12 {x : Int → Int} (B : Nat) (r2 : Int → Int → xw_M → xP) (hr2 : ∀ a0 a1 m, m 604 = x → K4 x (r2 a0 a1 m)) (r12 : Int → Int → Int → Int → xw_M → xP) (hr12 : ∀ a0 a1 a2 a3 m, m 604 = x → K4 x (r12 a0 a1 a2 a3 m)) (x1 x2 x3 x5 : Int) (m : xw_M) (hm : m 604 = x) : K4 x (yl333_12 B r2 r12 x1 x2 x3 x5 m) := by
  unfold yl333_12
  repeat' first
    | with_reducible exact K4_none
    | with_reducible refine K4_some ?_
    | with_reducible refine K4_if (fun _ => ?_) (fun _ => ?_)
    | with_reducible refine K4_B ?_ (fun _ _ _ => ?_)
    | with_reducible refine K4_T ?_ (fun _ _ _ => ?_) (fun _ _ _ => ?_)
    | with_reducible refine hr2 _ _ _ ?_
    | with_reducible refine hr12 _ _ _ _ _ ?_
    | with_reducible refine k4_yf291 B  _ _ _ ?_
    | assumption
    | with_reducible refine k4u ?_ ?_
    | decide
    | exact k4n (by assumption) (by decide)
theorem k4_yl333_2 {x : Int → Int} (B : Nat) (r2 : Int → Int → xw_M → xP) (hr2 : ∀ a0 a1 m, m 604 = x → K4 x (r2 a0 a1 m)) (x1 x2 : Int) (m : xw_M) (hm : m 604 = x) : K4 x (yl333_2 B r2 x1 x2 m) := by
  unfold yl333_2
  repeat' first
    | with_reducible exact K4_none
    | with_reducible refine K4_some ?_
    | with_reducible refine K4_if (fun _ => ?_) (fun _ => ?_)
    | with_reducible refine K4_B ?_ (fun _ _ _ => ?_)
    | with_reducible refine K4_T ?_ (fun _ _ _ => ?_) (fun _ _ _ => ?_)
    | with_reducible refine hr2 _ _ _ ?_
    | with_reducible refine K4_l4 (k4_yl333_12 B _ (by assumption)) _ _ _ _ _ _ ?_
    | assumption
    | with_reducible refine k4u ?_ ?_
    | decide
    | exact k4n (by assumption) (by decide)
theorem k4_yf333 {x : Int → Int} (B : Nat) (p0 : Int) (m : xw_M) (hm : m 604 = x) : K4 x (yf333 B p0 m) := by
  unfold yf333
  repeat' first
    | with_reducible exact K4_none
    | with_reducible refine K4_some ?_
    | with_reducible refine K4_if (fun _ => ?_) (fun _ => ?_)
    | with_reducible refine K4_B ?_ (fun _ _ _ => ?_)
    | with_reducible refine K4_T ?_ (fun _ _ _ => ?_) (fun _ _ _ => ?_)
    | with_reducible refine K4_l2 (k4_yl333_2 B ) _ _ _ _ ?_
    | assumption
    | with_reducible refine k4u ?_ ?_
    | decide
    | exact k4n (by assumption) (by decide)
theorem k4_yl335_5 {x : Int → Int} (B : Nat) (r5 : Int → Int → Int → Int → xw_M → xP) (hr5 : ∀ a0 a1 a2 a3 m, m 604 = x → K4 x (r5 a0 a1 a2 a3 m)) (x1 x2 x3 x4 : Int) (m : xw_M) (hm : m 604 = x) : K4 x (yl335_5 B r5 x1 x2 x3 x4 m) := by
  unfold yl335_5
  repeat' first
    | with_reducible exact K4_none
    | with_reducible refine K4_some ?_
    | with_reducible refine K4_if (fun _ => ?_) (fun _ => ?_)
    | with_reducible refine K4_B ?_ (fun _ _ _ => ?_)
    | with_reducible refine K4_T ?_ (fun _ _ _ => ?_) (fun _ _ _ => ?_)
    | with_reducible refine hr5 _ _ _ _ _ ?_
    | assumption
    | with_reducible refine k4u ?_ ?_
    | decide
    | exact k4n (by assumption) (by decide)
theorem k4_yf335 {x : Int → Int} (B : Nat) (p0 p1 : Int) (m : xw_M) (hm : m 604 = x) : K4 x (yf335 B p0 p1 m) := by
  unfold yf335
  repeat' first
    | with_reducible exact K4_none
    | with_reducible refine K4_some ?_
    | with_reducible refine K4_if (fun _ => ?_) (fun _ => ?_)
    | with_reducible refine K4_B ?_ (fun _ _ _ => ?_)
    | with_reducible refine K4_T ?_ (fun _ _ _ => ?_) (fun _ _ _ => ?_)
    | with_reducible refine K4_l4 (k4_yl335_5 B ) _ _ _ _ _ _ ?_
    | assumption
    | with_reducible refine k4u ?_ ?_
    | decide
    | exact k4n (by assumption) (by decide)
theorem k4_yl334_5 {x : Int → Int} (B : Nat) (r5 : Int → Int → Int → Int → xw_M → xP) (hr5 : ∀ a0 a1 a2 a3 m, m 604 = x → K4 x (r5 a0 a1 a2 a3 m)) (x1 x2 x3 x5 : Int) (m : xw_M) (hm : m 604 = x) : K4 x (yl334_5 B r5 x1 x2 x3 x5 m) := by
  unfold yl334_5
  repeat' first
    | with_reducible exact K4_none
    | with_reducible refine K4_some ?_
    | with_reducible refine K4_if (fun _ => ?_) (fun _ => ?_)
    | with_reducible refine K4_B ?_ (fun _ _ _ => ?_)
    | with_reducible refine K4_T ?_ (fun _ _ _ => ?_) (fun _ _ _ => ?_)
    | with_reducible refine hr5 _ _ _ _ _ ?_
    | with_reducible refine k4_yf335 B  _ _ _ ?_
    | assumption
    | with_reducible refine k4u ?_ ?_
    | decide
    | exact k4n (by assumption) (by decide)
theorem k4_yf334 {x : Int → Int} (B : Nat) (p0 p1 : Int) (m : xw_M) (hm : m 604 = x) : K4 x (yf334 B p0 p1 m) := by
  unfold yf334
  repeat' first
    | with_reducible exact K4_none
    | with_reducible refine K4_some ?_
    | with_reducible refine K4_if (fun _ => ?_) (fun _ => ?_)
    | with_reducible refine K4_B ?_ (fun _ _ _ => ?_)
    | with_reducible refine K4_T ?_ (fun _ _ _ => ?_) (fun _ _ _ => ?_)
    | with_reducible refine K4_l4 (k4_yl334_5 B ) _ _ _ _ _ _ ?_
    | assumption
    | with_reducible refine k4u ?_ ?_
    | decide
    | exact k4n (by assumption) (by decide)
theorem k4_yk332_191 {x : Int → Int} (B : Nat) (r29 : Int → Int → Int → xw_M → xP) (hr29 : ∀ a0 a1 a2 m, m 604 = x → K4 x (r29 a0 a1 a2 m)) (x1 x2 x4 : Int) (m : xw_M) (hm : m 604 = x) : K4 x (yk332_191 B r29 x1 x2 x4 m) := by
  unfold yk332_191
  repeat' first
    | with_reducible exact K4_none
    | with_reducible refine K4_some ?_
    | with_reducible refine K4_if (fun _ => ?_) (fun _ => ?_)
    | with_reducible refine K4_B ?_ (fun _ _ _ => ?_)
    | with_reducible refine K4_T ?_ (fun _ _ _ => ?_) (fun _ _ _ => ?_)
    | with_reducible refine hr29 _ _ _ _ ?_
    | assumption
    | with_reducible refine k4u ?_ ?_
    | decide
    | exact k4n (by assumption) (by decide)
theorem k4_yl332_126 {x : Int → Int} (B : Nat) (r29 : Int → Int → Int → xw_M → xP) (hr29 : ∀ a0 a1 a2 m, m 604 = x → K4 x (r29 a0 a1 a2 m)) (r126 : Int → Int → Int → Int → xw_M → xP) (hr126 : ∀ a0 a1 a2 a3 m, m 604 = x → K4 x (r126 a0 a1 a2 a3 m)) (x1 x2 x4 x7 : Int) (m : xw_M) (hm : m 604 = x) : K4 x (yl332_126 B r29 r126 x1 x2 x4 x7 m) := by
  unfold yl332_126
  repeat' first
    | with_reducible exact K4_none
    | with_reducible refine K4_some ?_
    | with_reducible refine K4_if (fun _ => ?_) (fun _ => ?_)
    | with_reducible refine K4_B ?_ (fun _ _ _ => ?_)
    | with_reducible refine K4_T ?_ (fun _ _ _ => ?_) (fun _ _ _ => ?_)
    | with_reducible refine hr29 _ _ _ _ ?_
    | with_reducible refine hr126 _ _ _ _ _ ?_
    | with_reducible refine k4_yf335 B  _ _ _ ?_
    | with_reducible refine k4_yk332_191 B _ (by assumption) _ _ _ _ ?_
    | assumption
    | with_reducible refine k4u ?_ ?_
    | decide
    | exact k4n (by assumption) (by decide)
theorem k4_yl332_42 {x : Int → Int} (B : Nat) (r29 : Int → Int → Int → xw_M → xP) (hr29 : ∀ a0 a1 a2 m, m 604 = x → K4 x (r29 a0 a1 a2 m)) (r42 : Int → Int → Int → Int → Int → xw_M → xP) (hr42 : ∀ a0 a1 a2 a3 a4 m, m 604 = x → K4 x (r42 a0 a1 a2 a3 a4 m)) (x1 x2 x4 x5 x7 : Int) (m : xw_M) (hm : m 604 = x) : K4 x (yl332_42 B r29 r42 x1 x2 x4 x5 x7 m) := by
  unfold yl332_42
  repeat' first
    | with_reducible exact K4_none
    | with_reducible refine K4_some ?_
    | with_reducible refine K4_if (fun _ => ?_) (fun _ => ?_)
    | with_reducible refine K4_B ?_ (fun _ _ _ => ?_)
    | with_reducible refine K4_T ?_ (fun _ _ _ => ?_) (fun _ _ _ => ?_)
    | with_reducible refine hr29 _ _ _ _ ?_
    | with_reducible refine hr42 _ _ _ _ _ _ ?_
    | with_reducible refine k4_yf334 B  _ _ _ ?_
    | with_reducible refine k4_yk332_191 B _ (by assumption) _ _ _ _ ?_
    | with_reducible refine K4_l4 (k4_yl332_126 B _ (by assumption)) _ _ _ _ _ _ ?_
    | assumption
    | with_reducible refine k4u ?_ ?_
    | decide
    | exact k4n (by assumption) (by decide)
theorem k4_yl332_29 {x : Int → Int} (B : Nat) (r29 : Int → Int → Int → xw_M → xP) (hr29 : ∀ a0 a1 a2 m, m 604 = x → K4 x (r29 a0 a1 a2 m)) (x1 x2 x3 : Int) (m : xw_M) (hm : m 604 = x) : K4 x (yl332_29 B r29 x1 x2 x3 m) := by
  unfold yl332_29
  repeat' first
    | with_reducible exact K4_none
    | with_reducible refine K4_some ?_
    | with_reducible refine K4_if (fun _ => ?_) (fun _ => ?_)
    | with_reducible refine K4_B ?_ (fun _ _ _ => ?_)
    | with_reducible refine K4_T ?_ (fun _ _ _ => ?_) (fun _ _ _ => ?_)
    | with_reducible refine hr29 _ _ _ _ ?_
    | with_reducible refine K4_l5 (k4_yl332_42 B _ (by assumption)) _ _ _ _ _ _ _ ?_
    | assumption
    | with_reducible refine k4u ?_ ?_
    | decide
    | exact k4n (by assumption) (by decide)
theorem k4_yf332 {x : Int → Int} (B : Nat) (p0 : Int) (m : xw_M) (hm : m 604 = x) : K4 x (yf332 B p0 m) := by
  unfold yf332
  repeat' first
    | with_reducible exact K4_none
    | with_reducible refine K4_some ?_
    | with_reducible refine K4_if (fun _ => ?_) (fun _ => ?_)
    | with_reducible refine K4_B ?_ (fun _ _ _ => ?_)
    | with_reducible refine K4_T ?_ (fun _ _ _ => ?_) (fun _ _ _ => ?_)
    | with_reducible refine k4_yf331 B   _ ?_
    | with_reducible refine k4_yf333 B  _ _ ?_
    | with_reducible refine K4_l3 (k4_yl332_29 B ) _ _ _ _ _ ?_
    | assumption
    | with_reducible refine k4u ?_ ?_
    | decide
    | exact k4n (by assumption) (by decide)
theorem k4_yk330_210 {x : Int → Int} (B : Nat) (x3 : Int) (m : xw_M) (hm : m 604 = x) : K4 x (yk330_210 B x3 m) := by
  unfold yk330_210
  repeat' first
    | with_reducible exact K4_none
    | with_reducible refine K4_some ?_
    | with_reducible refine K4_if (fun _ => ?_) (fun _ => ?_)
    | with_reducible refine K4_B ?_ (fun _ _ _ => ?_)
    | with_reducible refine K4_T ?_ (fun _ _ _ => ?_) (fun _ _ _ => ?_)
    | with_reducible refine k4_yf312 B  _ _ ?_
    | assumption
    | with_reducible refine k4u ?_ ?_
    | decide
    | exact k4n (by assumption) (by decide)
theorem k4_yl330_167 {x : Int → Int} (B : Nat) (r167 : Int → Int → xw_M → xP) (hr167 : ∀ a0 a1 m, m 604 = x → K4 x (r167 a0 a1 m)) (x3 x4 : Int) (m : xw_M) (hm : m 604 = x) : K4 x (yl330_167 B r167 x3 x4 m) := by
  unfold yl330_167
  repeat' first
    | with_reducible exact K4_none
    | with_reducible refine K4_some ?_
    | with_reducible refine K4_if (fun _ => ?_) (fun _ => ?_)
    | with_reducible refine K4_B ?_ (fun _ _ _ => ?_)
    | with_reducible refine K4_T ?_ (fun _ _ _ => ?_) (fun _ _ _ => ?_)
    | with_reducible refine hr167 _ _ _ ?_
    | with_reducible refine k4_yk330_210 B  _ _ ?_
    | assumption
    | with_reducible refine k4u ?_ ?_
    | decide
    | exact k4n (by assumption) (by decide)
theorem k4_yl330_79 {x : Int → Int} (B : Nat) (r79 : Int → Int → xw_M → xP) (hr79 : ∀ a0 a1 m, m 604 = x → K4 x (r79 a0 a1 m)) (x2 x3 : Int) (m : xw_M) (hm : m 604 = x) : K4 x (yl330_79 B r79 x2 x3 m) := by
  unfold yl330_79
  repeat' first
    | with_reducible exact K4_none
    | with_reducible refine K4_some ?_
    | with_reducible refine K4_if (fun _ => ?_) (fun _ => ?_)
    | with_reducible refine K4_B ?_ (fun _ _ _ => ?_)
    | with_reducible refine K4_T ?_ (fun _ _ _ => ?_) (fun _ _ _ => ?_)
    | with_reducible refine hr79 _ _ _ ?_
    | with_reducible refine k4_yf324 B  _ _ _ _ ?_
    | with_reducible refine k4_yf305 B  _ _ _ _ _ ?_
    | with_reducible refine k4_yk330_210 B  _ _ ?_
    | with_reducible refine K4_l2 (k4_yl330_167 B ) _ _ _ _ ?_
    | assumption
    | with_reducible refine k4u ?_ ?_
    | decide
    | exact k4n (by assumption) (by decide)
theorem k4_yf330 {x : Int → Int} (B : Nat) (p0 : Int) (m : xw_M) (hm : m 604 = x) : K4 x (yf330 B p0 m) := by
  unfold yf330
  repeat' first
    | with_reducible exact K4_none
    | with_reducible refine K4_some ?_
    | with_reducible refine K4_if (fun _ => ?_) (fun _ => ?_)
    | with_reducible refine K4_B ?_ (fun _ _ _ => ?_)
    | with_reducible refine K4_T ?_ (fun _ _ _ => ?_) (fun _ _ _ => ?_)
    | with_reducible refine k4_yf320 B   _ ?_
    | with_reducible refine k4_yf331 B   _ ?_
    | with_reducible refine k4_yf332 B  _ _ ?_
    | with_reducible refine K4_l2 (k4_yl330_79 B ) _ _ _ _ ?_
    | assumption
    | with_reducible refine k4u ?_ ?_
    | decide
    | exact k4n (by assumption) (by decide)
theorem k4_yk336_155 {x : Int → Int} (B : Nat) (x2 : Int) (m : xw_M) (hm : m 604 = x) : K4 x (yk336_155 B x2 m) := by
  unfold yk336_155
  repeat' first
    | with_reducible exact K4_none
    | with_reducible refine K4_some ?_
    | with_reducible refine K4_if (fun _ => ?_) (fun _ => ?_)
    | with_reducible refine K4_B ?_ (fun _ _ _ => ?_)
    | with_reducible refine K4_T ?_ (fun _ _ _ => ?_) (fun _ _ _ => ?_)
    | with_reducible refine k4_yf312 B  _ _ ?_
    | assumption
    | with_reducible refine k4u ?_ ?_
    | decide
    | exact k4n (by assumption) (by decide)
theorem k4_yl336_122 {x : Int → Int} (B : Nat) (r122 : Int → Int → xw_M → xP) (hr122 : ∀ a0 a1 m, m 604 = x → K4 x (r122 a0 a1 m)) (x2 x3 : Int) (m : xw_M) (hm : m 604 = x) : K4 x (yl336_122 B r122 x2 x3 m) := by
  unfold yl336_122
  repeat' first
    | with_reducible exact K4_none
    | with_reducible refine K4_some ?_
    | with_reducible refine K4_if (fun _ => ?_) (fun _ => ?_)
    | with_reducible refine K4_B ?_ (fun _ _ _ => ?_)
    | with_reducible refine K4_T ?_ (fun _ _ _ => ?_) (fun _ _ _ => ?_)
    | with_reducible refine hr122 _ _ _ ?_
    | with_reducible refine k4_yk336_155 B  _ _ ?_
    | assumption
    | with_reducible refine k4u ?_ ?_
    | decide
    | exact k4n (by assumption) (by decide)
theorem k4_yl336_50 {x : Int → Int} (B : Nat) (r50 : Int → Int → xw_M → xP) (hr50 : ∀ a0 a1 m, m 604 = x → K4 x (r50 a0 a1 m)) (x1 x2 : Int) (m : xw_M) (hm : m 604 = x) : K4 x (yl336_50 B r50 x1 x2 m) := by
  unfold yl336_50
  repeat' first
    | with_reducible exact K4_none
    | with_reducible refine K4_some ?_
    | with_reducible refine K4_if (fun _ => ?_) (fun _ => ?_)
    | with_reducible refine K4_B ?_ (fun _ _ _ => ?_)
    | with_reducible refine K4_T ?_ (fun _ _ _ => ?_) (fun _ _ _ => ?_)
    | with_reducible refine hr50 _ _ _ ?_
    | with_reducible refine k4_yf324 B  _ _ _ _ ?_
    | with_reducible refine k4_yf305 B  _ _ _ _ _ ?_
    | with_reducible refine K4_l2 (k4_yl336_122 B ) _ _ _ _ ?_
    | assumption
    | with_reducible refine k4u ?_ ?_
    | decide
    | exact k4n (by assumption) (by decide)
theorem k4_yf336 {x : Int → Int} (B : Nat) (m : xw_M) (hm : m 604 = x) : K4 x (yf336 B m) := by
  unfold yf336
  repeat' first
    | with_reducible exact K4_none
    | with_reducible refine K4_some ?_
    | with_reducible refine K4_if (fun _ => ?_) (fun _ => ?_)
    | with_reducible refine K4_B ?_ (fun _ _ _ => ?_)
    | with_reducible refine K4_T ?_ (fun _ _ _ => ?_) (fun _ _ _ => ?_)
    | with_reducible refine k4_yf320 B   _ ?_
    | with_reducible refine k4_yf324 B  _ _ _ _ ?_
    | with_reducible refine K4_l2 (k4_yl336_50 B ) _ _ _ _ ?_
    | assumption
    | with_reducible refine k4u ?_ ?_
    | decide
    | exact k4n (by assumption) (by decide)
theorem k4_yf337 {x : Int → Int} (B : Nat) (m : xw_M) (hm : m 604 = x) : K4 x (yf337 B m) := by
  unfold yf337
  repeat' first
    | with_reducible exact K4_none
    | with_reducible refine K4_some ?_
    | with_reducible refine K4_if (fun _ => ?_) (fun _ => ?_)
    | with_reducible refine K4_B ?_ (fun _ _ _ => ?_)
    | with_reducible refine K4_T ?_ (fun _ _ _ => ?_) (fun _ _ _ => ?_)
    | assumption
    | with_reducible refine k4u ?_ ?_
    | decide
    | exact k4n (by assumption) (by decide)
theorem k4_yf338 {x : Int → Int} (B : Nat) (m : xw_M) (hm : m 604 = x) : K4 x (yf338 B m) := by
  unfold yf338
  repeat' first
    | with_reducible exact K4_none
    | with_reducible refine K4_some ?_
    | with_reducible refine K4_if (fun _ => ?_) (fun _ => ?_)
    | with_reducible refine K4_B ?_ (fun _ _ _ => ?_)
    | with_reducible refine K4_T ?_ (fun _ _ _ => ?_) (fun _ _ _ => ?_)
    | assumption
    | with_reducible refine k4u ?_ ?_
    | decide
    | exact k4n (by assumption) (by decide)
theorem k4_yl339_108 {x : Int → Int} (B : Nat) (r108 : Int → Int → xw_M → xP) (hr108 : ∀ a0 a1 m, m 604 = x → K4 x (r108 a0 a1 m)) (x2 x3 : Int) (m : xw_M) (hm : m 604 = x) : K4 x (yl339_108 B r108 x2 x3 m) := by
  unfold yl339_108
  repeat' first
    | with_reducible exact K4_none
    | with_reducible refine K4_some ?_
    | with_reducible refine K4_if (fun _ => ?_) (fun _ => ?_)
    | with_reducible refine K4_B ?_ (fun _ _ _ => ?_)
    | with_reducible refine K4_T ?_ (fun _ _ _ => ?_) (fun _ _ _ => ?_)
    | with_reducible refine hr108 _ _ _ ?_
    | assumption
    | with_reducible refine k4u ?_ ?_
    | decide
    | exact k4n (by assumption) (by decide)
theorem k4_yf339 {x : Int → Int} (B : Nat) (p0 : Int) (m : xw_M) (hm : m 604 = x) : K4 x (yf339 B p0 m) := by
  unfold yf339
  repeat' first
    | with_reducible exact K4_none
    | with_reducible refine K4_some ?_
    | with_reducible refine K4_if (fun _ => ?_) (fun _ => ?_)
    | with_reducible refine K4_B ?_ (fun _ _ _ => ?_)
    | with_reducible refine K4_T ?_ (fun _ _ _ => ?_) (fun _ _ _ => ?_)
    | with_reducible refine k4_yf308 B   _ ?_
    | with_reducible refine K4_l2 (k4_yl339_108 B ) _ _ _ _ ?_
    | assumption
    | with_reducible refine k4u ?_ ?_
    | decide
    | exact k4n (by assumption) (by decide)
theorem k4_yf340 {x : Int → Int} (B : Nat) (p0 p1 : Int) (m : xw_M) (hm : m 604 = x) : K4 x (yf340 B p0 p1 m) := by
  unfold yf340
  repeat' first
    | with_reducible exact K4_none
    | with_reducible refine K4_some ?_
    | with_reducible refine K4_if (fun _ => ?_) (fun _ => ?_)
    | with_reducible refine K4_B ?_ (fun _ _ _ => ?_)
    | with_reducible refine K4_T ?_ (fun _ _ _ => ?_) (fun _ _ _ => ?_)
    | with_reducible refine k4_yf291 B  _ _ _ ?_
    | assumption
    | with_reducible refine k4u ?_ ?_
    | decide
    | exact k4n (by assumption) (by decide)
theorem k4_yf341 {x : Int → Int} (B : Nat) (m : xw_M) (hm : m 604 = x) : K4 x (yf341 B m) := by
  unfold yf341
  repeat' first
    | with_reducible exact K4_none
    | with_reducible refine K4_some ?_
    | with_reducible refine K4_if (fun _ => ?_) (fun _ => ?_)
    | with_reducible refine K4_B ?_ (fun _ _ _ => ?_)
    | with_reducible refine K4_T ?_ (fun _ _ _ => ?_) (fun _ _ _ => ?_)
    | assumption
    | with_reducible refine k4u ?_ ?_
    | decide
    | exact k4n (by assumption) (by decide)
theorem k4_yf343 {x : Int → Int} (B : Nat) (p0 p1 : Int) (m : xw_M) (hm : m 604 = x) : K4 x (yf343 B p0 p1 m) := by
  unfold yf343
  repeat' first
    | with_reducible exact K4_none
    | with_reducible refine K4_some ?_
    | with_reducible refine K4_if (fun _ => ?_) (fun _ => ?_)
    | with_reducible refine K4_B ?_ (fun _ _ _ => ?_)
    | with_reducible refine K4_T ?_ (fun _ _ _ => ?_) (fun _ _ _ => ?_)
    | assumption
    | with_reducible refine k4u ?_ ?_
    | decide
    | exact k4n (by assumption) (by decide)
theorem k4_yl345_4 {x : Int → Int} (B : Nat) (r4 : Int → Int → Int → xw_M → xP) (hr4 : ∀ a0 a1 a2 m, m 604 = x → K4 x (r4 a0 a1 a2 m)) (x1 x2 x3 : Int) (m : xw_M) (hm : m 604 = x) : K4 x (yl345_4 B r4 x1 x2 x3 m) := by
  unfold yl345_4
  repeat' first
    | with_reducible exact K4_none
    | with_reducible refine K4_some ?_
    | with_reducible refine K4_if (fun _ => ?_) (fun _ => ?_)
    | with_reducible refine K4_B ?_ (fun _ _ _ => ?_)
    | with_reducible refine K4_T ?_ (fun _ _ _ => ?_) (fun _ _ _ => ?_)
    | with_reducible refine hr4 _ _ _ _ ?_
    | assumption
    | with_reducible refine k4u ?_ ?_
    | decide
    | exact k4n (by assumption) (by decide)
theorem k4_yf345 {x : Int → Int} (B : Nat) (p0 : Int) (m : xw_M) (hm : m 604 = x) : K4 x (yf345 B p0 m) := by
  unfold yf345
  repeat' first
    | with_reducible exact K4_none
    | with_reducible refine K4_some ?_
    | with_reducible refine K4_if (fun _ => ?_) (fun _ => ?_)
    | with_reducible refine K4_B ?_ (fun _ _ _ => ?_)
    | with_reducible refine K4_T ?_ (fun _ _ _ => ?_) (fun _ _ _ => ?_)
    | with_reducible refine K4_l3 (k4_yl345_4 B ) _ _ _ _ _ ?_
    | assumption
    | with_reducible refine k4u ?_ ?_
    | decide
    | exact k4n (by assumption) (by decide)
theorem k4_yf344 {x : Int → Int} (B : Nat) (p0 p1 : Int) (m : xw_M) (hm : m 604 = x) : K4 x (yf344 B p0 p1 m) := by
  unfold yf344
  repeat' first
    | with_reducible exact K4_none
    | with_reducible refine K4_some ?_
    | with_reducible refine K4_if (fun _ => ?_) (fun _ => ?_)
    | with_reducible refine K4_B ?_ (fun _ _ _ => ?_)
    | with_reducible refine K4_T ?_ (fun _ _ _ => ?_) (fun _ _ _ => ?_)
    | with_reducible refine k4_yf345 B  _ _ ?_
    | assumption
    | with_reducible refine k4u ?_ ?_
    | decide
    | exact k4n (by assumption) (by decide)
theorem k4_yf342 {x : Int → Int} (B : Nat) (p0 p1 : Int) (m : xw_M) (hm : m 604 = x) : K4 x (yf342 B p0 p1 m) := by
  unfold yf342
  repeat' first
    | with_reducible exact K4_none
    | with_reducible refine K4_some ?_
    | with_reducible refine K4_if (fun _ => ?_) (fun _ => ?_)
    | with_reducible refine K4_B ?_ (fun _ _ _ => ?_)
    | with_reducible refine K4_T ?_ (fun _ _ _ => ?_) (fun _ _ _ => ?_)
    | with_reducible refine k4_yf343 B  _ _ _ ?_
    | with_reducible refine k4_yf344 B  _ _ _ ?_
    | with_reducible refine k4_yf345 B  _ _ ?_
    | assumption
    | with_reducible refine k4u ?_ ?_
    | decide
    | exact k4n (by assumption) (by decide)
theorem k4_yk346_71 {x : Int → Int} (B : Nat) (x3 : Int) (m : xw_M) (hm : m 604 = x) : K4 x (yk346_71 B x3 m) := by
  unfold yk346_71
  repeat' first
    | with_reducible exact K4_none
    | with_reducible refine K4_some ?_
    | with_reducible refine K4_if (fun _ => ?_) (fun _ => ?_)
    | with_reducible refine K4_B ?_ (fun _ _ _ => ?_)
    | with_reducible refine K4_T ?_ (fun _ _ _ => ?_) (fun _ _ _ => ?_)
    | assumption
    | with_reducible refine k4u ?_ ?_
    | decide
    | exact k4n (by assumption) (by decide)
theorem k4_yf346 {x : Int → Int} (B : Nat) (p0 p1 : Int) (m : xw_M) (hm : m 604 = x) : K4 x (yf346 B p0 p1 m) := by
  unfold yf346
  repeat' first
    | with_reducible exact K4_none
    | with_reducible refine K4_some ?_
    | with_reducible refine K4_if (fun _ => ?_) (fun _ => ?_)
    | with_reducible refine K4_B ?_ (fun _ _ _ => ?_)
    | with_reducible refine K4_T ?_ (fun _ _ _ => ?_) (fun _ _ _ => ?_)
    | with_reducible refine k4_yf343 B  _ _ _ ?_
    | with_reducible refine k4_yf344 B  _ _ _ ?_
    | with_reducible refine k4_yk346_71 B  _ _ ?_
    | assumption
    | with_reducible refine k4u ?_ ?_
    | decide
    | exact k4n (by assumption) (by decide)
theorem k4_yf347 {x : Int → Int} (B : Nat) (m : xw_M) (hm : m 604 = x) : K4 x (yf347 B m) := by
  unfold yf347
  repeat' first
    | with_reducible exact K4_none
    | with_reducible refine K4_some ?_
    | with_reducible refine K4_if (fun _ => ?_) (fun _ => ?_)
    | with_reducible refine K4_B ?_ (fun _ _ _ => ?_)
    | with_reducible refine K4_T ?_ (fun _ _ _ => ?_) (fun _ _ _ => ?_)
    | assumption
    | with_reducible refine k4u ?_ ?_
    | decide
    | exact k4n (by assumption) (by decide)
theorem k4_yf348 {x : Int → Int} (B : Nat) (m : xw_M) (hm : m 604 = x) : K4 x (yf348 B m) := by
  unfold yf348
  repeat' first
    | with_reducible exact K4_none
    | with_reducible refine K4_some ?_
    | with_reducible refine K4_if (fun _ => ?_) (fun _ => ?_)
    | with_reducible refine K4_B ?_ (fun _ _ _ => ?_)
    | with_reducible refine K4_T ?_ (fun _ _ _ => ?_) (fun _ _ _ => ?_)
    | with_reducible refine k4_yf320 B   _ ?_
    | assumption
    | with_reducible refine k4u ?_ ?_
    | decide
    | exact k4n (by assumption) (by decide)
