/-! THE REFERENCE leaves the cell 604 as it is (1) -/
theorem k4_yf243 {x : Int → Int} (B : Nat) (m : xw_M) (hm : m 604 = x) : K4 x (yf243 B m) := by
  unfold yf243
  repeat' first
    | with_reducible exact K4_none
    | with_reducible refine K4_some ?_
    | with_reducible refine K4_if (fun _ => ?_) (fun _ => ?_)
    | with_reducible refine K4_B ?_ (fun _ _ _ => ?_)
    | with_reducible refine K4_T ?_ (fun _ _ _ => ?_) (fun _ _ _ => ?_)
    | assumption
    | with_reducible refine k4u ?_ ?_
    | decide
    | exact k4n (by assumption) (by decide)
theorem k4_yf245 {x : Int → Int} (B : Nat) (p0 : Int) (m : xw_M) (hm : m 604 = x) : K4 x (yf245 B p0 m) := by
  unfold yf245
  repeat' first
    | with_reducible exact K4_none
    | with_reducible refine K4_some ?_
    | with_reducible refine K4_if (fun _ => ?_) (fun _ => ?_)
    | with_reducible refine K4_B ?_ (fun _ _ _ => ?_)
    | with_reducible refine K4_T ?_ (fun _ _ _ => ?_) (fun _ _ _ => ?_)
    | assumption
    | with_reducible refine k4u ?_ ?_
    | decide
    | exact k4n (by assumption) (by decide)
theorem k4_yf244 {x : Int → Int} (B : Nat) (p0 p1 p2 p3 p4 : Int) (m : xw_M) (hm : m 604 = x) : K4 x (yf244 B p0 p1 p2 p3 p4 m) := by
  unfold yf244
  repeat' first
    | with_reducible exact K4_none
    | with_reducible refine K4_some ?_
    | with_reducible refine K4_if (fun _ => ?_) (fun _ => ?_)
    | with_reducible refine K4_B ?_ (fun _ _ _ => ?_)
    | with_reducible refine K4_T ?_ (fun _ _ _ => ?_) (fun _ _ _ => ?_)
    | with_reducible refine k4_yf245 B  _ _ ?_
    | assumption
    | with_reducible refine k4u ?_ ?_
    | decide
    | exact k4n (by assumption) (by decide)
theorem k4_yf246 {x : Int → Int} (B : Nat) (p0 : Int) (m : xw_M) (hm : m 604 = x) : K4 x (yf246 B p0 m) := by
  unfold yf246
  repeat' first
    | with_reducible exact K4_none
    | with_reducible refine K4_some ?_
    | with_reducible refine K4_if (fun _ => ?_) (fun _ => ?_)
    | with_reducible refine K4_B ?_ (fun _ _ _ => ?_)
    | with_reducible refine K4_T ?_ (fun _ _ _ => ?_) (fun _ _ _ => ?_)
    | assumption
    | with_reducible refine k4u ?_ ?_
    | decide
    | exact k4n (by assumption) (by decide)
theorem k4_yf249 {x : Int → Int} (B : Nat) (p0 : Int) (m : xw_M) (hm : m 604 = x) : K4 x (yf249 B p0 m) := by
  unfold yf249
  repeat' first
    | with_reducible exact K4_none
    | with_reducible refine K4_some ?_
    | with_reducible refine K4_if (fun _ => ?_) (fun _ => ?_)
    | with_reducible refine K4_B ?_ (fun _ _ _ => ?_)
    | with_reducible refine K4_T ?_ (fun _ _ _ => ?_) (fun _ _ _ => ?_)
    | assumption
    | with_reducible refine k4u ?_ ?_
    | decide
    | exact k4n (by assumption) (by decide)
theorem k4_yk250_12 {x : Int → Int} (B : Nat) (x0 : Int) (m : xw_M) (hm : m 604 = x) : K4 x (yk250_12 B x0 m) := by
  unfold yk250_12
  repeat' first
    | with_reducible exact K4_none
    | with_reducible refine K4_some ?_
    | with_reducible refine K4_if (fun _ => ?_) (fun _ => ?_)
    | with_reducible refine K4_B ?_ (fun _ _ _ => ?_)
    | with_reducible refine K4_T ?_ (fun _ _ _ => ?_) (fun _ _ _ => ?_)
    | assumption
    | with_reducible refine k4u ?_ ?_
    | decide
    | exact k4n (by assumption) (by decide)
theorem k4_yf250 {x : Int → Int} (B : Nat) (p0 : Int) (m : xw_M) (hm : m 604 = x) : K4 x (yf250 B p0 m) := by
  unfold yf250
  repeat' first
    | with_reducible exact K4_none
    | with_reducible refine K4_some ?_
    | with_reducible refine K4_if (fun _ => ?_) (fun _ => ?_)
    | with_reducible refine K4_B ?_ (fun _ _ _ => ?_)
    | with_reducible refine K4_T ?_ (fun _ _ _ => ?_) (fun _ _ _ => ?_)
    | with_reducible refine k4_yk250_12 B  _ _ ?_
    | assumption
    | with_reducible refine k4u ?_ ?_
    | decide
    | exact k4n (by assumption) (by decide)
theorem k4_yf251 {x : Int → Int} (B : Nat) (p0 : Int) (m : xw_M) (hm : m 604 = x) : K4 x (yf251 B p0 m) := by
  unfold yf251
  repeat' first
    | with_reducible exact K4_none
    | with_reducible refine K4_some ?_
    | with_reducible refine K4_if (fun _ => ?_) (fun _ => ?_)
    | with_reducible refine K4_B ?_ (fun _ _ _ => ?_)
    | with_reducible refine K4_T ?_ (fun _ _ _ => ?_) (fun _ _ _ => ?_)
    | assumption
    | with_reducible refine k4u ?_ ?_
    | decide
    | exact k4n (by assumption) (by decide)
theorem k4_yl252_92 {x : Int → Int} (B : Nat) (r4 : Int → Int → xw_M → xP) (hr4 : ∀ a0 a1 m, m 604 = x → K4 x (r4 a0 a1 m)) (r92 : Int → Int → xw_M → xP) (hr92 : ∀ a0 a1 m, m 604 = x → K4 x (r92 a0 a1 m)) (x1 x2 : Int) (m : xw_M) (hm : m 604 = x) : K4 x (yl252_92 B r4 r92 x1 x2 m) := by
  unfold yl252_92
  repeat' first
    | with_reducible exact K4_none
    | with_reducible refine K4_some ?_
    | with_reducible refine K4_if (fun _ => ?_) (fun _ => ?_)
    | with_reducible refine K4_B ?_ (fun _ _ _ => ?_)
    | with_reducible refine K4_T ?_ (fun _ _ _ => ?_) (fun _ _ _ => ?_)
    | with_reducible refine hr4 _ _ _ ?_
    | with_reducible refine hr92 _ _ _ ?_
    | assumption
    | with_reducible refine k4u ?_ ?_
    | decide
    | exact k4n (by assumption) (by decide)
theorem k4_yk252_59 {x : Int → Int} (B : Nat) (r4 : Int → Int → xw_M → xP) (hr4 : ∀ a0 a1 m, m 604 = x → K4 x (r4 a0 a1 m)) (x1 x2 x3 : Int) (m : xw_M) (hm : m 604 = x) : K4 x (yk252_59 B r4 x1 x2 x3 m) := by
  unfold yk252_59
  repeat' first
    | with_reducible exact K4_none
    | with_reducible refine K4_some ?_
    | with_reducible refine K4_if (fun _ => ?_) (fun _ => ?_)
    | with_reducible refine K4_B ?_ (fun _ _ _ => ?_)
    | with_reducible refine K4_T ?_ (fun _ _ _ => ?_) (fun _ _ _ => ?_)
    | with_reducible refine hr4 _ _ _ ?_
    | with_reducible refine K4_l2 (k4_yl252_92 B _ (by assumption)) _ _ _ _ ?_
    | assumption
    | with_reducible refine k4u ?_ ?_
    | decide
    | exact k4n (by assumption) (by decide)
theorem k4_yl252_17 {x : Int → Int} (B : Nat) (r4 : Int → Int → xw_M → xP) (hr4 : ∀ a0 a1 m, m 604 = x → K4 x (r4 a0 a1 m)) (r17 : Int → Int → Int → xw_M → xP) (hr17 : ∀ a0 a1 a2 m, m 604 = x → K4 x (r17 a0 a1 a2 m)) (x1 x2 x3 : Int) (m : xw_M) (hm : m 604 = x) : K4 x (yl252_17 B r4 r17 x1 x2 x3 m) := by
  unfold yl252_17
  repeat' first
    | with_reducible exact K4_none
    | with_reducible refine K4_some ?_
    | with_reducible refine K4_if (fun _ => ?_) (fun _ => ?_)
    | with_reducible refine K4_B ?_ (fun _ _ _ => ?_)
    | with_reducible refine K4_T ?_ (fun _ _ _ => ?_) (fun _ _ _ => ?_)
    | with_reducible refine hr4 _ _ _ ?_
    | with_reducible refine hr17 _ _ _ _ ?_
    | with_reducible refine k4_yf249 B  _ _ ?_
    | with_reducible refine k4_yk252_59 B _ (by assumption) _ _ _ _ ?_
    | assumption
    | with_reducible refine k4u ?_ ?_
    | decide
    | exact k4n (by assumption) (by decide)
theorem k4_yl252_4 {x : Int → Int} (B : Nat) (r4 : Int → Int → xw_M → xP) (hr4 : ∀ a0 a1 m, m 604 = x → K4 x (r4 a0 a1 m)) (x1 x2 : Int) (m : xw_M) (hm : m 604 = x) : K4 x (yl252_4 B r4 x1 x2 m) := by
  unfold yl252_4
  repeat' first
    | with_reducible exact K4_none
    | with_reducible refine K4_some ?_
    | with_reducible refine K4_if (fun _ => ?_) (fun _ => ?_)
    | with_reducible refine K4_B ?_ (fun _ _ _ => ?_)
    | with_reducible refine K4_T ?_ (fun _ _ _ => ?_) (fun _ _ _ => ?_)
    | with_reducible refine hr4 _ _ _ ?_
    | with_reducible refine K4_l3 (k4_yl252_17 B _ (by assumption)) _ _ _ _ _ ?_
    | assumption
    | with_reducible refine k4u ?_ ?_
    | decide
    | exact k4n (by assumption) (by decide)
theorem k4_yf252 {x : Int → Int} (B : Nat) (m : xw_M) (hm : m 604 = x) : K4 x (yf252 B m) := by
  unfold yf252
  repeat' first
    | with_reducible exact K4_none
    | with_reducible refine K4_some ?_
    | with_reducible refine K4_if (fun _ => ?_) (fun _ => ?_)
    | with_reducible refine K4_B ?_ (fun _ _ _ => ?_)
    | with_reducible refine K4_T ?_ (fun _ _ _ => ?_) (fun _ _ _ => ?_)
    | with_reducible refine K4_l2 (k4_yl252_4 B ) _ _ _ _ ?_
    | assumption
    | with_reducible refine k4u ?_ ?_
    | decide
    | exact k4n (by assumption) (by decide)
theorem k4_yk254_21 {x : Int → Int} (B : Nat) (m : xw_M) (hm : m 604 = x) : K4 x (yk254_21 B m) := by
  unfold yk254_21
  repeat' first
    | with_reducible exact K4_none
    | with_reducible refine K4_some ?_
    | with_reducible refine K4_if (fun _ => ?_) (fun _ => ?_)
    | with_reducible refine K4_B ?_ (fun _ _ _ => ?_)
    | with_reducible refine K4_T ?_ (fun _ _ _ => ?_) (fun _ _ _ => ?_)
    | assumption
    | with_reducible refine k4u ?_ ?_
    | decide
    | exact k4n (by assumption) (by decide)
theorem k4_yf254 {x : Int → Int} (B : Nat) (p0 p1 p2 : Int) (m : xw_M) (hm : m 604 = x) : K4 x (yf254 B p0 p1 p2 m) := by
  unfold yf254
  repeat' first
    | with_reducible exact K4_none
    | with_reducible refine K4_some ?_
    | with_reducible refine K4_if (fun _ => ?_) (fun _ => ?_)
    | with_reducible refine K4_B ?_ (fun _ _ _ => ?_)
    | with_reducible refine K4_T ?_ (fun _ _ _ => ?_) (fun _ _ _ => ?_)
    | with_reducible refine k4_yk254_21 B   _ ?_
    | assumption
    | with_reducible refine k4u ?_ ?_
    | decide
    | exact k4n (by assumption) (by decide)
theorem k4_yk253_95 {x : Int → Int} (B : Nat) (x1 x2 : Int) (m : xw_M) (hm : m 604 = x) : K4 x (yk253_95 B x1 x2 m) := by
  unfold yk253_95
  repeat' first
    | with_reducible exact K4_none
    | with_reducible refine K4_some ?_
    | with_reducible refine K4_if (fun _ => ?_) (fun _ => ?_)
    | with_reducible refine K4_B ?_ (fun _ _ _ => ?_)
    | with_reducible refine K4_T ?_ (fun _ _ _ => ?_) (fun _ _ _ => ?_)
    | with_reducible refine k4_yf254 B  _ _ _ _ ?_
    | assumption
    | with_reducible refine k4u ?_ ?_
    | decide
    | exact k4n (by assumption) (by decide)
theorem k4_yl253_25 {x : Int → Int} (B : Nat) (r25 : Int → Int → xw_M → xP) (hr25 : ∀ a0 a1 m, m 604 = x → K4 x (r25 a0 a1 m)) (x1 x2 : Int) (m : xw_M) (hm : m 604 = x) : K4 x (yl253_25 B r25 x1 x2 m) := by
  unfold yl253_25
  repeat' first
    | with_reducible exact K4_none
    | with_reducible refine K4_some ?_
    | with_reducible refine K4_if (fun _ => ?_) (fun _ => ?_)
    | with_reducible refine K4_B ?_ (fun _ _ _ => ?_)
    | with_reducible refine K4_T ?_ (fun _ _ _ => ?_) (fun _ _ _ => ?_)
    | with_reducible refine hr25 _ _ _ ?_
    | with_reducible refine k4_yf249 B  _ _ ?_
    | with_reducible refine k4_yf251 B  _ _ ?_
    | with_reducible refine k4_yk253_95 B  _ _ _ ?_
    | assumption
    | with_reducible refine k4u ?_ ?_
    | decide
    | exact k4n (by assumption) (by decide)
theorem k4_yf253 {x : Int → Int} (B : Nat) (p0 : Int) (m : xw_M) (hm : m 604 = x) : K4 x (yf253 B p0 m) := by
  unfold yf253
  repeat' first
    | with_reducible exact K4_none
    | with_reducible refine K4_some ?_
    | with_reducible refine K4_if (fun _ => ?_) (fun _ => ?_)
    | with_reducible refine K4_B ?_ (fun _ _ _ => ?_)
    | with_reducible refine K4_T ?_ (fun _ _ _ => ?_) (fun _ _ _ => ?_)
    | with_reducible refine K4_l2 (k4_yl253_25 B ) _ _ _ _ ?_
    | assumption
    | with_reducible refine k4u ?_ ?_
    | decide
    | exact k4n (by assumption) (by decide)
theorem k4_yk255_101 {x : Int → Int} (B : Nat) (x1 x2 x3 : Int) (m : xw_M) (hm : m 604 = x) : K4 x (yk255_101 B x1 x2 x3 m) := by
  unfold yk255_101
  repeat' first
    | with_reducible exact K4_none
    | with_reducible refine K4_some ?_
    | with_reducible refine K4_if (fun _ => ?_) (fun _ => ?_)
    | with_reducible refine K4_B ?_ (fun _ _ _ => ?_)
    | with_reducible refine K4_T ?_ (fun _ _ _ => ?_) (fun _ _ _ => ?_)
    | with_reducible refine k4_yf254 B  _ _ _ _ ?_
    | assumption
    | with_reducible refine k4u ?_ ?_
    | decide
    | exact k4n (by assumption) (by decide)
theorem k4_yk255_41 {x : Int → Int} (B : Nat) (x1 x2 : Int) (m : xw_M) (hm : m 604 = x) : K4 x (yk255_41 B x1 x2 m) := by
  unfold yk255_41
  repeat' first
    | with_reducible exact K4_none
    | with_reducible refine K4_some ?_
    | with_reducible refine K4_if (fun _ => ?_) (fun _ => ?_)
    | with_reducible refine K4_B ?_ (fun _ _ _ => ?_)
    | with_reducible refine K4_T ?_ (fun _ _ _ => ?_) (fun _ _ _ => ?_)
    | with_reducible refine k4_yk255_101 B  _ _ _ _ ?_
    | with_reducible refine k4_yf254 B  _ _ _ _ ?_
    | assumption
    | with_reducible refine k4u ?_ ?_
    | decide
    | exact k4n (by assumption) (by decide)
theorem k4_yk255_45 {x : Int → Int} (B : Nat) (x1 x2 : Int) (m : xw_M) (hm : m 604 = x) : K4 x (yk255_45 B x1 x2 m) := by
  unfold yk255_45
  repeat' first
    | with_reducible exact K4_none
    | with_reducible refine K4_some ?_
    | with_reducible refine K4_if (fun _ => ?_) (fun _ => ?_)
    | with_reducible refine K4_B ?_ (fun _ _ _ => ?_)
    | with_reducible refine K4_T ?_ (fun _ _ _ => ?_) (fun _ _ _ => ?_)
    | with_reducible refine k4_yk255_101 B  _ _ _ _ ?_
    | with_reducible refine k4_yf254 B  _ _ _ _ ?_
    | assumption
    | with_reducible refine k4u ?_ ?_
    | decide
    | exact k4n (by assumption) (by decide)
theorem k4_yk255_29 {x : Int → Int} (B : Nat) (x1 x2 : Int) (m : xw_M) (hm : m 604 = x) : K4 x (yk255_29 B x1 x2 m) := by
  unfold yk255_29
  repeat' first
    | with_reducible exact K4_none
    | with_reducible refine K4_some ?_
    | with_reducible refine K4_if (fun _ => ?_) (fun _ => ?_)
    | with_reducible refine K4_B ?_ (fun _ _ _ => ?_)
    | with_reducible refine K4_T ?_ (fun _ _ _ => ?_) (fun _ _ _ => ?_)
    | with_reducible refine k4_yk255_41 B  _ _ _ ?_
    | with_reducible refine k4_yk255_45 B  _ _ _ ?_
    | assumption
    | with_reducible refine k4u ?_ ?_
    | decide
    | exact k4n (by assumption) (by decide)
theorem k4_yf255 {x : Int → Int} (B : Nat) (p0 : Int) (m : xw_M) (hm : m 604 = x) : K4 x (yf255 B p0 m) := by
  unfold yf255
  repeat' first
    | with_reducible exact K4_none
    | with_reducible refine K4_some ?_
    | with_reducible refine K4_if (fun _ => ?_) (fun _ => ?_)
    | with_reducible refine K4_B ?_ (fun _ _ _ => ?_)
    | with_reducible refine K4_T ?_ (fun _ _ _ => ?_) (fun _ _ _ => ?_)
    | with_reducible refine k4_yf249 B  _ _ ?_
    | with_reducible refine k4_yk255_41 B  _ _ _ ?_
    | with_reducible refine k4_yk255_29 B  _ _ _ ?_
    | assumption
    | with_reducible refine k4u ?_ ?_
    | decide
    | exact k4n (by assumption) (by decide)
theorem k4_yk248_71 {x : Int → Int} (B : Nat) (r8 : xw_M → xP) (hr8 : ∀ m, m 604 = x → K4 x (r8 m)) (m : xw_M) (hm : m 604 = x) : K4 x (yk248_71 B r8 m) := by
  unfold yk248_71
  repeat' first
    | with_reducible exact K4_none
    | with_reducible refine K4_some ?_
    | with_reducible refine K4_if (fun _ => ?_) (fun _ => ?_)
    | with_reducible refine K4_B ?_ (fun _ _ _ => ?_)
    | with_reducible refine K4_T ?_ (fun _ _ _ => ?_) (fun _ _ _ => ?_)
    | with_reducible refine hr8  _ ?_
    | assumption
    | with_reducible refine k4u ?_ ?_
    | decide
    | exact k4n (by assumption) (by decide)
theorem k4_yk248_189 {x : Int → Int} (B : Nat) (r137 : xw_M → xP) (hr137 : ∀ m, m 604 = x → K4 x (r137 m)) (m : xw_M) (hm : m 604 = x) : K4 x (yk248_189 B r137 m) := by
  unfold yk248_189
  repeat' first
    | with_reducible exact K4_none
    | with_reducible refine K4_some ?_
    | with_reducible refine K4_if (fun _ => ?_) (fun _ => ?_)
    | with_reducible refine K4_B ?_ (fun _ _ _ => ?_)
    | with_reducible refine K4_T ?_ (fun _ _ _ => ?_) (fun _ _ _ => ?_)
    | with_reducible refine hr137  _ ?_
    | assumption
    | with_reducible refine k4u ?_ ?_
    | decide
    | exact k4n (by assumption) (by decide)
theorem k4_yk248_202 {x : Int → Int} (B : Nat) (m : xw_M) (hm : m 604 = x) : K4 x (yk248_202 B m) := by
  unfold yk248_202
  repeat' first
    | with_reducible exact K4_none
    | with_reducible refine K4_some ?_
    | with_reducible refine K4_if (fun _ => ?_) (fun _ => ?_)
    | with_reducible refine K4_B ?_ (fun _ _ _ => ?_)
    | with_reducible refine K4_T ?_ (fun _ _ _ => ?_) (fun _ _ _ => ?_)
    | with_reducible refine k4_yf252 B   _ ?_
    | assumption
    | with_reducible refine k4u ?_ ?_
    | decide
    | exact k4n (by assumption) (by decide)
theorem k4_yl248_137 {x : Int → Int} (B : Nat) (r137 : xw_M → xP) (hr137 : ∀ m, m 604 = x → K4 x (r137 m)) (m : xw_M) (hm : m 604 = x) : K4 x (yl248_137 B r137 m) := by
  unfold yl248_137
  repeat' first
    | with_reducible exact K4_none
    | with_reducible refine K4_some ?_
    | with_reducible refine K4_if (fun _ => ?_) (fun _ => ?_)
    | with_reducible refine K4_B ?_ (fun _ _ _ => ?_)
    | with_reducible refine K4_T ?_ (fun _ _ _ => ?_) (fun _ _ _ => ?_)
    | with_reducible refine hr137  _ ?_
    | with_reducible refine k4_yf249 B  _ _ ?_
    | with_reducible refine k4_yf250 B  _ _ ?_
    | with_reducible refine k4_yf251 B  _ _ ?_
    | with_reducible refine k4_yk248_189 B _ (by assumption)  _ ?_
    | with_reducible refine k4_yk248_202 B   _ ?_
    | assumption
    | with_reducible refine k4u ?_ ?_
    | decide
    | exact k4n (by assumption) (by decide)
theorem k4_yk248_247 {x : Int → Int} (B : Nat) (x1 : Int) (m : xw_M) (hm : m 604 = x) : K4 x (yk248_247 B x1 m) := by
  unfold yk248_247
  repeat' first
    | with_reducible exact K4_none
    | with_reducible refine K4_some ?_
    | with_reducible refine K4_if (fun _ => ?_) (fun _ => ?_)
    | with_reducible refine K4_B ?_ (fun _ _ _ => ?_)
    | with_reducible refine K4_T ?_ (fun _ _ _ => ?_) (fun _ _ _ => ?_)
    | with_reducible refine k4_yf253 B  _ _ ?_
    | assumption
    | with_reducible refine k4u ?_ ?_
    | decide
    | exact k4n (by assumption) (by decide)
theorem k4_yk248_265 {x : Int → Int} (B : Nat) (x1 : Int) (m : xw_M) (hm : m 604 = x) : K4 x (yk248_265 B x1 m) := by
  unfold yk248_265
  repeat' first
    | with_reducible exact K4_none
    | with_reducible refine K4_some ?_
    | with_reducible refine K4_if (fun _ => ?_) (fun _ => ?_)
    | with_reducible refine K4_B ?_ (fun _ _ _ => ?_)
    | with_reducible refine K4_T ?_ (fun _ _ _ => ?_) (fun _ _ _ => ?_)
    | with_reducible refine k4_yf255 B  _ _ ?_
    | assumption
    | with_reducible refine k4u ?_ ?_
    | decide
    | exact k4n (by assumption) (by decide)
theorem k4_yk248_84 {x : Int → Int} (B : Nat) (m : xw_M) (hm : m 604 = x) : K4 x (yk248_84 B m) := by
  unfold yk248_84
  repeat' first
    | with_reducible exact K4_none
    | with_reducible refine K4_some ?_
    | with_reducible refine K4_if (fun _ => ?_) (fun _ => ?_)
    | with_reducible refine K4_B ?_ (fun _ _ _ => ?_)
    | with_reducible refine K4_T ?_ (fun _ _ _ => ?_) (fun _ _ _ => ?_)
    | with_reducible refine k4_yf249 B  _ _ ?_
    | with_reducible refine k4_yf250 B  _ _ ?_
    | with_reducible refine k4_yf251 B  _ _ ?_
    | with_reducible refine k4_yk248_265 B  _ _ ?_
    | with_reducible refine k4_yk248_247 B  _ _ ?_
    | with_reducible refine K4_l0 (k4_yl248_137 B ) _  _ ?_
    | assumption
    | with_reducible refine k4u ?_ ?_
    | decide
    | exact k4n (by assumption) (by decide)
theorem k4_yl248_8 {x : Int → Int} (B : Nat) (r8 : xw_M → xP) (hr8 : ∀ m, m 604 = x → K4 x (r8 m)) (m : xw_M) (hm : m 604 = x) : K4 x (yl248_8 B r8 m) := by
  unfold yl248_8
  repeat' first
    | with_reducible exact K4_none
    | with_reducible refine K4_some ?_
    | with_reducible refine K4_if (fun _ => ?_) (fun _ => ?_)
    | with_reducible refine K4_B ?_ (fun _ _ _ => ?_)
    | with_reducible refine K4_T ?_ (fun _ _ _ => ?_) (fun _ _ _ => ?_)
    | with_reducible refine hr8  _ ?_
    | with_reducible refine k4_yf249 B  _ _ ?_
    | with_reducible refine k4_yk248_71 B _ (by assumption)  _ ?_
    | with_reducible refine k4_yk248_84 B   _ ?_
    | assumption
    | with_reducible refine k4u ?_ ?_
    | decide
    | exact k4n (by assumption) (by decide)
theorem k4_yf248 {x : Int → Int} (B : Nat) (m : xw_M) (hm : m 604 = x) : K4 x (yf248 B m) := by
  unfold yf248
  repeat' first
    | with_reducible exact K4_none
    | with_reducible refine K4_some ?_
    | with_reducible refine K4_if (fun _ => ?_) (fun _ => ?_)
    | with_reducible refine K4_B ?_ (fun _ _ _ => ?_)
    | with_reducible refine K4_T ?_ (fun _ _ _ => ?_) (fun _ _ _ => ?_)
    | with_reducible refine K4_l0 (k4_yl248_8 B ) _  _ ?_
    | assumption
    | with_reducible refine k4u ?_ ?_
    | decide
    | exact k4n (by assumption) (by decide)
theorem k4_yf257 {x : Int → Int} (B : Nat) (p0 : Int) (m : xw_M) (hm : m 604 = x) : K4 x (yf257 B p0 m) := by
  unfold yf257
  repeat' first
    | with_reducible exact K4_none
    | with_reducible refine K4_some ?_
    | with_reducible refine K4_if (fun _ => ?_) (fun _ => ?_)
    | with_reducible refine K4_B ?_ (fun _ _ _ => ?_)
    | with_reducible refine K4_T ?_ (fun _ _ _ => ?_) (fun _ _ _ => ?_)
    | assumption
    | with_reducible refine k4u ?_ ?_
    | decide
    | exact k4n (by assumption) (by decide)
theorem k4_yf258 {x : Int → Int} (B : Nat) (p0 : Int) (m : xw_M) (hm : m 604 = x) : K4 x (yf258 B p0 m) := by
  unfold yf258
  repeat' first
    | with_reducible exact K4_none
    | with_reducible refine K4_some ?_
    | with_reducible refine K4_if (fun _ => ?_) (fun _ => ?_)
    | with_reducible refine K4_B ?_ (fun _ _ _ => ?_)
    | with_reducible refine K4_T ?_ (fun _ _ _ => ?_) (fun _ _ _ => ?_)
    | with_reducible refine k4_yf254 B  _ _ _ _ ?_
    | assumption
    | with_reducible refine k4u ?_ ?_
    | decide
    | exact k4n (by assumption) (by decide)
theorem k4_yf261 {x : Int → Int} (B : Nat) (m : xw_M) (hm : m 604 = x) : K4 x (yf261 B m) := by
  unfold yf261
  repeat' first
    | with_reducible exact K4_none
    | with_reducible refine K4_some ?_
    | with_reducible refine K4_if (fun _ => ?_) (fun _ => ?_)
    | with_reducible refine K4_B ?_ (fun _ _ _ => ?_)
    | with_reducible refine K4_T ?_ (fun _ _ _ => ?_) (fun _ _ _ => ?_)
    | with_reducible refine k4_yf258 B  _ _ ?_
    | with_reducible refine k4_yf254 B  _ _ _ _ ?_
    | assumption
    | with_reducible refine k4u ?_ ?_
    | decide
    | exact k4n (by assumption) (by decide)
theorem k4_yl263_26 {x : Int → Int} (B : Nat) (r26 : Int → Int → Int → xw_M → xP) (hr26 : ∀ a0 a1 a2 m, m 604 = x → K4 x (r26 a0 a1 a2 m)) (x1 x2 x3 : Int) (m : xw_M) (hm : m 604 = x) : K4 x (yl263_26 B r26 x1 x2 x3 m) := by
  unfold yl263_26
  repeat' first
    | with_reducible exact K4_none
    | with_reducible refine K4_some ?_
    | with_reducible refine K4_if (fun _ => ?_) (fun _ => ?_)
    | with_reducible refine K4_B ?_ (fun _ _ _ => ?_)
    | with_reducible refine K4_T ?_ (fun _ _ _ => ?_) (fun _ _ _ => ?_)
    | with_reducible refine hr26 _ _ _ _ ?_
    | assumption
    | with_reducible refine k4u ?_ ?_
    | decide
    | exact k4n (by assumption) (by decide)
theorem k4_yf263 {x : Int → Int} (B : Nat) (p0 : Int) (m : xw_M) (hm : m 604 = x) : K4 x (yf263 B p0 m) := by
  unfold yf263
  repeat' first
    | with_reducible exact K4_none
    | with_reducible refine K4_some ?_
    | with_reducible refine K4_if (fun _ => ?_) (fun _ => ?_)
    | with_reducible refine K4_B ?_ (fun _ _ _ => ?_)
    | with_reducible refine K4_T ?_ (fun _ _ _ => ?_) (fun _ _ _ => ?_)
    | with_reducible refine K4_l3 (k4_yl263_26 B ) _ _ _ _ _ ?_
    | assumption
    | with_reducible refine k4u ?_ ?_
    | decide
    | exact k4n (by assumption) (by decide)
theorem k4_yl262_2 {x : Int → Int} (B : Nat) (r2 : Int → Int → Int → xw_M → xP) (hr2 : ∀ a0 a1 a2 m, m 604 = x → K4 x (r2 a0 a1 a2 m)) (x1 x2 x3 : Int) (m : xw_M) (hm : m 604 = x) : K4 x (yl262_2 B r2 x1 x2 x3 m) := by
  unfold yl262_2
  repeat' first
    | with_reducible exact K4_none
    | with_reducible refine K4_some ?_
    | with_reducible refine K4_if (fun _ => ?_) (fun _ => ?_)
    | with_reducible refine K4_B ?_ (fun _ _ _ => ?_)
    | with_reducible refine K4_T ?_ (fun _ _ _ => ?_) (fun _ _ _ => ?_)
    | with_reducible refine hr2 _ _ _ _ ?_
    | with_reducible refine k4_yf263 B  _ _ ?_
    | assumption
    | with_reducible refine k4u ?_ ?_
    | decide
    | exact k4n (by assumption) (by decide)
theorem k4_yf262 {x : Int → Int} (B : Nat) (p0 p1 : Int) (m : xw_M) (hm : m 604 = x) : K4 x (yf262 B p0 p1 m) := by
  unfold yf262
  repeat' first
    | with_reducible exact K4_none
    | with_reducible refine K4_some ?_
    | with_reducible refine K4_if (fun _ => ?_) (fun _ => ?_)
    | with_reducible refine K4_B ?_ (fun _ _ _ => ?_)
    | with_reducible refine K4_T ?_ (fun _ _ _ => ?_) (fun _ _ _ => ?_)
    | with_reducible refine K4_l3 (k4_yl262_2 B ) _ _ _ _ _ ?_
    | assumption
    | with_reducible refine k4u ?_ ?_
    | decide
    | exact k4n (by assumption) (by decide)
theorem k4_yf260 {x : Int → Int} (B : Nat) (m : xw_M) (hm : m 604 = x) : K4 x (yf260 B m) := by
  unfold yf260
  repeat' first
    | with_reducible exact K4_none
    | with_reducible refine K4_some ?_
    | with_reducible refine K4_if (fun _ => ?_) (fun _ => ?_)
    | with_reducible refine K4_B ?_ (fun _ _ _ => ?_)
    | with_reducible refine K4_T ?_ (fun _ _ _ => ?_) (fun _ _ _ => ?_)
    | with_reducible refine k4_yf248 B   _ ?_
    | with_reducible refine k4_yf261 B   _ ?_
    | with_reducible refine k4_yf262 B  _ _ _ ?_
    | with_reducible refine k4_yf254 B  _ _ _ _ ?_
    | assumption
    | with_reducible refine k4u ?_ ?_
    | decide
    | exact k4n (by assumption) (by decide)
theorem k4_yl264_17 {x : Int → Int} (B : Nat) (r17 : Int → Int → xw_M → xP) (hr17 : ∀ a0 a1 m, m 604 = x → K4 x (r17 a0 a1 m)) (x1 x2 : Int) (m : xw_M) (hm : m 604 = x) : K4 x (yl264_17 B r17 x1 x2 m) := by
  unfold yl264_17
  repeat' first
    | with_reducible exact K4_none
    | with_reducible refine K4_some ?_
    | with_reducible refine K4_if (fun _ => ?_) (fun _ => ?_)
    | with_reducible refine K4_B ?_ (fun _ _ _ => ?_)
    | with_reducible refine K4_T ?_ (fun _ _ _ => ?_) (fun _ _ _ => ?_)
    | with_reducible refine hr17 _ _ _ ?_
    | assumption
    | with_reducible refine k4u ?_ ?_
    | decide
    | exact k4n (by assumption) (by decide)
theorem k4_yf264 {x : Int → Int} (B : Nat) (p0 : Int) (m : xw_M) (hm : m 604 = x) : K4 x (yf264 B p0 m) := by
  unfold yf264
  repeat' first
    | with_reducible exact K4_none
    | with_reducible refine K4_some ?_
    | with_reducible refine K4_if (fun _ => ?_) (fun _ => ?_)
    | with_reducible refine K4_B ?_ (fun _ _ _ => ?_)
    | with_reducible refine K4_T ?_ (fun _ _ _ => ?_) (fun _ _ _ => ?_)
    | with_reducible refine K4_l2 (k4_yl264_17 B ) _ _ _ _ ?_
    | assumption
    | with_reducible refine k4u ?_ ?_
    | decide
    | exact k4n (by assumption) (by decide)
theorem k4_yf266 {x : Int → Int} (B : Nat) (p0 : Int) (m : xw_M) (hm : m 604 = x) : K4 x (yf266 B p0 m) := by
  unfold yf266
  repeat' first
    | with_reducible exact K4_none
    | with_reducible refine K4_some ?_
    | with_reducible refine K4_if (fun _ => ?_) (fun _ => ?_)
    | with_reducible refine K4_B ?_ (fun _ _ _ => ?_)
    | with_reducible refine K4_T ?_ (fun _ _ _ => ?_) (fun _ _ _ => ?_)
    | assumption
    | with_reducible refine k4u ?_ ?_
    | decide
    | exact k4n (by assumption) (by decide)
theorem k4_yf265 {x : Int → Int} (B : Nat) (p0 : Int) (m : xw_M) (hm : m 604 = x) : K4 x (yf265 B p0 m) := by
  unfold yf265
  repeat' first
    | with_reducible exact K4_none
    | with_reducible refine K4_some ?_
    | with_reducible refine K4_if (fun _ => ?_) (fun _ => ?_)
    | with_reducible refine K4_B ?_ (fun _ _ _ => ?_)
    | with_reducible refine K4_T ?_ (fun _ _ _ => ?_) (fun _ _ _ => ?_)
    | with_reducible refine k4_yf248 B   _ ?_
    | with_reducible refine k4_yf266 B  _ _ ?_
    | with_reducible refine k4_yf258 B  _ _ ?_
    | assumption
    | with_reducible refine k4u ?_ ?_
    | decide
    | exact k4n (by assumption) (by decide)
theorem k4_yk259_144 {x : Int → Int} (B : Nat) (r53 : Int → Int → xw_M → xP) (hr53 : ∀ a0 a1 m, m 604 = x → K4 x (r53 a0 a1 m)) (x2 : Int) (m : xw_M) (hm : m 604 = x) : K4 x (yk259_144 B r53 x2 m) := by
  unfold yk259_144
  repeat' first
    | with_reducible exact K4_none
    | with_reducible refine K4_some ?_
    | with_reducible refine K4_if (fun _ => ?_) (fun _ => ?_)
    | with_reducible refine K4_B ?_ (fun _ _ _ => ?_)
    | with_reducible refine K4_T ?_ (fun _ _ _ => ?_) (fun _ _ _ => ?_)
    | with_reducible refine hr53 _ _ _ ?_
    | with_reducible refine k4_yf248 B   _ ?_
    | with_reducible refine k4_yf266 B  _ _ ?_
    | with_reducible refine k4_yf258 B  _ _ ?_
    | assumption
    | with_reducible refine k4u ?_ ?_
    | decide
    | exact k4n (by assumption) (by decide)
theorem k4_yl259_53 {x : Int → Int} (B : Nat) (r53 : Int → Int → xw_M → xP) (hr53 : ∀ a0 a1 m, m 604 = x → K4 x (r53 a0 a1 m)) (x2 x3 : Int) (m : xw_M) (hm : m 604 = x) : K4 x (yl259_53 B r53 x2 x3 m) := by
  unfold yl259_53
  repeat' first
    | with_reducible exact K4_none
    | with_reducible refine K4_some ?_
    | with_reducible refine K4_if (fun _ => ?_) (fun _ => ?_)
    | with_reducible refine K4_B ?_ (fun _ _ _ => ?_)
    | with_reducible refine K4_T ?_ (fun _ _ _ => ?_) (fun _ _ _ => ?_)
    | with_reducible refine hr53 _ _ _ ?_
    | with_reducible refine k4_yf265 B  _ _ ?_
    | with_reducible refine k4_yf248 B   _ ?_
    | with_reducible refine k4_yf261 B   _ ?_
    | with_reducible refine k4_yk259_144 B _ (by assumption) _ _ ?_
    | with_reducible refine k4_yf262 B  _ _ _ ?_
    | with_reducible refine k4_yf254 B  _ _ _ _ ?_
    | with_reducible refine k4_yf264 B  _ _ ?_
    | assumption
    | with_reducible refine k4u ?_ ?_
    | decide
    | exact k4n (by assumption) (by decide)
theorem k4_yk259_42 {x : Int → Int} (B : Nat) (m : xw_M) (hm : m 604 = x) : K4 x (yk259_42 B m) := by
  unfold yk259_42
  repeat' first
    | with_reducible exact K4_none
    | with_reducible refine K4_some ?_
    | with_reducible refine K4_if (fun _ => ?_) (fun _ => ?_)
    | with_reducible refine K4_B ?_ (fun _ _ _ => ?_)
    | with_reducible refine K4_T ?_ (fun _ _ _ => ?_) (fun _ _ _ => ?_)
    | with_reducible refine k4_yf265 B  _ _ ?_
    | with_reducible refine K4_l2 (k4_yl259_53 B ) _ _ _ _ ?_
    | assumption
    | with_reducible refine k4u ?_ ?_
    | decide
    | exact k4n (by assumption) (by decide)
theorem k4_yf259 {x : Int → Int} (B : Nat) (m : xw_M) (hm : m 604 = x) : K4 x (yf259 B m) := by
  unfold yf259
  repeat' first
    | with_reducible exact K4_none
    | with_reducible refine K4_some ?_
    | with_reducible refine K4_if (fun _ => ?_) (fun _ => ?_)
    | with_reducible refine K4_B ?_ (fun _ _ _ => ?_)
    | with_reducible refine K4_T ?_ (fun _ _ _ => ?_) (fun _ _ _ => ?_)
    | with_reducible refine k4_yf260 B   _ ?_
    | with_reducible refine k4_yk259_42 B   _ ?_
    | with_reducible refine k4_yf254 B  _ _ _ _ ?_
    | with_reducible refine k4_yf264 B  _ _ ?_
    | assumption
    | with_reducible refine k4u ?_ ?_
    | decide
    | exact k4n (by assumption) (by decide)
theorem k4_yk267_45 {x : Int → Int} (B : Nat) (m : xw_M) (hm : m 604 = x) : K4 x (yk267_45 B m) := by
  unfold yk267_45
  repeat' first
    | with_reducible exact K4_none
    | with_reducible refine K4_some ?_
    | with_reducible refine K4_if (fun _ => ?_) (fun _ => ?_)
    | with_reducible refine K4_B ?_ (fun _ _ _ => ?_)
    | with_reducible refine K4_T ?_ (fun _ _ _ => ?_) (fun _ _ _ => ?_)
    | with_reducible refine k4_yf265 B  _ _ ?_
    | assumption
    | with_reducible refine k4u ?_ ?_
    | decide
    | exact k4n (by assumption) (by decide)
theorem k4_yf267 {x : Int → Int} (B : Nat) (m : xw_M) (hm : m 604 = x) : K4 x (yf267 B m) := by
  unfold yf267
  repeat' first
    | with_reducible exact K4_none
    | with_reducible refine K4_some ?_
    | with_reducible refine K4_if (fun _ => ?_) (fun _ => ?_)
    | with_reducible refine K4_B ?_ (fun _ _ _ => ?_)
    | with_reducible refine K4_T ?_ (fun _ _ _ => ?_) (fun _ _ _ => ?_)
    | with_reducible refine k4_yf260 B   _ ?_
    | with_reducible refine k4_yk267_45 B   _ ?_
    | with_reducible refine k4_yf254 B  _ _ _ _ ?_
    | with_reducible refine k4_yf264 B  _ _ ?_
    | assumption
    | with_reducible refine k4u ?_ ?_
    | decide
    | exact k4n (by assumption) (by decide)
theorem k4_yk269_95 {x : Int → Int} (B : Nat) (r13 : Int → Int → Int → Int → xw_M → xP) (hr13 : ∀ a0 a1 a2 a3 m, m 604 = x → K4 x (r13 a0 a1 a2 a3 m)) (r55 : Int → Int → Int → Int → Int → Int → Int → xw_M → xP) (hr55 : ∀ a0 a1 a2 a3 a4 a5 a6 m, m 604 = x → K4 x (r55 a0 a1 a2 a3 a4 a5 a6 m)) (x1 x2 x3 x4 x5 x6 x7 : Int) (m : xw_M) (hm : m 604 = x) : K4 x (yk269_95 B r13 r55 x1 x2 x3 x4 x5 x6 x7 m) := by
  unfold yk269_95
  repeat' first
    | with_reducible exact K4_none
    | with_reducible refine K4_some ?_
    | with_reducible refine K4_if (fun _ => ?_) (fun _ => ?_)
    | with_reducible refine K4_B ?_ (fun _ _ _ => ?_)
    | with_reducible refine K4_T ?_ (fun _ _ _ => ?_) (fun _ _ _ => ?_)
    | with_reducible refine hr13 _ _ _ _ _ ?_
    | with_reducible refine hr55 _ _ _ _ _ _ _ _ ?_
    | assumption
    | with_reducible refine k4u ?_ ?_
    | decide
    | exact k4n (by assumption) (by decide)
theorem k4_yl269_55 {x : Int → Int} (B : Nat) (r13 : Int → Int → Int → Int → xw_M → xP) (hr13 : ∀ a0 a1 a2 a3 m, m 604 = x → K4 x (r13 a0 a1 a2 a3 m)) (r55 : Int → Int → Int → Int → Int → Int → Int → xw_M → xP) (hr55 : ∀ a0 a1 a2 a3 a4 a5 a6 m, m 604 = x → K4 x (r55 a0 a1 a2 a3 a4 a5 a6 m)) (x1 x2 x3 x4 x5 x6 x7 : Int) (m : xw_M) (hm : m 604 = x) : K4 x (yl269_55 B r13 r55 x1 x2 x3 x4 x5 x6 x7 m) := by
  unfold yl269_55
  repeat' first
    | with_reducible exact K4_none
    | with_reducible refine K4_some ?_
    | with_reducible refine K4_if (fun _ => ?_) (fun _ => ?_)
    | with_reducible refine K4_B ?_ (fun _ _ _ => ?_)
    | with_reducible refine K4_T ?_ (fun _ _ _ => ?_) (fun _ _ _ => ?_)
    | with_reducible refine hr13 _ _ _ _ _ ?_
    | with_reducible refine hr55 _ _ _ _ _ _ _ _ ?_
    | with_reducible refine k4_yk269_95 B _ (by assumption) _ (by assumption) _ _ _ _ _ _ _ _ ?_
    | assumption
    | with_reducible refine k4u ?_ ?_
    | decide
    | exact k4n (by assumption) (by decide)
theorem k4_yl269_13 {x : Int → Int} (B : Nat) (r13 : Int → Int → Int → Int → xw_M → xP) (hr13 : ∀ a0 a1 a2 a3 m, m 604 = x → K4 x (r13 a0 a1 a2 a3 m)) (x1 x2 x3 x4 : Int) (m : xw_M) (hm : m 604 = x) : K4 x (yl269_13 B r13 x1 x2 x3 x4 m) := by
  unfold yl269_13
  repeat' first
    | with_reducible exact K4_none
    | with_reducible refine K4_some ?_
    | with_reducible refine K4_if (fun _ => ?_) (fun _ => ?_)
    | with_reducible refine K4_B ?_ (fun _ _ _ => ?_)
    | with_reducible refine K4_T ?_ (fun _ _ _ => ?_) (fun _ _ _ => ?_)
    | with_reducible refine hr13 _ _ _ _ _ ?_
    | with_reducible refine K4_l7 (k4_yl269_55 B _ (by assumption)) _ _ _ _ _ _ _ _ _ ?_
    | assumption
    | with_reducible refine k4u ?_ ?_
    | decide
    | exact k4n (by assumption) (by decide)
theorem k4_yf269 {x : Int → Int} (B : Nat) (p0 p1 : Int) (m : xw_M) (hm : m 604 = x) : K4 x (yf269 B p0 p1 m) := by
  unfold yf269
  repeat' first
    | with_reducible exact K4_none
    | with_reducible refine K4_some ?_
    | with_reducible refine K4_if (fun _ => ?_) (fun _ => ?_)
    | with_reducible refine K4_B ?_ (fun _ _ _ => ?_)
    | with_reducible refine K4_T ?_ (fun _ _ _ => ?_) (fun _ _ _ => ?_)
    | with_reducible refine K4_l4 (k4_yl269_13 B ) _ _ _ _ _ _ ?_
    | assumption
    | with_reducible refine k4u ?_ ?_
    | decide
    | exact k4n (by assumption) (by decide)
theorem k4_yk268_179 {x : Int → Int} (B : Nat) (r56 : Int → Int → Int → xw_M → xP) (hr56 : ∀ a0 a1 a2 m, m 604 = x → K4 x (r56 a0 a1 a2 m)) (r114 : Int → Int → Int → Int → Int → xw_M → xP) (hr114 : ∀ a0 a1 a2 a3 a4 m, m 604 = x → K4 x (r114 a0 a1 a2 a3 a4 m)) (x1 x2 x5 x6 : Int) (m : xw_M) (hm : m 604 = x) : K4 x (yk268_179 B r56 r114 x1 x2 x5 x6 m) := by
  unfold yk268_179
  repeat' first
    | with_reducible exact K4_none
    | with_reducible refine K4_some ?_
    | with_reducible refine K4_if (fun _ => ?_) (fun _ => ?_)
    | with_reducible refine K4_B ?_ (fun _ _ _ => ?_)
    | with_reducible refine K4_T ?_ (fun _ _ _ => ?_) (fun _ _ _ => ?_)
    | with_reducible refine hr56 _ _ _ _ ?_
    | with_reducible refine hr114 _ _ _ _ _ _ ?_
    | with_reducible refine k4_yf248 B   _ ?_
    | with_reducible refine k4_yf266 B  _ _ ?_
    | with_reducible refine k4_yf258 B  _ _ ?_
    | assumption
    | with_reducible refine k4u ?_ ?_
    | decide
    | exact k4n (by assumption) (by decide)
theorem k4_yk268_293 {x : Int → Int} (B : Nat) (r56 : Int → Int → Int → xw_M → xP) (hr56 : ∀ a0 a1 a2 m, m 604 = x → K4 x (r56 a0 a1 a2 m)) (x1 x2 : Int) (m : xw_M) (hm : m 604 = x) : K4 x (yk268_293 B r56 x1 x2 m) := by
  unfold yk268_293
  repeat' first
    | with_reducible exact K4_none
    | with_reducible refine K4_some ?_
    | with_reducible refine K4_if (fun _ => ?_) (fun _ => ?_)
    | with_reducible refine K4_B ?_ (fun _ _ _ => ?_)
    | with_reducible refine K4_T ?_ (fun _ _ _ => ?_) (fun _ _ _ => ?_)
    | with_reducible refine hr56 _ _ _ _ ?_
    | with_reducible refine k4_yf248 B   _ ?_
    | with_reducible refine k4_yf266 B  _ _ ?_
    | with_reducible refine k4_yf258 B  _ _ ?_
    | assumption
    | with_reducible refine k4u ?_ ?_
    | decide
    | exact k4n (by assumption) (by decide)
theorem k4_yk268_290 {x : Int → Int} (B : Nat) (r56 : Int → Int → Int → xw_M → xP) (hr56 : ∀ a0 a1 a2 m, m 604 = x → K4 x (r56 a0 a1 a2 m)) (x1 x2 : Int) (m : xw_M) (hm : m 604 = x) : K4 x (yk268_290 B r56 x1 x2 m) := by
  unfold yk268_290
  repeat' first
    | with_reducible exact K4_none
    | with_reducible refine K4_some ?_
    | with_reducible refine K4_if (fun _ => ?_) (fun _ => ?_)
    | with_reducible refine K4_B ?_ (fun _ _ _ => ?_)
    | with_reducible refine K4_T ?_ (fun _ _ _ => ?_) (fun _ _ _ => ?_)
    | with_reducible refine hr56 _ _ _ _ ?_
    | with_reducible refine k4_yk268_293 B _ (by assumption) _ _ _ ?_
    | assumption
    | with_reducible refine k4u ?_ ?_
    | decide
    | exact k4n (by assumption) (by decide)
theorem k4_yl268_114 {x : Int → Int} (B : Nat) (r56 : Int → Int → Int → xw_M → xP) (hr56 : ∀ a0 a1 a2 m, m 604 = x → K4 x (r56 a0 a1 a2 m)) (r114 : Int → Int → Int → Int → Int → xw_M → xP) (hr114 : ∀ a0 a1 a2 a3 a4 m, m 604 = x → K4 x (r114 a0 a1 a2 a3 a4 m)) (x1 x2 x5 x6 x7 : Int) (m : xw_M) (hm : m 604 = x) : K4 x (yl268_114 B r56 r114 x1 x2 x5 x6 x7 m) := by
  unfold yl268_114
  repeat' first
    | with_reducible exact K4_none
    | with_reducible refine K4_some ?_
    | with_reducible refine K4_if (fun _ => ?_) (fun _ => ?_)
    | with_reducible refine K4_B ?_ (fun _ _ _ => ?_)
    | with_reducible refine K4_T ?_ (fun _ _ _ => ?_) (fun _ _ _ => ?_)
    | with_reducible refine hr56 _ _ _ _ ?_
    | with_reducible refine hr114 _ _ _ _ _ _ ?_
    | with_reducible refine k4_yf254 B  _ _ _ _ ?_
    | with_reducible refine k4_yk268_290 B _ (by assumption) _ _ _ ?_
    | with_reducible refine k4_yf269 B  _ _ _ ?_
    | with_reducible refine k4_yk268_293 B _ (by assumption) _ _ _ ?_
    | with_reducible refine k4_yf248 B   _ ?_
    | with_reducible refine k4_yf258 B  _ _ ?_
    | with_reducible refine k4_yk268_179 B _ (by assumption) _ (by assumption) _ _ _ _ _ ?_
    | assumption
    | with_reducible refine k4u ?_ ?_
    | decide
    | exact k4n (by assumption) (by decide)
theorem k4_yk268_98 {x : Int → Int} (B : Nat) (r56 : Int → Int → Int → xw_M → xP) (hr56 : ∀ a0 a1 a2 m, m 604 = x → K4 x (r56 a0 a1 a2 m)) (x1 x2 : Int) (m : xw_M) (hm : m 604 = x) : K4 x (yk268_98 B r56 x1 x2 m) := by
  unfold yk268_98
  repeat' first
    | with_reducible exact K4_none
    | with_reducible refine K4_some ?_
    | with_reducible refine K4_if (fun _ => ?_) (fun _ => ?_)
    | with_reducible refine K4_B ?_ (fun _ _ _ => ?_)
    | with_reducible refine K4_T ?_ (fun _ _ _ => ?_) (fun _ _ _ => ?_)
    | with_reducible refine hr56 _ _ _ _ ?_
    | with_reducible refine K4_l5 (k4_yl268_114 B _ (by assumption)) _ _ _ _ _ _ _ ?_
    | assumption
    | with_reducible refine k4u ?_ ?_
    | decide
    | exact k4n (by assumption) (by decide)
theorem k4_yl268_56 {x : Int → Int} (B : Nat) (r56 : Int → Int → Int → xw_M → xP) (hr56 : ∀ a0 a1 a2 m, m 604 = x → K4 x (r56 a0 a1 a2 m)) (x1 x2 x3 : Int) (m : xw_M) (hm : m 604 = x) : K4 x (yl268_56 B r56 x1 x2 x3 m) := by
  unfold yl268_56
  repeat' first
    | with_reducible exact K4_none
    | with_reducible refine K4_some ?_
    | with_reducible refine K4_if (fun _ => ?_) (fun _ => ?_)
    | with_reducible refine K4_B ?_ (fun _ _ _ => ?_)
    | with_reducible refine K4_T ?_ (fun _ _ _ => ?_) (fun _ _ _ => ?_)
    | with_reducible refine hr56 _ _ _ _ ?_
    | with_reducible refine k4_yf265 B  _ _ ?_
    | with_reducible refine k4_yk268_98 B _ (by assumption) _ _ _ ?_
    | with_reducible refine k4_yf254 B  _ _ _ _ ?_
    | with_reducible refine K4_l5 (k4_yl268_114 B _ (by assumption)) _ _ _ _ _ _ _ ?_
    | assumption
    | with_reducible refine k4u ?_ ?_
    | decide
    | exact k4n (by assumption) (by decide)
theorem k4_yf268 {x : Int → Int} (B : Nat) (m : xw_M) (hm : m 604 = x) : K4 x (yf268 B m) := by
  unfold yf268
  repeat' first
    | with_reducible exact K4_none
    | with_reducible refine K4_some ?_
    | with_reducible refine K4_if (fun _ => ?_) (fun _ => ?_)
    | with_reducible refine K4_B ?_ (fun _ _ _ => ?_)
    | with_reducible refine K4_T ?_ (fun _ _ _ => ?_) (fun _ _ _ => ?_)
    | with_reducible refine k4_yf248 B   _ ?_
    | with_reducible refine k4_yf261 B   _ ?_
    | with_reducible refine k4_yf254 B  _ _ _ _ ?_
    | with_reducible refine K4_l3 (k4_yl268_56 B ) _ _ _ _ _ ?_
    | with_reducible refine k4_yf262 B  _ _ _ ?_
    | assumption
    | with_reducible refine k4u ?_ ?_
    | decide
    | exact k4n (by assumption) (by decide)
theorem k4_yf272 {x : Int → Int} (B : Nat) (m : xw_M) (hm : m 604 = x) : K4 x (yf272 B m) := by
  unfold yf272
  repeat' first
    | with_reducible exact K4_none
    | with_reducible refine K4_some ?_
    | with_reducible refine K4_if (fun _ => ?_) (fun _ => ?_)
    | with_reducible refine K4_B ?_ (fun _ _ _ => ?_)
    | with_reducible refine K4_T ?_ (fun _ _ _ => ?_) (fun _ _ _ => ?_)
    | with_reducible refine k4_yf261 B   _ ?_
    | with_reducible refine k4_yf254 B  _ _ _ _ ?_
    | with_reducible refine k4_yf262 B  _ _ _ ?_
    | assumption
    | with_reducible refine k4u ?_ ?_
    | decide
    | exact k4n (by assumption) (by decide)
theorem k4_yf273 {x : Int → Int} (B : Nat) (p0 : Int) (m : xw_M) (hm : m 604 = x) : K4 x (yf273 B p0 m) := by
  unfold yf273
  repeat' first
    | with_reducible exact K4_none
    | with_reducible refine K4_some ?_
    | with_reducible refine K4_if (fun _ => ?_) (fun _ => ?_)
    | with_reducible refine K4_B ?_ (fun _ _ _ => ?_)
    | with_reducible refine K4_T ?_ (fun _ _ _ => ?_) (fun _ _ _ => ?_)
    | with_reducible refine k4_yf265 B  _ _ ?_
    | with_reducible refine k4_yf248 B   _ ?_
    | with_reducible refine k4_yf261 B   _ ?_
    | with_reducible refine k4_yf254 B  _ _ _ _ ?_
    | with_reducible refine k4_yf262 B  _ _ _ ?_
    | assumption
    | with_reducible refine k4u ?_ ?_
    | decide
    | exact k4n (by assumption) (by decide)
theorem k4_yk271_234 {x : Int → Int} (B : Nat) (x1 x2 x4 : Int) (m : xw_M) (hm : m 604 = x) : K4 x (yk271_234 B x1 x2 x4 m) := by
  unfold yk271_234
  repeat' first
    | with_reducible exact K4_none
    | with_reducible refine K4_some ?_
    | with_reducible refine K4_if (fun _ => ?_) (fun _ => ?_)
    | with_reducible refine K4_B ?_ (fun _ _ _ => ?_)
    | with_reducible refine K4_T ?_ (fun _ _ _ => ?_) (fun _ _ _ => ?_)
    | assumption
    | with_reducible refine k4u ?_ ?_
    | decide
    | exact k4n (by assumption) (by decide)
theorem k4_yk271_226 {x : Int → Int} (B : Nat) (x1 x2 x4 : Int) (m : xw_M) (hm : m 604 = x) : K4 x (yk271_226 B x1 x2 x4 m) := by
  unfold yk271_226
  repeat' first
    | with_reducible exact K4_none
    | with_reducible refine K4_some ?_
    | with_reducible refine K4_if (fun _ => ?_) (fun _ => ?_)
    | with_reducible refine K4_B ?_ (fun _ _ _ => ?_)
    | with_reducible refine K4_T ?_ (fun _ _ _ => ?_) (fun _ _ _ => ?_)
    | with_reducible refine k4_yf265 B  _ _ ?_
    | with_reducible refine k4_yk271_234 B  _ _ _ _ ?_
    | assumption
    | with_reducible refine k4u ?_ ?_
    | decide
    | exact k4n (by assumption) (by decide)
theorem k4_yf271 {x : Int → Int} (B : Nat) (m : xw_M) (hm : m 604 = x) : K4 x (yf271 B m) := by
  unfold yf271
  repeat' first
    | with_reducible exact K4_none
    | with_reducible refine K4_some ?_
    | with_reducible refine K4_if (fun _ => ?_) (fun _ => ?_)
    | with_reducible refine K4_B ?_ (fun _ _ _ => ?_)
    | with_reducible refine K4_T ?_ (fun _ _ _ => ?_) (fun _ _ _ => ?_)
    | with_reducible refine k4_yf257 B  _ _ ?_
    | with_reducible refine k4_yf272 B   _ ?_
    | with_reducible refine k4_yf254 B  _ _ _ _ ?_
    | with_reducible refine k4_yf273 B  _ _ ?_
    | with_reducible refine k4_yk271_234 B  _ _ _ _ ?_
    | with_reducible refine k4_yf265 B  _ _ ?_
    | with_reducible refine k4_yf248 B   _ ?_
    | with_reducible refine k4_yk271_226 B  _ _ _ _ ?_
    | with_reducible refine k4_yf266 B  _ _ ?_
    | with_reducible refine k4_yf258 B  _ _ ?_
    | with_reducible refine k4_yf261 B   _ ?_
    | with_reducible refine k4_yf262 B  _ _ _ ?_
    | assumption
    | with_reducible refine k4u ?_ ?_
    | decide
    | exact k4n (by assumption) (by decide)
theorem k4_yf278 {x : Int → Int} (B : Nat) (m : xw_M) (hm : m 604 = x) : K4 x (yf278 B m) := by
  unfold yf278
  repeat' first
    | with_reducible exact K4_none
    | with_reducible refine K4_some ?_
    | with_reducible refine K4_if (fun _ => ?_) (fun _ => ?_)
    | with_reducible refine K4_B ?_ (fun _ _ _ => ?_)
    | with_reducible refine K4_T ?_ (fun _ _ _ => ?_) (fun _ _ _ => ?_)
    | with_reducible refine k4_yf248 B   _ ?_
    | with_reducible refine k4_yf258 B  _ _ ?_
    | assumption
    | with_reducible refine k4u ?_ ?_
    | decide
    | exact k4n (by assumption) (by decide)
theorem k4_yk279_59 {x : Int → Int} (B : Nat) (r9 : Int → Int → Int → xw_M → xP) (hr9 : ∀ a0 a1 a2 m, m 604 = x → K4 x (r9 a0 a1 a2 m)) (x1 x2 : Int) (m : xw_M) (hm : m 604 = x) : K4 x (yk279_59 B r9 x1 x2 m) := by
  unfold yk279_59
  repeat' first
    | with_reducible exact K4_none
    | with_reducible refine K4_some ?_
    | with_reducible refine K4_if (fun _ => ?_) (fun _ => ?_)
    | with_reducible refine K4_B ?_ (fun _ _ _ => ?_)
    | with_reducible refine K4_T ?_ (fun _ _ _ => ?_) (fun _ _ _ => ?_)
    | with_reducible refine hr9 _ _ _ _ ?_
    | with_reducible refine k4_yf248 B   _ ?_
    | with_reducible refine k4_yf266 B  _ _ ?_
    | with_reducible refine k4_yf258 B  _ _ ?_
    | assumption
    | with_reducible refine k4u ?_ ?_
    | decide
    | exact k4n (by assumption) (by decide)
theorem k4_yl279_9 {x : Int → Int} (B : Nat) (r9 : Int → Int → Int → xw_M → xP) (hr9 : ∀ a0 a1 a2 m, m 604 = x → K4 x (r9 a0 a1 a2 m)) (x1 x2 x3 : Int) (m : xw_M) (hm : m 604 = x) : K4 x (yl279_9 B r9 x1 x2 x3 m) := by
  unfold yl279_9
  repeat' first
    | with_reducible exact K4_none
    | with_reducible refine K4_some ?_
    | with_reducible refine K4_if (fun _ => ?_) (fun _ => ?_)
    | with_reducible refine K4_B ?_ (fun _ _ _ => ?_)
    | with_reducible refine K4_T ?_ (fun _ _ _ => ?_) (fun _ _ _ => ?_)
    | with_reducible refine hr9 _ _ _ _ ?_
    | with_reducible refine k4_yf278 B   _ ?_
    | with_reducible refine k4_yf254 B  _ _ _ _ ?_
    | with_reducible refine k4_yk279_59 B _ (by assumption) _ _ _ ?_
    | assumption
    | with_reducible refine k4u ?_ ?_
    | decide
    | exact k4n (by assumption) (by decide)
theorem k4_yf279 {x : Int → Int} (B : Nat) (p0 : Int) (m : xw_M) (hm : m 604 = x) : K4 x (yf279 B p0 m) := by
  unfold yf279
  repeat' first
    | with_reducible exact K4_none
    | with_reducible refine K4_some ?_
    | with_reducible refine K4_if (fun _ => ?_) (fun _ => ?_)
    | with_reducible refine K4_B ?_ (fun _ _ _ => ?_)
    | with_reducible refine K4_T ?_ (fun _ _ _ => ?_) (fun _ _ _ => ?_)
    | with_reducible refine k4_yf265 B  _ _ ?_
    | with_reducible refine K4_l3 (k4_yl279_9 B ) _ _ _ _ _ ?_
    | assumption
    | with_reducible refine k4u ?_ ?_
    | decide
    | exact k4n (by assumption) (by decide)
theorem k4_yf280 {x : Int → Int} (B : Nat) (p0 : Int) (m : xw_M) (hm : m 604 = x) : K4 x (yf280 B p0 m) := by
  unfold yf280
  repeat' first
    | with_reducible exact K4_none
    | with_reducible refine K4_some ?_
    | with_reducible refine K4_if (fun _ => ?_) (fun _ => ?_)
    | with_reducible refine K4_B ?_ (fun _ _ _ => ?_)
    | with_reducible refine K4_T ?_ (fun _ _ _ => ?_) (fun _ _ _ => ?_)
    | assumption
    | with_reducible refine k4u ?_ ?_
    | decide
    | exact k4n (by assumption) (by decide)
theorem k4_yk277_306 {x : Int → Int} (B : Nat) (x3 : Int) (m : xw_M) (hm : m 604 = x) : K4 x (yk277_306 B x3 m) := by
  unfold yk277_306
  repeat' first
    | with_reducible exact K4_none
    | with_reducible refine K4_some ?_
    | with_reducible refine K4_if (fun _ => ?_) (fun _ => ?_)
    | with_reducible refine K4_B ?_ (fun _ _ _ => ?_)
    | with_reducible refine K4_T ?_ (fun _ _ _ => ?_) (fun _ _ _ => ?_)
    | with_reducible refine k4_yf280 B  _ _ ?_
    | with_reducible refine k4_yf248 B   _ ?_
    | assumption
    | with_reducible refine k4u ?_ ?_
    | decide
    | exact k4n (by assumption) (by decide)
theorem k4_yk277_270 {x : Int → Int} (B : Nat) (x3 x4 : Int) (m : xw_M) (hm : m 604 = x) : K4 x (yk277_270 B x3 x4 m) := by
  unfold yk277_270
  repeat' first
    | with_reducible exact K4_none
    | with_reducible refine K4_some ?_
    | with_reducible refine K4_if (fun _ => ?_) (fun _ => ?_)
    | with_reducible refine K4_B ?_ (fun _ _ _ => ?_)
    | with_reducible refine K4_T ?_ (fun _ _ _ => ?_) (fun _ _ _ => ?_)
    | with_reducible refine k4_yf248 B   _ ?_
    | with_reducible refine k4_yf257 B  _ _ ?_
    | with_reducible refine k4_yf258 B  _ _ ?_
    | with_reducible refine k4_yf278 B   _ ?_
    | with_reducible refine k4_yk277_306 B  _ _ ?_
    | assumption
    | with_reducible refine k4u ?_ ?_
    | decide
    | exact k4n (by assumption) (by decide)
theorem k4_yk277_242 {x : Int → Int} (B : Nat) (x3 x4 : Int) (m : xw_M) (hm : m 604 = x) : K4 x (yk277_242 B x3 x4 m) := by
  unfold yk277_242
  repeat' first
    | with_reducible exact K4_none
    | with_reducible refine K4_some ?_
    | with_reducible refine K4_if (fun _ => ?_) (fun _ => ?_)
    | with_reducible refine K4_B ?_ (fun _ _ _ => ?_)
    | with_reducible refine K4_T ?_ (fun _ _ _ => ?_) (fun _ _ _ => ?_)
    | with_reducible refine k4_yf278 B   _ ?_
    | with_reducible refine k4_yk277_270 B  _ _ _ ?_
    | with_reducible refine k4_yf279 B  _ _ ?_
    | assumption
    | with_reducible refine k4u ?_ ?_
    | decide
    | exact k4n (by assumption) (by decide)
theorem k4_yf277 {x : Int → Int} (B : Nat) (m : xw_M) (hm : m 604 = x) : K4 x (yf277 B m) := by
  unfold yf277
  repeat' first
    | with_reducible exact K4_none
    | with_reducible refine K4_some ?_
    | with_reducible refine K4_if (fun _ => ?_) (fun _ => ?_)
    | with_reducible refine K4_B ?_ (fun _ _ _ => ?_)
    | with_reducible refine K4_T ?_ (fun _ _ _ => ?_) (fun _ _ _ => ?_)
    | with_reducible refine k4_yf272 B   _ ?_
    | with_reducible refine k4_yf254 B  _ _ _ _ ?_
    | with_reducible refine k4_yf273 B  _ _ ?_
    | with_reducible refine k4_yf248 B   _ ?_
    | with_reducible refine k4_yf266 B  _ _ ?_
    | with_reducible refine k4_yf257 B  _ _ ?_
    | with_reducible refine k4_yf258 B  _ _ ?_
    | with_reducible refine k4_yk277_242 B  _ _ _ ?_
    | assumption
    | with_reducible refine k4u ?_ ?_
    | decide
    | exact k4n (by assumption) (by decide)
theorem k4_yk276_133 {x : Int → Int} (B : Nat) (fe : xw_M → xP) (hfe : ∀ m, m 604 = x → K4 x (fe m)) (x1 : Int) (m : xw_M) (hm : m 604 = x) : K4 x (yk276_133 B fe x1 m) := by
  unfold yk276_133
  repeat' first
    | with_reducible exact K4_none
    | with_reducible refine K4_some ?_
    | with_reducible refine K4_if (fun _ => ?_) (fun _ => ?_)
    | with_reducible refine K4_B ?_ (fun _ _ _ => ?_)
    | with_reducible refine K4_T ?_ (fun _ _ _ => ?_) (fun _ _ _ => ?_)
    | with_reducible refine hfe  _ ?_
    | with_reducible refine k4_yf280 B  _ _ ?_
    | assumption
    | with_reducible refine k4u ?_ ?_
    | decide
    | exact k4n (by assumption) (by decide)
theorem k4_yk276_101 {x : Int → Int} (B : Nat) (fe : xw_M → xP) (hfe : ∀ m, m 604 = x → K4 x (fe m)) (x1 : Int) (m : xw_M) (hm : m 604 = x) : K4 x (yk276_101 B fe x1 m) := by
  unfold yk276_101
  repeat' first
    | with_reducible exact K4_none
    | with_reducible refine K4_some ?_
    | with_reducible refine K4_if (fun _ => ?_) (fun _ => ?_)
    | with_reducible refine K4_B ?_ (fun _ _ _ => ?_)
    | with_reducible refine K4_T ?_ (fun _ _ _ => ?_) (fun _ _ _ => ?_)
    | with_reducible refine hfe  _ ?_
    | with_reducible refine k4_yf266 B  _ _ ?_
    | with_reducible refine k4_yf258 B  _ _ ?_
    | with_reducible refine k4_yf248 B   _ ?_
    | with_reducible refine k4_yk276_133 B _ (by assumption) _ _ ?_
    | assumption
    | with_reducible refine k4u ?_ ?_
    | decide
    | exact k4n (by assumption) (by decide)
theorem k4_yk276_129 {x : Int → Int} (B : Nat) (fe : xw_M → xP) (hfe : ∀ m, m 604 = x → K4 x (fe m)) (x1 : Int) (m : xw_M) (hm : m 604 = x) : K4 x (yk276_129 B fe x1 m) := by
  unfold yk276_129
  repeat' first
    | with_reducible exact K4_none
    | with_reducible refine K4_some ?_
    | with_reducible refine K4_if (fun _ => ?_) (fun _ => ?_)
    | with_reducible refine K4_B ?_ (fun _ _ _ => ?_)
    | with_reducible refine K4_T ?_ (fun _ _ _ => ?_) (fun _ _ _ => ?_)
    | with_reducible refine hfe  _ ?_
    | with_reducible refine k4_yf277 B   _ ?_
    | with_reducible refine k4_yk276_133 B _ (by assumption) _ _ ?_
    | assumption
    | with_reducible refine k4u ?_ ?_
    | decide
    | exact k4n (by assumption) (by decide)
theorem k4_yk276_35 {x : Int → Int} (B : Nat) (fe : xw_M → xP) (hfe : ∀ m, m 604 = x → K4 x (fe m)) (x1 : Int) (m : xw_M) (hm : m 604 = x) : K4 x (yk276_35 B fe x1 m) := by
  unfold yk276_35
  repeat' first
    | with_reducible exact K4_none
    | with_reducible refine K4_some ?_
    | with_reducible refine K4_if (fun _ => ?_) (fun _ => ?_)
    | with_reducible refine K4_B ?_ (fun _ _ _ => ?_)
    | with_reducible refine K4_T ?_ (fun _ _ _ => ?_) (fun _ _ _ => ?_)
    | with_reducible refine hfe  _ ?_
    | with_reducible refine k4_yf266 B  _ _ ?_
    | with_reducible refine k4_yk276_129 B _ (by assumption) _ _ ?_
    | with_reducible refine k4_yf254 B  _ _ _ _ ?_
    | with_reducible refine k4_yf248 B   _ ?_
    | with_reducible refine k4_yk276_101 B _ (by assumption) _ _ ?_
    | assumption
    | with_reducible refine k4u ?_ ?_
    | decide
    | exact k4n (by assumption) (by decide)
theorem k4_yl276_2 {x : Int → Int} (B : Nat) (fe : xw_M → xP) (hfe : ∀ m, m 604 = x → K4 x (fe m)) (r2 : Int → xw_M → xP) (hr2 : ∀ a0 m, m 604 = x → K4 x (r2 a0 m)) (x1 : Int) (m : xw_M) (hm : m 604 = x) : K4 x (yl276_2 B fe r2 x1 m) := by
  unfold yl276_2
  repeat' first
    | with_reducible exact K4_none
    | with_reducible refine K4_some ?_
    | with_reducible refine K4_if (fun _ => ?_) (fun _ => ?_)
    | with_reducible refine K4_B ?_ (fun _ _ _ => ?_)
    | with_reducible refine K4_T ?_ (fun _ _ _ => ?_) (fun _ _ _ => ?_)
    | with_reducible refine hfe  _ ?_
    | with_reducible refine hr2 _ _ ?_
    | with_reducible refine k4_yf257 B  _ _ ?_
    | with_reducible refine k4_yk276_35 B _ (by assumption) _ _ ?_
    | with_reducible refine k4_yf248 B   _ ?_
    | assumption
    | with_reducible refine k4u ?_ ?_
    | decide
    | exact k4n (by assumption) (by decide)
theorem k4_yf276 {x : Int → Int} (B : Nat) (fe : xw_M → xP) (hfe : ∀ m, m 604 = x → K4 x (fe m)) (m : xw_M) (hm : m 604 = x) : K4 x (yf276 B fe m) := by
  unfold yf276
  repeat' first
    | with_reducible exact K4_none
    | with_reducible refine K4_some ?_
    | with_reducible refine K4_if (fun _ => ?_) (fun _ => ?_)
    | with_reducible refine K4_B ?_ (fun _ _ _ => ?_)
    | with_reducible refine K4_T ?_ (fun _ _ _ => ?_) (fun _ _ _ => ?_)
    | with_reducible refine hfe  _ ?_
    | with_reducible refine K4_l1 (k4_yl276_2 B _ (by assumption)) _ _ _ ?_
    | assumption
    | with_reducible refine k4u ?_ ?_
    | decide
    | exact k4n (by assumption) (by decide)
theorem k4_yl275_4 {x : Int → Int} (B : Nat) (fe : xw_M → xP) (hfe : ∀ m, m 604 = x → K4 x (fe m)) (r4 : xw_M → xP) (hr4 : ∀ m, m 604 = x → K4 x (r4 m)) (m : xw_M) (hm : m 604 = x) : K4 x (yl275_4 B fe r4 m) := by
  unfold yl275_4
  repeat' first
    | with_reducible exact K4_none
    | with_reducible refine K4_some ?_
    | with_reducible refine K4_if (fun _ => ?_) (fun _ => ?_)
    | with_reducible refine K4_B ?_ (fun _ _ _ => ?_)
    | with_reducible refine K4_T ?_ (fun _ _ _ => ?_) (fun _ _ _ => ?_)
    | with_reducible refine hfe  _ ?_
    | with_reducible refine hr4  _ ?_
    | with_reducible refine k4_yf257 B  _ _ ?_
    | with_reducible refine k4_yf248 B   _ ?_
    | with_reducible refine k4_yf276 B _ (by assumption)  _ ?_
    | with_reducible refine k4_yf280 B  _ _ ?_
    | assumption
    | with_reducible refine k4u ?_ ?_
    | decide
    | exact k4n (by assumption) (by decide)
theorem k4_yf275 {x : Int → Int} (B : Nat) (fe : xw_M → xP) (hfe : ∀ m, m 604 = x → K4 x (fe m)) (m : xw_M) (hm : m 604 = x) : K4 x (yf275 B fe m) := by
  unfold yf275
  repeat' first
    | with_reducible exact K4_none
    | with_reducible refine K4_some ?_
    | with_reducible refine K4_if (fun _ => ?_) (fun _ => ?_)
    | with_reducible refine K4_B ?_ (fun _ _ _ => ?_)
    | with_reducible refine K4_T ?_ (fun _ _ _ => ?_) (fun _ _ _ => ?_)
    | with_reducible refine hfe  _ ?_
    | with_reducible refine k4_yf276 B _ (by assumption)  _ ?_
    | with_reducible refine K4_l0 (k4_yl275_4 B _ (by assumption)) _  _ ?_
    | assumption
    | with_reducible refine k4u ?_ ?_
    | decide
    | exact k4n (by assumption) (by decide)
theorem k4_yl274_4 {x : Int → Int} (B : Nat) (fe : xw_M → xP) (hfe : ∀ m, m 604 = x → K4 x (fe m)) (r4 : xw_M → xP) (hr4 : ∀ m, m 604 = x → K4 x (r4 m)) (m : xw_M) (hm : m 604 = x) : K4 x (yl274_4 B fe r4 m) := by
  unfold yl274_4
  repeat' first
    | with_reducible exact K4_none
    | with_reducible refine K4_some ?_
    | with_reducible refine K4_if (fun _ => ?_) (fun _ => ?_)
    | with_reducible refine K4_B ?_ (fun _ _ _ => ?_)
    | with_reducible refine K4_T ?_ (fun _ _ _ => ?_) (fun _ _ _ => ?_)
    | with_reducible refine hfe  _ ?_
    | with_reducible refine hr4  _ ?_
    | with_reducible refine k4_yf257 B  _ _ ?_
    | with_reducible refine k4_yf248 B   _ ?_
    | with_reducible refine k4_yf275 B _ (by assumption)  _ ?_
    | with_reducible refine k4_yf280 B  _ _ ?_
    | assumption
    | with_reducible refine k4u ?_ ?_
    | decide
    | exact k4n (by assumption) (by decide)
theorem k4_yf274 {x : Int → Int} (B : Nat) (fe : xw_M → xP) (hfe : ∀ m, m 604 = x → K4 x (fe m)) (m : xw_M) (hm : m 604 = x) : K4 x (yf274 B fe m) := by
  unfold yf274
  repeat' first
    | with_reducible exact K4_none
    | with_reducible refine K4_some ?_
    | with_reducible refine K4_if (fun _ => ?_) (fun _ => ?_)
    | with_reducible refine K4_B ?_ (fun _ _ _ => ?_)
    | with_reducible refine K4_T ?_ (fun _ _ _ => ?_) (fun _ _ _ => ?_)
    | with_reducible refine hfe  _ ?_
    | with_reducible refine k4_yf275 B _ (by assumption)  _ ?_
    | with_reducible refine K4_l0 (k4_yl274_4 B _ (by assumption)) _  _ ?_
    | assumption
    | with_reducible refine k4u ?_ ?_
    | decide
    | exact k4n (by assumption) (by decide)
theorem k4_xE {x : Int → Int} {B : Nat} : ∀ (N : Nat) (m : xw_M), m 604 = x → K4 x (xE B N m)
  | 0 => fun _ _ => K4_none
  | N + 1 => fun m hm => k4_yf274 B (xE B N) (k4_xE N) m hm
theorem k4_yl283_50 {x : Int → Int} (B : Nat) (r50 : Int → Int → Int → Int → xw_M → xP) (hr50 : ∀ a0 a1 a2 a3 m, m 604 = x → K4 x (r50 a0 a1 a2 a3 m)) (x1 x3 x4 x5 : Int) (m : xw_M) (hm : m 604 = x) : K4 x (yl283_50 B r50 x1 x3 x4 x5 m) := by
  unfold yl283_50
  repeat' first
    | with_reducible exact K4_none
    | with_reducible refine K4_some ?_
    | with_reducible refine K4_if (fun _ => ?_) (fun _ => ?_)
    | with_reducible refine K4_B ?_ (fun _ _ _ => ?_)
    | with_reducible refine K4_T ?_ (fun _ _ _ => ?_) (fun _ _ _ => ?_)
    | with_reducible refine hr50 _ _ _ _ _ ?_
    | with_reducible refine k4_yf254 B  _ _ _ _ ?_
    | assumption
    | with_reducible refine k4u ?_ ?_
    | decide
    | exact k4n (by assumption) (by decide)
theorem k4_yf283 {x : Int → Int} (B : Nat) (m : xw_M) (hm : m 604 = x) : K4 x (yf283 B m) := by
  unfold yf283
  repeat' first
    | with_reducible exact K4_none
    | with_reducible refine K4_some ?_
    | with_reducible refine K4_if (fun _ => ?_) (fun _ => ?_)
    | with_reducible refine K4_B ?_ (fun _ _ _ => ?_)
    | with_reducible refine K4_T ?_ (fun _ _ _ => ?_) (fun _ _ _ => ?_)
    | with_reducible refine k4_yf272 B   _ ?_
    | with_reducible refine k4_yf254 B  _ _ _ _ ?_
    | with_reducible refine k4_yf273 B  _ _ ?_
    | with_reducible refine K4_l4 (k4_yl283_50 B ) _ _ _ _ _ _ ?_
    | assumption
    | with_reducible refine k4u ?_ ?_
    | decide
    | exact k4n (by assumption) (by decide)
theorem k4_yk282_118 {x : Int → Int} (B : Nat) (x1 x2 : Int) (m : xw_M) (hm : m 604 = x) : K4 x (yk282_118 B x1 x2 m) := by
  unfold yk282_118
  repeat' first
    | with_reducible exact K4_none
    | with_reducible refine K4_some ?_
    | with_reducible refine K4_if (fun _ => ?_) (fun _ => ?_)
    | with_reducible refine K4_B ?_ (fun _ _ _ => ?_)
    | with_reducible refine K4_T ?_ (fun _ _ _ => ?_) (fun _ _ _ => ?_)
    | assumption
    | with_reducible refine k4u ?_ ?_
    | decide
    | exact k4n (by assumption) (by decide)
theorem k4_yl282_54 {x : Int → Int} (B : Nat) (r54 : Int → Int → Int → xw_M → xP) (hr54 : ∀ a0 a1 a2 m, m 604 = x → K4 x (r54 a0 a1 a2 m)) (x1 x2 x3 : Int) (m : xw_M) (hm : m 604 = x) : K4 x (yl282_54 B r54 x1 x2 x3 m) := by
  unfold yl282_54
  repeat' first
    | with_reducible exact K4_none
    | with_reducible refine K4_some ?_
    | with_reducible refine K4_if (fun _ => ?_) (fun _ => ?_)
    | with_reducible refine K4_B ?_ (fun _ _ _ => ?_)
    | with_reducible refine K4_T ?_ (fun _ _ _ => ?_) (fun _ _ _ => ?_)
    | with_reducible refine hr54 _ _ _ _ ?_
    | with_reducible refine k4_yk282_118 B  _ _ _ ?_
    | with_reducible refine k4_yf248 B   _ ?_
    | with_reducible refine k4_yf283 B   _ ?_
    | with_reducible refine k4_yf266 B  _ _ ?_
    | with_reducible refine k4_yf258 B  _ _ ?_
    | assumption
    | with_reducible refine k4u ?_ ?_
    | decide
    | exact k4n (by assumption) (by decide)
theorem k4_yf282 {x : Int → Int} (B : Nat) (m : xw_M) (hm : m 604 = x) : K4 x (yf282 B m) := by
  unfold yf282
  repeat' first
    | with_reducible exact K4_none
    | with_reducible refine K4_some ?_
    | with_reducible refine K4_if (fun _ => ?_) (fun _ => ?_)
    | with_reducible refine K4_B ?_ (fun _ _ _ => ?_)
    | with_reducible refine K4_T ?_ (fun _ _ _ => ?_) (fun _ _ _ => ?_)
    | with_reducible refine k4_yf257 B  _ _ ?_
    | with_reducible refine k4_yf283 B   _ ?_
    | with_reducible refine k4_yk282_118 B  _ _ _ ?_
    | with_reducible refine k4_yf265 B  _ _ ?_
    | with_reducible refine K4_l3 (k4_yl282_54 B ) _ _ _ _ _ ?_
    | assumption
    | with_reducible refine k4u ?_ ?_
    | decide
    | exact k4n (by assumption) (by decide)
theorem k4_yk281_70 {x : Int → Int} (B : Nat) (r25 : Int → Int → xw_M → xP) (hr25 : ∀ a0 a1 m, m 604 = x → K4 x (r25 a0 a1 m)) (x1 x3 : Int) (m : xw_M) (hm : m 604 = x) : K4 x (yk281_70 B r25 x1 x3 m) := by
  unfold yk281_70
  repeat' first
    | with_reducible exact K4_none
    | with_reducible refine K4_some ?_
    | with_reducible refine K4_if (fun _ => ?_) (fun _ => ?_)
    | with_reducible refine K4_B ?_ (fun _ _ _ => ?_)
    | with_reducible refine K4_T ?_ (fun _ _ _ => ?_) (fun _ _ _ => ?_)
    | with_reducible refine hr25 _ _ _ ?_
    | with_reducible refine k4_yf266 B  _ _ ?_
    | assumption
    | with_reducible refine k4u ?_ ?_
    | decide
    | exact k4n (by assumption) (by decide)
theorem k4_yl281_25 {x : Int → Int} (B : Nat) (r25 : Int → Int → xw_M → xP) (hr25 : ∀ a0 a1 m, m 604 = x → K4 x (r25 a0 a1 m)) (x1 x2 : Int) (m : xw_M) (hm : m 604 = x) : K4 x (yl281_25 B r25 x1 x2 m) := by
  unfold yl281_25
  repeat' first
    | with_reducible exact K4_none
    | with_reducible refine K4_some ?_
    | with_reducible refine K4_if (fun _ => ?_) (fun _ => ?_)
    | with_reducible refine K4_B ?_ (fun _ _ _ => ?_)
    | with_reducible refine K4_T ?_ (fun _ _ _ => ?_) (fun _ _ _ => ?_)
    | with_reducible refine hr25 _ _ _ ?_
    | with_reducible refine k4_yf248 B   _ ?_
    | with_reducible refine k4_yf282 B   _ ?_
    | with_reducible refine k4_yf254 B  _ _ _ _ ?_
    | with_reducible refine k4_yk281_70 B _ (by assumption) _ _ _ ?_
    | assumption
    | with_reducible refine k4u ?_ ?_
    | decide
    | exact k4n (by assumption) (by decide)
theorem k4_yf281 {x : Int → Int} (B : Nat) (m : xw_M) (hm : m 604 = x) : K4 x (yf281 B m) := by
  unfold yf281
  repeat' first
    | with_reducible exact K4_none
    | with_reducible refine K4_some ?_
    | with_reducible refine K4_if (fun _ => ?_) (fun _ => ?_)
    | with_reducible refine K4_B ?_ (fun _ _ _ => ?_)
    | with_reducible refine K4_T ?_ (fun _ _ _ => ?_) (fun _ _ _ => ?_)
    | with_reducible refine k4_yf248 B   _ ?_
    | with_reducible refine k4_yf257 B  _ _ ?_
    | with_reducible refine k4_yf258 B  _ _ ?_
    | with_reducible refine K4_l2 (k4_yl281_25 B ) _ _ _ _ ?_
    | assumption
    | with_reducible refine k4u ?_ ?_
    | decide
    | exact k4n (by assumption) (by decide)
theorem k4_yk284_119 {x : Int → Int} (B : Nat) (r14 : Int → Int → xw_M → xP) (hr14 : ∀ a0 a1 m, m 604 = x → K4 x (r14 a0 a1 m)) (r26 : Int → Int → Int → Int → Int → xw_M → xP) (hr26 : ∀ a0 a1 a2 a3 a4 m, m 604 = x → K4 x (r26 a0 a1 a2 a3 a4 m)) (x1 x2 x4 x5 : Int) (m : xw_M) (hm : m 604 = x) : K4 x (yk284_119 B r14 r26 x1 x2 x4 x5 m) := by
  unfold yk284_119
  repeat' first
    | with_reducible exact K4_none
    | with_reducible refine K4_some ?_
    | with_reducible refine K4_if (fun _ => ?_) (fun _ => ?_)
    | with_reducible refine K4_B ?_ (fun _ _ _ => ?_)
    | with_reducible refine K4_T ?_ (fun _ _ _ => ?_) (fun _ _ _ => ?_)
    | with_reducible refine hr14 _ _ _ ?_
    | with_reducible refine hr26 _ _ _ _ _ _ ?_
    | assumption
    | with_reducible refine k4u ?_ ?_
    | decide
    | exact k4n (by assumption) (by decide)
