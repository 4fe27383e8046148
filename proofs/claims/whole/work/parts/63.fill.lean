/-! loops by equations; FILLS of arrays -/
theorem xl0_eq {F : (xw_M → xP) → xw_M → xP} (G : xw_M → xP) (I : xw_M → Prop) (mu : xw_M → Nat) (h : ∀ (r : xw_M → xP) m, I m → (∀ m', I m' → mu m' < mu m → r m' = G m') → F r m = G m) : ∀ n m, I m → mu m < n → xl0 F n m = G m := by
  intro n
  induction n with
  | zero => intro m _ hm; omega
  | succ n ih => exact fun m hi hm => h _ m hi (fun m' hi' hm' => ih m' hi' (by omega))
theorem xl1_eq {F : (Int → xw_M → xP) → Int → xw_M → xP} (G : Int → xw_M → xP) (I : Int → xw_M → Prop) (mu : Int → xw_M → Nat) (h : ∀ (r : Int → xw_M → xP) x0 m, I x0 m → (∀ y0 m', I y0 m' → mu y0 m' < mu x0 m → r y0 m' = G y0 m') → F r x0 m = G x0 m) : ∀ n x0 m, I x0 m → mu x0 m < n → xl1 F n x0 m = G x0 m := by
  intro n
  induction n with
  | zero => intro x0 m _ hm; omega
  | succ n ih => exact fun x0 m hi hm => h _ x0 m hi (fun y0 m' hi' hm' => ih y0 m' hi' (by omega))
theorem xl2_eq {F : (Int → Int → xw_M → xP) → Int → Int → xw_M → xP} (G : Int → Int → xw_M → xP) (I : Int → Int → xw_M → Prop) (mu : Int → Int → xw_M → Nat) (h : ∀ (r : Int → Int → xw_M → xP) x0 x1 m, I x0 x1 m → (∀ y0 y1 m', I y0 y1 m' → mu y0 y1 m' < mu x0 x1 m → r y0 y1 m' = G y0 y1 m') → F r x0 x1 m = G x0 x1 m) : ∀ n x0 x1 m, I x0 x1 m → mu x0 x1 m < n → xl2 F n x0 x1 m = G x0 x1 m := by
  intro n
  induction n with
  | zero => intro x0 x1 m _ hm; omega
  | succ n ih => exact fun x0 x1 m hi hm => h _ x0 x1 m hi (fun y0 y1 m' hi' hm' => ih y0 y1 m' hi' (by omega))
theorem xl3_eq {F : (Int → Int → Int → xw_M → xP) → Int → Int → Int → xw_M → xP} (G : Int → Int → Int → xw_M → xP) (I : Int → Int → Int → xw_M → Prop) (mu : Int → Int → Int → xw_M → Nat) (h : ∀ (r : Int → Int → Int → xw_M → xP) x0 x1 x2 m, I x0 x1 x2 m → (∀ y0 y1 y2 m', I y0 y1 y2 m' → mu y0 y1 y2 m' < mu x0 x1 x2 m → r y0 y1 y2 m' = G y0 y1 y2 m') → F r x0 x1 x2 m = G x0 x1 x2 m) : ∀ n x0 x1 x2 m, I x0 x1 x2 m → mu x0 x1 x2 m < n → xl3 F n x0 x1 x2 m = G x0 x1 x2 m := by
  intro n
  induction n with
  | zero => intro x0 x1 x2 m _ hm; omega
  | succ n ih => exact fun x0 x1 x2 m hi hm => h _ x0 x1 x2 m hi (fun y0 y1 y2 m' hi' hm' => ih y0 y1 y2 m' hi' (by omega))
theorem xl4_eq {F : (Int → Int → Int → Int → xw_M → xP) → Int → Int → Int → Int → xw_M → xP} (G : Int → Int → Int → Int → xw_M → xP) (I : Int → Int → Int → Int → xw_M → Prop) (mu : Int → Int → Int → Int → xw_M → Nat) (h : ∀ (r : Int → Int → Int → Int → xw_M → xP) x0 x1 x2 x3 m, I x0 x1 x2 x3 m → (∀ y0 y1 y2 y3 m', I y0 y1 y2 y3 m' → mu y0 y1 y2 y3 m' < mu x0 x1 x2 x3 m → r y0 y1 y2 y3 m' = G y0 y1 y2 y3 m') → F r x0 x1 x2 x3 m = G x0 x1 x2 x3 m) : ∀ n x0 x1 x2 x3 m, I x0 x1 x2 x3 m → mu x0 x1 x2 x3 m < n → xl4 F n x0 x1 x2 x3 m = G x0 x1 x2 x3 m := by
  intro n
  induction n with
  | zero => intro x0 x1 x2 x3 m _ hm; omega
  | succ n ih => exact fun x0 x1 x2 x3 m hi hm => h _ x0 x1 x2 x3 m hi (fun y0 y1 y2 y3 m' hi' hm' => ih y0 y1 y2 y3 m' hi' (by omega))
theorem xl5_eq {F : (Int → Int → Int → Int → Int → xw_M → xP) → Int → Int → Int → Int → Int → xw_M → xP} (G : Int → Int → Int → Int → Int → xw_M → xP) (I : Int → Int → Int → Int → Int → xw_M → Prop) (mu : Int → Int → Int → Int → Int → xw_M → Nat) (h : ∀ (r : Int → Int → Int → Int → Int → xw_M → xP) x0 x1 x2 x3 x4 m, I x0 x1 x2 x3 x4 m → (∀ y0 y1 y2 y3 y4 m', I y0 y1 y2 y3 y4 m' → mu y0 y1 y2 y3 y4 m' < mu x0 x1 x2 x3 x4 m → r y0 y1 y2 y3 y4 m' = G y0 y1 y2 y3 y4 m') → F r x0 x1 x2 x3 x4 m = G x0 x1 x2 x3 x4 m) : ∀ n x0 x1 x2 x3 x4 m, I x0 x1 x2 x3 x4 m → mu x0 x1 x2 x3 x4 m < n → xl5 F n x0 x1 x2 x3 x4 m = G x0 x1 x2 x3 x4 m := by
  intro n
  induction n with
  | zero => intro x0 x1 x2 x3 x4 m _ hm; omega
  | succ n ih => exact fun x0 x1 x2 x3 x4 m hi hm => h _ x0 x1 x2 x3 x4 m hi (fun y0 y1 y2 y3 y4 m' hi' hm' => ih y0 y1 y2 y3 y4 m' hi' (by omega))
theorem xl6_eq {F : (Int → Int → Int → Int → Int → Int → xw_M → xP) → Int → Int → Int → Int → Int → Int → xw_M → xP} (G : Int → Int → Int → Int → Int → Int → xw_M → xP) (I : Int → Int → Int → Int → Int → Int → xw_M → Prop) (mu : Int → Int → Int → Int → Int → Int → xw_M → Nat) (h : ∀ (r : Int → Int → Int → Int → Int → Int → xw_M → xP) x0 x1 x2 x3 x4 x5 m, I x0 x1 x2 x3 x4 x5 m → (∀ y0 y1 y2 y3 y4 y5 m', I y0 y1 y2 y3 y4 y5 m' → mu y0 y1 y2 y3 y4 y5 m' < mu x0 x1 x2 x3 x4 x5 m → r y0 y1 y2 y3 y4 y5 m' = G y0 y1 y2 y3 y4 y5 m') → F r x0 x1 x2 x3 x4 x5 m = G x0 x1 x2 x3 x4 x5 m) : ∀ n x0 x1 x2 x3 x4 x5 m, I x0 x1 x2 x3 x4 x5 m → mu x0 x1 x2 x3 x4 x5 m < n → xl6 F n x0 x1 x2 x3 x4 x5 m = G x0 x1 x2 x3 x4 x5 m := by
  intro n
  induction n with
  | zero => intro x0 x1 x2 x3 x4 x5 m _ hm; omega
  | succ n ih => exact fun x0 x1 x2 x3 x4 x5 m hi hm => h _ x0 x1 x2 x3 x4 x5 m hi (fun y0 y1 y2 y3 y4 y5 m' hi' hm' => ih y0 y1 y2 y3 y4 y5 m' hi' (by omega))
theorem xl7_eq {F : (Int → Int → Int → Int → Int → Int → Int → xw_M → xP) → Int → Int → Int → Int → Int → Int → Int → xw_M → xP} (G : Int → Int → Int → Int → Int → Int → Int → xw_M → xP) (I : Int → Int → Int → Int → Int → Int → Int → xw_M → Prop) (mu : Int → Int → Int → Int → Int → Int → Int → xw_M → Nat) (h : ∀ (r : Int → Int → Int → Int → Int → Int → Int → xw_M → xP) x0 x1 x2 x3 x4 x5 x6 m, I x0 x1 x2 x3 x4 x5 x6 m → (∀ y0 y1 y2 y3 y4 y5 y6 m', I y0 y1 y2 y3 y4 y5 y6 m' → mu y0 y1 y2 y3 y4 y5 y6 m' < mu x0 x1 x2 x3 x4 x5 x6 m → r y0 y1 y2 y3 y4 y5 y6 m' = G y0 y1 y2 y3 y4 y5 y6 m') → F r x0 x1 x2 x3 x4 x5 x6 m = G x0 x1 x2 x3 x4 x5 x6 m) : ∀ n x0 x1 x2 x3 x4 x5 x6 m, I x0 x1 x2 x3 x4 x5 x6 m → mu x0 x1 x2 x3 x4 x5 x6 m < n → xl7 F n x0 x1 x2 x3 x4 x5 x6 m = G x0 x1 x2 x3 x4 x5 x6 m := by
  intro n
  induction n with
  | zero => intro x0 x1 x2 x3 x4 x5 x6 m _ hm; omega
  | succ n ih => exact fun x0 x1 x2 x3 x4 x5 x6 m hi hm => h _ x0 x1 x2 x3 x4 x5 x6 m hi (fun y0 y1 y2 y3 y4 y5 y6 m' hi' hm' => ih y0 y1 y2 y3 y4 y5 y6 m' hi' (by omega))
theorem xl8_eq {F : (Int → Int → Int → Int → Int → Int → Int → Int → xw_M → xP) → Int → Int → Int → Int → Int → Int → Int → Int → xw_M → xP} (G : Int → Int → Int → Int → Int → Int → Int → Int → xw_M → xP) (I : Int → Int → Int → Int → Int → Int → Int → Int → xw_M → Prop) (mu : Int → Int → Int → Int → Int → Int → Int → Int → xw_M → Nat) (h : ∀ (r : Int → Int → Int → Int → Int → Int → Int → Int → xw_M → xP) x0 x1 x2 x3 x4 x5 x6 x7 m, I x0 x1 x2 x3 x4 x5 x6 x7 m → (∀ y0 y1 y2 y3 y4 y5 y6 y7 m', I y0 y1 y2 y3 y4 y5 y6 y7 m' → mu y0 y1 y2 y3 y4 y5 y6 y7 m' < mu x0 x1 x2 x3 x4 x5 x6 x7 m → r y0 y1 y2 y3 y4 y5 y6 y7 m' = G y0 y1 y2 y3 y4 y5 y6 y7 m') → F r x0 x1 x2 x3 x4 x5 x6 x7 m = G x0 x1 x2 x3 x4 x5 x6 x7 m) : ∀ n x0 x1 x2 x3 x4 x5 x6 x7 m, I x0 x1 x2 x3 x4 x5 x6 x7 m → mu x0 x1 x2 x3 x4 x5 x6 x7 m < n → xl8 F n x0 x1 x2 x3 x4 x5 x6 x7 m = G x0 x1 x2 x3 x4 x5 x6 x7 m := by
  intro n
  induction n with
  | zero => intro x0 x1 x2 x3 x4 x5 x6 x7 m _ hm; omega
  | succ n ih => exact fun x0 x1 x2 x3 x4 x5 x6 x7 m hi hm => h _ x0 x1 x2 x3 x4 x5 x6 x7 m hi (fun y0 y1 y2 y3 y4 y5 y6 y7 m' hi' hm' => ih y0 y1 y2 y3 y4 y5 y6 y7 m' hi' (by omega))
theorem xl9_eq {F : (Int → Int → Int → Int → Int → Int → Int → Int → Int → xw_M → xP) → Int → Int → Int → Int → Int → Int → Int → Int → Int → xw_M → xP} (G : Int → Int → Int → Int → Int → Int → Int → Int → Int → xw_M → xP) (I : Int → Int → Int → Int → Int → Int → Int → Int → Int → xw_M → Prop) (mu : Int → Int → Int → Int → Int → Int → Int → Int → Int → xw_M → Nat) (h : ∀ (r : Int → Int → Int → Int → Int → Int → Int → Int → Int → xw_M → xP) x0 x1 x2 x3 x4 x5 x6 x7 x8 m, I x0 x1 x2 x3 x4 x5 x6 x7 x8 m → (∀ y0 y1 y2 y3 y4 y5 y6 y7 y8 m', I y0 y1 y2 y3 y4 y5 y6 y7 y8 m' → mu y0 y1 y2 y3 y4 y5 y6 y7 y8 m' < mu x0 x1 x2 x3 x4 x5 x6 x7 x8 m → r y0 y1 y2 y3 y4 y5 y6 y7 y8 m' = G y0 y1 y2 y3 y4 y5 y6 y7 y8 m') → F r x0 x1 x2 x3 x4 x5 x6 x7 x8 m = G x0 x1 x2 x3 x4 x5 x6 x7 x8 m) : ∀ n x0 x1 x2 x3 x4 x5 x6 x7 x8 m, I x0 x1 x2 x3 x4 x5 x6 x7 x8 m → mu x0 x1 x2 x3 x4 x5 x6 x7 x8 m < n → xl9 F n x0 x1 x2 x3 x4 x5 x6 x7 x8 m = G x0 x1 x2 x3 x4 x5 x6 x7 x8 m := by
  intro n
  induction n with
  | zero => intro x0 x1 x2 x3 x4 x5 x6 x7 x8 m _ hm; omega
  | succ n ih => exact fun x0 x1 x2 x3 x4 x5 x6 x7 x8 m hi hm => h _ x0 x1 x2 x3 x4 x5 x6 x7 x8 m hi (fun y0 y1 y2 y3 y4 y5 y6 y7 y8 m' hi' hm' => ih y0 y1 y2 y3 y4 y5 y6 y7 y8 m' hi' (by omega))
theorem xl10_eq {F : (Int → Int → Int → Int → Int → Int → Int → Int → Int → Int → xw_M → xP) → Int → Int → Int → Int → Int → Int → Int → Int → Int → Int → xw_M → xP} (G : Int → Int → Int → Int → Int → Int → Int → Int → Int → Int → xw_M → xP) (I : Int → Int → Int → Int → Int → Int → Int → Int → Int → Int → xw_M → Prop) (mu : Int → Int → Int → Int → Int → Int → Int → Int → Int → Int → xw_M → Nat) (h : ∀ (r : Int → Int → Int → Int → Int → Int → Int → Int → Int → Int → xw_M → xP) x0 x1 x2 x3 x4 x5 x6 x7 x8 x9 m, I x0 x1 x2 x3 x4 x5 x6 x7 x8 x9 m → (∀ y0 y1 y2 y3 y4 y5 y6 y7 y8 y9 m', I y0 y1 y2 y3 y4 y5 y6 y7 y8 y9 m' → mu y0 y1 y2 y3 y4 y5 y6 y7 y8 y9 m' < mu x0 x1 x2 x3 x4 x5 x6 x7 x8 x9 m → r y0 y1 y2 y3 y4 y5 y6 y7 y8 y9 m' = G y0 y1 y2 y3 y4 y5 y6 y7 y8 y9 m') → F r x0 x1 x2 x3 x4 x5 x6 x7 x8 x9 m = G x0 x1 x2 x3 x4 x5 x6 x7 x8 x9 m) : ∀ n x0 x1 x2 x3 x4 x5 x6 x7 x8 x9 m, I x0 x1 x2 x3 x4 x5 x6 x7 x8 x9 m → mu x0 x1 x2 x3 x4 x5 x6 x7 x8 x9 m < n → xl10 F n x0 x1 x2 x3 x4 x5 x6 x7 x8 x9 m = G x0 x1 x2 x3 x4 x5 x6 x7 x8 x9 m := by
  intro n
  induction n with
  | zero => intro x0 x1 x2 x3 x4 x5 x6 x7 x8 x9 m _ hm; omega
  | succ n ih => exact fun x0 x1 x2 x3 x4 x5 x6 x7 x8 x9 m hi hm => h _ x0 x1 x2 x3 x4 x5 x6 x7 x8 x9 m hi (fun y0 y1 y2 y3 y4 y5 y6 y7 y8 y9 m' hi' hm' => ih y0 y1 y2 y3 y4 y5 y6 y7 y8 y9 m' hi' (by omega))
theorem xl11_eq {F : (Int → Int → Int → Int → Int → Int → Int → Int → Int → Int → Int → xw_M → xP) → Int → Int → Int → Int → Int → Int → Int → Int → Int → Int → Int → xw_M → xP} (G : Int → Int → Int → Int → Int → Int → Int → Int → Int → Int → Int → xw_M → xP) (I : Int → Int → Int → Int → Int → Int → Int → Int → Int → Int → Int → xw_M → Prop) (mu : Int → Int → Int → Int → Int → Int → Int → Int → Int → Int → Int → xw_M → Nat) (h : ∀ (r : Int → Int → Int → Int → Int → Int → Int → Int → Int → Int → Int → xw_M → xP) x0 x1 x2 x3 x4 x5 x6 x7 x8 x9 x10 m, I x0 x1 x2 x3 x4 x5 x6 x7 x8 x9 x10 m → (∀ y0 y1 y2 y3 y4 y5 y6 y7 y8 y9 y10 m', I y0 y1 y2 y3 y4 y5 y6 y7 y8 y9 y10 m' → mu y0 y1 y2 y3 y4 y5 y6 y7 y8 y9 y10 m' < mu x0 x1 x2 x3 x4 x5 x6 x7 x8 x9 x10 m → r y0 y1 y2 y3 y4 y5 y6 y7 y8 y9 y10 m' = G y0 y1 y2 y3 y4 y5 y6 y7 y8 y9 y10 m') → F r x0 x1 x2 x3 x4 x5 x6 x7 x8 x9 x10 m = G x0 x1 x2 x3 x4 x5 x6 x7 x8 x9 x10 m) : ∀ n x0 x1 x2 x3 x4 x5 x6 x7 x8 x9 x10 m, I x0 x1 x2 x3 x4 x5 x6 x7 x8 x9 x10 m → mu x0 x1 x2 x3 x4 x5 x6 x7 x8 x9 x10 m < n → xl11 F n x0 x1 x2 x3 x4 x5 x6 x7 x8 x9 x10 m = G x0 x1 x2 x3 x4 x5 x6 x7 x8 x9 x10 m := by
  intro n
  induction n with
  | zero => intro x0 x1 x2 x3 x4 x5 x6 x7 x8 x9 x10 m _ hm; omega
  | succ n ih => exact fun x0 x1 x2 x3 x4 x5 x6 x7 x8 x9 x10 m hi hm => h _ x0 x1 x2 x3 x4 x5 x6 x7 x8 x9 x10 m hi (fun y0 y1 y2 y3 y4 y5 y6 y7 y8 y9 y10 m' hi' hm' => ih y0 y1 y2 y3 y4 y5 y6 y7 y8 y9 y10 m' hi' (by omega))
theorem xl12_eq {F : (Int → Int → Int → Int → Int → Int → Int → Int → Int → Int → Int → Int → xw_M → xP) → Int → Int → Int → Int → Int → Int → Int → Int → Int → Int → Int → Int → xw_M → xP} (G : Int → Int → Int → Int → Int → Int → Int → Int → Int → Int → Int → Int → xw_M → xP) (I : Int → Int → Int → Int → Int → Int → Int → Int → Int → Int → Int → Int → xw_M → Prop) (mu : Int → Int → Int → Int → Int → Int → Int → Int → Int → Int → Int → Int → xw_M → Nat) (h : ∀ (r : Int → Int → Int → Int → Int → Int → Int → Int → Int → Int → Int → Int → xw_M → xP) x0 x1 x2 x3 x4 x5 x6 x7 x8 x9 x10 x11 m, I x0 x1 x2 x3 x4 x5 x6 x7 x8 x9 x10 x11 m → (∀ y0 y1 y2 y3 y4 y5 y6 y7 y8 y9 y10 y11 m', I y0 y1 y2 y3 y4 y5 y6 y7 y8 y9 y10 y11 m' → mu y0 y1 y2 y3 y4 y5 y6 y7 y8 y9 y10 y11 m' < mu x0 x1 x2 x3 x4 x5 x6 x7 x8 x9 x10 x11 m → r y0 y1 y2 y3 y4 y5 y6 y7 y8 y9 y10 y11 m' = G y0 y1 y2 y3 y4 y5 y6 y7 y8 y9 y10 y11 m') → F r x0 x1 x2 x3 x4 x5 x6 x7 x8 x9 x10 x11 m = G x0 x1 x2 x3 x4 x5 x6 x7 x8 x9 x10 x11 m) : ∀ n x0 x1 x2 x3 x4 x5 x6 x7 x8 x9 x10 x11 m, I x0 x1 x2 x3 x4 x5 x6 x7 x8 x9 x10 x11 m → mu x0 x1 x2 x3 x4 x5 x6 x7 x8 x9 x10 x11 m < n → xl12 F n x0 x1 x2 x3 x4 x5 x6 x7 x8 x9 x10 x11 m = G x0 x1 x2 x3 x4 x5 x6 x7 x8 x9 x10 x11 m := by
  intro n
  induction n with
  | zero => intro x0 x1 x2 x3 x4 x5 x6 x7 x8 x9 x10 x11 m _ hm; omega
  | succ n ih => exact fun x0 x1 x2 x3 x4 x5 x6 x7 x8 x9 x10 x11 m hi hm => h _ x0 x1 x2 x3 x4 x5 x6 x7 x8 x9 x10 x11 m hi (fun y0 y1 y2 y3 y4 y5 y6 y7 y8 y9 y10 y11 m' hi' hm' => ih y0 y1 y2 y3 y4 y5 y6 y7 y8 y9 y10 y11 m' hi' (by omega))
theorem xl13_eq {F : (Int → Int → Int → Int → Int → Int → Int → Int → Int → Int → Int → Int → Int → xw_M → xP) → Int → Int → Int → Int → Int → Int → Int → Int → Int → Int → Int → Int → Int → xw_M → xP} (G : Int → Int → Int → Int → Int → Int → Int → Int → Int → Int → Int → Int → Int → xw_M → xP) (I : Int → Int → Int → Int → Int → Int → Int → Int → Int → Int → Int → Int → Int → xw_M → Prop) (mu : Int → Int → Int → Int → Int → Int → Int → Int → Int → Int → Int → Int → Int → xw_M → Nat) (h : ∀ (r : Int → Int → Int → Int → Int → Int → Int → Int → Int → Int → Int → Int → Int → xw_M → xP) x0 x1 x2 x3 x4 x5 x6 x7 x8 x9 x10 x11 x12 m, I x0 x1 x2 x3 x4 x5 x6 x7 x8 x9 x10 x11 x12 m → (∀ y0 y1 y2 y3 y4 y5 y6 y7 y8 y9 y10 y11 y12 m', I y0 y1 y2 y3 y4 y5 y6 y7 y8 y9 y10 y11 y12 m' → mu y0 y1 y2 y3 y4 y5 y6 y7 y8 y9 y10 y11 y12 m' < mu x0 x1 x2 x3 x4 x5 x6 x7 x8 x9 x10 x11 x12 m → r y0 y1 y2 y3 y4 y5 y6 y7 y8 y9 y10 y11 y12 m' = G y0 y1 y2 y3 y4 y5 y6 y7 y8 y9 y10 y11 y12 m') → F r x0 x1 x2 x3 x4 x5 x6 x7 x8 x9 x10 x11 x12 m = G x0 x1 x2 x3 x4 x5 x6 x7 x8 x9 x10 x11 x12 m) : ∀ n x0 x1 x2 x3 x4 x5 x6 x7 x8 x9 x10 x11 x12 m, I x0 x1 x2 x3 x4 x5 x6 x7 x8 x9 x10 x11 x12 m → mu x0 x1 x2 x3 x4 x5 x6 x7 x8 x9 x10 x11 x12 m < n → xl13 F n x0 x1 x2 x3 x4 x5 x6 x7 x8 x9 x10 x11 x12 m = G x0 x1 x2 x3 x4 x5 x6 x7 x8 x9 x10 x11 x12 m := by
  intro n
  induction n with
  | zero => intro x0 x1 x2 x3 x4 x5 x6 x7 x8 x9 x10 x11 x12 m _ hm; omega
  | succ n ih => exact fun x0 x1 x2 x3 x4 x5 x6 x7 x8 x9 x10 x11 x12 m hi hm => h _ x0 x1 x2 x3 x4 x5 x6 x7 x8 x9 x10 x11 x12 m hi (fun y0 y1 y2 y3 y4 y5 y6 y7 y8 y9 y10 y11 y12 m' hi' hm' => ih y0 y1 y2 y3 y4 y5 y6 y7 y8 y9 y10 y11 y12 m' hi' (by omega))
def xfill (m : xw_M) (a i n v : Int) : xw_M := fun a' k => if a' = a ∧ i ≤ k ∧ k < n then v else m a' k
theorem xfill_ne {m : xw_M} {a i n v a' : Int} (h : a' ≠ a) : xfill m a i n v a' = m a' := by
  funext k
  unfold xfill
  rw [if_neg (fun e => h e.1)]
theorem xfill_at {m : xw_M} {a i n v k : Int} (h : i ≤ k) (h2 : k < n) : xfill m a i n v a k = v := if_pos ⟨rfl, h, h2⟩
theorem xfill_out {m : xw_M} {a i n v k : Int} (h : k < i ∨ n ≤ k) : xfill m a i n v a k = m a k := if_neg (fun e => by omega)
theorem xfill_0 {m : xw_M} {a i n v : Int} (h : n ≤ i) : xfill m a i n v = m := by
  funext a' k
  unfold xfill
  rw [if_neg (by omega)]
theorem xfill_s {m : xw_M} {a i n v : Int} (h : i < n) : xfill (xw_u m a i v) a (i + 1) n v = xfill m a i n v := by
  funext a' k
  unfold xfill xw_u
  by_cases h1 : a' = a
  · by_cases h2 : k = i
    · rw [if_neg (by omega), if_pos ⟨h1, h2⟩, if_pos ⟨h1, by omega, by omega⟩]
    · by_cases h3 : i ≤ k ∧ k < n
      · rw [if_pos ⟨h1, by omega, h3.2⟩, if_pos ⟨h1, h3⟩]
      · rw [if_neg (fun e => h3 ⟨by omega, e.2.2⟩), if_neg (fun e => h2 e.2), if_neg (fun e => h3 e.2)]
  · rw [if_neg (fun e => h1 e.1), if_neg (fun e => h1 e.1), if_neg (fun e => h1 e.1)]
theorem fl132 {B : Nat} {a n v : Int} (ha : xw_obb 16 a = true) (hn : n ≤ xw_le B a) (hl : xw_le B a ≤ 999999) : ∀ (i : Int) (m : xw_M), 0 ≤ i → xl4 (yl132_10 B) 1000000 a n v i m = some (.inl 0, xfill m a i n v) := by
  intro i m h0
  refine xl4_eq (fun x0 x1 x2 x3 m => some (.inl 0, xfill m a x3 n v)) (fun x0 x1 x2 x3 _ => x0 = a ∧ x1 = n ∧ x2 = v ∧ 0 ≤ x3) (fun x0 x1 x2 x3 _ => (n - x3).toNat) ?_ 1000000 a n v i m ⟨rfl, rfl, rfl, h0⟩ (by omega)
  intro r x0 x1 x2 x3 m ⟨ea, en, ev, h0⟩ ih
  subst ea en ev
  unfold yl132_10
  by_cases hc : x3 < x1
  · rw [if_pos hc, if_pos ⟨h0, by omega⟩, if_pos ha, w32_id (by omega) (by omega), ih _ _ _ _ _ ⟨rfl, rfl, rfl, by omega⟩ (by omega), xfill_s hc]
  · rw [if_neg hc, xfill_0 (by omega)]
theorem fill132 {B : Nat} {a i n v : Int} {m : xw_M} (ha : xw_obb 16 a = true) (h0 : 0 ≤ i) (hi : i ≤ n) (hn : n ≤ xw_le B a) (hl : xw_le B a ≤ 999999) : yf132 B a i n v m = some (.inl 0, xfill m a i n v) := by
  unfold yf132 yf121
  rw [if_pos ha, w32_id (by omega) (by omega), if_neg (by omega), if_neg (by omega), if_neg (by omega)]
  exact fl132 ha hn hl i m h0
theorem fl120 {B : Nat} {a n v : Int} (ha : xw_obb 17 a = true) (hn : n ≤ xw_le B a) (hl : xw_le B a ≤ 999999) : ∀ (i : Int) (m : xw_M), 0 ≤ i → xl4 (yl120_10 B) 1000000 a n v i m = some (.inl 0, xfill m a i n v) := by
  intro i m h0
  refine xl4_eq (fun x0 x1 x2 x3 m => some (.inl 0, xfill m a x3 n v)) (fun x0 x1 x2 x3 _ => x0 = a ∧ x1 = n ∧ x2 = v ∧ 0 ≤ x3) (fun x0 x1 x2 x3 _ => (n - x3).toNat) ?_ 1000000 a n v i m ⟨rfl, rfl, rfl, h0⟩ (by omega)
  intro r x0 x1 x2 x3 m ⟨ea, en, ev, h0⟩ ih
  subst ea en ev
  unfold yl120_10
  by_cases hc : x3 < x1
  · rw [if_pos hc, if_pos ⟨h0, by omega⟩, if_pos ha, w32_id (by omega) (by omega), ih _ _ _ _ _ ⟨rfl, rfl, rfl, by omega⟩ (by omega), xfill_s hc]
  · rw [if_neg hc, xfill_0 (by omega)]
theorem fill120 {B : Nat} {a i n v : Int} {m : xw_M} (ha : xw_obb 17 a = true) (h0 : 0 ≤ i) (hi : i ≤ n) (hn : n ≤ xw_le B a) (hl : xw_le B a ≤ 999999) : yf120 B a i n v m = some (.inl 0, xfill m a i n v) := by
  unfold yf120 yf121
  rw [if_pos ha, w32_id (by omega) (by omega), if_neg (by omega), if_neg (by omega), if_neg (by omega)]
  exact fl120 ha hn hl i m h0
theorem fl31 {B : Nat} {a n v : Int} (ha : xw_obb 16 a = true) (hn : n ≤ xw_le B a) (hl : xw_le B a ≤ 999999) : ∀ (i : Int) (m : xw_M), 0 ≤ i → xl4 (yl31_5 B) 1000000 a v i n m = some (.inl 0, xfill m a i n v) := by
  intro i m h0
  refine xl4_eq (fun x0 x1 x2 x3 m => some (.inl 0, xfill m a x2 n v)) (fun x0 x1 x2 x3 _ => x0 = a ∧ x3 = n ∧ x1 = v ∧ 0 ≤ x2) (fun x0 x1 x2 x3 _ => (n - x2).toNat) ?_ 1000000 a v i n m ⟨rfl, rfl, rfl, h0⟩ (by omega)
  intro r x0 x1 x2 x3 m ⟨ea, en, ev, h0⟩ ih
  subst ea en ev
  unfold yl31_5
  by_cases hc : x2 < x3
  · rw [if_pos hc, if_pos ⟨h0, by omega⟩, if_pos ha, w32_id (by omega) (by omega), ih _ _ _ _ _ ⟨rfl, rfl, rfl, by omega⟩ (by omega), xfill_s hc]
  · rw [if_neg hc, xfill_0 (by omega)]
theorem fill31 {B : Nat} {a v : Int} {m : xw_M} (ha : xw_obb 16 a = true) (h0 : 0 ≤ xw_le B a) (hl : xw_le B a ≤ 999999) : yf31 B a v m = some (.inl 0, xfill m a 0 (xw_le B a) v) := by
  unfold yf31
  rw [if_pos ha, w32_id (by omega) (by omega)]
  exact fl31 ha (Int.le_refl _) hl 0 m (Int.le_refl _)
theorem fl32 {B : Nat} {a n v : Int} (ha : xw_obb 17 a = true) (hn : n ≤ xw_le B a) (hl : xw_le B a ≤ 999999) : ∀ (i : Int) (m : xw_M), 0 ≤ i → xl4 (yl32_6 B) 1000000 a v i n m = some (.inl 0, xfill m a i n v) := by
  intro i m h0
  refine xl4_eq (fun x0 x1 x2 x3 m => some (.inl 0, xfill m a x2 n v)) (fun x0 x1 x2 x3 _ => x0 = a ∧ x3 = n ∧ x1 = v ∧ 0 ≤ x2) (fun x0 x1 x2 x3 _ => (n - x2).toNat) ?_ 1000000 a v i n m ⟨rfl, rfl, rfl, h0⟩ (by omega)
  intro r x0 x1 x2 x3 m ⟨ea, en, ev, h0⟩ ih
  subst ea en ev
  unfold yl32_6
  by_cases hc : x2 < x3
  · rw [if_pos hc, if_pos ⟨h0, by omega⟩, if_pos ha, w32_id (by omega) (by omega), ih _ _ _ _ _ ⟨rfl, rfl, rfl, by omega⟩ (by omega), xfill_s hc]
  · rw [if_neg hc, xfill_0 (by omega)]
theorem fill32 {B : Nat} {a v : Int} {m : xw_M} (ha : xw_obb 17 a = true) (h0 : 0 ≤ xw_le B a) (hl : xw_le B a ≤ 999999) : yf32 B a v m = some (.inl 0, xfill m a 0 (xw_le B a) v) := by
  unfold yf32
  rw [if_pos ha, w32_id (by omega) (by omega)]
  exact fl32 ha (Int.le_refl _) hl 0 m (Int.le_refl _)
theorem fl76 {B : Nat} {a n v : Int} (hv : w8 v = v) (ha : xw_obb 18 a = true) (hn : n ≤ xw_le B a) (hl : xw_le B a ≤ 999999) : ∀ (i : Int) (m : xw_M), 0 ≤ i → xl4 (yl76_5 B) 1000000 a v i n m = some (.inl 0, xfill m a i n v) := by
  intro i m h0
  refine xl4_eq (fun x0 x1 x2 x3 m => some (.inl 0, xfill m a x2 n v)) (fun x0 x1 x2 x3 _ => x0 = a ∧ x3 = n ∧ x1 = v ∧ 0 ≤ x2) (fun x0 x1 x2 x3 _ => (n - x2).toNat) ?_ 1000000 a v i n m ⟨rfl, rfl, rfl, h0⟩ (by omega)
  intro r x0 x1 x2 x3 m ⟨ea, en, ev, h0⟩ ih
  subst ea en ev
  unfold yl76_5
  by_cases hc : x2 < x3
  · rw [if_pos hc, if_pos ⟨h0, by omega⟩, if_pos ha, w32_id (by omega) (by omega), hv, ih _ _ _ _ _ ⟨rfl, rfl, rfl, by omega⟩ (by omega), xfill_s hc]
  · rw [if_neg hc, xfill_0 (by omega)]
theorem fill76 {B : Nat} {a v : Int} {m : xw_M} (hv : w8 v = v) (ha : xw_obb 18 a = true) (h0 : 0 ≤ xw_le B a) (hl : xw_le B a ≤ 999999) : yf76 B a v m = some (.inl 0, xfill m a 0 (xw_le B a) v) := by
  unfold yf76
  rw [if_pos ha, w32_id (by omega) (by omega)]
  exact fl76 hv ha (Int.le_refl _) hl 0 m (Int.le_refl _)
