/-! the check of a row of the program by computing -/
def xt_lkb (y : MethodName) (pc : Nat) (E : xm_E) (z : Nat) : Bool := match E.1 with
  | .ifCond _ off => decide ((pc : Int) + off = (E.2.2.1 : Int))
  | .if_icmp _ off => decide ((pc : Int) + off = (E.2.2.1 : Int))
  | .goto off => decide ((pc : Int) + off = (E.2.2.1 : Int))
  | .ifnonnull off => decide ((pc : Int) + off = (E.2.2.1 : Int))
  | .ldc i => (decide (E.2.2.1 = 0) && xt_at (.constant y.cls i (Int32.ofNat E.2.2.2)) z) || (decide (E.2.2.1 = 1) && (decide (y.cls = (xt_sr E.2.2.2).1) && decide (i = (xt_sr E.2.2.2).2.1)))
  | .ldc2_w i => xt_at (.constantLong y.cls i (Int64.ofNat E.2.2.2)) z
  | .ldc_w i => xt_at (.constant y.cls i (Int32.ofNat E.2.2.2)) z
  | .getfield i => decide (E.2.2.1 < 14) && (decide (E.2.2.2 < xt_N E.2.2.1) && (xt_at (.fieldLink y.cls i (xt_F E.2.2.1 E.2.2.2).1 (xt_F E.2.2.1 E.2.2.2).2.1 (xt_F E.2.2.1 E.2.2.2).2.2.1) z || xt_at (.fieldLinkNest y.cls i (xt_F E.2.2.1 E.2.2.2).1 (xt_F E.2.2.1 E.2.2.2).2.1 (xt_F E.2.2.1 E.2.2.2).2.2.1 (xt_host y.cls)) z))
  | .putfield i => decide (E.2.2.1 < 14) && (decide (E.2.2.2 < xt_N E.2.2.1) && ((xt_at (.fieldLink y.cls i (xt_F E.2.2.1 E.2.2.2).1 (xt_F E.2.2.1 E.2.2.2).2.1 (xt_F E.2.2.1 E.2.2.2).2.2.1) z || xt_at (.fieldLinkNest y.cls i (xt_F E.2.2.1 E.2.2.2).1 (xt_F E.2.2.1 E.2.2.2).2.1 (xt_F E.2.2.1 E.2.2.2).2.2.1 (xt_host y.cls)) z) &&
      (!(xt_F E.2.2.1 E.2.2.2).2.2.2 || (decide (y.name = "<init>") && (decide ((xt_F E.2.2.1 E.2.2.2).1 = y.cls) && xt_at (.fieldLink y.cls i (xt_F E.2.2.1 E.2.2.2).1 (xt_F E.2.2.1 E.2.2.2).2.1 (xt_F E.2.2.1 E.2.2.2).2.2.1) z)))))
  | .new i => decide (E.2.2.1 < 16) && xt_at (.classLink y.cls i (xt_cn E.2.2.1)) z
  | .anewarray i => xt_at (.classLink y.cls i "CubeStore$Dimension") z
  | .multianewarray i _ => decide (20 ≤ E.2.2.1) && (decide (E.2.2.1 < 23) && xt_at (.classLink y.cls i ("[" ++ (xt_el E.2.2.1).toString)) z)
  | _ => true
theorem xt_lkb_ok {y : MethodName} {pc : Nat} {E : xm_E} {z : Nat} (h : xt_lkb y pc E z = true) : xt_lk y pc E := by
  obtain ⟨i, len, a, b⟩ := E
  cases i with
  | ifCond c off => exact (of_decide_eq_true (p := (pc : Int) + off = (a : Int)) h)
  | if_icmp c off => exact (of_decide_eq_true (p := (pc : Int) + off = (a : Int)) h)
  | goto off => exact (of_decide_eq_true (p := (pc : Int) + off = (a : Int)) h)
  | ifnonnull off => exact (of_decide_eq_true (p := (pc : Int) + off = (a : Int)) h)
  | ldc i =>
    unfold xt_lkb at h
    dsimp only at h
    rw [Bool.or_eq_true, Bool.and_eq_true, Bool.and_eq_true, Bool.and_eq_true] at h
    rcases h with ⟨h1, h2⟩ | ⟨h1, h2, h3⟩
    · exact Or.inl ⟨of_decide_eq_true h1, xt_at_mem h2⟩
    · exact Or.inr ⟨of_decide_eq_true h1, of_decide_eq_true h2, of_decide_eq_true h3⟩
  | ldc2_w i => exact xt_at_mem h
  | ldc_w i => exact xt_at_mem h
  | getfield i =>
    unfold xt_lkb at h
    dsimp only at h
    rw [Bool.and_eq_true, Bool.and_eq_true, Bool.or_eq_true] at h
    exact ⟨of_decide_eq_true h.1, of_decide_eq_true h.2.1, h.2.2.elim (fun q => Or.inl (xt_at_mem q)) (fun q => Or.inr (xt_at_mem q))⟩
  | putfield i =>
    unfold xt_lkb at h
    dsimp only at h
    rw [Bool.and_eq_true, Bool.and_eq_true, Bool.and_eq_true, Bool.or_eq_true, Bool.or_eq_true, Bool.and_eq_true, Bool.and_eq_true] at h
    exact ⟨of_decide_eq_true h.1, of_decide_eq_true h.2.1, h.2.2.1.elim (fun q => Or.inl (xt_at_mem q)) (fun q => Or.inr (xt_at_mem q)), h.2.2.2.elim (fun q => Or.inl (by rw [Bool.not_eq_true'] at q; exact q)) (fun q => Or.inr ⟨of_decide_eq_true q.1, of_decide_eq_true q.2.1, xt_at_mem q.2.2⟩)⟩
  | new i =>
    unfold xt_lkb at h
    dsimp only at h
    rw [Bool.and_eq_true] at h
    exact ⟨of_decide_eq_true h.1, xt_at_mem h.2⟩
  | anewarray i => exact xt_at_mem h
  | multianewarray i n =>
    unfold xt_lkb at h
    dsimp only at h
    rw [Bool.and_eq_true, Bool.and_eq_true] at h
    exact ⟨of_decide_eq_true h.1, of_decide_eq_true h.2.1, xt_at_mem h.2.2⟩
  | _ => trivial
/-- a method: name, bytes, the pure machine's part, how it is called (0 virtual, 1 constructor, 2 static), with how many arguments, and where its words stand -/
abbrev xt_I : Type := MethodName × ByteArray × xm_M × Nat × Nat × List Nat
def xt_mlb (own : String) (ix : Nat) (y : MethodName) (z : Nat) : Bool := xt_at (.methodLink own ix y) z || xt_at (.methodLinkNest own ix y (xt_host own)) z
theorem xt_mlb_ok {own : String} {ix : Nat} {y : MethodName} {z : Nat} (h : xt_mlb own ix y z = true) : xs_ml own ix y := by
  unfold xt_mlb at h
  rw [Bool.or_eq_true] at h
  exact h.elim (fun q => Or.inl (xt_at_mem q)) (fun q => Or.inr (xt_at_mem q))
def xt_cb (q : xt_I) (own : String) (E : xm_E) (z : Nat) : Bool := decide (E.2.2.2 = q.2.2.2.2.1) && (match E.1 with
  | .invokevirtual ix => decide (q.2.2.2.1 = 0) && xt_mlb own ix q.1 z
  | .invokespecial ix => decide (q.2.2.2.1 = 1) && xt_mlb own ix q.1 z
  | .invokestatic ix => decide (q.2.2.2.1 = 2) && xt_mlb own ix q.1 z
  | _ => false)
def xt_nb (own : String) (E : xm_E) (z : Nat) : Bool := if E.2.2.1 = 1000 then decide (E.2.2.2 = 1) && (match E.1 with
      | .invokespecial ix => xt_at (.methodLink own ix Lib.objectInit) z
      | _ => false)
    else if E.2.2.1 = 1001 then decide (E.2.2.2 = 2) && (match E.1 with
      | .invokestatic ix => xt_at (.methodLink own ix Lib.Math.max.name) z
      | _ => false)
    else if E.2.2.1 = 1002 then decide (E.2.2.2 = 2) && (match E.1 with
      | .invokestatic ix => xt_at (.methodLink own ix Lib.Math.min.name) z
      | _ => false)
    else if E.2.2.1 = 1003 then decide (E.2.2.2 = 2) && (match E.1 with
      | .invokestatic ix => xt_at (.methodLink own ix Lib.MathLoose.max_long.x) z
      | _ => false)
    else if E.2.2.1 = 1004 then decide (E.2.2.2 = 2) && (match E.1 with
      | .invokestatic ix => xt_at (.methodLink own ix Lib.MathLoose.min_long.x) z
      | _ => false)
    else true
theorem xt_nb_ok {own : String} {E : xm_E} {z : Nat} (h : xt_nb own E z = true) : xt_nat own E.1 E.2.2.1 E.2.2.2 := by
  obtain ⟨i, len, a, b⟩ := E
  unfold xt_nb at h
  dsimp only at h ⊢
  refine ⟨fun hk => ?_, fun hk => ?_, fun hk => ?_, fun hk => ?_, fun hk => ?_⟩ <;> subst hk <;> simp only [reduceIte, Nat.reduceEqDiff, Bool.and_eq_true, decide_eq_true_eq] at h <;> refine ⟨h.1, ?_⟩ <;> cases i <;> first | exact ⟨_, rfl, xt_at_mem h.2⟩ | exact absurd h.2 (by simp)
def xt_oab (a : Cond) : Bool := (decide (a ∈ lw_tbl) && (xs_wd a || (match a with
  | .castable C D => decide (C = D)
  | .declares _ => true
  | .laysStatic _ _ _ => true
  | _ => false))) || (decide (a = .isRef (.static Bundle.tN "UNASSIGNED_STACK" Bundle.steD)) || decide (a = .isRef (.static Bundle.tN "SUPPRESSED_SENTINEL" Bundle.listD)))
theorem xt_oab_ok {a : Cond} (h : xt_oab a = true) : xt_oa a := by
  unfold xt_oab at h
  rw [Bool.or_eq_true, Bool.or_eq_true, Bool.and_eq_true, Bool.or_eq_true] at h
  rcases h with ⟨h1, h2 | h2⟩ | h | h
  · exact Or.inl ⟨of_decide_eq_true h1, h2⟩
  · split at h2
    · next C D =>
      have := of_decide_eq_true h2
      subst this
      exact Or.inr (Or.inl ⟨C, rfl, of_decide_eq_true h1⟩)
    · next x => exact Or.inr (Or.inr (Or.inl ⟨x, rfl, of_decide_eq_true h1⟩))
    · next C n d => exact Or.inr (Or.inr (Or.inr (Or.inl ⟨C, n, d, rfl, of_decide_eq_true h1⟩)))
    · cases h2
  · exact Or.inr (Or.inr (Or.inr (Or.inr (Or.inl (of_decide_eq_true h)))))
  · exact Or.inr (Or.inr (Or.inr (Or.inr (Or.inr (of_decide_eq_true h)))))
def xt_tb (y : MethodName) (cc : ByteArray) (pc : Nat) (E : xm_E) : Bool := match decode cc (pc + 4) with
  | .ok (.invokespecial ic, 3) => decide (E.2.2.1 < 16) && (decide (decode cc (pc + 3) = .ok (.dup, 1)) && (decide (decode cc (pc + 7) = .ok (.athrow, 1)) && (Bundle.fit (xt_cn E.2.2.1) && (Bundle.ownAtoms0 y.cls ic (xt_cn E.2.2.1) ["java/lang/RuntimeException", "java/lang/Exception"]).all xt_oab)))
  | _ => false
theorem xt_tb_ok {y : MethodName} {cc : ByteArray} {pc : Nat} {E : xm_E} (hk : xm_kind E = 3) (h : xt_tb y cc pc E = true) : xt_thr y cc pc E := by
  obtain ⟨i, len, a, b⟩ := E
  unfold xt_tb at h
  split at h
  · next ic hd =>
    simp only [Bool.and_eq_true] at h
    obtain ⟨h1, h2, h3, h4, h5⟩ := h
    cases i <;> first | exact absurd (show (0 : Nat) = 3 from hk) (by decide) | exact absurd (show (1 : Nat) = 3 from hk) (by decide) | exact absurd (show (2 : Nat) = 3 from hk) (by decide) | skip
    next ix => exact ⟨ix, ic, rfl, of_decide_eq_true h1, of_decide_eq_true h2, hd, of_decide_eq_true h3, h4, fun c hc => xt_oab_ok (List.all_eq_true.mp h5 c hc)⟩
  · cases h
/-- a row of the method y with the bytes cc; mi: the methods -/
def xt_rb (mi : Nat → xt_I) (y : MethodName) (cc : ByteArray) (pc : Nat) (E : xm_E) (z : Nat) : Bool := decide (decode cc pc = .ok (E.1, E.2.1)) && (xt_ln E.1 E.2.1 && (xt_lkb y pc E z && (match xm_kind E with
  | 2 => if E.2.2.1 < 1000 then xt_cb (mi E.2.2.1) y.cls E z else xt_nb y.cls E z
  | 3 => xt_tb y cc pc E
  | _ => true)))
/-- the handlers with their entries; the entries' words -/
def xt_hcs : List (Nat × Nat × Nat × Nat) → List Nat → List (Nat × Nat × Nat × Nat)
  | q :: hs, ci :: _ :: t => (q.1, q.2.1, q.2.2.1, ci) :: xt_hcs hs t
  | _, _ => []
def xt_hsb (own : String) : List (Nat × Nat × Nat × Nat) → List Nat → Bool
  | [], [] => true
  | q :: hs, ci :: zi :: t => decide (ci ≠ 0 ∧ 14 ≤ q.2.2.2 ∧ q.2.2.2 < 16) && (xt_at (.classLink own ci (xt_cn q.2.2.2)) zi && xt_hsb own hs t)
  | _, _ => false
theorem xt_hsb_ok {own : String} : ∀ (hs : List (Nat × Nat × Nat × Nat)) (t : List Nat), xt_hsb own hs t = true → xt_hs own (xt_hcs hs t) hs
  | [], [], _ => trivial
  | [], _ :: _, h => by cases h
  | _ :: _, [], h => by cases h
  | _ :: _, [_], h => by cases h
  | q :: hs, ci :: zi :: t, h => by
    unfold xt_hsb at h
    rw [Bool.and_eq_true, Bool.and_eq_true] at h
    obtain ⟨h1, h2, h3⟩ := h
    have h1 := of_decide_eq_true h1
    exact ⟨rfl, rfl, rfl, h1.1, h1.2.1, h1.2.2, xt_at_mem h2, xt_hsb_ok hs t h3⟩
/-- a method's code word -/
def xt_cwp (q : xt_I) : Prop := (Cond.code q.1 q.2.1 q.2.2.1.1 q.2.2.1.2.1 ∈ lw_tbl ∧ q.2.2.1.2.2.1 = []) ∨ (q.2.2.2.1 ≠ 1 ∧ ∃ t, Cond.codeWith q.1 q.2.1 q.2.2.1.1 q.2.2.1.2.1 (xt_hcs q.2.2.1.2.2.1 t) ∈ lw_tbl ∧ xt_hsb q.1.cls q.2.2.1.2.2.1 t = true)
/-- a method's other words: class, kind, choice -/
def xt_mb (q : xt_I) : Bool := (match q.2.2.2.2.2 with
  | b :: c :: d :: _ => xt_at (.initialized q.1.cls) b && ((if q.2.2.2.1 = 2 then xt_at (.static q.1) c else xt_at (.instanceMethod q.1) c) && (if q.2.2.2.1 = 0 then xt_at (.selects q.1.cls q.1 q.1) d else if q.2.2.2.1 = 1 then decide (q.1.name = "<init>" ∧ q.2.2.1.2.1 = none) else true))
  | _ => false) && (plainName q.1.cls && (decide (q.1.cls ≠ "java/lang/invoke/MethodHandle" ∧ q.1.cls ≠ "java/lang/invoke/VarHandle") && (decide (q.2.2.1.1 ≤ 40) && (decide ((parseMethodDescriptor q.1.desc).map (fun d => d.parameters.length) = some (if q.2.2.2.1 = 2 then q.2.2.2.2.1 else q.2.2.2.2.1 - 1)) &&
    (if q.2.2.2.1 = 2 then true else decide (1 ≤ q.2.2.2.2.1 ∧ q.2.2.1.2.2.2 ≠ 0 ∧ q.2.2.1.2.2.2 ≤ 14 ∧ xt_cn (q.2.2.1.2.2.2 - 1) = q.1.cls))))))
theorem xt_mb_ok {q : xt_I} (g1 : xt_cwp q) (h : xt_mb q = true) : xt_mok q.1 q.2.1 q.2.2.1 ∧ (q.2.2.2.1 = 0 → xt_cv q.1 q.2.2.1 q.2.2.2.2.1) ∧ (q.2.2.2.1 = 1 → xt_ci q.1 q.2.1 q.2.2.1 q.2.2.2.2.1) ∧ (q.2.2.2.1 = 2 → xt_cs q.1 q.2.2.2.2.1) := by
  unfold xt_mb at h
  simp only [Bool.and_eq_true] at h
  obtain ⟨h0, h1, h2, h3, h4, h5⟩ := h
  have h2 := of_decide_eq_true h2
  have h3 := of_decide_eq_true h3
  have h4 := of_decide_eq_true h4
  split at h0
  · next b c d t hh =>
    rw [Bool.and_eq_true, Bool.and_eq_true] at h0
    obtain ⟨g2, g3, g4⟩ := h0
    have hm : xt_mok q.1 q.2.1 q.2.2.1 := by
      refine ⟨?_, xt_at_mem g2, h1, h2, h3⟩
      rcases g1 with k1 | ⟨-, t, k1, k2⟩
      · exact Or.inl k1
      · exact Or.inr ⟨_, k1, xt_hsb_ok _ _ k2⟩
    refine ⟨hm, fun hk => ?_, fun hk => ?_, fun hk => ?_⟩
    · rw [if_neg (by omega)] at g3 h5 h4
      rw [if_pos hk] at g4
      have h5 := of_decide_eq_true h5
      exact ⟨xt_at_mem g3, xt_at_mem g4, h5.1, h4, q.2.2.1.2.2.2 - 1, by omega, by omega, h5.2.2.2⟩
    · rw [if_neg (by omega)] at g3 h5 h4
      rw [if_neg (by omega), if_pos hk] at g4
      have h5 := of_decide_eq_true h5
      have g4 := of_decide_eq_true g4
      refine ⟨xt_at_mem g3, g4.1, h5.1, h4, ⟨q.2.2.1.2.2.2 - 1, by omega⟩, ?_⟩
      rcases g1 with ⟨k1, -⟩ | ⟨k0, -⟩
      · rw [← g4.2]
        exact k1
      · exact absurd hk k0
    · rw [if_pos hk] at g3 h4
      exact ⟨xt_at_mem g3, h4⟩
  · cases h0
theorem xt_rb_ok {P : xm_P} {Y : Nat → MethodName} {bb : Nat → ByteArray} {mi : Nat → xt_I} {j pc z : Nat} {E : xm_E} (hY : ∀ k, k < 1000 → Y k = (mi k).1) (hbb : ∀ k, k < 1000 → bb k = (mi k).2.1)
    (hM : ∀ k M, P.2.1 k = some M → k < 1000 ∧ M = (mi k).2.2.1 ∧ xt_mok (Y k) (bb k) M ∧ ((mi k).2.2.2.1 = 0 → xt_cv (Y k) M (mi k).2.2.2.2.1) ∧ ((mi k).2.2.2.1 = 1 → xt_ci (Y k) (bb k) M (mi k).2.2.2.2.1) ∧ ((mi k).2.2.2.1 = 2 → xt_cs (Y k) (mi k).2.2.2.2.1))
    (h : xt_rb mi (Y j) (bb j) pc E z = true) : xt_row P Y bb j pc E := by
  unfold xt_rb at h
  rw [Bool.and_eq_true, Bool.and_eq_true, Bool.and_eq_true] at h
  obtain ⟨h1, h2, h3, h4⟩ := h
  refine ⟨⟨of_decide_eq_true h1, h2, xt_lkb_ok h3⟩, fun hk hlt M hMk => ?_, fun hk hge => ?_, fun hk => ?_⟩
  · rw [hk] at h4
    rw [if_pos hlt] at h4
    replace h4 : xt_cb (mi E.2.2.1) (Y j).cls E z = true := h4
    obtain ⟨-, -, -, q0, q1, q2⟩ := hM _ _ hMk
    unfold xt_cb at h4
    rw [Bool.and_eq_true] at h4
    have hn := of_decide_eq_true h4.1
    have h5 := h4.2
    unfold xt_call
    rw [hn]
    split at h5
    · next ix hi =>
      try rw [hi]
      rw [Bool.and_eq_true] at h5
      exact ⟨by rw [hY _ hlt]; exact xt_mlb_ok h5.2, q0 (of_decide_eq_true h5.1)⟩
    · next ix hi =>
      try rw [hi]
      rw [Bool.and_eq_true] at h5
      exact ⟨by rw [hY _ hlt]; exact xt_mlb_ok h5.2, q1 (of_decide_eq_true h5.1)⟩
    · next ix hi =>
      try rw [hi]
      rw [Bool.and_eq_true] at h5
      exact ⟨by rw [hY _ hlt]; exact xt_mlb_ok h5.2, q2 (of_decide_eq_true h5.1)⟩
    · cases h5
  · rw [hk] at h4
    rw [if_neg (by omega)] at h4
    exact xt_nb_ok h4
  · rw [hk] at h4
    exact xt_tb_ok hk h4
