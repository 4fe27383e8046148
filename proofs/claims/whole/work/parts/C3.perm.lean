/-! THE ANSWER: the rows of a source hold each fact once -/
theorem lst_map {o f : Int → Int} {n : Nat} : (lst o n).map f = lst (fun i => f (o i)) n := by
  unfold lst
  rw [List.map_map]; rfl
theorem lst_app {f : Int → Int} {a : Nat} : ∀ b : Nat, lst f a ++ lst (fun q => f (a + q)) b = lst f (a + b)
  | 0 => by show lst f a ++ [] = _; rw [List.append_nil]; rfl
  | b + 1 => by
    rw [lst_s, ← List.append_assoc, lst_app b, ← Nat.add_assoc, lst_s]
    rw [show ((a + b : Nat) : Int) = (a : Int) + b by omega]
theorem lst_prm {o : Int → Int} {n f : Int} (h : prm o n) : (lst (fun q => f + o q) n.toNat).Perm (lst (fun q => f + q) n.toNat) := by
  have := (prm_perm h).map (fun x => f + x)
  rw [lst_map, lst_map] at this
  exact this
theorem perm_l {sg : Int → List Srow} {a : Int} {bs : Nat → Int} {T : Nat} (b0 : bs 0 = 0) (h : ∀ n, n < T → bs n ≤ bs (n + 1) ∧ (((sg (a + n)).map Prod.fst).flatten).Perm (lst (fun q => bs n + q) (bs (n + 1) - bs n).toNat)) : ∀ n, n ≤ T → 0 ≤ bs n ∧ (((rsc sg a n).map Prod.fst).flatten).Perm (lst (fun x => x) (bs n).toNat)
  | 0, _ => ⟨by rw [b0]; decide, by rw [b0]; exact List.Perm.refl _⟩
  | n + 1, hn => by
    obtain ⟨i1, i2⟩ := perm_l b0 h n (by omega)
    obtain ⟨h1, h2⟩ := h n (by omega)
    refine ⟨by omega, ?_⟩
    show (((rsc sg a n ++ sg (a + n)).map Prod.fst).flatten).Perm _
    rw [List.map_append, List.flatten_append]
    have e := lst_app (f := fun x => x) (a := (bs n).toNat) (bs (n + 1) - bs n).toNat
    rw [show (bs n).toNat + (bs (n + 1) - bs n).toNat = (bs (n + 1)).toNat by omega] at e
    rw [← e, Int.toNat_of_nonneg i1]
    exact i2.append h2
theorem sgF_p {c : xw_M} {D : Int} {Kx Rf : Int → Int} {os : Int → Int → Int} {e : Int} (h : hfx Kx e = true → prm (os e) (Rf e)) : ((sgF c D Kx Rf os e).map Prod.fst).flatten.Perm (lst (fun q => cfx Kx Rf e.toNat + q) (if hfx Kx e = true then Rf e else 0).toNat) := by
  unfold sgF
  by_cases hf : hfx Kx e = true
  · rw [if_pos hf, if_pos hf, List.map_map]
    have e1 : ((List.range (Rf e).toNat).map (Prod.fst ∘ fun j : Nat => (([cfx Kx Rf e.toNat + os e j], (fun d => rT c D (cfx Kx Rf e.toNat) (os e) d j), 1, fun i => if xR c 224 i = 211 then 1 else rT c D (cfx Kx Rf e.toNat) (os e) (D + xR c 225 i) j) : Srow))).flatten = lst (fun q => cfx Kx Rf e.toNat + os e q) (Rf e).toNat := by
      generalize (Rf e).toNat = n
      induction n with
      | zero => rfl
      | succ n ih => rw [List.range_succ, List.map_append, List.flatten_append, ih, lst_s]; rfl
    rw [e1]
    exact lst_prm (h hf)
  · rw [if_neg hf, if_neg hf]
    exact List.Perm.refl _
theorem sgV_p {c : xw_M} {D v : Int} {f0 n0 : Int → Int} {Os Ss : Int → Int → Int} {Rs : Int → Int} {e : Int} (V : vrr c D v (f0 e) (n0 e) (Os e) (Ss e) (Rs e)) (n : 0 ≤ n0 e) : ((sgV c D v f0 Os Ss Rs e).map Prod.fst).flatten.Perm (lst (fun q => f0 e + q) (n0 e).toNat) := by
  unfold sgV
  rw [List.map_map]
  obtain ⟨r0, r1, r2, r3, r4⟩ := V.2.1
  have key : ∀ j : Nat, (j : Int) ≤ Rs e → ((List.range j).map (Prod.fst ∘ fun j : Nat => ((lst (fun q => f0 e + Os e (Ss e j + q)) (Ss e (j + 1) - Ss e j).toNat, (fun d => xR c (15 + 26 * d + 19 + vdg (xR c 538) D v d) (kr c D v (f0 e) d (Os e (Ss e j)))), rV c D v (f0 e) (Os e) (Ss e) (rP c D v) j, fun i => if xR c 224 i = 211 then rV c D v (f0 e) (Os e) (Ss e) (rP c D v) j else rV c D v (f0 e) (Os e) (Ss e) (vco (rP c D v) (xR c 224 i) (xR c 225 i)) j) : Srow))).flatten = lst (fun q => f0 e + Os e q) (if j = 0 then 0 else Ss e j).toNat := by
    intro j
    induction j with
    | zero => intro _; rfl
    | succ j ih =>
      intro hj
      rw [List.range_succ, List.map_append, List.flatten_append, ih (by omega), if_neg (Nat.succ_ne_zero j)]
      have a1 := SR_in V.2.1 j (by omega) (by omega)
      have a2 := (r4 j (by omega) (by omega)).1
      have z : (if j = 0 then 0 else Ss e j) = Ss e j := by
        by_cases q : j = 0
        · rw [if_pos q, q]; exact (r2 (by omega)).2.symm
        · rw [if_neg q]
      rw [z]
      have ea := lst_app (f := fun q => f0 e + Os e q) (a := (Ss e j).toNat) (Ss e (j + 1) - Ss e j).toNat
      rw [Int.toNat_of_nonneg a1.1, show (Ss e j).toNat + (Ss e (j + 1) - Ss e j).toNat = (Ss e (j + 1)).toNat by omega] at ea
      rw [show ((j + 1 : Nat) : Int) = (j : Int) + 1 by omega, ← ea]
      show _ ++ (lst (fun q => f0 e + Os e (Ss e j + q)) (Ss e (j + 1) - Ss e j).toNat ++ []) = _
      rw [List.append_nil]
  rw [key (Rs e).toNat (by omega)]
  have fin : (if (Rs e).toNat = 0 then 0 else Ss e ((Rs e).toNat : Int)).toNat = (n0 e).toNat := by
    by_cases q : (Rs e).toNat = 0
    · rw [if_pos q]
      have : ¬ 0 < n0 e := fun h => by have := (r2 h).1; omega
      omega
    · rw [if_neg q, Int.toNat_of_nonneg r0, r3]
  rw [fin]
  exact lst_prm V.1.1
