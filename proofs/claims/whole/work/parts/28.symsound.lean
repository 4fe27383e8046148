/-! symbolic runs: a switch, every instruction, a run -/
section XY6
variable {u : xy_U} {n0 : Nat} {h0 : xm_H} {N : xy_N} {xs : Nat → Int32} {L : Nat} {C : xy_Q} {s : xy_S} {h : xm_H} {ns nL : Nat} {ret : Option FieldType} {l : List (xy_Q × xy_S)}
theorem xy_okc {k : Nat} {a b : Value} {t : Bool} (hC : xy_ok u C) (e : xy_t u k a b = t) : xy_ok u ((k, a, b, t) :: C) := by
  intro q hq
  rcases List.mem_cons.mp hq with rfl | hq
  · exact e
  · exact hC q hq
theorem xy_swlok (x : Value) (r : List Value) (d : Int) (os : List Int) : ∀ (k : Int) (C : xy_Q), xy_ok u C → ∃ q ∈ xy_swl C x s r d k os, xy_ok u q.1 ∧ ((∃ (i : Nat) (o : Int), os[i]? = some o ∧ xy_I u x = Int32.ofInt (k + i) ∧ q.2 = xy_swg s o r) ∨ ((∀ i : Nat, i < os.length → xy_I u x ≠ Int32.ofInt (k + i)) ∧ q.2 = xy_swg s d r)) := by
  induction os with
  | nil =>
    intro k C hC
    exact ⟨_, List.mem_singleton_self _, hC, .inr ⟨fun i hi => absurd hi (Nat.not_lt_zero i), rfl⟩⟩
  | cons o os ih =>
    intro k C hC
    have hnext : ∀ C', xy_ok u C' → xy_I u x ≠ Int32.ofInt k → ∃ q ∈ xy_swl C' x s r d (k + 1) os, xy_ok u q.1 ∧ ((∃ (i : Nat) (o' : Int), (o :: os)[i]? = some o' ∧ xy_I u x = Int32.ofInt (k + i) ∧ q.2 = xy_swg s o' r) ∨ ((∀ i : Nat, i < (o :: os).length → xy_I u x ≠ Int32.ofInt (k + i)) ∧ q.2 = xy_swg s d r)) := by
      intro C' hC' hne
      obtain ⟨q, hq, hq1, hq2⟩ := ih (k + 1) C' hC'
      refine ⟨q, hq, hq1, ?_⟩
      rcases hq2 with ⟨i, o', h1, h2, h3⟩ | ⟨h1, h2⟩
      · refine .inl ⟨i + 1, o', by rw [List.getElem?_cons_succ]; exact h1, ?_, h3⟩
        rw [h2]
        congr 1
        omega
      · refine .inr ⟨fun i hi => ?_, h2⟩
        cases i with
        | zero =>
          rw [show k + ((0 : Nat) : Int) = k by omega]
          exact hne
        | succ i =>
          have := h1 i (by rw [List.length_cons] at hi; omega)
          rw [show k + ((i + 1 : Nat) : Int) = k + 1 + (i : Int) by omega]
          exact this
    have hk : ∀ b : Bool, xy_t u 1 x (.int (Int32.ofInt k)) = b → (b = true ↔ xy_I u x = Int32.ofInt k) := by
      intro b hb
      rw [← hb]
      exact decide_eq_true_iff
    have h0 : (o :: os)[0]? = some o := rfl
    unfold xy_swl
    split
    · next hq =>
      exact ⟨_, List.mem_singleton_self _, hC, .inl ⟨0, o, h0, by rw [show k + ((0 : Nat) : Int) = k by omega]; exact (hk _ (xy_qok hC hq)).mp rfl, rfl⟩⟩
    · next hq => exact hnext C hC (fun hh => by have := (hk _ (xy_qok hC hq)).mpr hh; cases this)
    · next hq =>
      cases hb : xy_t u 1 x (.int (Int32.ofInt k)) with
      | true => exact ⟨_, List.mem_cons_self, xy_okc hC hb, .inl ⟨0, o, h0, by rw [show k + ((0 : Nat) : Int) = k by omega]; exact (hk _ hb).mp rfl, rfl⟩⟩
      | false =>
        obtain ⟨q, hq, hq1, hq2⟩ := hnext _ (xy_okc hC hb) (fun hh => by have := (hk _ hb).mpr hh; cases this)
        exact ⟨q, List.mem_cons_of_mem _ hq, hq1, hq2⟩
theorem xy_swok {d lo hi : Int} {offs : Array Int} (hC : xy_ok u C) (H : xy_H u n0 h0 s.2.2.2.1 h) (hns : ns ≤ s.2.2.2.2) (e : xy_sw C d lo hi offs s = some l) : xy_G u n0 h0 l (xm_sw d lo hi offs (xy_s u s h ns)) := by
  unfold xy_sw at e
  split at e
  · next x r hst => exact xy_pr hC H hns e (fun pc loc st h1 n1 ea => xy_h_sw hst ea)
  · next i r hst =>
    cases hb : (decide (-2147483648 ≤ lo ∧ hi ≤ 2147483647 ∧ (offs.size : Int) = hi - lo + 1) && ((d :: offs.toList).all (fun o => decide (0 ≤ (s.1 : Int) + o)))) with
    | false =>
      rw [hb] at e
      cases e
    | true =>
      rw [hb, cond_true] at e
      cases e
      rw [Bool.and_eq_true] at hb
      obtain ⟨c1, c2, c3⟩ := of_decide_eq_true hb.1
      have hall : ∀ o ∈ d :: offs.toList, 0 ≤ (s.1 : Int) + o := fun o ho => of_decide_eq_true (List.all_eq_true.mp hb.2 o ho)
      obtain ⟨q, hq, hq1, hq2⟩ := xy_swlok (u := u) (s := s) (.float i) r d offs.toList lo C hC
      have hlen : offs.toList.length = offs.size := Array.length_toList
      have hx : xy_v u (.float i) = .int (xy_I u (.float i)) := rfl
      generalize hX : xy_I u (.float i) = X at hq2 hx
      have hsw : ∀ o : Int, q.2 = xy_swg s o r → xy_H u n0 h0 q.2.2.2.2.1 h ∧ ns ≤ q.2.2.2.2.2 := fun o ho => by
        rw [ho]
        exact ⟨H, hns⟩
      rcases hq2 with ⟨k, o, h1, h2, h3⟩ | ⟨h1, h2⟩
      · have hk : k < offs.toList.length := (List.getElem?_eq_some_iff.mp h1).1
        have hX2 : X.toInt = lo + k := by
          rw [h2, Int32.toInt_ofInt_of_le (by omega) (by omega)]
        have ho := hall o (List.mem_cons_of_mem _ (List.mem_of_getElem? h1))
        refine ⟨q, hq, hq1, h, ns, (hsw o h3).1, (hsw o h3).2, ?_⟩
        rw [h3]
        unfold xm_sw xm_go xy_s xy_swg
        dsimp only
        rw [hst, List.map_cons, hx]
        dsimp only
        rw [if_neg (by omega), show (X.toInt - lo).toNat = k by omega, ← Array.getElem?_toList, h1]
        dsimp only
        rw [if_pos ho]
      · have ho := hall d List.mem_cons_self
        have hout : X.toInt < lo ∨ hi < X.toInt := by
          by_cases hin : X.toInt < lo ∨ hi < X.toInt
          · exact hin
          · exfalso
            refine h1 (X.toInt - lo).toNat (by omega) ?_
            rw [show lo + ((X.toInt - lo).toNat : Int) = X.toInt by omega, Int32.ofInt_toInt]
        refine ⟨q, hq, hq1, h, ns, (hsw d h2).1, (hsw d h2).2, ?_⟩
        rw [h2]
        unfold xm_sw xm_go xy_s xy_swg
        dsimp only
        rw [hst, List.map_cons, hx]
        dsimp only
        rw [if_pos hout, if_pos ho]
  · cases e
set_option maxHeartbeats 4000000 in
theorem xy_step {E : xm_E} (hN : xy_Nok u N xs L h0) (A : xy_A u n0 h0) (hC : xy_ok u C) (H : xy_H u n0 h0 s.2.2.2.1 h) (hns : ns ≤ s.2.2.2.2) (e : xy_next N nL ret E s C = some l) : xy_G u n0 h0 l (xm_next (xm_gg xs L) nL ret E (xy_s u s h ns)) := by
  obtain ⟨i, len, x, z⟩ := E
  cases i with
  | iconst n => exact xy_pr (a := xm_psh 1 (.int (Int32.ofInt n)) (s.1, s.2.1, s.2.2.1, [], 0)) hC H hns e (fun _ _ _ _ _ ea => xy_h_psh (len := 1) (v := .int (Int32.ofInt n)) rfl ea)
  | bipush n => exact xy_pr (a := xm_psh 2 (.int (Int8.ofInt n).toInt32) (s.1, s.2.1, s.2.2.1, [], 0)) hC H hns e (fun _ _ _ _ _ ea => xy_h_psh (len := 2) (v := .int (Int8.ofInt n).toInt32) rfl ea)
  | sipush n => exact xy_pr (a := xm_psh 3 (.int (Int16.ofInt n).toInt32) (s.1, s.2.1, s.2.2.1, [], 0)) hC H hns e (fun _ _ _ _ _ ea => xy_h_psh (len := 3) (v := .int (Int16.ofInt n).toInt32) rfl ea)
  | lconst n => exact xy_pr (a := xm_psh 1 (.long (Int64.ofNat n)) (s.1, s.2.1, s.2.2.1, [], 0)) hC H hns e (fun _ _ _ _ _ ea => xy_h_psh (len := 1) (v := .long (Int64.ofNat n)) rfl ea)
  | aconst_null => exact xy_pr (a := xm_psh 1 (.null) (s.1, s.2.1, s.2.2.1, [], 0)) hC H hns e (fun _ _ _ _ _ ea => xy_h_psh (len := 1) (v := .null) rfl ea)
  | ldc n =>
    refine xy_pr hC H hns e (fun pc loc st h1 n1 ea => ?_)
    have ea2 : (if x = 0 then xm_psh 2 (.int (Int32.ofNat z)) (s.1, s.2.1, s.2.2.1, [], 0) else if x = 1 ∧ z < 3 then xm_psh 2 (.retAddr z) (s.1, s.2.1, s.2.2.1, [], 0) else none) = some (.inl (pc, loc, st, h1, n1)) := ea
    show (if x = 0 then xm_psh 2 (.int (Int32.ofNat z)) (xy_s u s h ns) else if x = 1 ∧ z < 3 then xm_psh 2 (.retAddr z) (xy_s u s h ns) else none) = _
    split at ea2
    · next hx =>
      rw [if_pos hx]
      exact xy_h_psh rfl ea2
    · next hx =>
      rw [if_neg hx]
      split at ea2
      · next hx2 =>
        rw [if_pos hx2]
        exact xy_h_psh rfl ea2
      · cases ea2
  | ldc2_w n => exact xy_pr (a := xm_psh 3 (.long (Int64.ofNat z)) (s.1, s.2.1, s.2.2.1, [], 0)) hC H hns e (fun _ _ _ _ _ ea => xy_h_psh (len := 3) (v := .long (Int64.ofNat z)) rfl ea)
  | ldc_w n => exact xy_pr (a := xm_psh 3 (.int (Int32.ofNat z)) (s.1, s.2.1, s.2.2.1, [], 0)) hC H hns e (fun _ _ _ _ _ ea => xy_h_psh (len := 3) (v := .int (Int32.ofNat z)) rfl ea)
  | iload n => exact xy_ldIok hC H hns e
  | iload_n n => exact xy_ldIok hC H hns e
  | lload n => exact xy_ldJok hC H hns e
  | lload_n n => exact xy_ldJok hC H hns e
  | aload n => exact xy_pr hC H hns e (fun _ _ _ _ _ ea => xy_h_ldA ea)
  | aload_n n => exact xy_pr hC H hns e (fun _ _ _ _ _ ea => xy_h_ldA ea)
  | istore n => exact xy_stIok hC H hns e
  | istore_n n => exact xy_stIok hC H hns e
  | lstore n => exact xy_stJok hC H hns e
  | lstore_n n => exact xy_stJok hC H hns e
  | astore n => exact xy_pr hC H hns e (fun _ _ _ _ _ ea => xy_h_stA ea)
  | astore_n n => exact xy_pr hC H hns e (fun _ _ _ _ _ ea => xy_h_stA ea)
  | iinc n m => exact xy_incok hN hC H hns e
  | dup => exact xy_pr hC H hns e (fun _ _ _ _ _ ea => xy_h_dup ea)
  | pop => exact xy_pr hC H hns e (fun _ _ _ _ _ ea => xy_h_pop ea)
  | dup_x1 => exact xy_pr hC H hns e (fun _ _ _ _ _ ea => xy_h_dx1 ea)
  | dup_x2 => exact xy_pr hC H hns e (fun _ _ _ _ _ ea => xy_h_dx2 ea)
  | dup2 => exact xy_pr hC H hns e (fun _ _ _ _ _ ea => xy_h_du2 ea)
  | pop2 => exact xy_pr hC H hns e (fun _ _ _ _ _ ea => xy_h_po2 ea)
  | ifCond c o =>
    cases c with
    | eq => exact xy_ifok (fun x => (Bool.xor_false _).symm) hC H hns e
    | ne => exact xy_ifok (fun x => (Bool.xor_true _).symm) hC H hns e
    | lt => exact xy_ifok (fun x => (Bool.xor_false _).symm) hC H hns e
    | ge => exact xy_ifok (fun x => xy_nle) hC H hns e
    | gt => exact xy_ifok (fun x => (Bool.xor_false _).symm) hC H hns e
    | le => exact xy_ifok (fun x => xy_nle) hC H hns e
  | if_icmp c o =>
    cases c with
    | eq => exact xy_icok (fun x y => (Bool.xor_false _).symm) hC H hns e
    | ne => exact xy_icok (fun x y => (Bool.xor_true _).symm) hC H hns e
    | lt => exact xy_icok (fun x y => (Bool.xor_false _).symm) hC H hns e
    | ge => exact xy_icok (fun x y => xy_nle) hC H hns e
    | gt => exact xy_icok (fun x y => (Bool.xor_false _).symm) hC H hns e
    | le => exact xy_icok (fun x y => xy_nle) hC H hns e
  | ifnonnull o => exact xy_pr hC H hns e (fun _ _ _ _ _ ea => xy_h_nn ea)
  | goto o => exact xy_pr (a := xm_go (x, s.2.1, s.2.2.1, [], 0)) hC H hns e (fun _ _ _ _ _ ea => by cases ea; rfl)
  | tableswitch d lo hi offs => exact xy_swok hC H hns e
  | getfield n => exact xy_gfok hC H hns e
  | putfield n => exact xy_pfok A hC H hns e
  | new n =>
    have e2 : xy_new N C x (xq_dv x) s = some l := e
    rw [← xq_dve] at e2
    exact xy_newok hN A hC H hns e2
  | newarray ty =>
    cases ty with
    | int => exact xy_naok rfl hN A hC H hns e
    | long => exact xy_naok rfl hN A hC H hns e
    | byte => exact xy_naok rfl hN A hC H hns e
    | boolean => exact xy_naok rfl hN A hC H hns e
    | _ => cases e
  | anewarray n => exact xy_naok rfl hN A hC H hns e
  | multianewarray n d =>
    by_cases hd : d = 2
    · subst hd
      have e2 : (bif Nat.beq x 20 then xy_ma N C 20 16 (.int 0) s else bif Nat.beq x 21 then xy_ma N C 21 17 (.long 0) s else bif Nat.beq x 22 then xy_ma N C 22 18 (.int 0) s else none) = some l := e
      show xy_G u n0 h0 l (if x = 20 then xm_ma 20 16 (.int 0) (xy_s u s h ns) else if x = 21 then xm_ma 21 17 (.long 0) (xy_s u s h ns) else if x = 22 then xm_ma 22 18 (.int 0) (xy_s u s h ns) else none)
      by_cases h1 : x = 20
      · subst h1
        rw [if_pos rfl]
        exact xy_maok (by omega) rfl hN A hC H hns e2
      · rw [if_neg h1]
        by_cases h2 : x = 21
        · subst h2
          rw [if_pos rfl]
          exact xy_maok (by omega) rfl hN A hC H hns e2
        · rw [if_neg h2]
          by_cases h3 : x = 22
          · subst h3
            rw [if_pos rfl]
            exact xy_maok (by omega) rfl hN A hC H hns e2
          · have hb : ∀ k, x ≠ k → Nat.beq x k = false := fun k hk => by
              cases hc : Nat.beq x k with
              | false => rfl
              | true => exact absurd (Nat.eq_of_beq_eq_true hc) hk
            rw [hb 20 h1, hb 21 h2, hb 22 h3] at e2
            cases e2
    · exfalso
      unfold xy_next at e
      split at e <;> first | (next he => (cases he; done)) | skip
      all_goals first | (next he => (injection he with h1 h2; exact hd h2)) | (cases e; done) | skip
  | arraylength => exact xy_alok hN hC H hns e
  | iaload => exact xy_sldok hN hC H hns e
  | laload => exact xy_aldok hN hC H hns e
  | baload => exact xy_aldok hN hC H hns e
  | aaload => exact xy_aldok hN hC H hns e
  | iastore => exact xy_astok (fun t ht => by have := eq_of_beq ht; omega) (fun t v w _ hw => xy_nIok hw) hN A hC H hns e
  | lastore => exact xy_astok (fun t ht => by have := eq_of_beq ht; omega) (fun t v w _ hw => xy_nJok hw) hN A hC H hns e
  | bastore => exact xy_astok (fun t ht => by simp only [Bool.or_eq_true, beq_iff_eq] at ht; omega) (fun t v w _ hw => xy_nBok hN hw) hN A hC H hns e
  | aastore => exact xy_astok (fun t ht => by have := eq_of_beq ht; omega) (fun t v w _ hw => xy_nDok H hw) hN A hC H hns e
  | _ => first | (cases e; done) | exact xy_cpok (by decide) hN hC H hns e
end XY6
