/-! the Strings out of what the Statement gives -/
theorem xg_stat {s : State} {A : Array Value} {C n d : String} {v : Value} (hl : (Cond.laysStatic C n d).before A s = true) (hi : (Cond.initialized C).before A s = true) (h : (Term.static C n d).eval A s none [] s = some v) : Lib.Cold.StaticIs s C n d v := by
  obtain ⟨c, k, i, f, a, cell, hc, hf, -⟩ := Cond.laysStatic_spec hl
  obtain ⟨h2, a1, cell1, h4, h5, h6, h7⟩ := Term.static_spec hf h
  exact ⟨c, i, k, f, a1, cell1, hf, h2, Cond.initialized_spec hc (State.fieldFound?_spec hf).1 hi, h4, h5, h6, h7⟩
theorem xg_fd {s : State} {A : Array Value} {t : Term} {a : Nat} {n d : String} {v : Value} {cell : Cell} (hc : s.heap[a]? = some cell) (ht : t.eval A s none [] s = some (.ref a)) (hv : (Term.field t str n d).eval A s none [] s = some v) : xn_fd s n d cell v := by
  cases hfo : s.fieldFound? str n d with
  | none =>
    rw [va_fe ht] at hv
    simp [State.fieldOf?, State.fieldNamed?, hfo] at hv
  | some x =>
    obtain ⟨cf, k, fi, f⟩ := x
    obtain ⟨g1, cell', g2, g3, g4, g5, g6⟩ := Term.field_spec hfo ht hv
    cases hc.symm.trans g2
    exact ⟨cf, fi, k, f, hfo, g1, g3, g4, g5, g6⟩
theorem xg_exa {s : State} {A : Array Value} {t : Term} {a : Nat} (ht : t.eval A s none [] s = some (.ref a)) (h : (Cond.exactly t str).before A s = true) : (Cond.exactly (.arg 0) str).before #[.ref a] s = true := by
  have e2 : (Term.arg 0).eval #[.ref a] s none [] s = some (.ref a) := rfl
  simp only [Cond.before, Cond.holds, Cond.value, ht] at h
  simp only [Cond.before, Cond.holds, Cond.value, e2]
  exact h
def xg_tm (i : Nat) : Term := .string (xt_sr i).1 (xt_sr i).2.1
def xg_vt (i : Nat) : Term := .field (xg_tm i) str "value" "[B"
def xg_fl : List Cond := flatC (Jvm.Cond.and given_1 narrow_1)
def xg_wl (i : Nat) : List Cond := [.exactly (xg_tm i) str, .eq (.field (xg_tm i) str "coder" "B") (.int 0), .arrayOf (xg_vt i) .byte, .eq (.length (xg_vt i)) (.int (Int32.ofNat (xn_sb i).length))] ++ (List.range (xn_sb i).length).map (fun j => .eq (.elem (xg_vt i) (.int (Int32.ofNat j))) (.int (Int32.ofNat ((xn_sb i).getD j 0))))
def xg_pre : List Cond → List Cond → Bool
  | [], _ => true
  | _ :: _, [] => false
  | x :: xs, y :: ys => decide (x = y) && xg_pre xs ys
theorem xg_pre_mem : ∀ (xs ys : List Cond), xg_pre xs ys = true → ∀ w ∈ xs, w ∈ ys
  | [], _, _, w, hw => by cases hw
  | _ :: _, [], h, _, _ => by cases h
  | x :: xs, y :: ys, h, w, hw => by
    unfold xg_pre at h
    rw [Bool.and_eq_true] at h
    have e := of_decide_eq_true h.1
    subst e
    rcases List.mem_cons.mp hw with rfl | hw
    · exact List.mem_cons_self
    · exact List.mem_cons_of_mem _ (xg_pre_mem xs ys h.2 w hw)
theorem xg_wl_in : ∀ i, i < 3 → ∀ w ∈ xg_wl i, w ∈ xg_fl := by
  have h : (List.range 3).all (fun i => xg_pre (xg_wl i) (xg_fl.drop (xg_fl.findIdx (fun w => decide (w = .exactly (xg_tm i) str))))) = true := by decide +kernel
  intro i hi w hw
  exact List.mem_of_mem_drop (xg_pre_mem _ _ (List.all_eq_true.mp h i (List.mem_range.mpr hi)) w hw)
theorem xg_W {Z : xs_Z} {s : State} {A : Array Value} (hZ : Z.1 = s.heap.size) (hst : ∀ i, i < 3 → (xg_tm i).eval A s none [] s = some (.ref (Z.2.1 i))) (hts : ∀ w ∈ lw_tbl, w.before A s = true) (hgv : (Jvm.Cond.and given_1 narrow_1).before A s = true) : xn_W Z s := by
  have hs := flat_of_before _ hgv
  refine ⟨xg_stat (hts _ (by decide +kernel)) (hts _ (by decide +kernel)) (va_eqt (hs _ (by decide +kernel))), ?_, fun i hi => ?_⟩
  · have h : (Cond.isRef (.static pre_ "SIOOBE_FORMATTER" xn_fm)).before A s = true := hs _ (by decide +kernel)
    cases hv : (Term.static pre_ "SIOOBE_FORMATTER" xn_fm).eval A s none [] s with
    | none => simp [Cond.before, Cond.holds, Cond.value, hv] at h
    | some v =>
      refine ⟨v, xg_stat (hts _ (by decide +kernel)) (hts _ (by decide +kernel)) hv, ?_⟩
      cases v <;> first | exact Or.inl rfl | exact Or.inr ⟨_, rfl⟩ | (simp [Cond.before, Cond.holds, Cond.value, hv] at h)
  · have hw : ∀ w ∈ xg_wl i, w.before A s = true := fun w h => hs w (xg_wl_in i hi w h)
    have hex := hw (.exactly (xg_tm i) str) (by simp [xg_wl])
    obtain ⟨a, c, cell, kA, q1, q2, q3, q4, q5, q6, -⟩ := Cond.exactly_spec hex
    have ea : a = Z.2.1 i := by
      have := (hst i hi).symm.trans q1
      cases this
      rfl
    subst ea
    have hN : (xn_sb i).length < 2 ^ 31 := by have := xn_sbl i; omega
    obtain ⟨t, ht, cl, t1, t2, t3, t4, t5, t6, -⟩ := va_Tof (f := fun j => .int (Int32.ofNat ((xn_sb i).getD j 0))) (A := fun _ => False) hN (hw (.arrayOf (xg_vt i) .byte) (by simp [xg_wl])) (va_eqt (hw (.eq (.length (xg_vt i)) (.int (Int32.ofNat (xn_sb i).length))) (by simp [xg_wl]))) (fun j hj => va_eqt (hw (.eq (.elem (xg_vt i) (.int (Int32.ofNat j))) (.int (Int32.ofNat ((xn_sb i).getD j 0)))) (by
      unfold xg_wl
      exact List.mem_append_right _ (List.mem_map.mpr ⟨j, List.mem_range.mpr hj, rfl⟩)))) (fun _ _ h => h)
    refine ⟨t, cell, cl, by rw [hZ]; exact (Array.getElem?_eq_some_iff.mp q3).1, by rw [hZ]; exact (Array.getElem?_eq_some_iff.mp t1).1, q3, t1, xg_exa q1 hex, xg_fd q3 q1 (va_eqt (hw (.eq (.field (xg_tm i) str "coder" "B") (.int 0)) (by simp [xg_wl]))), xg_fd q3 q1 ht, t2, t3, ?_, t6⟩
    obtain ⟨d', arr', e1, e2, e3, -⟩ := length_spec (va_eqt (hw (.eq (.length (xg_vt i)) (.int (Int32.ofNat (xn_sb i).length))) (by simp [xg_wl])))
    have e4 := (State.arrayAt?_spec e2).1
    have e5 : d' = t := by
      have := e1.symm.trans ht
      cases this
      rfl
    subst e5
    cases e4.symm.trans t1
    have a1 : (cl.slots.size.toInt32).toInt = (cl.slots.size : Int) := toInt_of rfl e3
    have a2 : (Int32.ofNat (xn_sb i).length).toInt = ((xn_sb i).length : Int) := toInt_of rfl hN
    rw [t5, a2] at a1
    omega
