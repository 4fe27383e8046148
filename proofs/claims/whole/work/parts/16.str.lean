/-! the Strings out of what the Statement gives -/
theorem xg_stat {s : State} {A : Array Value} {C n d : String} {v : Value} (hl : (Cond.laysStatic C n d).before A s = true) (hi : (Cond.initialized C).before A s = true) (h : (Term.static C n d).eval A s none [] s = some v) : Lib.Cold.StaticIs s C n d v := by
  obtain ⟨c, k, i, f, a, cell, hc, hf, -⟩ := Cond.laysStatic_spec hl
  obtain ⟨h2, a1, cell1, h4, h5, h6, h7⟩ := Term.static_spec hf h
  exact ⟨c, i, k, f, a1, cell1, hf, h2, Cond.initialized_spec hc (State.fieldFound?_spec hf).1 hi, h4, h5, h6, h7⟩
theorem xg_fd {s : State} {A : Array Value} {t : Term} {a : Nat} {n d : String} {v : Value} {cell : Cell} (hc : s.heap[a]? = some cell) (ht : t.eval A s none [] s = some (.ref a)) (hv : (Term.field t str n d).eval A s none [] s = some v) : xn_fd s n d cell v := by
  cases hfo : s.fieldFound? str n d with
  | none =>
    rw [va_fe ht] at hv
    simp [State.fieldOf?, State.fieldNamed?, hfo] at hv
  | some x =>
    obtain ⟨cf, k, fi, f⟩ := x
    obtain ⟨g1, cell', g2, g3, g4, g5, g6⟩ := Term.field_spec hfo ht hv
    cases hc.symm.trans g2
    exact ⟨cf, fi, k, f, hfo, g1, g3, g4, g5, g6⟩
theorem xg_exa {s : State} {A : Array Value} {t : Term} {a : Nat} (ht : t.eval A s none [] s = some (.ref a)) (h : (Cond.exactly t str).before A s = true) : (Cond.exactly (.arg 0) str).before #[.ref a] s = true := by
  have e2 : (Term.arg 0).eval #[.ref a] s none [] s = some (.ref a) := rfl
  simp only [Cond.before, Cond.holds, Cond.value, ht] at h
  simp only [Cond.before, Cond.holds, Cond.value, e2]
  exact h
def xg_tm (i : Nat) : Term := .string (xt_sr i).1 (xt_sr i).2.1
def xg_vt (i : Nat) : Term := .field (xg_tm i) str "value" "[B"
def xg_fl : List Cond := flatC (Jvm.Cond.and given_1 narrow_1)
def xg_wl (i : Nat) : List Cond := [.exactly (xg_tm i) str, .eq (.field (xg_tm i) str "coder" "B") (.int 0), .arrayOf (xg_vt i) .byte, .eq (.length (xg_vt i)) (.int (Int32.ofNat (xn_sb i).length))] ++ (List.range (xn_sb i).length).map (fun j => .eq (.elem (xg_vt i) (.int (Int32.ofNat j))) (.int (Int32.ofNat ((xn_sb i).getD j 0))))
def xg_pre : List Cond → List Cond → Bool
  | [], _ => true
  | _ :: _, [] => false
  | x :: xs, y :: ys => decide (x = y) && xg_pre xs ys
theorem xg_pre_mem : ∀ (xs ys : List Cond), xg_pre xs ys = true → ∀ w ∈ xs, w ∈ ys
  | [], _, _, w, hw => by cases hw
  | _ :: _, [], h, _, _ => by cases h
  | x :: xs, y :: ys, h, w, hw => by
    unfold xg_pre at h
    rw [Bool.and_eq_true] at h
    have e := of_decide_eq_true h.1
    subst e
    rcases List.mem_cons.mp hw with rfl | hw
    · exact List.mem_cons_self
    · exact List.mem_cons_of_mem _ (xg_pre_mem xs ys h.2 w hw)
theorem xg_wl_in : ∀ i, i < 3 → ∀ w ∈ xg_wl i, w ∈ xg_fl := by
  have h : (List.range 3).all (fun i => xg_pre (xg_wl i) (xg_fl.drop (xg_fl.findIdx (fun w => decide (w = .exactly (xg_tm i) str))))) = true := by decide +kernel
  intro i hi w hw
  exact List.mem_of_mem_drop (xg_pre_mem _ _ (List.all_eq_true.mp h i (List.mem_range.mpr hi)) w hw)
