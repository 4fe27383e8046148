/-! the Strings out of what the Statement gives -/
theorem xg_stat {s : State} {A : Array Value} {C n d : String} {v : Value} (hl : (Cond.laysStatic C n d).before A s = true) (hi : (Cond.initialized C).before A s = true) (h : (Term.static C n d).eval A s none [] s = some v) : Lib.Cold.StaticIs s C n d v := by
  obtain ⟨c, k, i, f, a, cell, hc, hf, -⟩ := Cond.laysStatic_spec hl
  obtain ⟨h2, a1, cell1, h4, h5, h6, h7⟩ := Term.static_spec hf h
  exact ⟨c, i, k, f, a1, cell1, hf, h2, Cond.initialized_spec hc (State.fieldFound?_spec hf).1 hi, h4, h5, h6, h7⟩
theorem xg_fd {s : State} {A : Array Value} {t : Term} {a : Nat} {n d : String} {v : Value} {cell : Cell} (hc : s.heap[a]? = some cell) (ht : t.eval A s none [] s = some (.ref a)) (hv : (Term.field t str n d).eval A s none [] s = some v) : xn_fd s n d cell v := by
  cases hfo : s.fieldFound? str n d with
  | none =>
    rw [va_fe ht] at hv
    simp [State.fieldOf?, State.fieldNamed?, hfo] at hv
  | some x =>
    obtain ⟨cf, k, fi, f⟩ := x
    obtain ⟨g1, cell', g2, g3, g4, g5, g6⟩ := Term.field_spec hfo ht hv
    cases hc.symm.trans g2
    exact ⟨cf, fi, k, f, hfo, g1, g3, g4, g5, g6⟩
theorem xg_exa {s : State} {A : Array Value} {t : Term} {a : Nat} (ht : t.eval A s none [] s = some (.ref a)) (h : (Cond.exactly t str).before A s = true) : (Cond.exactly (.arg 0) str).before #[.ref a] s = true := by
  have e2 : (Term.arg 0).eval #[.ref a] s none [] s = some (.ref a) := rfl
  simp only [Cond.before, Cond.holds, Cond.value, ht] at h
  simp only [Cond.before, Cond.holds, Cond.value, e2]
  exact h
