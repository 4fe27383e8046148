/-! THE START: what the Statement gives at the law's entry is what the pure machine needs -/
def xg_cn (t : Nat) : String := if t < 16 then xt_cn t else "[" ++ (xt_el t).toString
def xg_dC (s : State) (t : Nat) : ClassId := (s.vm.findClass (xg_cn t)).getD 0
def xg_dI (s : State) (t k : Nat) : Nat := match s.fieldFound? (xt_F t k).1 (xt_F t k).2.1 (xt_F t k).2.2.1 with
  | some q => q.2.2.2.slot
  | none => 0
def xg_ex (s : State) (b : Nat) (i : Nat) : Nat := if i = 9 then b else match (Term.string (xt_sr i).1 (xt_sr i).2.1).eval #[] s none [] s with
  | some (.ref a) => a
  | _ => 0
def xg_Z (s : State) (b : Nat) : xs_Z := (s.heap.size, xg_ex s b, xg_dC s, xg_dI s, s.heap)
theorem xg_ao : Cond.arrayOver (.array .int) ∈ lw_tbl ∧ Cond.arrayOver (.array .long) ∈ lw_tbl ∧ Cond.arrayOver (.array .byte) ∈ lw_tbl := by
  refine ⟨xt_at_mem (i := 244) ?_, xt_at_mem (i := 470) ?_, xt_at_mem (i := 236) ?_⟩ <;> decide +kernel
theorem xg_cls {s : State} {A : Array Value} (h : ∀ w ∈ lw_tbl, w.before A s = true) {t : Nat} (ht : t < 16) : ClassAt s (xt_cn t) (xg_dC s t) := by
  obtain ⟨cC, kC, hfc, hk, hkind, -⟩ := Cond.instantiable_spec (h _ (xt_inst t ht).1)
  have hd : xg_dC s t = cC := by
    unfold xg_dC xg_cn
    rw [if_pos ht, hfc]
    rfl
  rw [hd]
  exact ⟨hfc, kC, hk, hkind⟩
theorem xg_arrD {s : State} {t : Nat} {c : ClassId} (ht : ¬ t < 16) (h : s.vm.findClass ("[" ++ (xt_el t).toString) = some c) : xg_dC s t = c := by
  unfold xg_dC xg_cn
  rw [if_neg ht, h]
  rfl
theorem xg_prim {s : State} {A : Array Value} {t : Nat} {o : Option ClassId} (ht : ¬ t < 16) (ho : o = none) (h : (Cond.arrayClass (xt_el t)).before A s = true) : xs_arr s (xg_dC s t) (xt_el t) o := by
  obtain ⟨c, k, comp, h1, h2, h3⟩ := Cond.arrayClass_spec h
  rw [xg_arrD ht h1]
  exact ⟨k, comp, h2, h3, h1, fun c hc => by rw [ho] at hc; cases hc⟩
theorem xg_arr2 {s : State} {A : Array Value} {t u : Nat} {ty : FieldType} {o : Option ClassId} (ht : ¬ t < 16) (hu : ¬ u < 16) (hel : xt_el t = .array ty) (hel2 : xt_el u = ty) (ho : o = some (xg_dC s u)) (hs : (FieldType.array ty).toString = "[" ++ ty.toString) (h : (Cond.arrayOver (.array ty)).before A s = true) : xs_arr s (xg_dC s t) (xt_el t) o := by
  obtain ⟨comp, c, k, h1, -, h2, h3, h4⟩ := arrayOverA_spec h
  rw [xg_arrD ht (by rw [hel]; exact h4), hel]
  refine ⟨k, comp, h2, h3, h4, fun c' hc => ?_⟩
  rw [ho] at hc
  cases hc
  rw [hs, ← hel2] at h1
  exact (xg_arrD hu h1).symm
theorem xg_K {s : State} {A : Array Value} {b : Nat} (h : ∀ w ∈ lw_tbl, w.before A s = true) : xs_K (xg_Z s b) s := by
  refine ⟨fun t ht => ⟨fun k hk => ?_, xg_cls h (by omega)⟩, fun t h1 h2 => ?_, fun t ht => xg_cls h ht⟩
  · obtain ⟨i, cf, kf, fi, fd, hf, hs⟩ := u_found (u_lays (ws := u_ws (xt_cn t) (xt_F t) (xt_N t)) (fun w hw => h w (xt_in t ht w hw)) (fun _ hw => hw) hk)
    refine ⟨cf, kf, fi, fd, hf, ?_⟩
    show fd.slot = xg_dI s t k
    unfold xg_dI
    rw [hf]
  · show xs_arr s (xg_dC s t) (xt_el t) (xs_co (xg_Z s b) t)
    rcases (by omega : t = 16 ∨ t = 17 ∨ t = 18 ∨ t = 19 ∨ t = 20 ∨ t = 21 ∨ t = 22 ∨ t = 23) with rfl | rfl | rfl | rfl | rfl | rfl | rfl | rfl
    · exact xg_prim (by omega) rfl (h _ xt_ac.1)
    · exact xg_prim (by omega) rfl (h _ xt_ac.2.1)
    · exact xg_prim (by omega) rfl (h _ xt_ac.2.2.1)
    · exact xg_prim (by omega) rfl (h _ xt_ac.2.2.2.1)
    · exact xg_arr2 (u := 16) (by omega) (by omega) rfl rfl rfl rfl (h _ xg_ao.1)
    · exact xg_arr2 (u := 17) (by omega) (by omega) rfl rfl rfl rfl (h _ xg_ao.2.1)
    · exact xg_arr2 (u := 18) (by omega) (by omega) rfl rfl rfl rfl (h _ xg_ao.2.2)
    · obtain ⟨comp, c, k, h1, -, h2, h3, h4⟩ := Cond.arrayOver_spec (h _ xt_ac.2.2.2.2)
      rw [xg_arrD (t := 23) (by omega) h4]
      refine ⟨k, comp, h2, h3, h4, fun c' hc => ?_⟩
      have hc2 : some (xg_dC s 3) = some c' := hc
      cases hc2
      exact Option.some.inj (h1.symm.trans (xg_cls h (t := 3) (by omega)).1)
theorem xg_no {s : State} {A : Array Value} {C D : String} {c d : ClassId} (hc : s.vm.findClass C = some c) (hd : s.vm.findClass D = some d) (h : (Cond.not (.castable C D)).before A s = true) : s.vm.assignable c d = false := by
  have hv := Cond.holds_not_iff.mp h
  simp only [Cond.value, hc, hd] at hv
  exact Option.some.inj hv
theorem xg_str {s : State} {A : Array Value} {own tx : String} {k : Nat} (h1 : (Cond.stringRef own k tx).before A s = true) (h2 : (Cond.exactly (.string own k) "java/lang/String").before A s = true) : ∃ a, (Term.string own k).eval #[] s none [] s = some (.ref a) ∧ vk_R own k tx a s := by
  have he : ∃ a, (Term.string own k).eval A s none [] s = some (.ref a) := by
    cases hv : (Term.string own k).eval A s none [] s with
    | none => simp [Cond.before, Cond.holds, Cond.value, hv] at h2
    | some v =>
      cases v with
      | ref a => exact ⟨a, rfl⟩
      | _ => cases hfc : s.vm.findClass "java/lang/String" <;> simp [Cond.before, Cond.holds, Cond.value, hv, hfc] at h2
  obtain ⟨a, ha⟩ := he
  exact ⟨a, ha, vk_R.of h1 ha⟩
