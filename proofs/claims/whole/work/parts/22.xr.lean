/-! runs of the pure machine, without fuel -/
theorem xm_mono (G : xm_G) (P : xm_P) : ∀ (n d j : Nat) (M : xm_M) (S : xm_S) (r : (Option Value ⊕ Nat) × xm_H × Nat), xm_run G P n d j M S = some r → ∀ n', n ≤ n' → xm_run G P n' d j M S = some r := by
  intro n
  induction n with
  | zero => intro d j M S r h; cases h
  | succ n ih =>
    intro d j M S r h n' hle
    obtain ⟨n', rfl⟩ : ∃ k, n' = k + 1 := ⟨n' - 1, by omega⟩
    have hle' : n ≤ n' := by omega
    unfold xm_run at h ⊢
    split at h
    · cases h
    · next E hE =>
      split at h
      · next hk =>
        split at h
        · next S' hS' => exact ih _ _ _ _ _ h _ hle'
        · cases h
      · next hk => exact h
      · next hk =>
        split at h
        · next hs =>
          rw [if_pos hs]
          split at h
          · next hge =>
            rw [if_pos hge]
            split at h
            · next v hh hv => exact ih _ _ _ _ _ h _ hle'
            · cases h
          · next hge =>
            rw [if_neg hge]
            split at h
            · cases h
            · next d' =>
              split at h
              · cases h
              · next M' hM' =>
                split at h
                · next hr =>
                  rw [if_pos hr]
                  split at h
                  · cases h
                  · next v hh ns hrun =>
                    rw [ih _ _ _ _ _ hrun _ hle']
                    exact ih _ _ _ _ _ h _ hle'
                  · next a hh ns hrun =>
                    rw [ih _ _ _ _ _ hrun _ hle']
                    dsimp only
                    split at h
                    · next t vs hat =>
                      split at h
                      · exact h
                      · split at h
                        · next q hq => exact ih _ _ _ _ _ h _ hle'
                        · exact h
                    · cases h
                · cases h
        · cases h
      · exact h
/-- some fuel is enough -/
def xr (G : xm_G) (P : xm_P) (d j : Nat) (M : xm_M) (S : xm_S) (r : (Option Value ⊕ Nat) × xm_H × Nat) : Prop := ∃ n, xm_run G P n d j M S = some r
section XR
variable {G : xm_G} {P : xm_P} {d j : Nat} {M : xm_M} {S S' : xm_S} {r : (Option Value ⊕ Nat) × xm_H × Nat} {E : xm_E}
theorem xr_go (hE : P.1 j S.1 = some E) (hk : xm_kind E = 0) (h : xm_next G M.1 M.2.1 E S = some (.inl S')) (k : xr G P d j M S' r) : xr G P d j M S r := by
  obtain ⟨n, hn⟩ := k
  refine ⟨n + 1, ?_⟩
  unfold xm_run
  rw [hE]
  dsimp only
  rw [hk]
  rw [h]
  exact hn
theorem xr_ret {v : Option Value} (hE : P.1 j S.1 = some E) (hk : xm_kind E = 1) (h : xm_rt M.2.1 E.1 S.2.2.1 = some v) : xr G P d j M S (.inl v, S.2.2.2) := by
  refine ⟨1, ?_⟩
  unfold xm_run
  rw [hE]
  dsimp only
  rw [hk, h]
  rfl
theorem xr_nat {v : Option Value} {h' : xm_H} (hE : P.1 j S.1 = some E) (hk : xm_kind E = 2) (hl : E.2.2.2 ≤ S.2.2.1.length ∧ ((S.2.2.1.drop E.2.2.2).map (fun v => v.category)).sum ≤ 8) (hge : 1000 ≤ E.2.2.1) (h : P.2.2 E.2.2.1 (S.2.2.1.take E.2.2.2).reverse S.2.2.2.1 = some (v, h'))
    (k : xr G P d j M (S.1 + 3, S.2.1, v.toList ++ S.2.2.1.drop E.2.2.2, h', S.2.2.2.2) r) : xr G P d j M S r := by
  obtain ⟨n, hn⟩ := k
  refine ⟨n + 1, ?_⟩
  unfold xm_run
  rw [hE]
  dsimp only
  rw [hk]
  rw [if_pos hl, if_pos hge, h]
  exact hn
/-- how a call goes on -/
def xr_af (G : xm_G) (P : xm_P) (n d j : Nat) (M : xm_M) (S : xm_S) (k : Nat) : Option ((Option Value ⊕ Nat) × xm_H × Nat) → Option ((Option Value ⊕ Nat) × xm_H × Nat)
  | none => none
  | some (.inl v, h', ns') => xm_run G P n d j M (S.1 + 3, S.2.1, v.toList ++ S.2.2.1.drop k, h', ns')
  | some (.inr a, h', ns') => (match h'[a]? with
      | some (t, _) => (match M.2.2.1 with
          | [] => some (.inr a, h', ns')
          | _ => (match xm_hd S.1 t M.2.2.1 with
              | some q => xm_run G P n d j M (q, S.2.1, [.ref a], h', ns')
              | none => if xm_un S.1 M.2.2.1 = true then some (.inr a, h', ns') else none))
      | none => none)
theorem xr_cl {n : Nat} {M' : xm_M} (hE : P.1 j S.1 = some E) (hk : xm_kind E = 2) (hl : E.2.2.2 ≤ S.2.2.1.length ∧ ((S.2.2.1.drop E.2.2.2).map (fun v => v.category)).sum ≤ 8) (hlt : ¬ 1000 ≤ E.2.2.1) (hM : P.2.1 E.2.2.1 = some M') (hr : xm_rcv M'.1 M'.2.2.2 (S.2.2.1.take E.2.2.2).reverse S.2.2.2.1 = true) :
    xm_run G P (n + 1) (d + 1) j M S = xr_af G P n (d + 1) j M S E.2.2.2 (xm_run G P n d E.2.2.1 M' (0, xm_args 0 (S.2.2.1.take E.2.2.2).reverse, [], S.2.2.2)) := by
  have e : xm_run G P (n + 1) (d + 1) j M S = (match P.1 j S.1 with
    | none => none
    | some E => match xm_kind E with
      | 2 => if E.2.2.2 ≤ S.2.2.1.length ∧ ((S.2.2.1.drop E.2.2.2).map (fun v => v.category)).sum ≤ 8 then
          (if 1000 ≤ E.2.2.1 then (match P.2.2 E.2.2.1 (S.2.2.1.take E.2.2.2).reverse S.2.2.2.1 with
              | some (v, h') => xm_run G P n (d + 1) j M (S.1 + 3, S.2.1, v.toList ++ S.2.2.1.drop E.2.2.2, h', S.2.2.2.2)
              | none => none)
            else match P.2.1 E.2.2.1 with
              | none => none
              | some M' => if xm_rcv M'.1 M'.2.2.2 (S.2.2.1.take E.2.2.2).reverse S.2.2.2.1 = true then xr_af G P n (d + 1) j M S E.2.2.2 (xm_run G P n d E.2.2.1 M' (0, xm_args 0 (S.2.2.1.take E.2.2.2).reverse, [], S.2.2.2)) else none)
          else none
      | _ => xm_run G P (n + 1) (d + 1) j M S) := by
    rw [hE]
    dsimp only
    split
    · next e2 =>
      conv => lhs; unfold xm_run
      rw [hE]
      dsimp only
      rw [hk]
      rfl
    · rfl
  rw [e, hE]
  dsimp only
  rw [hk]
  show (if _ then (if _ then _ else _) else _) = _
  rw [if_pos hl, if_neg hlt, hM]
  show (if _ then _ else _) = _
  rw [if_pos hr]
theorem xr_call {v : Option Value} {h' : xm_H} {ns' : Nat} {M' : xm_M} (hE : P.1 j S.1 = some E) (hk : xm_kind E = 2) (hl : E.2.2.2 ≤ S.2.2.1.length ∧ ((S.2.2.1.drop E.2.2.2).map (fun v => v.category)).sum ≤ 8) (hlt : ¬ 1000 ≤ E.2.2.1) (hM : P.2.1 E.2.2.1 = some M') (hr : xm_rcv M'.1 M'.2.2.2 (S.2.2.1.take E.2.2.2).reverse S.2.2.2.1 = true)
    (h : xr G P d E.2.2.1 M' (0, xm_args 0 (S.2.2.1.take E.2.2.2).reverse, [], S.2.2.2) (.inl v, h', ns'))
    (k : xr G P (d + 1) j M (S.1 + 3, S.2.1, v.toList ++ S.2.2.1.drop E.2.2.2, h', ns') r) : xr G P (d + 1) j M S r := by
  obtain ⟨n1, h1⟩ := h
  obtain ⟨n2, h2⟩ := k
  refine ⟨max n1 n2 + 1, ?_⟩
  rw [xr_cl hE hk hl hlt hM hr, xm_mono G P _ _ _ _ _ _ h1 _ (Nat.le_max_left n1 n2)]
  exact xm_mono G P _ _ _ _ _ _ h2 _ (Nat.le_max_right n1 n2)
/-- a call that throws out of a method without handlers -/
theorem xr_callT {a t : Nat} {vs : List Value} {h' : xm_H} {ns' : Nat} {M' : xm_M} (hE : P.1 j S.1 = some E) (hk : xm_kind E = 2) (hl : E.2.2.2 ≤ S.2.2.1.length ∧ ((S.2.2.1.drop E.2.2.2).map (fun v => v.category)).sum ≤ 8) (hlt : ¬ 1000 ≤ E.2.2.1) (hM : P.2.1 E.2.2.1 = some M') (hr : xm_rcv M'.1 M'.2.2.2 (S.2.2.1.take E.2.2.2).reverse S.2.2.2.1 = true)
    (h : xr G P d E.2.2.1 M' (0, xm_args 0 (S.2.2.1.take E.2.2.2).reverse, [], S.2.2.2) (.inr a, h', ns')) (hat : h'[a]? = some (t, vs)) (hno : M.2.2.1 = []) : xr G P (d + 1) j M S (.inr a, h', ns') := by
  obtain ⟨n1, h1⟩ := h
  refine ⟨n1 + 1, ?_⟩
  rw [xr_cl hE hk hl hlt hM hr, h1]
  unfold xr_af
  dsimp only
  rw [hat]
  dsimp only
  rw [hno]
/-- a call that throws out of a method where no handler covers it -/
theorem xr_callU {a t : Nat} {vs : List Value} {h' : xm_H} {ns' : Nat} {M' : xm_M} (hE : P.1 j S.1 = some E) (hk : xm_kind E = 2) (hl : E.2.2.2 ≤ S.2.2.1.length ∧ ((S.2.2.1.drop E.2.2.2).map (fun v => v.category)).sum ≤ 8) (hlt : ¬ 1000 ≤ E.2.2.1) (hM : P.2.1 E.2.2.1 = some M') (hr : xm_rcv M'.1 M'.2.2.2 (S.2.2.1.take E.2.2.2).reverse S.2.2.2.1 = true)
    (h : xr G P d E.2.2.1 M' (0, xm_args 0 (S.2.2.1.take E.2.2.2).reverse, [], S.2.2.2) (.inr a, h', ns')) (hat : h'[a]? = some (t, vs)) (hh : xm_hd S.1 t M.2.2.1 = none) (hno : xm_un S.1 M.2.2.1 = true) : xr G P (d + 1) j M S (.inr a, h', ns') := by
  obtain ⟨n1, h1⟩ := h
  refine ⟨n1 + 1, ?_⟩
  rw [xr_cl hE hk hl hlt hM hr, h1]
  unfold xr_af
  dsimp only
  rw [hat]
  dsimp only
  split
  · rfl
  · rw [hh]
    dsimp only
    rw [if_pos hno]
/-- a call that throws, and is caught here -/
theorem xr_callC {a t q : Nat} {vs : List Value} {h' : xm_H} {ns' : Nat} {M' : xm_M} (hE : P.1 j S.1 = some E) (hk : xm_kind E = 2) (hl : E.2.2.2 ≤ S.2.2.1.length ∧ ((S.2.2.1.drop E.2.2.2).map (fun v => v.category)).sum ≤ 8) (hlt : ¬ 1000 ≤ E.2.2.1) (hM : P.2.1 E.2.2.1 = some M') (hr : xm_rcv M'.1 M'.2.2.2 (S.2.2.1.take E.2.2.2).reverse S.2.2.2.1 = true)
    (h : xr G P d E.2.2.1 M' (0, xm_args 0 (S.2.2.1.take E.2.2.2).reverse, [], S.2.2.2) (.inr a, h', ns')) (hat : h'[a]? = some (t, vs)) (hne : M.2.2.1 ≠ []) (hq : xm_hd S.1 t M.2.2.1 = some q)
    (k : xr G P (d + 1) j M (q, S.2.1, [.ref a], h', ns') r) : xr G P (d + 1) j M S r := by
  obtain ⟨n1, h1⟩ := h
  obtain ⟨n2, h2⟩ := k
  refine ⟨max n1 n2 + 1, ?_⟩
  rw [xr_cl hE hk hl hlt hM hr, xm_mono G P _ _ _ _ _ _ h1 _ (Nat.le_max_left n1 n2)]
  unfold xr_af
  dsimp only
  rw [hat]
  dsimp only
  split
  · next e => exact absurd e hne
  · rw [hq]
    exact xm_mono G P _ _ _ _ _ _ h2 _ (Nat.le_max_right n1 n2)
theorem xr_thr (hE : P.1 j S.1 = some E) (hk : xm_kind E = 3) (h : M.2.2.1 = [] ∧ S.2.2.1 = [] ∧ S.2.2.2.1.length + 1 ≤ xm_cm ∧ S.2.2.2.2 + 6 ≤ xm_sm) : xr G P d j M S (.inr S.2.2.2.1.length, S.2.2.2.1 ++ [(E.2.2.1, List.replicate 6 .null)], S.2.2.2.2 + 6) := by
  refine ⟨1, ?_⟩
  unfold xm_run
  rw [hE]
  dsimp only
  rw [hk]
  rw [if_pos h]
  rfl
/-- k instructions that go on, at once; f: the method's rows -/
def xb (G : xm_G) (f : Nat → Option xm_E) (M : xm_M) : Nat → xm_S → Option xm_S
  | 0, s => some s
  | k + 1, s => match f s.1 with
    | some E => (match xm_kind E with
        | 0 => (match xm_next G M.1 M.2.1 E s with
            | some (.inl s') => xb G f M k s'
            | _ => none)
        | _ => none)
    | none => none
theorem xr_blk {f : Nat → Option xm_E} (hf : P.1 j = f) (n : Nat) (h : xb G f M n S = some S') (k : xr G P d j M S' r) : xr G P d j M S r := by
  subst hf
  induction n generalizing S with
  | zero =>
    unfold xb at h
    cases h
    exact k
  | succ n ih =>
    unfold xb at h
    split at h
    · next E hE =>
      split at h
      · next hk =>
        split at h
        · next S1 hS1 => exact xr_go hE hk hS1 (ih h)
        · cases h
      · cases h
    · cases h
end XR
