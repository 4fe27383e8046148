/-! THE LAW: one call of a script -/
section LAW
variable {B : Nat} {c : Int} {m : xw_M} {F G : xw_M → xP} {ag : Int ⊕ Nat → Int → Int → Prop} {H : Nat → xw_M → xP}
/-- how the law writes an exception down -/
def HA (ag : Int ⊕ Nat → Int → Int → Prop) (H : Nat → xw_M → xP) : Prop := ∀ r cd v, ag r cd v → (r = .inl v ∧ cd = 0) ∨ ∃ t, r = .inr t ∧ cd ≠ 0 ∧ ∀ m, H t m = some (.inl cd, m)
theorem HA_1 : HA ag1 (fun c m2 => if c = 14 then (some (.inl 1, m2)) else (none)) := fun r cd v h => by
  rcases h with ⟨rfl, rfl⟩ | ⟨rfl, rfl⟩
  · exact Or.inl ⟨rfl, rfl⟩
  · exact Or.inr ⟨14, rfl, by decide, fun m => rfl⟩
theorem HA_2 : HA ag2 (fun c m2 => if c = 15 then (some (.inl 1, m2)) else (if c = 14 then (some (.inl 2, m2)) else (none))) := fun r cd v h => by
  rcases h with ⟨rfl, rfl⟩ | ⟨rfl, rfl⟩ | ⟨rfl, rfl⟩
  · exact Or.inl ⟨rfl, rfl⟩
  · exact Or.inr ⟨15, rfl, by decide, fun m => rfl⟩
  · exact Or.inr ⟨14, rfl, by decide, fun m => rfl⟩
theorem HA_3 : HA ag3 (fun c m2 => if c = 15 then (some (.inl 1, m2)) else (none)) := fun r cd v h => by
  rcases h with ⟨rfl, rfl⟩ | ⟨rfl, rfl⟩
  · exact Or.inl ⟨rfl, rfl⟩
  · exact Or.inr ⟨15, rfl, by decide, fun m => rfl⟩
theorem le604 : (0 : Int) ≤ 0 ∧ 0 < xw_le B 604 := ⟨by decide, by rw [show xw_le B 604 = 1 from rfl]; decide⟩
theorem ob604 : xw_obb 17 604 = true := by decide
theorem st_v (hA : HA ag H) (o : opA B c m F G ag) (k : ∀ m1, K4 (m1 604) (G m1)) (w : ∀ m1, W4 (G m1)) (R : xw_M → xP) : ∃ m2, (xT (xT (F m) (fun v1 m1 => if (0 : Int) ≤ 0 ∧ 0 < (xw_le B 604) then if xw_obb 17 604 = true then some (.inl 0, (xw_u m1 604 0 v1)) else none else none) H) (fun v1 m1 => xN (G m1) fun v2 m2 => xN (yf243 B m2) fun v3 m3 => if v3 = v1 then (if v1 = 0 then (if (xJ m3 604 0) = v2 then (R m3) else (some (.inl 0, m3))) else (R m3)) else (some (.inl 0, m3))) (fun _ _ => none)) = R m2 ∧ Inw B (c + 1) m2 ∧ ans m2 := by
  obtain ⟨r, m1, eF, h⟩ := o
  rcases r with v | t
  · obtain ⟨v2, m2, eG, i, a, g⟩ := h (xw_u m1 604 0 v) (fun a ha => xu_c ha)
    rcases hA _ _ _ g with ⟨q1, q2⟩ | ⟨t, q1, _⟩
    · injection q1 with q1
      refine ⟨m2, ?_, i, a⟩
      rw [eF, xT_ret, if_pos le604, if_pos ob604, xT_ret, eG]
      show (if xR m2 536 1 = 0 then _ else _) = _
      have e4 := k _ _ _ eG
      have ew := w _ _ _ eG
      have ej : xJ m2 604 0 = v2 := by
        unfold xJ
        rw [e4]
        unfold xw_u
        rw [if_pos ⟨rfl, rfl⟩, q1]; exact ew
      rw [if_pos q2, if_pos rfl, if_pos ej]
    · exact absurd q1 (by intro z; cases z)
  · obtain ⟨v2, m2, eG, i, a, g⟩ := h m1 (fun _ _ => rfl)
    rcases hA _ _ _ g with ⟨q1, _⟩ | ⟨t', q1, q2, q3⟩
    · exact absurd q1 (by intro z; cases z)
    · injection q1 with q1
      subst q1
      refine ⟨m2, ?_, i, a⟩
      rw [eF, xT_thr, q3, xT_ret, eG]
      show (if xR m2 536 1 = xR m2 536 1 then _ else _) = _
      rw [if_pos rfl, if_neg q2]
theorem st_b (hA : HA ag H) (o : opA B c m F G ag) (k : ∀ m1, K4 (m1 604) (G m1)) (R : xw_M → xP) : ∃ m2, (xT (xT (F m) (fun v1 m1 => if v1 = 0 then (if (0 : Int) ≤ 0 ∧ 0 < (xw_le B 604) then if xw_obb 17 604 = true then some (.inl 0, (xw_u m1 604 0 0)) else none else none) else (if (0 : Int) ≤ 0 ∧ 0 < (xw_le B 604) then if xw_obb 17 604 = true then some (.inl 0, (xw_u m1 604 0 1)) else none else none)) H) (fun v1 m1 => xN (G m1) fun v2 m2 => xN (yf243 B m2) fun v3 m3 => if v3 = v1 then (if v1 = 0 then (if v2 = 0 then (if (xJ m3 604 0) = 0 then (R m3) else (some (.inl 0, m3))) else (if (xJ m3 604 0) = 1 then (R m3) else (some (.inl 0, m3)))) else (R m3)) else (some (.inl 0, m3))) (fun _ _ => none)) = R m2 ∧ Inw B (c + 1) m2 ∧ ans m2 := by
  obtain ⟨r, m1, eF, h⟩ := o
  rcases r with v | t
  · have key : ∀ x : Int, (x = 0 ∨ x = 1) → (v = 0 ↔ x = 0) → ∃ m2, xT (some (.inl 0, xw_u m1 604 0 x)) (fun v1 m1 => xN (G m1) fun v2 m2 => xN (yf243 B m2) fun v3 m3 => if v3 = v1 then (if v1 = 0 then (if v2 = 0 then (if (xJ m3 604 0) = 0 then (R m3) else (some (.inl 0, m3))) else (if (xJ m3 604 0) = 1 then (R m3) else (some (.inl 0, m3)))) else (R m3)) else (some (.inl 0, m3))) (fun _ _ => none) = R m2 ∧ Inw B (c + 1) m2 ∧ ans m2 := fun x x01 vx => by
      obtain ⟨v2, m2, eG, i, a, g⟩ := h (xw_u m1 604 0 x) (fun a ha => xu_c ha)
      rcases hA _ _ _ g with ⟨q1, q2⟩ | ⟨t, q1, _⟩
      · injection q1 with q1
        refine ⟨m2, ?_, i, a⟩
        rw [xT_ret, eG]
        show (if xR m2 536 1 = 0 then _ else _) = _
        have e4 := k _ _ _ eG
        have ej : xJ m2 604 0 = x := by
          unfold xJ
          rw [e4]
          unfold xw_u
          rw [if_pos ⟨rfl, rfl⟩]
          exact w64_id (by omega) (by omega)
        rw [if_pos q2, if_pos rfl, ej, ← q1]
        by_cases z : v = 0
        · rw [if_pos z, if_pos (vx.mp z)]
        · have z1 : ¬ x = 0 := fun e => z (vx.mpr e)
          rw [if_neg z, if_pos (by omega)]
      · exact absurd q1 (by intro z; cases z)
    rw [eF, xT_ret]
    by_cases z : v = 0
    · rw [if_pos z, if_pos le604, if_pos ob604]
      exact key 0 (Or.inl rfl) ⟨fun _ => rfl, fun _ => z⟩
    · rw [if_neg z, if_pos le604, if_pos ob604]
      exact key 1 (Or.inr rfl) ⟨fun e => absurd e z, fun e => absurd e (by decide)⟩
  · obtain ⟨v2, m2, eG, i, a, g⟩ := h m1 (fun _ _ => rfl)
    rcases hA _ _ _ g with ⟨q1, _⟩ | ⟨t', q1, q2, q3⟩
    · exact absurd q1 (by intro z; cases z)
    · injection q1 with q1
      subst q1
      refine ⟨m2, ?_, i, a⟩
      rw [eF, xT_thr, q3, xT_ret, eG]
      show (if xR m2 536 1 = xR m2 536 1 then _ else _) = _
      rw [if_pos rfl, if_neg q2]
theorem st_n (hA : HA ag H) (o : opA B c m F G ag) (R : xw_M → xP) : ∃ m2, (xT (xT (F m) (fun _ m1 => some (.inl 0, m1)) H) (fun v1 m1 => xN (G m1) fun _ m2 => xN (yf243 B m2) fun v3 m3 => if v3 = v1 then (R m3) else (some (.inl 0, m3))) (fun _ _ => none)) = R m2 ∧ Inw B (c + 1) m2 ∧ ans m2 := by
  obtain ⟨r, m1, eF, h⟩ := o
  obtain ⟨v2, m2, eG, i, a, g⟩ := h m1 (fun _ _ => rfl)
  refine ⟨m2, ?_, i, a⟩
  rcases r with v | t
  · rcases hA _ _ _ g with ⟨q1, q2⟩ | ⟨t, q1, _⟩
    · rw [eF, xT_ret, xT_ret, eG]
      show (if xR m2 536 1 = 0 then _ else _) = _
      rw [if_pos q2]
    · exact absurd q1 (by intro z; cases z)
  · rcases hA _ _ _ g with ⟨q1, _⟩ | ⟨t', q1, q2, q3⟩
    · exact absurd q1 (by intro z; cases z)
    · injection q1 with q1
      subst q1
      rw [eF, xT_thr, q3, xT_ret, eG]
      show (if xR m2 536 1 = xR m2 536 1 then _ else _) = _
      rw [if_pos rfl]
end LAW
