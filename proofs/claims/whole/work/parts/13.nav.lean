/-! System.arraycopy between two arrays of ints, longs or bytes, as one step -/
theorem xn_prs (c : Cell) (at_ : Nat) : ∀ (xs : List Value) (i : Nat), (c.storePairs at_ (xs.zipIdx i)).cls = c.cls ∧ (c.storePairs at_ (xs.zipIdx i)).vm = c.vm ∧ (c.storePairs at_ (xs.zipIdx i)).slots.size = c.slots.size := fun xs i => by
  have := Cell.storePairs_facts c at_ (xs.zipIdx i)
  exact ⟨this.1, this.2.1, this.2.2.1⟩
theorem xn_prv (at_ : Nat) : ∀ (xs : List Value) (i : Nat) (c : Cell), at_ + i + xs.length ≤ c.slots.size → ∀ k : Nat, (c.storePairs at_ (xs.zipIdx i)).slots[k]? = if at_ + i ≤ k ∧ k < at_ + i + xs.length then xs[k - (at_ + i)]? else c.slots[k]?
  | [], i, c, _, k => by
    rw [if_neg (by simp only [List.length_nil]; omega)]
    rfl
  | x :: xs, i, c, hl, k => by
    rw [List.zipIdx_cons]
    show ((c.setSlot (at_ + i) x).storePairs at_ (xs.zipIdx (i + 1))).slots[k]? = _
    rw [List.length_cons] at hl
    rw [xn_prv at_ xs (i + 1) (c.setSlot (at_ + i) x) (by show _ ≤ (c.slots.setIfInBounds (at_ + i) x).size; rw [Array.size_setIfInBounds]; omega) k, List.length_cons]
    by_cases hk : k = at_ + i
    · subst hk
      rw [if_neg (by omega), if_pos (by omega), Nat.sub_self]
      show (c.slots.setIfInBounds (at_ + i) x)[at_ + i]? = _
      rw [Array.getElem?_setIfInBounds, if_pos rfl, if_pos (by omega)]
      rfl
    · by_cases h : at_ + (i + 1) ≤ k ∧ k < at_ + (i + 1) + xs.length
      · rw [if_pos h, if_pos (by omega), show k - (at_ + i) = (k - (at_ + (i + 1))) + 1 by omega]
        rfl
      · rw [if_neg h, if_neg (by omega)]
        show (c.slots.setIfInBounds (at_ + i) x)[k]? = _
        rw [Array.getElem?_setIfInBounds, if_neg (by omega)]
/-- the copied list -/
def xn_cp (vs ws : List Value) (sp dp n : Nat) : List Value := (List.range ws.length).map (fun k => if dp ≤ k ∧ k < dp + n then vs.getD (sp + (k - dp)) .null else ws.getD k .null)
theorem xn_cpl (vs ws : List Value) (sp dp n : Nat) : (xn_cp vs ws sp dp n).length = ws.length := by simp [xn_cp]
theorem xn_copied {Z : xs_Z} {cs cd : Cell} {vs ws : List Value} {sp dp n : Int32} (h1 : cs.slots = (vs.map (xs_tr Z)).toArray) (h2 : cd.slots = (ws.map (xs_tr Z)).toArray) (h4 : sp.toNatClampNeg + n.toNatClampNeg ≤ vs.length) (h5 : dp.toNatClampNeg + n.toNatClampNeg ≤ ws.length) : (copied cs cd sp dp n).slots = ((xn_cp vs ws sp.toNatClampNeg dp.toNatClampNeg n.toNatClampNeg).map (xs_tr Z)).toArray := by
  have hlen : (cs.stretch sp.toNatClampNeg n.toNatClampNeg).length = n.toNatClampNeg := by simp [Cell.stretch]
  have hsz : cd.slots.size = ws.length := by rw [h2]; simp
  apply Array.ext_getElem?
  intro k
  show (cd.storePairs dp.toNatClampNeg ((cs.stretch sp.toNatClampNeg n.toNatClampNeg).zipIdx 0)).slots[k]? = _
  rw [xn_prv _ _ 0 cd (by rw [hlen, hsz]; omega) k, hlen, Nat.add_zero]
  by_cases hk : k < ws.length
  · have e : ((xn_cp vs ws sp.toNatClampNeg dp.toNatClampNeg n.toNatClampNeg).map (xs_tr Z)).toArray[k]? = some (xs_tr Z (if dp.toNatClampNeg ≤ k ∧ k < dp.toNatClampNeg + n.toNatClampNeg then vs.getD (sp.toNatClampNeg + (k - dp.toNatClampNeg)) .null else ws.getD k .null)) := by
      simp [xn_cp, hk]
    rw [e]
    by_cases h : dp.toNatClampNeg ≤ k ∧ k < dp.toNatClampNeg + n.toNatClampNeg
    · rw [if_pos h, if_pos h]
      have hj : k - dp.toNatClampNeg < n.toNatClampNeg := by omega
      have hv : sp.toNatClampNeg + (k - dp.toNatClampNeg) < vs.length := by omega
      simp [Cell.stretch, hj, h1, Array.getD_eq_getD_getElem?, List.getD_eq_getElem?_getD, hv]
    · rw [if_neg h, if_neg h, h2]
      simp [List.getD_eq_getElem?_getD, hk]
  · rw [if_neg (by omega)]
    rw [Array.getElem?_eq_none (by omega), Array.getElem?_eq_none (by simp [xn_cp]; omega)]
