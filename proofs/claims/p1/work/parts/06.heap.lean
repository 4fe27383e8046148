/-! the instructions that read and write cells -/
def xs_wd (w : Cond) : Bool := goodWord w || (match w with
  | .fieldLinkNest .. => true
  | .methodLinkNest .. => true
  | .arrayOver (.object _) => true
  | _ => false)
def xs_ws (args : Array Value) (s : State) : Prop := ∀ w ∈ lw_tbl, xs_wd w = true → w.before args s = true
theorem xs_mv {s0 s : State} {A0 args : Array Value} {w : Cond} (hW : s0.WarmedH s.vm) (hw : xs_wd w = true) (h : w.before A0 s0 = true) : w.before args s = true := by
  unfold xs_wd at hw
  rw [Bool.or_eq_true] at hw
  rcases hw with hw | hw
  · exact word_at hW (good_of_word hw) h
  · split at hw
    · exact va_Nw.use rfl (va_Nw.warmF hW (va_Nw.of rfl h))
    · exact va_Nw.use rfl (va_Nw.warmM hW (va_Nw.of rfl h))
    · exact va_AO.use ((va_AO.of h).moved hW.alike)
    · cases hw
theorem xs_ws.moved {s0 s : State} {A0 args : Array Value} (hW : s0.WarmedH s.vm) (h : ∀ w ∈ lw_tbl, w.before A0 s0 = true) : xs_ws args s := fun w hw hg => xs_mv hW hg (h w hw)
theorem xs_lay {C : String} {T : u_T} {N : Nat} {w : Cond} (h : w ∈ u_ws C T N) : xs_wd w = true := by
  obtain ⟨k, -, rfl⟩ := List.mem_map.mp h
  unfold u_lay
  split <;> rfl
theorem xs_at.kept {Z : xs_Z} {k : Nat} {q : xm_C} {H H' : Heap} (h : xs_at Z k q H) (e : H'[Z.1 + k]? = H[Z.1 + k]?) : xs_at Z k q H' := by
  obtain ⟨cell, h1, h2⟩ := h
  exact ⟨cell, by rw [e]; exact h1, h2⟩
theorem xs_R.lt {Z : xs_Z} {h : xm_H} {H : Heap} (hR : xs_R Z h H) {k : Nat} {q : xm_C} (hk : h[k]? = some q) : k < h.length := (List.getElem?_eq_some_iff.mp hk).1
theorem xs_R.put {Z : xs_Z} {h : xm_H} {H H' : Heap} (hR : xs_R Z h H) {a : Nat} {q' : xm_C} (hz : H'.size = H.size) (ho : ∀ q, q ≠ Z.1 + a → H'[q]? = H[q]?) (hat : a < h.length → xs_at Z a q' H') : xs_R Z (h.set a q') H' := by
  refine ⟨by rw [hz, List.length_set]; exact hR.1, fun q hq => ?_, fun k q hk => ?_⟩
  · rw [ho q (by omega)]
    exact hR.2.1 q hq
  · rw [List.getElem?_set] at hk
    split at hk
    · next he =>
      subst he
      split at hk
      · next hl => cases hk; exact hat hl
      · cases hk
    · next he => exact (hR.2.2 k q hk).kept (ho _ (by omega))
theorem xs_R.push {Z : xs_Z} {h : xm_H} {H H' : Heap} (hR : xs_R Z h H) {q' : xm_C} (hz : H'.size = H.size + 1) (ho : ∀ q, q < H.size → H'[q]? = H[q]?) (hat : xs_at Z h.length q' H') : xs_R Z (h ++ [q']) H' := by
  refine ⟨by rw [hz, hR.1, List.length_append, List.length_singleton]; omega, fun q hq => ?_, fun k q hk => ?_⟩
  · rw [ho q (by rw [hR.1]; omega)]
    exact hR.2.1 q hq
  · by_cases hl : k < h.length
    · rw [List.getElem?_append_left hl] at hk
      exact (hR.2.2 k q hk).kept (ho _ (by rw [hR.1]; omega))
    · have h1 : k < (h ++ [q']).length := (List.getElem?_eq_some_iff.mp hk).1
      rw [List.length_append, List.length_singleton] at h1
      have h2 : k = h.length := by omega
      subst h2
      rw [List.getElem?_append_right (Nat.le_refl _), Nat.sub_self] at hk
      cases hk
      exact hat
section XS2
variable {Z : xs_Z} {p : Program} {l : Launch} {e : Env} {R : Room} {s : State} {m : MethodId} {args : Array Value} {below : List Frame} {meth : Method} {c : Code} {Q : State → Prop} {nL c0 b0 : Nat} {cc : ByteArray} {S S' : xm_S}
theorem xs_uw (hw : xs_ws args s) {t : Nat} (ht : t < 14) : ∀ w ∈ u_ws (xt_cn t) (xt_F t) (xt_N t), w.before args s = true := fun w h => hw w (xt_in t ht w h) (xs_lay h)
/-- the host of a class's nest -/
def xt_host (own : String) : String := if own = "CubeStoreModel" ∨ own = "CubeStoreModel$Question" then "CubeStoreModel" else "CubeStore"
/-- the link of a field, from its own class or from a nest mate -/
def xs_fl (own : String) (i t k : Nat) : Prop := Cond.fieldLink own i (xt_F t k).1 (xt_F t k).2.1 (xt_F t k).2.2.1 ∈ lw_tbl ∨ Cond.fieldLinkNest own i (xt_F t k).1 (xt_F t k).2.1 (xt_F t k).2.2.1 (xt_host own) ∈ lw_tbl
theorem xs_gf (hexec : p.tables.exec = Jvm.exec) (hb : c.code = cc) (hw : xs_ws args s) (hK : xs_K Z s) {own : String} {i t k : Nat} (hown : s.vm.findClass own = some m.cls) (ht : t < 14) (hk : k < xt_N t) (hl : xs_fl own i t k) (hd : decode cc S.1 = .ok (.getfield i, 3))
    (h : xm_gf t k S = some (.inl S')) (kk : xs_W Z p l e R s m args below meth c Q nL c0 b0 S') : xs_W Z p l e R s m args below meth c Q nL c0 b0 S := by
  unfold xm_gf xm_go at h
  split at h
  · next a r hx =>
    split at h
    · next t' vs hc =>
      split at h
      · next he =>
        subst he
        split at h
        · next v hv =>
          cases h
          intro ls H locs cells slots I
          rw [hx]
          obtain ⟨cell, q1, q2, q3, -, q5⟩ := I.2.1.2.2 a _ hc
          obtain ⟨hS, hfc, kC, hkC, hkind⟩ := hK.1 t' ht
          obtain ⟨cf, kf, fi, f, hi, hsl⟩ := hS k hk
          have hst := (u_facts hfc hkC (u_lays (xs_uw hw ht) (fun _ h => h) hk) hi).1
          have hs : cell.slots[f.slot]? = some (xs_tr Z v) := by rw [hsl]; exact (q5 ht).2 k v hv
          rcases hl with hl | hl
          · exact W.getf hexec hb hown (hw _ hl rfl) hi hst q1 (by rw [q2]; exact fun h => by cases h) hs rfl rfl hd (kk ls H locs cells slots I)
          · exact va_Wgetf hexec hb hown (hw _ hl rfl) hi hst q1 (by rw [q2]; exact fun h => by cases h) hs rfl rfl hd (kk ls H locs cells slots I)
        · cases h
      · cases h
    · cases h
  · cases h
theorem xs_apt (hw : xs_ws args s) (hK : xs_K Z s) {t : Nat} (ht : t < 14) : ∀ x y, x < xt_N t → y < xt_N t → x ≠ y → (Z.2.2.2.1 t) x ≠ (Z.2.2.2.1 t) y := by
  intro x y hx hy hne
  obtain ⟨hS, -⟩ := hK.1 t ht
  obtain ⟨_, _, _, fa, hia, ea⟩ := hS x hx
  obtain ⟨_, _, _, fb, hib, eb⟩ := hS y hy
  rw [← ea, ← eb]
  refine u_apart (u_lays (xs_uw hw ht) (fun _ h => h) hx) (u_lays (xs_uw hw ht) (fun _ h => h) hy) hia hib ?_
  rw [(State.fieldFound?_type hia (xt_ty t ht x hx)).1, (State.fieldFound?_type hib (xt_ty t ht y hy)).1]
  exact xt_nm t ht x hx y hy hne
/-- what may be put into a field: by its type -/
def xm_rf : Value → Value
  | .retAddr _ => .ref 0
  | v => v
def xm_okv (t k : Nat) (v : Value) : Bool := decide (narrow (xt_ft t k) v = v) && fits (xt_ft t k) (xm_rf v)
theorem xs_nar (ty : FieldType) (v : Value) (h : narrow ty v = v) : narrow ty (xs_tr Z v) = xs_tr Z v := by
  cases v <;> first | exact h | rfl | (cases ty <;> rfl)
theorem xs_fit (ty : FieldType) (v : Value) (h : fits ty (xm_rf v) = true) : fits ty (xs_tr Z v) = true := by
  cases v <;> first | exact h | (cases ty <;> first | exact h | rfl | cases h)
theorem xs_pf (hexec : p.tables.exec = Jvm.exec) (hb : c.code = cc) (hw : xs_ws args s) (hK : xs_K Z s) {own : String} {i t k : Nat} (hown : s.vm.findClass own = some m.cls) (ht : t < 14) (hk : k < xt_N t) (hl : xs_fl own i t k)
    (hfin : (xt_F t k).2.2.2 = false ∨ (meth.name = "<init>" ∧ (xt_F t k).1 = own ∧ Cond.fieldLink own i (xt_F t k).1 (xt_F t k).2.1 (xt_F t k).2.2.1 ∈ lw_tbl)) (hd : decode cc S.1 = .ok (.putfield i, 3))
    (h : xm_pf (xm_okv t k) t k S = some (.inl S')) (kk : xs_W Z p l e R s m args below meth c Q nL c0 b0 S') : xs_W Z p l e R s m args below meth c Q nL c0 b0 S := by
  unfold xm_pf xm_go at h
  split at h
  · next v a r hx =>
    split at h
    · next t' vs hc =>
      split at h
      · next he =>
        obtain ⟨he, hkl, hok⟩ := he
        subst he
        cases h
        intro ls H locs cells slots I
        rw [hx]
        obtain ⟨cell, q1, q2, q3, -, q5⟩ := I.2.1.2.2 a _ hc
        obtain ⟨hlen, q6⟩ := q5 ht
        obtain ⟨hS, hfc, kC, hkC, hkind⟩ := hK.1 t' ht
        obtain ⟨cf, kf, fi, f, hi, hsl⟩ := hS k hk
        have hst := (u_facts hfc hkC (u_lays (xs_uw hw ht) (fun _ h => h) hk) hi).1
        have hlt : f.slot < cell.slots.size := by
          rw [hsl]
          exact k2_hasslot (q6 k vs[k] (List.getElem?_eq_getElem hkl))
        unfold xm_okv at hok
        rw [Bool.and_eq_true, decide_eq_true_eq] at hok
        have hn := xs_nar (Z := Z) _ _ hok.1
        have hf := xs_fit (Z := Z) _ _ hok.2
        have hty := xt_ty t' ht k hk
        have next : ∀ H' : Heap, H'[Z.1 + a]? = some (cell.setSlot f.slot (xs_tr Z v)) → H'.size = H.size → (∀ q, q ≠ Z.1 + a → H'[q]? = H[q]?) → W p l e R s m args below meth c H' (locs ++ [⟨Z.1 + a, f.slot⟩]) cells slots Q (F0 m (S.1 + 3) ls (r.map (xs_tr Z))) := by
          intro H' e1 e2 e3
          refine kk ls H' _ cells slots ⟨I.1, I.2.1.put e2 e3 (fun _ => ⟨_, e1, q2, q3, fun h16 => ?_, fun _ => ⟨by rw [List.length_set]; exact hlen, fun j w hj => ?_⟩⟩), ?_, I.2.2.2.1, fun q hq => ?_, ?_, I.2.2.2.2.2.2⟩
          · exact absurd h16 (by show ¬ 16 ≤ t'; omega)
          · rw [List.getElem?_set] at hj
            rw [hsl]
            split at hj
            · next hjk =>
              subst hjk
              cases hj
              rw [Cell.slots_setSlot_self _ (by rw [← hsl]; exact hlt)]
            · next hjk =>
              have hjl : j < vs.length := (List.getElem?_eq_some_iff.mp hj).1
              rw [slot_ne _ _ (xs_apt hw hK ht k j hk (by rw [← hlen]; exact hjl) hjk)]
              exact q6 j w hj
          · rw [List.length_set]; exact I.2.2.1
          · rcases List.mem_append.mp hq with h1 | h1
            · exact I.2.2.2.2.1 q h1
            · rw [List.mem_singleton.mp h1]
              exact Nat.le_add_right _ _
          · rw [List.length_set]; exact I.2.2.2.2.2.1
        rcases hfin with hfin | ⟨hin2, hdecl, hl0⟩
        · have hlay := xs_uw hw ht _ (u_in_lay hk)
          unfold u_lay at hlay
          rw [if_neg (by rw [hfin]; decide)] at hlay
          have h6 := u_store hfc hkC hkind hlay hi hty hn hf
          rcases hl with hl | hl
          · exact W.putK hexec hb (f := f) ⟨hown, hw _ hl rfl, ⟨_, _, _, hi⟩, hst⟩ (by rw [q3]; exact h6) q1 q2 hlt rfl rfl hd next
          · exact va_WputK hexec hb (f := f) hown (hw _ hl rfl) hi hst (by rw [q3]; exact h6) q1 q2 hlt rfl rfl hd next
        · by_cases hff : (xt_F t' k).2.2.2 = true
          · have hlay := xs_uw hw ht _ (u_in_lay hk)
            unfold u_lay at hlay
            rw [if_pos hff] at hlay
            have hcf : m.cls = cf := by
              obtain ⟨_, _, c', _, _, _, -, -, hf', -, -, -, hown2, -⟩ := Cond.laysFinal_spec hlay
              have e1 : c' = cf := by have := hi.symm.trans hf'; simp at this; exact this.1.symm
              rw [hdecl] at hown2
              rw [← e1]; exact Option.some.inj (hown.symm.trans hown2)
            have h6 := u_fits hfc hkC hkind (Or.inr hlay) hi hty hn hf
            exact W.putFinK hexec hb hown (hw _ hl0 rfl) hi hst hcf hin2 (by rw [q3]; exact h6) q1 q2 hlt rfl rfl hd next
          · have hlay := xs_uw hw ht _ (u_in_lay hk)
            unfold u_lay at hlay
            rw [if_neg hff] at hlay
            have h6 := u_store hfc hkC hkind hlay hi hty hn hf
            exact W.putK hexec hb (f := f) ⟨hown, hw _ hl0 rfl, ⟨_, _, _, hi⟩, hst⟩ (by rw [q3]; exact h6) q1 q2 hlt rfl rfl hd next
      · cases h
    · cases h
  · cases h
end XS2
