/-! of each method a function over the memory: the machine does what it says -/
theorem xi_c {x x' : Int} (h : w32 x = x') : xi x = xi x' := by
  refine congrArg Value.int (Int32.toInt_inj.mp ?_)
  rw [w32_t, w32_t, ← h, w32_w]
theorem xj_c {x x' : Int} (h : w64 x = x') : xj x = xj x' := by
  refine congrArg Value.long (Int64.toInt_inj.mp ?_)
  rw [w64_t, w64_t, ← h, w64_w]
theorem xw_sc {v v' : Value} {st st' : List Value} (h : v = v') (k : st = st') : v :: st = v' :: st' := by rw [h, k]
def xrv (k : Nat) (v : Int) : Option Value := match k with
  | 0 => none
  | 2 => some (xj v)
  | 3 => some (xa v)
  | _ => some (xi v)
def xOut (B k : Nat) (ex : xm_H) (ns : Nat) (o : xO) : xw_R := match o.1 with
  | .inl v => (.inl (xrv k v), xw_h B o.2 ex, ns)
  | .inr t => (.inr (605 + ex.length), xw_h B o.2 (ex ++ [(t, List.replicate 6 .null)]), ns + 6)
/-- a run from a place has the outcome that the tree says -/
def xS (B : Nat) (xs : Nat → Int32) (SL d j : Nat) (M : xm_M) (k pc : Nat) (L : xm_L) (st : List Value) (m : xw_M) (t : xP) : Prop := ∀ o, t = some o → xcan k o ∧ ∀ ex ns, 606 + ex.length ≤ xm_cm → ns + 6 ≤ xm_sm → xw B (xm_gg xs SL) xq_P d j M pc L st m ex ns (xOut B k ex ns o)
section XG
variable {B : Nat} {xs : Nat → Int32} {SL d j k pc pc' : Nat} {M M' : xm_M} {L L' : xm_L} {st st' : List Value} {m m' : xw_M} {t a b : xP} {E : xm_E}
theorem xw_cst {ex : xm_H} {ns : Nat} {r : xw_R} (h : st = st') (k : xw B (xm_gg xs SL) xq_P d j M pc L st' m ex ns r) : xw B (xm_gg xs SL) xq_P d j M pc L st m ex ns r := h ▸ k
theorem xS_none : xS B xs SL d j M k pc L st m none := fun o h => nomatch h
theorem xS_of (h : ∀ ex ns r, xw B (xm_gg xs SL) xq_P d j M pc' L' st' m' ex ns r → xw B (xm_gg xs SL) xq_P d j M pc L st m ex ns r) (q : xS B xs SL d j M k pc' L' st' m' t) : xS B xs SL d j M k pc L st m t := fun o ho => ⟨(q o ho).1, fun ex ns hc hs => h ex ns _ ((q o ho).2 ex ns hc hs)⟩
theorem xS_if {c : Prop} [Decidable c] (h1 : c → xS B xs SL d j M k pc L st m a) (h2 : ¬ c → xS B xs SL d j M k pc L st m b) : xS B xs SL d j M k pc L st m (if c then a else b) := by
  by_cases h : c
  · rw [if_pos h]
    exact h1 h
  · rw [if_neg h]
    exact h2 h
theorem xS_g {c : Prop} [Decidable c] (h1 : c → xS B xs SL d j M k pc L st m a) : xS B xs SL d j M k pc L st m (if c then a else none) := xS_if h1 (fun _ => xS_none)
theorem xS_ret {v : Int} (hE : xq_P.1 j pc = some E) (hk : xm_kind E = 1) (h : xm_rt M.2.1 E.1 st = some (xrv k v)) (hv : xcn k v) : xS B xs SL d j M k pc L st m (some (.inl v, m)) := by
  intro o ho
  cases ho
  exact ⟨hv, fun ex ns _ _ => xw_ret hE hk h⟩
theorem xS_thr {q : Nat} (hE : xq_P.1 j pc = some E) (hk : xm_kind E = 3) (hM : M.2.2.1 = []) (hq : E.2.2.1 = q) : xS B xs SL d j M k pc L [] m (some (.inr q, m)) := by
  intro o ho
  cases ho
  subst hq
  exact ⟨trivial, fun ex ns hc hs => xw_thr hE hk hM hc hs⟩
theorem xS_call {q n kq : Nat} {as st1 : List Value} {F : Int → xw_M → xP} (hE : xq_P.1 j pc = some E) (hk : xm_kind E = 2) (hq : E.2.2.1 = q) (hn : E.2.2.2 = n) (hl : Nat.ble n st.length = true) (hs : Nat.ble (xw_cat (st.drop n)) 8 = true) (hlt : Nat.blt q 1000 = true) (hM : xq_P.2.1 q = some M') (has : (st.take n).reverse = as) (hst : st.drop n = st1) (hr : ∀ ex, xm_rcv M'.1 M'.2.2.2 as (xw_h B m ex) = true) (hno : M.2.2.1 = [])
    (hu : xw_has (xm_args 0 as) (xm_args 0 as)) (h : xS B xs SL d q M' kq 0 (xm_args 0 as) [] m t) (g : ∀ v m', xcn kq v → xS B xs SL (d + 1) j M k (pc + 3) L ((xrv kq v).toList ++ st1) m' (F v m')) : xS B xs SL (d + 1) j M k pc L st m (xB t F) := by
  subst hq hn has hst
  intro o ho
  have hl2 := And.intro (Nat.le_of_ble_eq_true hl) (Nat.le_of_ble_eq_true hs)
  have hlt2 : ¬ 1000 ≤ E.2.2.1 := by have := Nat.le_of_ble_eq_true hlt; omega
  cases t with
  | none => cases ho
  | some z =>
    obtain ⟨z, m1⟩ := z
    obtain ⟨h1, h2⟩ := h _ rfl
    cases z with
    | inl v => exact ⟨(g v m1 h1 o ho).1, fun ex ns hc hsl loc hlo => xr_call hE hk hl2 hlt2 hM (hr ex) (h2 ex ns hc hsl _ hu) ((g v m1 h1 o ho).2 ex ns hc hsl loc hlo)⟩
    | inr c =>
      cases ho
      exact ⟨trivial, fun ex ns hc hsl loc hlo => xr_callT (t := c) (vs := List.replicate 6 .null) hE hk hl2 hlt2 hM (hr ex) (h2 ex ns hc hsl _ hu) (by rw [← xw_he, ← xw_hl B m1 ex, List.getElem?_append_right (Nat.le_refl _), Nat.sub_self]; rfl) hno⟩
theorem xw_gfIc {ex : xm_H} {ns i c1 t q : Nat} {r : xw_R} {a qi v v' : Int} (hE : xq_P.1 j pc = some (.getfield i, c1, t, q)) (ho : xw_ob t a) (hk : xw_ck t q 0 = true) (hqi : (q : Int) = qi) (hv : m a qi = v) (hw : w32 v = v') (k : xw B (xm_gg xs SL) xq_P d j M (pc + 3) L (xi v' :: st) m ex ns r) : xw B (xm_gg xs SL) xq_P d j M pc L (xa a :: st) m ex ns r := xw_gfI hE ho hk hqi hv (by rw [xi_c hw]; exact k)
theorem xw_gfJc {ex : xm_H} {ns i c1 t q : Nat} {r : xw_R} {a qi v v' : Int} (hE : xq_P.1 j pc = some (.getfield i, c1, t, q)) (ho : xw_ob t a) (hk : xw_ck t q 1 = true) (hqi : (q : Int) = qi) (hv : m a qi = v) (hw : w64 v = v') (k : xw B (xm_gg xs SL) xq_P d j M (pc + 3) L (xj v' :: st) m ex ns r) : xw B (xm_gg xs SL) xq_P d j M pc L (xa a :: st) m ex ns r := xw_gfJ hE ho hk hqi hv (by rw [xj_c hw]; exact k)
theorem xw_ialdc {ex : xm_H} {ns c1 c2 c3 : Nat} {r : xw_R} {a x n v v' : Int} (hE : xq_P.1 j pc = some (.iaload, c1, c2, c3)) (hB : B ≤ 512) (ho : xw_ob 16 a) (hn : xw_le B a = n) (hx : 0 ≤ x ∧ x < n) (hv : m a x = v) (hw : w32 v = v') (k : xw B (xm_gg xs SL) xq_P d j M (pc + 1) L (xi v' :: st) m ex ns r) : xw B (xm_gg xs SL) xq_P d j M pc L (xi x :: xa a :: st) m ex ns r := xw_iald hE hB ho hn hx hv (by rw [xi_c hw]; exact k)
theorem xw_baldc {ex : xm_H} {ns c1 c2 c3 : Nat} {r : xw_R} {a x n v v' : Int} (hE : xq_P.1 j pc = some (.baload, c1, c2, c3)) (hB : B ≤ 512) (ho : xw_ob 18 a) (hn : xw_le B a = n) (hx : 0 ≤ x ∧ x < n) (hv : m a x = v) (hw : w32 v = v') (k : xw B (xm_gg xs SL) xq_P d j M (pc + 1) L (xi v' :: st) m ex ns r) : xw B (xm_gg xs SL) xq_P d j M pc L (xi x :: xa a :: st) m ex ns r := xw_bald hE hB ho hn hx hv (by rw [xi_c hw]; exact k)
theorem xw_zaldc {ex : xm_H} {ns c1 c2 c3 : Nat} {r : xw_R} {a x n v v' : Int} (hE : xq_P.1 j pc = some (.baload, c1, c2, c3)) (hB : B ≤ 512) (ho : xw_ob 19 a) (hn : xw_le B a = n) (hx : 0 ≤ x ∧ x < n) (hv : m a x = v) (hw : w32 v = v') (k : xw B (xm_gg xs SL) xq_P d j M (pc + 1) L (xi v' :: st) m ex ns r) : xw B (xm_gg xs SL) xq_P d j M pc L (xi x :: xa a :: st) m ex ns r := xw_zald hE hB ho hn hx hv (by rw [xi_c hw]; exact k)
theorem xw_laldc {ex : xm_H} {ns c1 c2 c3 : Nat} {r : xw_R} {a x n v v' : Int} (hE : xq_P.1 j pc = some (.laload, c1, c2, c3)) (hB : B ≤ 512) (ho : xw_ob 17 a) (hn : xw_le B a = n) (hx : 0 ≤ x ∧ x < n) (hv : m a x = v) (hw : w64 v = v') (k : xw B (xm_gg xs SL) xq_P d j M (pc + 1) L (xj v' :: st) m ex ns r) : xw B (xm_gg xs SL) xq_P d j M pc L (xi x :: xa a :: st) m ex ns r := xw_lald hE hB ho hn hx hv (by rw [xj_c hw]; exact k)
theorem xw_iincc {ex : xm_H} {ns i c1 c2 c3 : Nat} {r : xw_R} {n x z : Int} (hE : xq_P.1 j pc = some (.iinc i n, c1, c2, c3)) (h : xm_lg L i = some (xi x)) (hi : i < M.1) (hw : w32 (x + n) = z) (hL : xm_s1 L i (xi z) = L') (k : xw B (xm_gg xs SL) xq_P d j M (pc + c1) L' st m ex ns r) : xw B (xm_gg xs SL) xq_P d j M pc L st m ex ns r := xw_iinc hE h hi (by rw [xi_c hw]; exact hL) k
theorem xw_i2bc {ex : xm_H} {ns c1 c2 c3 : Nat} {r : xw_R} {x : Int} (hE : xq_P.1 j pc = some (.i2b, c1, c2, c3)) (k : xw B (xm_gg xs SL) xq_P d j M (pc + 1) L (xi (w8 x) :: st) m ex ns r) : xw B (xm_gg xs SL) xq_P d j M pc L (xi x :: st) m ex ns r := xw_i2b hE (by rw [w8_bm]; exact k)
theorem xw_bastc {ex : xm_H} {ns c1 c2 c3 : Nat} {r : xw_R} {a x n v : Int} (hE : xq_P.1 j pc = some (.bastore, c1, c2, c3)) (hB : B ≤ 512) (ho : xw_ob 18 a) (hn : xw_le B a = n) (hx : 0 ≤ x ∧ x < n) (k : xw B (xm_gg xs SL) xq_P d j M (pc + 1) L st (xw_u m a x (w8 v)) ex ns r) : xw B (xm_gg xs SL) xq_P d j M pc L (xi v :: xi x :: xa a :: st) m ex ns r := xw_bast hE hB ho hn hx (by rw [w8_bm]; exact k)
theorem xn_sl (k : Nat) : xn_sb k = xw_sl k := by
  match k with
  | 0 => rfl
  | 1 => rfl
  | _ + 2 => rfl
theorem xw_chc : (List.range 128).all (fun c => decide ((Int32.ofNat c &&& 255).toUInt32.toUInt16.toUInt32.toInt32 = Int32.ofInt (c : Int))) = true := by decide +kernel
theorem xw_lc1 : (List.range 3).all (fun n => decide ((xn_sb n).length.toInt32 = Int32.ofInt ((xw_sl n).length : Int)) && Nat.ble (xw_sl n).length 1000) = true := by decide +kernel
theorem xw_slen {ex : xm_H} {ns i c1 n : Nat} {r : xw_R} {e : Int} (hE : xq_P.1 j pc = some (.invokevirtual i, c1, 1005, 1)) (hs : Nat.ble (xw_cat st) 8 = true) (he : ((xw_sl n).length : Int) = e) (q : xw B (xm_gg xs SL) xq_P d j M (pc + 3) L (xi e :: st) m ex ns r) (hn : Nat.blt n 3 = true := by decide) : xw B (xm_gg xs SL) xq_P d j M pc L (.retAddr n :: st) m ex ns r := by
  have h3 : n < 3 := Nat.le_of_ble_eq_true hn
  subst he
  have h1 := List.all_eq_true.mp xw_lc1 n (List.mem_range.mpr h3)
  rw [Bool.and_eq_true] at h1
  refine xw_nt (v := some (xi ((xw_sl n).length : Int))) (st1 := st) (as := [.retAddr n]) hE rfl rfl rfl rfl hs rfl rfl rfl ?_ q
  show (if n < 3 then some (some (Value.int (xn_sb n).length.toInt32), xw_h B m ex) else none) = _
  rw [if_pos h3, of_decide_eq_true h1.1]
theorem xw_schar {ex : xm_H} {ns i c1 n : Nat} {r : xw_R} {x e : Int} (hE : xq_P.1 j pc = some (.invokevirtual i, c1, 1006, 2)) (hs : Nat.ble (xw_cat st) 8 = true) (hx : 0 ≤ x ∧ x < e) (he : ((xw_sl n).length : Int) = e) (q : xw B (xm_gg xs SL) xq_P d j M (pc + 3) L (xi (xw_chr n x) :: st) m ex ns r) (hn : Nat.blt n 3 = true := by decide) : xw B (xm_gg xs SL) xq_P d j M pc L (xi x :: .retAddr n :: st) m ex ns r := by
  have h3 : n < 3 := Nat.le_of_ble_eq_true hn
  subst he
  have h1 := List.all_eq_true.mp xw_lc1 n (List.mem_range.mpr h3)
  rw [Bool.and_eq_true] at h1
  have hl := Nat.le_of_ble_eq_true h1.2
  have hr : xw_rg x := ⟨by omega, by omega⟩
  have hc := xw_nn hr hx.1
  refine xw_nt (v := some (xi (xw_chr n x))) (st1 := st) (as := [.retAddr n, xi x]) hE rfl rfl rfl rfl hs rfl rfl rfl ?_ q
  show (if n < 3 ∧ ¬ (Int32.ofInt x < 0 ∨ (xn_sb n).length ≤ (Int32.ofInt x).toNatClampNeg) then some (some (Value.int ((Int32.ofNat ((xn_sb n).getD (Int32.ofInt x).toNatClampNeg 0) &&& 255).toUInt32.toUInt16.toUInt32.toInt32)), xw_h B m ex) else none) = _
  rw [hc, xn_sl, if_pos ⟨h3, fun hh => by
    rcases hh with hh | hh
    · rw [show (0 : Int32) = Int32.ofInt 0 from rfl, xw_lt hr xw_r0] at hh
      omega
    · omega⟩]
  have hb : (xw_sl n).getD x.toNat 0 < 128 := by
    have := (xw_chb n x).2
    unfold xw_chr at this
    omega
  rw [of_decide_eq_true (List.all_eq_true.mp xw_chc _ (List.mem_range.mpr hb))]
  rfl
theorem xw_setc {m m' : xw_M} {ex : xm_H} {b : Nat} (hb : b < 605) (h : ∀ a, a ≠ b → xw_vs B m a = xw_vs B m' a) : (xw_h B m ex).set b ((xw_ly b).1, xw_vs B m' b) = xw_h B m' ex := by
  apply List.ext_getElem?
  intro i
  rw [List.getElem?_set]
  by_cases hi : b = i
  · subst hi
    rw [if_pos rfl, if_pos (by rw [xw_hl]; omega), xw_get hb]
  · rw [if_neg hi]
    by_cases hl : i < 605
    · rw [xw_get hl, xw_get hl, h i (fun e => hi e.symm)]
    · unfold xw_h
      rw [List.getElem?_append_right (by rw [List.length_map, List.length_range]; omega), List.getElem?_append_right (by rw [List.length_map, List.length_range]; omega), List.length_map, List.length_map]
theorem xw_vgd {m : xw_M} {a k : Nat} (hk : k < xw_ln B a) : (xw_vs B m a).getD k .null = xw_dec (xw_kof (xw_ly a) k) (m a k) := by
  rw [List.getD_eq_getElem?_getD, xw_vg hk]
  rfl
theorem xw_kc {t : Nat} {a : Int} (ho : xw_ob t a) (h1 : 16 ≤ t) (h2 : t ≤ 19) (k : Nat) : xw_kof (xw_ly a.toNat) k = xw_t4 t := by
  have := xw_akc ho h1 h2 (k : Int)
  unfold xw_kd at this
  rw [Int.toNat_natCast] at this
  exact this
theorem xw_cpv {t : Nat} {a b sp dp n : Int} (hoa : xw_ob t a) (hob : xw_ob t b) (h1 : 16 ≤ t) (h2 : t ≤ 19) (hg : xw_cpok sp (xw_le B a) dp (xw_le B b) n) : xn_cp (xw_vs B m a.toNat) (xw_vs B m b.toNat) sp.toNat dp.toNat n.toNat = xw_vs B (xw_cp m a sp b dp n) b.toNat := by
  have ha : ((a.toNat : Nat) : Int) = a := Int.toNat_of_nonneg hoa.1
  have hb : ((b.toNat : Nat) : Int) = b := Int.toNat_of_nonneg hob.1
  obtain ⟨g1, g2, g3, g4, g5⟩ := hg
  have la : xw_le B a = (xw_ln B a.toNat : Int) := rfl
  have lb : xw_le B b = (xw_ln B b.toNat : Int) := rfl
  unfold xn_cp
  rw [xw_vl]
  conv => rhs; unfold xw_vs
  refine List.map_congr_left (fun k hk => ?_)
  have hk := List.mem_range.mp hk
  unfold xw_cp
  rw [hb]
  by_cases hc : dp.toNat ≤ k ∧ k < dp.toNat + n.toNat
  · rw [if_pos hc, if_pos ⟨rfl, by omega, by omega⟩, xw_vgd (by omega), xw_kc hob h1 h2, xw_kc hoa h1 h2, ha, show ((sp.toNat + (k - dp.toNat) : Nat) : Int) = (k : Int) - dp + sp by omega]
  · rw [if_neg hc, if_neg (fun e => hc ⟨by omega, by omega⟩), xw_vgd hk, hb]
theorem xw_fit {t : Nat} {a sp n : Int} {k : Nat} (hoa : xw_ob t a) (ht : xw_t3 t = true) (hby : xw_byg t m a sp n = true) (hk : k < n.toNat) (s0 : 0 ≤ sp) (hl : sp.toNat + k < xw_ln B a.toNat) : fits (xt_el t) ((xw_vs B m a.toNat).getD (sp.toNat + k) .null) = true := by
  have ha : ((a.toNat : Nat) : Int) = a := Int.toNat_of_nonneg hoa.1
  have h3 : t = 16 ∨ t = 17 ∨ t = 18 := by
    unfold xw_t3 at ht
    rw [Bool.or_eq_true, Bool.or_eq_true] at ht
    rcases ht with h | h | h
    · exact Or.inl (Nat.eq_of_beq_eq_true h)
    · exact Or.inr (Or.inl (Nat.eq_of_beq_eq_true h))
    · exact Or.inr (Or.inr (Nat.eq_of_beq_eq_true h))
  rw [xw_vgd hl, xw_kc hoa (by omega) (by omega), ha, show ((sp.toNat + k : Nat) : Int) = sp + (k : Int) by omega]
  rcases h3 with rfl | rfl | rfl
  · rfl
  · rfl
  · have h8 : w8 (xR m a (sp + (k : Int))) = xR m a (sp + (k : Int)) := of_decide_eq_true (List.all_eq_true.mp (show xw_byo m a sp n = true from hby) k (List.mem_range.mpr hk))
    show (decide (-128 ≤ Int32.ofInt (m a (sp + (k : Int)))) && decide (Int32.ofInt (m a (sp + (k : Int))) ≤ 127)) = true
    have e : (Int32.ofInt (m a (sp + (k : Int)))).toInt = xR m a (sp + (k : Int)) := w32_t _
    rw [Bool.and_eq_true]
    unfold w8 at h8
    refine ⟨decide_eq_true ?_, decide_eq_true ?_⟩
    · rw [Int32.le_iff_toInt_le, e, show (-128 : Int32).toInt = -128 from rfl]
      omega
    · rw [Int32.le_iff_toInt_le, e, show (127 : Int32).toInt = 127 from rfl]
      omega
theorem xw_n7 (a b : Nat) (sp dp n : Int32) (h : xm_H) {q q' : xm_C} (ha : h[a]? = some q) (hb : h[b]? = some q') : xm_nat 1007 [.ref a, .int sp, .ref b, .int dp, .int n] h = if xn_ok q.1 q'.1 q.2 q'.2 sp dp n = true then some (none, h.set b (q'.1, xn_cp q.2 q'.2 sp.toNatClampNeg dp.toNatClampNeg n.toNatClampNeg)) else none := by
  unfold xm_nat
  rw [if_neg (by decide), if_neg (by decide), if_neg (by decide), if_neg (by decide), if_neg (by decide), if_neg (by decide), if_neg (by decide), if_pos rfl]
  dsimp only
  rw [ha, hb]
theorem xw_acopy {ex : xm_H} {ns i c1 t : Nat} {r : xw_R} {a b sp dp n ls ld : Int} (hE : xq_P.1 j pc = some (.invokestatic i, c1, 1007, 5)) (hs : Nat.ble (xw_cat st) 8 = true) (hB : B ≤ 512) (hoa : xw_ob t a) (hob : xw_ob t b) (hla : xw_le B a = ls) (hlb : xw_le B b = ld) (hg : xw_cpok sp ls dp ld n) (ht : (xw_t3 t && xw_byg t m a sp n) = true) (q : xw B (xm_gg xs SL) xq_P d j M (pc + 3) L st (xw_cp m a sp b dp n) ex ns r) : xw B (xm_gg xs SL) xq_P d j M pc L (xi n :: xi dp :: xa b :: xi sp :: xa a :: st) m ex ns r := by
  rw [Bool.and_eq_true] at ht
  subst hla hlb
  have a5 : a.toNat < 605 := by have := hoa.1; have := hoa.2.1; omega
  have b5 : b.toNat < 605 := by have := hob.1; have := hob.2.1; omega
  have la : xw_le B a = (xw_ln B a.toNat : Int) := rfl
  have lb : xw_le B b = (xw_ln B b.toNat : Int) := rfl
  have ma := xw_lnb hB _ a5
  have mb := xw_lnb hB _ b5
  obtain ⟨g1, g2, g3, g4, g5⟩ := hg
  have h3 : t = 16 ∨ t = 17 ∨ t = 18 := by
    have ht := ht.1
    unfold xw_t3 at ht
    rw [Bool.or_eq_true, Bool.or_eq_true] at ht
    rcases ht with h | h | h
    · exact Or.inl (Nat.eq_of_beq_eq_true h)
    · exact Or.inr (Or.inl (Nat.eq_of_beq_eq_true h))
    · exact Or.inr (Or.inr (Nat.eq_of_beq_eq_true h))
  have rs : xw_rg sp := ⟨by omega, by omega⟩
  have rd : xw_rg dp := ⟨by omega, by omega⟩
  have rn : xw_rg n := ⟨by omega, by omega⟩
  have es := xw_nn rs g2
  have ed := xw_nn rd g4
  have en := xw_nn rn g1
  have nz : ∀ {z : Int}, xw_rg z → 0 ≤ z → ¬ Int32.ofInt z < 0 := fun {z} hr h0 hh => by
    rw [show (0 : Int32) = Int32.ofInt 0 from rfl, xw_lt hr xw_r0] at hh
    omega
  refine xw_nt (v := none) (st1 := st) (as := [xa a, xi sp, xa b, xi dp, xi n]) (m' := xw_cp m a sp b dp n) hE rfl rfl rfl rfl hs rfl rfl rfl ?_ q
  have hP : xq_P.2.2 = xm_nat := rfl
  have h7 := xw_n7 a.toNat b.toNat (Int32.ofInt sp) (Int32.ofInt dp) (Int32.ofInt n) (xw_h B m ex) (xw_get a5) (xw_get b5)
  rw [hP, h7]
  have ca : (xw_ly a.toNat).1 = t := hoa.2.2
  have cb : (xw_ly b.toNat).1 = t := hob.2.2
  have ok : xn_ok (xw_ly a.toNat).1 (xw_ly b.toNat).1 (xw_vs B m a.toNat) (xw_vs B m b.toNat) (Int32.ofInt sp) (Int32.ofInt dp) (Int32.ofInt n) = true := by
    unfold xn_ok
    rw [ca, cb, es, ed, en, xw_vl, xw_vl, Bool.and_eq_true]
    refine ⟨decide_eq_true ⟨rfl, by omega, by omega, nz rs g2, nz rd g4, nz rn g1, by omega, by omega⟩, List.all_eq_true.mpr (fun k hk => ?_)⟩
    exact xw_fit hoa ht.1 ht.2 (List.mem_range.mp hk) g2 (by have := List.mem_range.mp hk; omega)
  rw [if_pos ok, es, ed, en, xw_cpv hoa hob (by omega) (by omega) ⟨g1, g2, g3, g4, g5⟩, xw_setc b5 (fun x hx => ?_)]
  unfold xw_vs
  refine List.map_congr_left (fun k _ => ?_)
  unfold xw_cp
  rw [if_neg (fun e => hx (by have := e.1; omega))]
/-- runs that may leave up to b exceptions behind -/
def xcst (o : xO) : Nat := match o.1 with
  | .inl _ => 0
  | .inr _ => 1
def xSB (b B : Nat) (xs : Nat → Int32) (SL d j : Nat) (M : xm_M) (k pc : Nat) (L : xm_L) (st : List Value) (m : xw_M) (t : xP) : Prop := ∀ o, t = some o → xcan k o ∧ ∀ ex ns, 605 + ex.length + b ≤ xm_cm → ns + 6 * b ≤ xm_sm → ∃ e : xm_H, e.length + xcst o ≤ b ∧ xw B (xm_gg xs SL) xq_P d j M pc L st m ex ns (xOut B k (ex ++ e) (ns + 6 * e.length) o)
theorem xSB_none {b : Nat} : xSB b B xs SL d j M k pc L st m none := fun o h => nomatch h
theorem xSB_mono {b b' : Nat} (h : b ≤ b') (q : xSB b B xs SL d j M k pc L st m t) : xSB b' B xs SL d j M k pc L st m t := fun o ho => ⟨(q o ho).1, fun ex ns hc hs => by
  obtain ⟨e, he, hw⟩ := (q o ho).2 ex ns (by omega) (by omega)
  exact ⟨e, by omega, hw⟩⟩
theorem xSB_of {b : Nat} (h : ∀ ex ns r, xw B (xm_gg xs SL) xq_P d j M pc' L' st' m' ex ns r → xw B (xm_gg xs SL) xq_P d j M pc L st m ex ns r) (q : xSB b B xs SL d j M k pc' L' st' m' t) : xSB b B xs SL d j M k pc L st m t := fun o ho => ⟨(q o ho).1, fun ex ns hc hs => by
  obtain ⟨e, he, hw⟩ := (q o ho).2 ex ns hc hs
  exact ⟨e, he, h ex ns _ hw⟩⟩
theorem xSB_if {bb : Nat} {c : Prop} [Decidable c] (h1 : c → xSB bb B xs SL d j M k pc L st m a) (h2 : ¬ c → xSB bb B xs SL d j M k pc L st m b) : xSB bb B xs SL d j M k pc L st m (if c then a else b) := by
  by_cases h : c
  · rw [if_pos h]
    exact h1 h
  · rw [if_neg h]
    exact h2 h
theorem xSB_g {bb : Nat} {c : Prop} [Decidable c] (h1 : c → xSB bb B xs SL d j M k pc L st m a) : xSB bb B xs SL d j M k pc L st m (if c then a else none) := xSB_if h1 (fun _ => xSB_none)
theorem xSB_ret {b : Nat} {v : Int} (hE : xq_P.1 j pc = some E) (hk : xm_kind E = 1) (h : xm_rt M.2.1 E.1 st = some (xrv k v)) (hv : xcn k v) : xSB b B xs SL d j M k pc L st m (some (.inl v, m)) := by
  intro o ho
  cases ho
  refine ⟨hv, fun ex ns _ _ => ⟨[], Nat.zero_le _, ?_⟩⟩
  rw [List.append_nil]
  exact xw_ret hE hk h
/-- a call out of reach of any handler -/
theorem xSB_callN {b q n kq : Nat} {as st1 : List Value} {F : Int → xw_M → xP} (hE : xq_P.1 j pc = some E) (hk : xm_kind E = 2) (hq : E.2.2.1 = q) (hn : E.2.2.2 = n) (hl : Nat.ble n st.length = true) (hs : Nat.ble (xw_cat (st.drop n)) 8 = true) (hlt : Nat.blt q 1000 = true) (hM : xq_P.2.1 q = some M') (has : (st.take n).reverse = as) (hst : st.drop n = st1) (hr : ∀ ex, xm_rcv M'.1 M'.2.2.2 as (xw_h B m ex) = true) (hh : ∀ t, xm_hd pc t M.2.2.1 = none) (hno : xm_un pc M.2.2.1 = true)
    (hu : xw_has (xm_args 0 as) (xm_args 0 as)) (h : xS B xs SL d q M' kq 0 (xm_args 0 as) [] m t) (g : ∀ v m', xcn kq v → xSB (b + 1) B xs SL (d + 1) j M k (pc + 3) L ((xrv kq v).toList ++ st1) m' (F v m')) : xSB (b + 1) B xs SL (d + 1) j M k pc L st m (xB t F) := by
  subst hq hn has hst
  intro o ho
  have hl2 := And.intro (Nat.le_of_ble_eq_true hl) (Nat.le_of_ble_eq_true hs)
  have hlt2 : ¬ 1000 ≤ E.2.2.1 := by have := Nat.le_of_ble_eq_true hlt; omega
  cases t with
  | none => cases ho
  | some z =>
    obtain ⟨z, m1⟩ := z
    obtain ⟨h1, h2⟩ := h _ rfl
    cases z with
    | inl v =>
      refine ⟨(g v m1 h1 o ho).1, fun ex ns hc hsl => ?_⟩
      obtain ⟨e, he, hw⟩ := (g v m1 h1 o ho).2 ex ns hc hsl
      exact ⟨e, he, fun loc hlo => xr_call hE hk hl2 hlt2 hM (hr ex) (h2 ex ns (by omega) (by omega) _ hu) (hw loc hlo)⟩
    | inr c =>
      cases ho
      refine ⟨trivial, fun ex ns hc hsl => ⟨[], by show 0 + 1 ≤ b + 1; omega, ?_⟩⟩
      rw [List.append_nil]
      exact fun loc hlo => xr_callU (t := c) (vs := List.replicate 6 .null) hE hk hl2 hlt2 hM (hr ex) (h2 ex ns (by omega) (by omega) _ hu) (by rw [← xw_he, ← xw_hl B m1 ex, List.getElem?_append_right (Nat.le_refl _), Nat.sub_self]; rfl) (hh c) hno
/-- a call of a method that doesn't throw -/
theorem xSB_call0 {b q n kq : Nat} {as st1 : List Value} {F : Int → xw_M → xP} (hE : xq_P.1 j pc = some E) (hk : xm_kind E = 2) (hq : E.2.2.1 = q) (hn : E.2.2.2 = n) (hl : Nat.ble n st.length = true) (hs : Nat.ble (xw_cat (st.drop n)) 8 = true) (hlt : Nat.blt q 1000 = true) (hM : xq_P.2.1 q = some M') (has : (st.take n).reverse = as) (hst : st.drop n = st1) (hr : ∀ ex, xm_rcv M'.1 M'.2.2.2 as (xw_h B m ex) = true)
    (hu : xw_has (xm_args 0 as) (xm_args 0 as)) (h : xS B xs SL d q M' kq 0 (xm_args 0 as) [] m t) (g : ∀ v m', xcn kq v → xSB (b + 1) B xs SL (d + 1) j M k (pc + 3) L ((xrv kq v).toList ++ st1) m' (F v m')) : xSB (b + 1) B xs SL (d + 1) j M k pc L st m (xN t F) := by
  subst hq hn has hst
  intro o ho
  have hl2 := And.intro (Nat.le_of_ble_eq_true hl) (Nat.le_of_ble_eq_true hs)
  have hlt2 : ¬ 1000 ≤ E.2.2.1 := by have := Nat.le_of_ble_eq_true hlt; omega
  cases t with
  | none => cases ho
  | some z =>
    obtain ⟨z, m1⟩ := z
    obtain ⟨h1, h2⟩ := h _ rfl
    cases z with
    | inl v =>
      refine ⟨(g v m1 h1 o ho).1, fun ex ns hc hsl => ?_⟩
      obtain ⟨e, he, hw⟩ := (g v m1 h1 o ho).2 ex ns hc hsl
      exact ⟨e, he, fun loc hlo => xr_call hE hk hl2 hlt2 hM (hr ex) (h2 ex ns (by omega) (by omega) _ hu) (hw loc hlo)⟩
    | inr c => cases ho
/-- a call whose exception is caught here -/
theorem xSB_callX {b q n kq : Nat} {as st1 : List Value} {F : Int → xw_M → xP} {G : Nat → xw_M → xP} (hE : xq_P.1 j pc = some E) (hk : xm_kind E = 2) (hq : E.2.2.1 = q) (hn : E.2.2.2 = n) (hl : Nat.ble n st.length = true) (hs : Nat.ble (xw_cat (st.drop n)) 8 = true) (hlt : Nat.blt q 1000 = true) (hM : xq_P.2.1 q = some M') (has : (st.take n).reverse = as) (hst : st.drop n = st1) (hr : ∀ ex, xm_rcv M'.1 M'.2.2.2 as (xw_h B m ex) = true) (hne : M.2.2.1 ≠ [])
    (hu : xw_has (xm_args 0 as) (xm_args 0 as)) (h : xS B xs SL d q M' kq 0 (xm_args 0 as) [] m t) (g : ∀ v m', xcn kq v → xSB (b + 1) B xs SL (d + 1) j M k (pc + 3) L ((xrv kq v).toList ++ st1) m' (F v m')) (gx : ∀ c m', G c m' ≠ none → ∃ p, xm_hd pc c M.2.2.1 = some p ∧ ∀ ya, xSB b B xs SL (d + 1) j M k p L [.ref ya] m' (G c m')) : xSB (b + 1) B xs SL (d + 1) j M k pc L st m (xT t F G) := by
  subst hq hn has hst
  intro o ho
  have hl2 := And.intro (Nat.le_of_ble_eq_true hl) (Nat.le_of_ble_eq_true hs)
  have hlt2 : ¬ 1000 ≤ E.2.2.1 := by have := Nat.le_of_ble_eq_true hlt; omega
  cases t with
  | none => cases ho
  | some z =>
    obtain ⟨z, m1⟩ := z
    obtain ⟨h1, h2⟩ := h _ rfl
    cases z with
    | inl v =>
      refine ⟨(g v m1 h1 o ho).1, fun ex ns hc hsl => ?_⟩
      obtain ⟨e, he, hw⟩ := (g v m1 h1 o ho).2 ex ns hc hsl
      exact ⟨e, he, fun loc hlo => xr_call hE hk hl2 hlt2 hM (hr ex) (h2 ex ns (by omega) (by omega) _ hu) (hw loc hlo)⟩
    | inr c =>
      have ho2 : G c m1 = some o := ho
      obtain ⟨p, hp, gy⟩ := gx c m1 (by rw [ho2]; exact fun e => nomatch e)
      refine ⟨(gy 0 o ho2).1, fun ex ns hc hsl => ?_⟩
      obtain ⟨e, he, hw⟩ := (gy (605 + ex.length) o ho2).2 (ex ++ [(c, List.replicate 6 .null)]) (ns + 6) (by rw [List.length_append]; show 605 + (ex.length + 1) + b ≤ xm_cm; omega) (by omega)
      refine ⟨(c, List.replicate 6 .null) :: e, by rw [List.length_cons]; omega, fun loc hlo => ?_⟩
      rw [List.append_assoc, List.singleton_append, show ns + 6 + 6 * e.length = ns + 6 * ((c, List.replicate 6 Value.null) :: e).length from by rw [List.length_cons]; omega] at hw
      exact xr_callC (t := c) (vs := List.replicate 6 .null) hE hk hl2 hlt2 hM (hr ex) (h2 ex ns (by omega) (by omega) _ hu) (by rw [← xw_he, ← xw_hl B m1 ex, List.getElem?_append_right (Nat.le_refl _), Nat.sub_self]; rfl) hne hp (hw loc hlo)
/-- the same, of a method that may itself leave an exception behind -/
theorem xSB_callY {b q n kq : Nat} {as st1 : List Value} {F : Int → xw_M → xP} {G : Nat → xw_M → xP} (hE : xq_P.1 j pc = some E) (hk : xm_kind E = 2) (hq : E.2.2.1 = q) (hn : E.2.2.2 = n) (hl : Nat.ble n st.length = true) (hs : Nat.ble (xw_cat (st.drop n)) 8 = true) (hlt : Nat.blt q 1000 = true) (hM : xq_P.2.1 q = some M') (has : (st.take n).reverse = as) (hst : st.drop n = st1) (hr : ∀ ex, xm_rcv M'.1 M'.2.2.2 as (xw_h B m ex) = true)
    (hu : xw_has (xm_args 0 as) (xm_args 0 as)) (h : xSB 1 B xs SL d q M' kq 0 (xm_args 0 as) [] m t) (g : ∀ v m', xcn kq v → xSB b B xs SL (d + 1) j M k (pc + 3) L ((xrv kq v).toList ++ st1) m' (F v m')) (gx : ∀ c m', G c m' ≠ none → M.2.2.1 ≠ [] ∧ ∃ p, xm_hd pc c M.2.2.1 = some p ∧ ∀ ya, xSB b B xs SL (d + 1) j M k p L [.ref ya] m' (G c m')) : xSB (b + 1) B xs SL (d + 1) j M k pc L st m (xT t F G) := by
  subst hq hn has hst
  intro o ho
  have hl2 := And.intro (Nat.le_of_ble_eq_true hl) (Nat.le_of_ble_eq_true hs)
  have hlt2 : ¬ 1000 ≤ E.2.2.1 := by have := Nat.le_of_ble_eq_true hlt; omega
  cases t with
  | none => cases ho
  | some z =>
    obtain ⟨z, m1⟩ := z
    obtain ⟨h1, h2⟩ := h _ rfl
    cases z with
    | inl v =>
      refine ⟨(g v m1 h1 o ho).1, fun ex ns hc hsl => ?_⟩
      obtain ⟨e1, he1, hw1⟩ := h2 ex ns (by omega) (by omega)
      have he1' : e1.length ≤ 1 := by have : e1.length + 0 ≤ 1 := he1; omega
      obtain ⟨e, he, hw⟩ := (g v m1 h1 o ho).2 (ex ++ e1) (ns + 6 * e1.length) (by rw [List.length_append]; omega) (by omega)
      refine ⟨e1 ++ e, by rw [List.length_append]; omega, fun loc hlo => ?_⟩
      rw [List.append_assoc, show ns + 6 * e1.length + 6 * e.length = ns + 6 * (e1 ++ e).length from by rw [List.length_append]; omega] at hw
      exact xr_call hE hk hl2 hlt2 hM (hr ex) (hw1 _ hu) (hw loc hlo)
    | inr c =>
      have ho2 : G c m1 = some o := ho
      obtain ⟨hne, p, hp, gy⟩ := gx c m1 (by rw [ho2]; exact fun e => nomatch e)
      refine ⟨(gy 0 o ho2).1, fun ex ns hc hsl => ?_⟩
      obtain ⟨e1, he1, hw1⟩ := h2 ex ns (by omega) (by omega)
      have he0 : e1 = [] := List.length_eq_zero_iff.mp (by have : e1.length + 1 ≤ 1 := he1; omega)
      subst he0
      rw [List.append_nil] at hw1
      obtain ⟨e, he, hw⟩ := (gy (605 + ex.length) o ho2).2 (ex ++ [(c, List.replicate 6 .null)]) (ns + 6) (by rw [List.length_append]; show 605 + (ex.length + 1) + b ≤ xm_cm; omega) (by omega)
      refine ⟨(c, List.replicate 6 .null) :: e, by rw [List.length_cons]; omega, fun loc hlo => ?_⟩
      rw [List.append_assoc, List.singleton_append, show ns + 6 + 6 * e.length = ns + 6 * ((c, List.replicate 6 Value.null) :: e).length from by rw [List.length_cons]; omega] at hw
      exact xr_callC (t := c) (vs := List.replicate 6 .null) hE hk hl2 hlt2 hM (hr ex) (hw1 _ hu) (by rw [← xw_he, ← xw_hl B m1 ex, List.getElem?_append_right (Nat.le_refl _), Nat.sub_self]; rfl) hne hp (hw loc hlo)
theorem xw_ofn (n : Nat) : n.toInt32 = Int32.ofInt (n : Int) := by
  apply Int32.toBitVec_inj.mp
  show BitVec.ofNat 32 n = BitVec.ofInt 32 (n : Int)
  rw [BitVec.ofInt_natCast]
theorem xw_lenS {ex : xm_H} {ns c1 c2 c3 : Nat} {r : xw_R} (hE : xq_P.1 j pc = some (.arraylength, c1, c2, c3)) (q : xw B (xm_gg xs SL) xq_P d j M (pc + 1) L (xi (SL : Int) :: st) m ex ns r) : xw B (xm_gg xs SL) xq_P d j M pc L (.retAddr 9 :: st) m ex ns r := fun loc hl => xr_go (S' := (pc + 1, loc, xi (SL : Int) :: st, xw_h B m ex, ns)) hE rfl (show xm_al SL (pc, loc, .retAddr 9 :: st, xw_h B m ex, ns) = _ from by
  show some (Sum.inl (pc + 1, loc, Value.int SL.toInt32 :: st, xw_h B m ex, ns)) = _
  rw [xw_ofn]) (q loc hl)
theorem xw_aldS {ex : xm_H} {ns c1 c2 c3 : Nat} {r : xw_R} {x : Int} (hE : xq_P.1 j pc = some (.iaload, c1, c2, c3)) (hSL : SL ≤ 3073) (hx : 0 ≤ x ∧ x < (SL : Int)) (q : xw B (xm_gg xs SL) xq_P d j M (pc + 1) L (xi (xZs xs x) :: st) m ex ns r) : xw B (xm_gg xs SL) xq_P d j M pc L (xi x :: .retAddr 9 :: st) m ex ns r := fun loc hl => xr_go (S' := (pc + 1, loc, xi (xZs xs x) :: st, xw_h B m ex, ns)) hE rfl (show xm_sld xs SL (pc, loc, xi x :: .retAddr 9 :: st, xw_h B m ex, ns) = _ from by
  show (if xm_in (Int32.ofInt x) SL = true then some (Sum.inl (pc + 1, loc, Value.int (xs (Int32.ofInt x).toNatClampNeg) :: st, xw_h B m ex, ns)) else none) = _
  rw [if_pos (xw_in hx.1 hx.2 (by omega)), xw_nn ⟨by omega, by omega⟩ hx.1]
  unfold xZs
  show _ = some (Sum.inl (pc + 1, loc, Value.int (Int32.ofInt (xs x.toNat).toInt) :: st, xw_h B m ex, ns))
  rw [Int32.ofInt_toInt]) (q loc hl)
end XG
