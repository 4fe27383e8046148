/-! of each method a function over the memory: the machine does what it says -/
theorem xi_c {x x' : Int} (h : w32 x = x') : xi x = xi x' := by
  refine congrArg Value.int (Int32.toInt_inj.mp ?_)
  rw [w32_t, w32_t, ← h, w32_w]
theorem xj_c {x x' : Int} (h : w64 x = x') : xj x = xj x' := by
  refine congrArg Value.long (Int64.toInt_inj.mp ?_)
  rw [w64_t, w64_t, ← h, w64_w]
theorem xw_sc {v v' : Value} {st st' : List Value} (h : v = v') (k : st = st') : v :: st = v' :: st' := by rw [h, k]
def xrv (k : Nat) (v : Int) : Option Value := match k with
  | 0 => none
  | 2 => some (xj v)
  | 3 => some (xa v)
  | _ => some (xi v)
def xOut (B k : Nat) (ex : xm_H) (ns : Nat) (o : xO) : xw_R := match o.1 with
  | .inl v => (.inl (xrv k v), xw_h B o.2 ex, ns)
  | .inr t => (.inr (605 + ex.length), xw_h B o.2 (ex ++ [(t, List.replicate 6 .null)]), ns + 6)
/-- a run from a place has the outcome that the tree says -/
def xS (B : Nat) (xs : Nat → Int32) (SL d j : Nat) (M : xm_M) (k pc : Nat) (L : xm_L) (st : List Value) (m : xw_M) (t : xP) : Prop := ∀ o, t = some o → xcan k o ∧ ∀ ex ns, 606 + ex.length ≤ xm_cm → ns + 6 ≤ xm_sm → xw B (xm_gg xs SL) xq_P d j M pc L st m ex ns (xOut B k ex ns o)
section XG
variable {B : Nat} {xs : Nat → Int32} {SL d j k pc pc' : Nat} {M M' : xm_M} {L L' : xm_L} {st st' : List Value} {m m' : xw_M} {t a b : xP} {E : xm_E}
theorem xw_cst {ex : xm_H} {ns : Nat} {r : xw_R} (h : st = st') (k : xw B (xm_gg xs SL) xq_P d j M pc L st' m ex ns r) : xw B (xm_gg xs SL) xq_P d j M pc L st m ex ns r := h ▸ k
theorem xS_none : xS B xs SL d j M k pc L st m none := fun o h => nomatch h
theorem xS_of (h : ∀ ex ns r, xw B (xm_gg xs SL) xq_P d j M pc' L' st' m' ex ns r → xw B (xm_gg xs SL) xq_P d j M pc L st m ex ns r) (q : xS B xs SL d j M k pc' L' st' m' t) : xS B xs SL d j M k pc L st m t := fun o ho => ⟨(q o ho).1, fun ex ns hc hs => h ex ns _ ((q o ho).2 ex ns hc hs)⟩
theorem xS_if {c : Prop} [Decidable c] (h1 : c → xS B xs SL d j M k pc L st m a) (h2 : ¬ c → xS B xs SL d j M k pc L st m b) : xS B xs SL d j M k pc L st m (if c then a else b) := by
  by_cases h : c
  · rw [if_pos h]
    exact h1 h
  · rw [if_neg h]
    exact h2 h
theorem xS_g {c : Prop} [Decidable c] (h1 : c → xS B xs SL d j M k pc L st m a) : xS B xs SL d j M k pc L st m (if c then a else none) := xS_if h1 (fun _ => xS_none)
theorem xS_ret {v : Int} (hE : xq_P.1 j pc = some E) (hk : xm_kind E = 1) (h : xm_rt M.2.1 E.1 st = some (xrv k v)) (hv : xcn k v) : xS B xs SL d j M k pc L st m (some (.inl v, m)) := by
  intro o ho
  cases ho
  exact ⟨hv, fun ex ns _ _ => xw_ret hE hk h⟩
theorem xS_thr {q : Nat} (hE : xq_P.1 j pc = some E) (hk : xm_kind E = 3) (hM : M.2.2.1 = []) (hq : E.2.2.1 = q) : xS B xs SL d j M k pc L [] m (some (.inr q, m)) := by
  intro o ho
  cases ho
  subst hq
  exact ⟨trivial, fun ex ns hc hs => xw_thr hE hk hM hc hs⟩
theorem xS_call {q n kq : Nat} {as st1 : List Value} {F : Int → xw_M → xP} (hE : xq_P.1 j pc = some E) (hk : xm_kind E = 2) (hq : E.2.2.1 = q) (hn : E.2.2.2 = n) (hl : Nat.ble n st.length = true) (hs : Nat.ble (xw_cat (st.drop n)) 8 = true) (hlt : Nat.blt q 1000 = true) (hM : xq_P.2.1 q = some M') (has : (st.take n).reverse = as) (hst : st.drop n = st1) (hr : ∀ ex, xm_rcv M'.1 M'.2.2.2 as (xw_h B m ex) = true) (hno : M.2.2.1 = [])
    (hu : xw_has (xm_args 0 as) (xm_args 0 as)) (h : xS B xs SL d q M' kq 0 (xm_args 0 as) [] m t) (g : ∀ v m', xcn kq v → xS B xs SL (d + 1) j M k (pc + 3) L ((xrv kq v).toList ++ st1) m' (F v m')) : xS B xs SL (d + 1) j M k pc L st m (xB t F) := by
  subst hq hn has hst
  intro o ho
  have hl2 := And.intro (Nat.le_of_ble_eq_true hl) (Nat.le_of_ble_eq_true hs)
  have hlt2 : ¬ 1000 ≤ E.2.2.1 := by have := Nat.le_of_ble_eq_true hlt; omega
  cases t with
  | none => cases ho
  | some z =>
    obtain ⟨z, m1⟩ := z
    obtain ⟨h1, h2⟩ := h _ rfl
    cases z with
    | inl v => exact ⟨(g v m1 h1 o ho).1, fun ex ns hc hsl loc hlo => xr_call hE hk hl2 hlt2 hM (hr ex) (h2 ex ns hc hsl _ hu) ((g v m1 h1 o ho).2 ex ns hc hsl loc hlo)⟩
    | inr c =>
      cases ho
      exact ⟨trivial, fun ex ns hc hsl loc hlo => xr_callT (t := c) (vs := List.replicate 6 .null) hE hk hl2 hlt2 hM (hr ex) (h2 ex ns hc hsl _ hu) (by rw [← xw_he, ← xw_hl B m1 ex, List.getElem?_append_right (Nat.le_refl _), Nat.sub_self]; rfl) hno⟩
theorem xw_gfIc {ex : xm_H} {ns i c1 t q : Nat} {r : xw_R} {a qi v v' : Int} (hE : xq_P.1 j pc = some (.getfield i, c1, t, q)) (ho : xw_ob t a) (hk : xw_ck t q 0 = true) (hqi : (q : Int) = qi) (hv : m a qi = v) (hw : w32 v = v') (k : xw B (xm_gg xs SL) xq_P d j M (pc + 3) L (xi v' :: st) m ex ns r) : xw B (xm_gg xs SL) xq_P d j M pc L (xa a :: st) m ex ns r := xw_gfI hE ho hk hqi hv (by rw [xi_c hw]; exact k)
theorem xw_gfJc {ex : xm_H} {ns i c1 t q : Nat} {r : xw_R} {a qi v v' : Int} (hE : xq_P.1 j pc = some (.getfield i, c1, t, q)) (ho : xw_ob t a) (hk : xw_ck t q 1 = true) (hqi : (q : Int) = qi) (hv : m a qi = v) (hw : w64 v = v') (k : xw B (xm_gg xs SL) xq_P d j M (pc + 3) L (xj v' :: st) m ex ns r) : xw B (xm_gg xs SL) xq_P d j M pc L (xa a :: st) m ex ns r := xw_gfJ hE ho hk hqi hv (by rw [xj_c hw]; exact k)
theorem xw_ialdc {ex : xm_H} {ns c1 c2 c3 : Nat} {r : xw_R} {a x n v v' : Int} (hE : xq_P.1 j pc = some (.iaload, c1, c2, c3)) (hB : B ≤ 512) (ho : xw_ob 16 a) (hn : xw_le B a = n) (hx : 0 ≤ x ∧ x < n) (hv : m a x = v) (hw : w32 v = v') (k : xw B (xm_gg xs SL) xq_P d j M (pc + 1) L (xi v' :: st) m ex ns r) : xw B (xm_gg xs SL) xq_P d j M pc L (xi x :: xa a :: st) m ex ns r := xw_iald hE hB ho hn hx hv (by rw [xi_c hw]; exact k)
theorem xw_baldc {ex : xm_H} {ns c1 c2 c3 : Nat} {r : xw_R} {a x n v v' : Int} (hE : xq_P.1 j pc = some (.baload, c1, c2, c3)) (hB : B ≤ 512) (ho : xw_ob 18 a) (hn : xw_le B a = n) (hx : 0 ≤ x ∧ x < n) (hv : m a x = v) (hw : w32 v = v') (k : xw B (xm_gg xs SL) xq_P d j M (pc + 1) L (xi v' :: st) m ex ns r) : xw B (xm_gg xs SL) xq_P d j M pc L (xi x :: xa a :: st) m ex ns r := xw_bald hE hB ho hn hx hv (by rw [xi_c hw]; exact k)
theorem xw_zaldc {ex : xm_H} {ns c1 c2 c3 : Nat} {r : xw_R} {a x n v v' : Int} (hE : xq_P.1 j pc = some (.baload, c1, c2, c3)) (hB : B ≤ 512) (ho : xw_ob 19 a) (hn : xw_le B a = n) (hx : 0 ≤ x ∧ x < n) (hv : m a x = v) (hw : w32 v = v') (k : xw B (xm_gg xs SL) xq_P d j M (pc + 1) L (xi v' :: st) m ex ns r) : xw B (xm_gg xs SL) xq_P d j M pc L (xi x :: xa a :: st) m ex ns r := xw_zald hE hB ho hn hx hv (by rw [xi_c hw]; exact k)
theorem xw_laldc {ex : xm_H} {ns c1 c2 c3 : Nat} {r : xw_R} {a x n v v' : Int} (hE : xq_P.1 j pc = some (.laload, c1, c2, c3)) (hB : B ≤ 512) (ho : xw_ob 17 a) (hn : xw_le B a = n) (hx : 0 ≤ x ∧ x < n) (hv : m a x = v) (hw : w64 v = v') (k : xw B (xm_gg xs SL) xq_P d j M (pc + 1) L (xj v' :: st) m ex ns r) : xw B (xm_gg xs SL) xq_P d j M pc L (xi x :: xa a :: st) m ex ns r := xw_lald hE hB ho hn hx hv (by rw [xj_c hw]; exact k)
theorem xw_iincc {ex : xm_H} {ns i c1 c2 c3 : Nat} {r : xw_R} {n x z : Int} (hE : xq_P.1 j pc = some (.iinc i n, c1, c2, c3)) (h : xm_lg L i = some (xi x)) (hi : i < M.1) (hw : w32 (x + n) = z) (hL : xm_s1 L i (xi z) = L') (k : xw B (xm_gg xs SL) xq_P d j M (pc + c1) L' st m ex ns r) : xw B (xm_gg xs SL) xq_P d j M pc L st m ex ns r := xw_iinc hE h hi (by rw [xi_c hw]; exact hL) k
theorem xw_i2bc {ex : xm_H} {ns c1 c2 c3 : Nat} {r : xw_R} {x : Int} (hE : xq_P.1 j pc = some (.i2b, c1, c2, c3)) (k : xw B (xm_gg xs SL) xq_P d j M (pc + 1) L (xi (w8 x) :: st) m ex ns r) : xw B (xm_gg xs SL) xq_P d j M pc L (xi x :: st) m ex ns r := xw_i2b hE (by rw [w8_bm]; exact k)
theorem xw_bastc {ex : xm_H} {ns c1 c2 c3 : Nat} {r : xw_R} {a x n v : Int} (hE : xq_P.1 j pc = some (.bastore, c1, c2, c3)) (hB : B ≤ 512) (ho : xw_ob 18 a) (hn : xw_le B a = n) (hx : 0 ≤ x ∧ x < n) (k : xw B (xm_gg xs SL) xq_P d j M (pc + 1) L st (xw_u m a x (w8 v)) ex ns r) : xw B (xm_gg xs SL) xq_P d j M pc L (xi v :: xi x :: xa a :: st) m ex ns r := xw_bast hE hB ho hn hx (by rw [w8_bm]; exact k)
theorem xw_slen {ex : xm_H} {ns i c1 n : Nat} {r : xw_R} {e : Int} (hE : xq_P.1 j pc = some (.invokevirtual i, c1, 1005, 1)) (hs : Nat.ble (xw_cat st) 8 = true) (he : ((xw_sl n).length : Int) = e) (q : xw B (xm_gg xs SL) xq_P d j M (pc + 3) L (xi e :: st) m ex ns r) : xw B (xm_gg xs SL) xq_P d j M pc L (.retAddr n :: st) m ex ns r := sorry
theorem xw_schar {ex : xm_H} {ns i c1 n : Nat} {r : xw_R} {x e : Int} (hE : xq_P.1 j pc = some (.invokevirtual i, c1, 1006, 2)) (hs : Nat.ble (xw_cat st) 8 = true) (hx : 0 ≤ x ∧ x < e) (he : ((xw_sl n).length : Int) = e) (q : xw B (xm_gg xs SL) xq_P d j M (pc + 3) L (xi (xw_chr n x) :: st) m ex ns r) : xw B (xm_gg xs SL) xq_P d j M pc L (xi x :: .retAddr n :: st) m ex ns r := sorry
theorem xw_acopy {ex : xm_H} {ns i c1 t : Nat} {r : xw_R} {a b sp dp n ls ld : Int} (hE : xq_P.1 j pc = some (.invokestatic i, c1, 1007, 5)) (hs : Nat.ble (xw_cat st) 8 = true) (hB : B ≤ 512) (hoa : xw_ob t a) (hob : xw_ob t b) (hla : xw_le B a = ls) (hlb : xw_le B b = ld) (hg : xw_cpok sp ls dp ld n) (ht : xw_t3 t = true) (q : xw B (xm_gg xs SL) xq_P d j M (pc + 3) L st (xw_cp m a sp b dp n) ex ns r) : xw B (xm_gg xs SL) xq_P d j M pc L (xi n :: xi dp :: xa b :: xi sp :: xa a :: st) m ex ns r := sorry
end XG
