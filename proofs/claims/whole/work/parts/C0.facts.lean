/-! THE ANSWER, by the class: the facts of an extent come in -/
theorem mapr_g {α : Type} {f : Nat → α} {n j : Nat} {d : α} (h : j < n) : ((List.range n).map f).getD j d = f j := by
  rw [List.getD_eq_getElem?_getD, List.getElem?_map, List.getElem?_range h]; rfl
theorem ASK_fr {m m' : xw_M} {D M k it nc p : Int} (h : ∀ a, a < 302 → m' a = m a) (A : ASK m D M k it nc p) : ASK m' D M k it nc p := by
  obtain ⟨a1, a2, a3, a4, a5, a6, a7, a8, a9⟩ := A
  have x229 := xR_cg (h 229 (by omega))
  have x227 := xR_cg (h 227 (by omega))
  have x292 := xR_cg (h 292 (by omega))
  have x224 := xR_cg (h 224 (by omega))
  have x225 := xR_cg (h 225 (by omega))
  refine ⟨a1, a2, SB_cg2 (h 223 (by omega)) (h 291 (by omega)) a3, a4, a5, fun d d0 d1 => by rw [xR_cg (h (15 + 26 * d) (by omega))]; exact a6 d d0 d1, fun i i0 i1 => ?_, by rw [x227, x292]; exact a8, by rw [x224, x225]; exact a9⟩
  obtain ⟨d, l, b1, b2, b3, b4, b5⟩ := a7 i i0 i1
  rw [x229, x292]
  exact ⟨d, l, b1, b2, b3, b4, by rw [xR_cg (h (15 + 26 * d) (by omega)), xR_cg (h (231 + i) (by omega))]; exact b5⟩
section HFR
variable {c m : xw_M} {D M k it nc p : Int} {mb mb' : Int → Int}
theorem hl_fr (A : ASK c D M k it nc p) (h : ∀ a, a < 302 → m a = c a) (e : ∀ d, 0 ≤ d → d < D → xR c 292 d < 4 → mb d = mb' d) : top (SC m (vmb m mb)) = top (SC c (vmb c mb')) := by
  rw [SC_fr (c := c) (c' := m) (by rw [h 223 (by omega)]) (fun i _ _ => by rw [xR_cg (h 291 (by omega))]), SC_v (v' := vmb c mb') A.2.2.1 (fun i i0 i1 => ?_)]
  obtain ⟨d, l, a1, a2, a3, a4, _⟩ := A.2.2.2.2.2.2.1 i i0 i1
  have nb := A.2.2.2.1
  unfold vmb
  rw [xR_cg (h (231 + i) (by omega)), xR_cg (h 229 (by omega)), a1, show (4 * d + l) / 4 = d by omega, e d a2.1 a2.2 a4]
theorem rk_fr (A : ASK c D M k it nc p) (h : ∀ a, a < 302 → m a = c a) (e : ∀ d, 0 ≤ d → d < D → xR c 292 d < 4 → mb d = mb' d) : ∀ g, 0 ≤ g → g < k → rmb m mb g = rmb c mb' g := fun g g0 g1 => by
  obtain ⟨d, l, a1, a2, a3, a4⟩ := A.2.2.2.2.2.2.2.1 g g0 g1
  have D8 := A.1
  unfold rmb
  rw [xR_cg (h 227 (by omega)), a1, show (4 * d + l) / 4 = d by omega, show (4 * d + l) % 4 = l by omega, xR_cg (h (15 + 26 * d + 14 + l) (by omega)), e d a2.1 a2.2 a4]
end HFR
/-- the facts of an extent as rows -/
def sgF (c : xw_M) (D : Int) (Kx Rf : Int → Int) (os : Int → Int → Int) (e : Int) : List Srow := if hfx Kx e = true then (List.range (Rf e).toNat).map (fun j : Nat => ([cfx Kx Rf e.toNat + os e j], (fun d => rT c D (cfx Kx Rf e.toNat) (os e) d j), 1, fun i => if xR c 224 i = 211 then 1 else rT c D (cfx Kx Rf e.toNat) (os e) (D + xR c 225 i) j)) else []
section STF
variable {B : Nat} {t k it S : Int} {mk ls K : Int → Int} {c : xw_M} {D M tu nc p : Int} {Kx Rf : Int → Int} {Rv : Int → Int → Int}
theorem stepF {os : Int → Int → Int} {W : List Srow} {J0 : Nat} {e : Int} {m1 : xw_M} (R : Int → Int → Int → xw_M → xP) (hB : B ≤ 512) (dk : dsk B c D M tu Kx Rf Rv) (rm : ram c D M tu Kx) (A : ASK c D M k it nc p) (F : FX c t k it S mk ls K) (hn : xR c 223 2 = it) (ho : hfx Kx e = true → srt (pk c (cfx Kx Rf e.toNat)) D.toNat (os e) (Rf e) ∧ Part (c 516) (xR c 587 e * 32768 + 64) (Rf e) (D + M).toNat (rT c D (cfx Kx Rf e.toNat) (os e)) ∧ xR c 587 e * 32768 + 64 + 8 * partB (rT c D (cfx Kx Rf e.toNat) (os e)) (Rf e) (D + M).toNat ≤ 64 * (B * 512 : Nat)) (e0 : 0 ≤ e) (e1 : e < xR c 536 52) (f : fLo t c m1) (r : ∃ p, rs B m1 p) (hJ : ∀ j, j < (sgF c D Kx Rf os e).length → W.getD (J0 + j) sr0 = (sgF c D Kx Rf os e).getD j sr0) (dd : ∀ j, j < (sgF c D Kx Rf os e).length → ∀ s s', 0 ≤ s → s < S → 0 ≤ s' → s' < S → (∀ g, 0 ≤ g → g < k → skey (rkR c W (J0 + j)) ls (mk s) g = skey (rkR c W (J0 + j)) ls (mk s') g) → s = s') (bd : hfx Kx e = true → ∀ d j, 0 ≤ d → d < D → 0 ≤ j → j < Rf e → 0 ≤ rT c D (cfx Kx Rf e.toNat) (os e) d j ∧ rT c D (cfx Kx Rf e.toNat) (os e) d j < xR c (15 + 26 * d) 11) (s : ST m1 t k it S mk ls K (hlR c W) (rkR c W) (cfR W) (moR W) J0) : ∃ m2, stp93 B R (-1) t e m1 = R (-1) t (e + 1) m2 ∧ fLo t c m2 ∧ (∃ p, rs B m2 p) ∧ ST m2 t k it S mk ls K (hlR c W) (rkR c W) (cfR W) (moR W) (J0 + (sgF c D Kx Rf os e).length) := by
  have tt := F.1
  have ex := dk.ex
  have E2 := ex.1.2
  have q := ex.2.1 e e0 e1
  have le := rm.le e e0 e1
  have cn := rm.cg.cn
  obtain ⟨pr, rp⟩ := r
  have lo : ∀ a, a < 302 → m1 a = c a := fun a ha => f.1 a (by omega) (by omega) (by omega) (by omega) (by omega) (by omega) (by omega)
  have hi : ∀ a, 508 ≤ a → a < 530 → m1 a = c a := fun a _ _ => f.1 a (by omega) (by omega) (by omega) (by omega) (by omega) (by omega) (by omega)
  have we : w32 (e + 1) = e + 1 := w32_id (by omega) (by omega)
  have eb : 0 ≤ e ∧ e < 200 := ⟨e0, by omega⟩
  unfold stp93 yf103
  rw [if_pos rfl, if_pos eb, xR_cg (hi 513 (by omega) (by omega)), le.1, we]
  by_cases hf : hfx Kx e = true
  · obtain ⟨o1, o2, o3⟩ := ho hf
    have z : (if Kx e = 2 then some (Sum.inl 1, m1) else if Kx e = 4 then some (Sum.inl 1, m1) else some (Sum.inl 0, m1) : xP) = some (Sum.inl 1, m1) := by
      have := of_decide_eq_true hf
      by_cases k2 : Kx e = 2
      · rw [if_pos k2]
      · rw [if_neg k2, if_pos (by omega)]
    rw [z, xB_ret, if_neg (by decide)]
    have x3 := xR_cg (lo 3 (by omega))
    obtain ⟨m2, e2, r2, g2, a5, a6, a7, a8⟩ := goF_ok (B := B) (m := m1) (D := D) (M := M) (e := e) (s := xR c 587 e) (p := pr) hB cn.1 cn.2.1 (by rw [x3]; exact cn.2.2.1) (by rw [x3]; exact cn.2.2.2.1) e0 (by omega) (by rw [xR_cg (hi 514 (by omega) (by omega))]; exact le.2.1) (by omega) (by have := dk.ln e e0 e1; omega) rp
    have f2 := fLo_tr f (fLo_g tt g2)
    have lo2 : ∀ a, a < 302 → m2 a = c a := fun a ha => f2.1 a (by omega) (by omega) (by omega) (by omega) (by omega) (by omega) (by omega)
    have A2 := ASK_fr lo2 A
    have F2 := FX_lo F f2
    have M8 : 0 ≤ M ∧ M ≤ 8 := cn.2.1
    have D8 : 0 ≤ D ∧ D ≤ 8 := cn.1
    have x15 : ∀ d, 0 ≤ d → d < D → xR m2 (15 + 26 * d) = xR c (15 + 26 * d) := fun d d0 d1 => xR_cg (lo2 _ (by omega))
    have R0 : 0 ≤ Rf e := dk.rf e
    have ln : (sgF c D Kx Rf os e).length = (Rf e).toNat := by unfold sgF; rw [if_pos hf, List.length_map, List.length_range]
    have gd : ∀ j : Int, 0 ≤ j → j < Rf e → W.getD (J0 + j.toNat) sr0 = ([cfx Kx Rf e.toNat + os e j], (fun d => rT c D (cfx Kx Rf e.toNat) (os e) d j), 1, fun i => if xR c 224 i = 211 then 1 else rT c D (cfx Kx Rf e.toNat) (os e) (D + xR c 225 i) j) := fun j j0 j1 => by
      rw [hJ j.toNat (by omega)]
      unfold sgF
      rw [if_pos hf, mapr_g (by omega), Int.toNat_of_nonneg j0]
    have x224 := xR_cg (lo2 224 (by omega))
    have x225 := xR_cg (lo2 225 (by omega))
    have s2 : ST m2 t k it S mk ls K (hlR c W) (rkR c W) (cfR W) (moR W) J0 := ST_fr F.2.1.2.2 F.2.2.1.2.2 (fun a a0 a1 => g2.1 a (by omega) (by omega) (by omega) (by omega)) s
    generalize hT : rT c D (cfx Kx Rf e.toNat) (os e) = T at *
    have Q : ∀ w, WNT B m2 D it D w → SRC B m2 (Rf e) w (D + M).toNat T J0 k it (hlR c W) (rkR c W) (cfR W) (moR W) := fun w hw => by
      refine SRC_cg (fun j j0 j1 => ?_) (src_f (B := B) (m := m2) (R := Rf e) (T := T) (J0 := J0) (hl := fun n => top (SC m2 (vmb m2 (fun d => T d ((n - J0 : Nat) : Int))))) (rk := fun n => rmb m2 (fun d => T d ((n - J0 : Nat) : Int))) (cf := fun _ => 1) (mo := fun n i => if xR m2 224 i = 211 then 1 else T (D + xR m2 225 i) ((n - J0 : Nat) : Int)) A2 a7 a5 (fun d d0 d1 => (a8 d d0 d1).2) (fun d j d0 d1 j0 j1 => by rw [x15 d d0 d1]; exact bd hf d j d0 d1 j0 j1) (fun j j0 j1 => ?_) w hw)
      · have ej : ((J0 + j.toNat - J0 : Nat) : Int) = j := by omega
        unfold hlR rkR cfR moR
        rw [gd j j0 j1, ej, x224, x225]
        exact ⟨(hl_fr A lo2 (fun _ _ _ _ => rfl)).symm, fun g g0 g1 => (rk_fr A lo2 (fun _ _ _ _ => rfl) g g0 g1).symm, rfl, fun _ _ _ => rfl⟩
      · have ej : ((J0 + j.toNat - J0 : Nat) : Int) = j := by omega
        rw [ej]
        exact ⟨rfl, rfl, rfl, rfl⟩
    obtain ⟨m3, e3, f3, s3, r3⟩ := addpart_ok (B := B) (m := m2) (R := Rf e) (p := xR c 587 e * 32768 + 64) (D := D) (n := it) (P := D) (kk := (D + M).toNat) (T := T) (J0 := J0) hB (by rw [← hT]; exact rT_w c D _ _) (by omega) (by rw [a6]; omega) (by rw [f2.1 516 (by omega) (by omega) (by omega) (by omega) (by omega) (by omega) (by omega)]; exact o2) r2 o3 F2 (by rw [xR_cg (lo2 3 (by omega))]; exact cn.2.2.1) D8.1 D8.2 (fun d d0 d1 => Or.inr (by rw [(a8 d d0 d1).2]; omega)) (by rw [xR_cg (lo2 223 (by omega))]; exact hn) F.2.2.1.2.1 F.2.2.1.2.2 a5 D8.1 D8.2 (fun i i0 i1 hi' => by
      obtain ⟨b0, b1⟩ := A2.2.2.2.2.2.2.2.2 i i0 i1 hi'
      exact ⟨D + xR m2 225 i, col_f a7 a5 D8.1 D8.2 b0 (by omega), by omega, by omega⟩) Q (fun j j0 j1 => dd j.toNat (by omega)) s2
    unfold yk93_74
    rw [e2, xB_ret, if_pos (an_f B tt).1, e3, xB_ret, we]
    rw [ln]
    exact ⟨m3, rfl, fLo_tr f2 (fLo_p tt f3), r3, s3⟩
  · have z : (if Kx e = 2 then some (Sum.inl 1, m1) else if Kx e = 4 then some (Sum.inl 1, m1) else some (Sum.inl 0, m1) : xP) = some (Sum.inl 0, m1) := by
      have := of_decide_eq_false (Bool.eq_false_iff.mpr hf)
      rw [if_neg (by omega), if_neg (by omega)]
    rw [z, xB_ret, if_pos rfl]
    have ln : (sgF c D Kx Rf os e).length = 0 := by unfold sgF; rw [if_neg hf]; rfl
    rw [ln]
    exact ⟨m1, rfl, f, ⟨pr, rp⟩, s⟩
end STF
