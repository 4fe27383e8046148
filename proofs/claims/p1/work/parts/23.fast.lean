/-! the program's tables, found faster -/
theorem xq_ap {α : Type} {a b : List α} {n : Nat} (hl : a.length = n) (j : Nat) : (a ++ b)[j]? = bif Nat.blt j n then a[j]? else b[j - n]? := by
  by_cases h : j < n
  · rw [List.getElem?_append_left (by omega), show Nat.blt j n = true from Nat.ble_eq_true_of_le h]
    rfl
  · have hb : Nat.blt j n = false := by
      cases hc : Nat.blt j n with
      | false => rfl
      | true => exact absurd (Nat.le_of_ble_eq_true hc) h
    rw [List.getElem?_append_right (by omega), hb, hl]
    rfl
def xq_f (j : Nat) : Option (Nat → Option (xm_E × Nat)) := (bif Nat.blt (j) 25 then xt_pl0[j]? else (bif Nat.blt (j - 25) 25 then xt_pl1[j - 25]? else (bif Nat.blt (j - 25 - 25) 25 then xt_pl2[j - 25 - 25]? else (bif Nat.blt (j - 25 - 25 - 25) 25 then xt_pl3[j - 25 - 25 - 25]? else (bif Nat.blt (j - 25 - 25 - 25 - 25) 25 then xt_pl4[j - 25 - 25 - 25 - 25]? else (bif Nat.blt (j - 25 - 25 - 25 - 25 - 25) 25 then xt_pl5[j - 25 - 25 - 25 - 25 - 25]? else (bif Nat.blt (j - 25 - 25 - 25 - 25 - 25 - 25) 25 then xt_pl6[j - 25 - 25 - 25 - 25 - 25 - 25]? else (bif Nat.blt (j - 25 - 25 - 25 - 25 - 25 - 25 - 25) 25 then xt_pl7[j - 25 - 25 - 25 - 25 - 25 - 25 - 25]? else (bif Nat.blt (j - 25 - 25 - 25 - 25 - 25 - 25 - 25 - 25) 25 then xt_pl8[j - 25 - 25 - 25 - 25 - 25 - 25 - 25 - 25]? else (bif Nat.blt (j - 25 - 25 - 25 - 25 - 25 - 25 - 25 - 25 - 25) 25 then xt_pl9[j - 25 - 25 - 25 - 25 - 25 - 25 - 25 - 25 - 25]? else (bif Nat.blt (j - 25 - 25 - 25 - 25 - 25 - 25 - 25 - 25 - 25 - 25) 25 then xt_pl10[j - 25 - 25 - 25 - 25 - 25 - 25 - 25 - 25 - 25 - 25]? else (bif Nat.blt (j - 25 - 25 - 25 - 25 - 25 - 25 - 25 - 25 - 25 - 25 - 25) 25 then xt_pl11[j - 25 - 25 - 25 - 25 - 25 - 25 - 25 - 25 - 25 - 25 - 25]? else (bif Nat.blt (j - 25 - 25 - 25 - 25 - 25 - 25 - 25 - 25 - 25 - 25 - 25 - 25) 25 then xt_pl12[j - 25 - 25 - 25 - 25 - 25 - 25 - 25 - 25 - 25 - 25 - 25 - 25]? else xt_pl13[j - 25 - 25 - 25 - 25 - 25 - 25 - 25 - 25 - 25 - 25 - 25 - 25 - 25]?)))))))))))))
theorem xq_fe (j : Nat) : xt_pl[j]? = xq_f j := by
  unfold xt_pl xq_f
  rw [xq_ap (n := 25) rfl (j), xq_ap (n := 25) rfl (j - 25), xq_ap (n := 25) rfl (j - 25 - 25), xq_ap (n := 25) rfl (j - 25 - 25 - 25), xq_ap (n := 25) rfl (j - 25 - 25 - 25 - 25), xq_ap (n := 25) rfl (j - 25 - 25 - 25 - 25 - 25), xq_ap (n := 25) rfl (j - 25 - 25 - 25 - 25 - 25 - 25), xq_ap (n := 25) rfl (j - 25 - 25 - 25 - 25 - 25 - 25 - 25), xq_ap (n := 25) rfl (j - 25 - 25 - 25 - 25 - 25 - 25 - 25 - 25), xq_ap (n := 25) rfl (j - 25 - 25 - 25 - 25 - 25 - 25 - 25 - 25 - 25), xq_ap (n := 25) rfl (j - 25 - 25 - 25 - 25 - 25 - 25 - 25 - 25 - 25 - 25), xq_ap (n := 25) rfl (j - 25 - 25 - 25 - 25 - 25 - 25 - 25 - 25 - 25 - 25 - 25), xq_ap (n := 25) rfl (j - 25 - 25 - 25 - 25 - 25 - 25 - 25 - 25 - 25 - 25 - 25 - 25)]
def xq_m (j : Nat) : Option (xt_I) := (bif Nat.blt (j) 40 then xt_ml0[j]? else (bif Nat.blt (j - 40) 40 then xt_ml1[j - 40]? else (bif Nat.blt (j - 40 - 40) 40 then xt_ml2[j - 40 - 40]? else (bif Nat.blt (j - 40 - 40 - 40) 40 then xt_ml3[j - 40 - 40 - 40]? else (bif Nat.blt (j - 40 - 40 - 40 - 40) 40 then xt_ml4[j - 40 - 40 - 40 - 40]? else (bif Nat.blt (j - 40 - 40 - 40 - 40 - 40) 40 then xt_ml5[j - 40 - 40 - 40 - 40 - 40]? else (bif Nat.blt (j - 40 - 40 - 40 - 40 - 40 - 40) 40 then xt_ml6[j - 40 - 40 - 40 - 40 - 40 - 40]? else (bif Nat.blt (j - 40 - 40 - 40 - 40 - 40 - 40 - 40) 40 then xt_ml7[j - 40 - 40 - 40 - 40 - 40 - 40 - 40]? else xt_ml8[j - 40 - 40 - 40 - 40 - 40 - 40 - 40 - 40]?))))))))
theorem xq_me (j : Nat) : xt_ml[j]? = xq_m j := by
  unfold xt_ml xq_m
  rw [xq_ap (n := 40) rfl (j), xq_ap (n := 40) rfl (j - 40), xq_ap (n := 40) rfl (j - 40 - 40), xq_ap (n := 40) rfl (j - 40 - 40 - 40), xq_ap (n := 40) rfl (j - 40 - 40 - 40 - 40), xq_ap (n := 40) rfl (j - 40 - 40 - 40 - 40 - 40), xq_ap (n := 40) rfl (j - 40 - 40 - 40 - 40 - 40 - 40), xq_ap (n := 40) rfl (j - 40 - 40 - 40 - 40 - 40 - 40 - 40)]
def xq_P : xm_P := (fun j pc => match xq_f j with
  | some f => (f pc).map Prod.fst
  | none => none, fun k => (xq_m k).map (fun q => q.2.2.1), xm_nat)
theorem xq_Pe : xq_P = xt_P := by
  unfold xq_P xt_P
  refine Prod.ext (funext fun j => funext fun pc => ?_) (Prod.ext (funext fun k => ?_) rfl)
  · dsimp only
    rw [xq_fe]
    all_goals cases xq_f j <;> rfl
  · dsimp only
    rw [xq_me]
/-! fields' types and first values, found faster -/
def xq_ft0 : List FieldType := [.object "CubeStore$Text", .object "CubeStore$Catalog", .object "CubeStore$Question", .object "CubeStore$Reader", .object "CubeStore$Chooser", .object "CubeStore$Table", .object "CubeStore$Rows", .object "CubeStore$Rows", .array .int, .array .long, .array .int, .object "CubeStore$Disk", .object "CubeStore$Answer", .object "CubeStore$Answer", .int, .int, .int]
def xq_ft1 : List FieldType := [.array .byte, .int, .int, .int, .int, .int, .int, .int]
def xq_ft2 : List FieldType := [.array (.object "CubeStore$Dimension"), .int, .int, .array (.array .byte), .array .int]
def xq_ft3 : List FieldType := [.array .byte, .array (.array .byte), .array .int, .array (.array .int), .array (.array .int), .array (.array .int), .array .int, .array .int, .array .int, .int, .int, .int, .int]
def xq_ft4 : List FieldType := [.object "CubeStore$Catalog", .int, .int, .array .int, .array .int, .array .int, .int, .array .int, .int, .array .int, .int, .array .int, .array (.array .byte), .int, .array .int, .array .int]
def xq_ft5 : List FieldType := [.object "CubeStore$Text", .object "CubeStore$Catalog", .object "CubeStore$Question", .array .int, .int]
def xq_ft6 : List FieldType := [.object "CubeStore$Catalog", .array .int, .array .int, .array .int, .array .int, .array .int, .array .int, .int]
def xq_ft7 : List FieldType := [.object "CubeStore$Catalog", .array (.array .long), .array (.array .long), .array .int, .array .int, .int, .int, .boolean, .int]
def xq_ft8 : List FieldType := [.array (.array .int), .array (.array .long), .array .int, .array .int, .array .int, .int]
def xq_ft9 : List FieldType := [.object "CubeStore$Rows", .array .long, .array .int, .array .int, .array .int, .array .int, .int, .boolean, .boolean, .int]
def xq_ft10 : List FieldType := [.int, .array .long, .object "CubeStore$Tape", .array .long, .object "CubeStore$Tape", .array .long, .object "CubeStore$Tape", .array .int, .int, .int, .int, .int, .array .int, .array .int, .int, .array .int, .array .int, .array .int, .int, .int]
def xq_ft11 : List FieldType := [.array .long, .int, .int, .boolean, .array .int, .array .long, .array .int, .array .int, .array .int, .int, .int, .long, .long, .long, .long]
def xq_ft12 : List FieldType := [.object "java/lang/String", .int, .boolean, .boolean, .array .byte, .int, .int, .int, .int, .int, .int, .int, .int, .int, .int, .array .int, .array .int, .array .int, .array .int, .int, .array .byte, .array .int, .object "CubeStoreModel$Question", .object "CubeStoreModel$Question", .boolean, .int, .int, .int, .array .boolean, .array .int, .array .int, .int, .int, .int, .array .int, .array .long, .array .int, .array .long, .int, .int, .int, .array .int, .array .int, .int, .array .int, .array .int, .array .long, .array .byte, .array .long, .int, .int, .int, .int, .array .int, .array .int, .array .int, .array .boolean, .boolean, .int, .array .int, .array .int, .int, .array .int, .array .long, .array .long, .int, .int, .array .int, .array .int, .array .long, .array .long, .array .long, .array .long, .array .int, .array .int, .array .int]
def xq_ft13 : List FieldType := [.int, .array .int, .array .int, .array .int, .int, .array .int, .int, .array .int, .array .int, .int, .array .int, .int, .array .int, .int, .array .int, .array .int, .array .int, .array .int, .array .int]
def xq_dv0 : List Value := [.null, .null, .null, .null, .null, .null, .null, .null, .null, .null, .null, .null, .null, .null, .int 0, .int 0, .int 0]
def xq_dv1 : List Value := [.null, .int 0, .int 0, .int 0, .int 0, .int 0, .int 0, .int 0]
def xq_dv2 : List Value := [.null, .int 0, .int 0, .null, .null]
def xq_dv3 : List Value := [.null, .null, .null, .null, .null, .null, .null, .null, .null, .int 0, .int 0, .int 0, .int 0]
def xq_dv4 : List Value := [.null, .int 0, .int 0, .null, .null, .null, .int 0, .null, .int 0, .null, .int 0, .null, .null, .int 0, .null, .null]
def xq_dv5 : List Value := [.null, .null, .null, .null, .int 0]
def xq_dv6 : List Value := [.null, .null, .null, .null, .null, .null, .null, .int 0]
def xq_dv7 : List Value := [.null, .null, .null, .null, .null, .int 0, .int 0, .int 0, .int 0]
def xq_dv8 : List Value := [.null, .null, .null, .null, .null, .int 0]
def xq_dv9 : List Value := [.null, .null, .null, .null, .null, .null, .int 0, .int 0, .int 0, .int 0]
def xq_dv10 : List Value := [.int 0, .null, .null, .null, .null, .null, .null, .null, .int 0, .int 0, .int 0, .int 0, .null, .null, .int 0, .null, .null, .null, .int 0, .int 0]
def xq_dv11 : List Value := [.null, .int 0, .int 0, .int 0, .null, .null, .null, .null, .null, .int 0, .int 0, .long 0, .long 0, .long 0, .long 0]
def xq_dv12 : List Value := [.null, .int 0, .int 0, .int 0, .null, .int 0, .int 0, .int 0, .int 0, .int 0, .int 0, .int 0, .int 0, .int 0, .int 0, .null, .null, .null, .null, .int 0, .null, .null, .null, .null, .int 0, .int 0, .int 0, .int 0, .null, .null, .null, .int 0, .int 0, .int 0, .null, .null, .null, .null, .int 0, .int 0, .int 0, .null, .null, .int 0, .null, .null, .null, .null, .null, .int 0, .int 0, .int 0, .int 0, .null, .null, .null, .null, .int 0, .int 0, .null, .null, .int 0, .null, .null, .null, .int 0, .int 0, .null, .null, .null, .null, .null, .null, .null, .null, .null]
def xq_dv13 : List Value := [.int 0, .null, .null, .null, .int 0, .null, .int 0, .null, .null, .int 0, .null, .int 0, .null, .int 0, .null, .null, .null, .null, .null]
def xq_fts : List (List FieldType) := [xq_ft0, xq_ft1, xq_ft2, xq_ft3, xq_ft4, xq_ft5, xq_ft6, xq_ft7, xq_ft8, xq_ft9, xq_ft10, xq_ft11, xq_ft12, xq_ft13]
def xq_dvs : List (List Value) := [xq_dv0, xq_dv1, xq_dv2, xq_dv3, xq_dv4, xq_dv5, xq_dv6, xq_dv7, xq_dv8, xq_dv9, xq_dv10, xq_dv11, xq_dv12, xq_dv13]
def xq_ft (t k : Nat) : FieldType := (xq_fts.getD t []).getD k .int
def xq_dv (t : Nat) : List Value := bif Nat.blt t 14 then xq_dvs.getD t [] else List.replicate 6 .null
theorem xq_gd {α : Type} {l : List α} {n : Nat} {a : α} (h : l.length ≤ n) : l.getD n a = a := by
  rw [List.getD_eq_getElem?_getD, List.getElem?_eq_none h]
  rfl
theorem xq_fa : (List.range 14).all (fun t => decide (xt_N t = (xq_fts.getD t []).length) && (List.range (xt_N t)).all (fun k => decide (xt_ft t k = xq_ft t k))) = true := by decide +kernel
theorem xq_fb : (parseFieldDescriptor "").getD .int = .int := by decide +kernel
theorem xq_fte (t k : Nat) : xt_ft t k = xq_ft t k := by
  by_cases ht : t < 14
  · have h1 := List.all_eq_true.mp xq_fa t (List.mem_range.mpr ht)
    rw [Bool.and_eq_true] at h1
    by_cases hk : k < xt_N t
    · exact of_decide_eq_true (List.all_eq_true.mp h1.2 k (List.mem_range.mpr hk))
    · have h2 := of_decide_eq_true h1.1
      have e1 : xt_F t k = ("", "", "", false) := xq_gd (by show (xt_fl.getD t []).length ≤ k; unfold xt_N at hk; omega)
      have e2 : xq_ft t k = .int := xq_gd (by omega)
      unfold xt_ft
      rw [e1, e2]
      exact xq_fb
  · have e0 : xt_fl.getD t [] = [] := xq_gd (by show 14 ≤ t; omega)
    have e3 : xq_fts.getD t [] = [] := xq_gd (by show 14 ≤ t; omega)
    have e1 : xt_F t k = ("", "", "", false) := by
      unfold xt_F
      rw [e0]
      rfl
    have e2 : xq_ft t k = .int := by
      unfold xq_ft
      rw [e3]
      rfl
    unfold xt_ft
    rw [e1, e2]
    exact xq_fb
theorem xq_da : (List.range 14).all (fun t => decide (xm_dv t = xq_dvs.getD t [])) = true := by decide +kernel
theorem xq_dve (t : Nat) : xm_dv t = xq_dv t := by
  unfold xq_dv
  by_cases ht : t < 14
  · rw [show Nat.blt t 14 = true from Nat.ble_eq_true_of_le ht]
    exact of_decide_eq_true (List.all_eq_true.mp xq_da t (List.mem_range.mpr ht))
  · have hb : Nat.blt t 14 = false := by
      cases hc : Nat.blt t 14 with
      | false => rfl
      | true => exact absurd (Nat.le_of_ble_eq_true hc) ht
    rw [hb]
    exact if_neg ht
