/-! the program's tables, found faster -/
theorem xq_ap {α : Type} {a b : List α} {n : Nat} (hl : a.length = n) (j : Nat) : (a ++ b)[j]? = bif Nat.blt j n then a[j]? else b[j - n]? := by
  by_cases h : j < n
  · rw [List.getElem?_append_left (by omega), show Nat.blt j n = true from Nat.ble_eq_true_of_le h]
    rfl
  · have hb : Nat.blt j n = false := by
      cases hc : Nat.blt j n with
      | false => rfl
      | true => exact absurd (Nat.le_of_ble_eq_true hc) h
    rw [List.getElem?_append_right (by omega), hb, hl]
    rfl
def xq_f (j : Nat) : Option (Nat → Option (xm_E × Nat)) := (bif Nat.blt (j) 25 then xt_pl0[j]? else (bif Nat.blt (j - 25) 25 then xt_pl1[j - 25]? else (bif Nat.blt (j - 25 - 25) 25 then xt_pl2[j - 25 - 25]? else (bif Nat.blt (j - 25 - 25 - 25) 25 then xt_pl3[j - 25 - 25 - 25]? else (bif Nat.blt (j - 25 - 25 - 25 - 25) 25 then xt_pl4[j - 25 - 25 - 25 - 25]? else (bif Nat.blt (j - 25 - 25 - 25 - 25 - 25) 25 then xt_pl5[j - 25 - 25 - 25 - 25 - 25]? else (bif Nat.blt (j - 25 - 25 - 25 - 25 - 25 - 25) 25 then xt_pl6[j - 25 - 25 - 25 - 25 - 25 - 25]? else (bif Nat.blt (j - 25 - 25 - 25 - 25 - 25 - 25 - 25) 25 then xt_pl7[j - 25 - 25 - 25 - 25 - 25 - 25 - 25]? else (bif Nat.blt (j - 25 - 25 - 25 - 25 - 25 - 25 - 25 - 25) 25 then xt_pl8[j - 25 - 25 - 25 - 25 - 25 - 25 - 25 - 25]? else (bif Nat.blt (j - 25 - 25 - 25 - 25 - 25 - 25 - 25 - 25 - 25) 25 then xt_pl9[j - 25 - 25 - 25 - 25 - 25 - 25 - 25 - 25 - 25]? else (bif Nat.blt (j - 25 - 25 - 25 - 25 - 25 - 25 - 25 - 25 - 25 - 25) 25 then xt_pl10[j - 25 - 25 - 25 - 25 - 25 - 25 - 25 - 25 - 25 - 25]? else (bif Nat.blt (j - 25 - 25 - 25 - 25 - 25 - 25 - 25 - 25 - 25 - 25 - 25) 25 then xt_pl11[j - 25 - 25 - 25 - 25 - 25 - 25 - 25 - 25 - 25 - 25 - 25]? else (bif Nat.blt (j - 25 - 25 - 25 - 25 - 25 - 25 - 25 - 25 - 25 - 25 - 25 - 25) 25 then xt_pl12[j - 25 - 25 - 25 - 25 - 25 - 25 - 25 - 25 - 25 - 25 - 25 - 25]? else xt_pl13[j - 25 - 25 - 25 - 25 - 25 - 25 - 25 - 25 - 25 - 25 - 25 - 25 - 25]?)))))))))))))
theorem xq_fe (j : Nat) : xt_pl[j]? = xq_f j := by
  unfold xt_pl xq_f
  rw [xq_ap (n := 25) rfl (j), xq_ap (n := 25) rfl (j - 25), xq_ap (n := 25) rfl (j - 25 - 25), xq_ap (n := 25) rfl (j - 25 - 25 - 25), xq_ap (n := 25) rfl (j - 25 - 25 - 25 - 25), xq_ap (n := 25) rfl (j - 25 - 25 - 25 - 25 - 25), xq_ap (n := 25) rfl (j - 25 - 25 - 25 - 25 - 25 - 25), xq_ap (n := 25) rfl (j - 25 - 25 - 25 - 25 - 25 - 25 - 25), xq_ap (n := 25) rfl (j - 25 - 25 - 25 - 25 - 25 - 25 - 25 - 25), xq_ap (n := 25) rfl (j - 25 - 25 - 25 - 25 - 25 - 25 - 25 - 25 - 25), xq_ap (n := 25) rfl (j - 25 - 25 - 25 - 25 - 25 - 25 - 25 - 25 - 25 - 25), xq_ap (n := 25) rfl (j - 25 - 25 - 25 - 25 - 25 - 25 - 25 - 25 - 25 - 25 - 25), xq_ap (n := 25) rfl (j - 25 - 25 - 25 - 25 - 25 - 25 - 25 - 25 - 25 - 25 - 25 - 25)]
def xq_m (j : Nat) : Option (xt_I) := (bif Nat.blt (j) 40 then xt_ml0[j]? else (bif Nat.blt (j - 40) 40 then xt_ml1[j - 40]? else (bif Nat.blt (j - 40 - 40) 40 then xt_ml2[j - 40 - 40]? else (bif Nat.blt (j - 40 - 40 - 40) 40 then xt_ml3[j - 40 - 40 - 40]? else (bif Nat.blt (j - 40 - 40 - 40 - 40) 40 then xt_ml4[j - 40 - 40 - 40 - 40]? else (bif Nat.blt (j - 40 - 40 - 40 - 40 - 40) 40 then xt_ml5[j - 40 - 40 - 40 - 40 - 40]? else (bif Nat.blt (j - 40 - 40 - 40 - 40 - 40 - 40) 40 then xt_ml6[j - 40 - 40 - 40 - 40 - 40 - 40]? else (bif Nat.blt (j - 40 - 40 - 40 - 40 - 40 - 40 - 40) 40 then xt_ml7[j - 40 - 40 - 40 - 40 - 40 - 40 - 40]? else xt_ml8[j - 40 - 40 - 40 - 40 - 40 - 40 - 40 - 40]?))))))))
theorem xq_me (j : Nat) : xt_ml[j]? = xq_m j := by
  unfold xt_ml xq_m
  rw [xq_ap (n := 40) rfl (j), xq_ap (n := 40) rfl (j - 40), xq_ap (n := 40) rfl (j - 40 - 40), xq_ap (n := 40) rfl (j - 40 - 40 - 40), xq_ap (n := 40) rfl (j - 40 - 40 - 40 - 40), xq_ap (n := 40) rfl (j - 40 - 40 - 40 - 40 - 40), xq_ap (n := 40) rfl (j - 40 - 40 - 40 - 40 - 40 - 40), xq_ap (n := 40) rfl (j - 40 - 40 - 40 - 40 - 40 - 40 - 40)]
def xq_P : xm_P := (fun j pc => match xq_f j with
  | some f => (f pc).map Prod.fst
  | none => none, fun k => (xq_m k).map (fun q => q.2.2.1), xm_nat)
theorem xq_Pe : xq_P = xt_P := by
  unfold xq_P xt_P
  refine Prod.ext (funext fun j => funext fun pc => ?_) (Prod.ext (funext fun k => ?_) rfl)
  · dsimp only
    rw [xq_fe]
    cases xq_f j <;> rfl
  · dsimp only
    rw [xq_me]
