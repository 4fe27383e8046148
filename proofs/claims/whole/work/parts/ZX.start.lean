/-! THE CONSTRUCTORS: the symbolic run of the law up to its loop; the heap behind it is the memory m0 -/
def xz_K : Instr → List (List Value × Value)
  | .imul => [([.int 512, .float 0], .float 100), ([.int 64, .float 100], .float 101)]
  | _ => []
def xz_u (x : Int32) (L : Nat) : xy_U := (fun i => bif Nat.beq i 0 then x else bif Nat.beq i 100 then x * 512 else bif Nat.beq i 101 then x * 512 * 64 else L.toInt32, fun _ => 0, id)
theorem xz_Kok (x : Int32) (L : Nat) : ∀ i, ∀ q ∈ xz_K i, xy_e i (q.1.map (xy_v (xz_u x L))) = some (xy_v (xz_u x L) q.2) := by
  intro i q hq
  cases i <;> first | exact absurd hq List.not_mem_nil | skip
  case imul => exact List.forall_mem_cons.mpr (p := fun q => xy_e .imul (q.1.map (xy_v (xz_u x L))) = some (xy_v (xz_u x L) q.2)) ⟨rfl, List.forall_mem_cons.mpr ⟨rfl, fun _ h => absurd h List.not_mem_nil⟩⟩ q hq
def xz_N (B : List (Value × Nat × Nat)) (v : Value) (L : Nat) : xy_N := (xz_K, B, 0, fun _ => v, L)
def xz_s0 : xy_S := (0, [(0, .retAddr 9)], [], (xy_e0 10, 0), 0)
def xz_run (B : List (Value × Nat × Nat)) (v : Value) (L : Nat) (C : xy_Q) : Option (List (xy_Q × xy_O)) := xy_run (xz_N B v L) xq_P 2000 (fun _ pc => Nat.beq pc 33) 201 349 (8, ret, [], 0) xz_s0 C
/-- what a place of a cell has behind the constructors -/
def xz_sv (vB vT : Value) (a k kd : Nat) : Value := bif (Nat.beq a 508 && Nat.beq k 0) || (Nat.beq a 536 && Nat.beq k 49) then vB else bif (Nat.beq a 518 || Nat.beq a 530) && Nat.beq k 1 then vT else match kd with
  | 0 => .int (Int32.ofInt (m0 0 a k))
  | 1 => .long (Int64.ofInt (m0 0 a k))
  | 2 => .ref (m0 0 a k).toNat
  | 3 => .null
  | 4 => .retAddr 2
  | n + 5 => .ref n
def xz_lay (vB vL vT : Value) (a : Nat) : xm_C := bif Nat.ble 16 (xw_ly a).1 && Nat.ble (xw_ly a).1 19 then ((xw_ly a).1 + 64, [bif Nat.beq a 516 || Nat.beq a 517 then vL else .int (Int32.ofNat (xw_ly a).2.1), bif Nat.beq (xw_ly a).1 17 then .long 0 else .int 0])
  else bif Nat.beq a 4 then (87, [.int 8, .null, .retAddr 7, .ref 197, .retAddr 6, .ref 171, .retAddr 5, .ref 145, .retAddr 4, .ref 119, .retAddr 3, .ref 93, .retAddr 2, .ref 67, .retAddr 1, .ref 41, .retAddr 0, .ref 15])
  else ((xw_ly a).1, (List.range (xw_ly a).2.1).map (fun k => xz_sv vB vT a k (xw_kof (xw_ly a) k)))
def xz_one (vB vL vT : Value) (q : xy_Q × xy_O) : Bool := match q.2 with
  | .inr (pc, loc, st, sh, n) => Nat.beq pc 33 && (decide (loc = [(4, .int 1), (3, .ref 604), (2, .ref 536), (1, .ref 0), (0, .retAddr 9)]) && (st.isEmpty && (Nat.beq sh.2 605 && (Nat.ble n 2400000 && (List.range 605).all (fun a => decide (xy_hg sh a = some (xz_lay vB vL vT a)))))))
  | _ => false
def xz_all (vB vL vT : Value) : Option (List (xy_Q × xy_O)) → Bool
  | some l => l.all (xz_one vB vL vT)
  | none => false
def xz_B : List (Value × Nat × Nat) := [(.float 100, 8192, 262144)]
def xz_C0 : xy_Q := [(2, .int 0, .float 99, true)]
def xz_Cm : xy_Q := [(0, .float 0, .int 16, false), (0, .int 16, .float 0, true), (0, .float 0, .int 512, true), (0, .int 512, .float 0, false), (2, .int 0, .float 99, true)]
def xz_Ca : xy_Q := [(0, .float 0, .int 16, true), (0, .int 16, .float 0, false), (0, .float 0, .int 512, true), (0, .int 512, .float 0, false), (2, .int 0, .float 99, true)]
def xz_Cd : xy_Q := [(0, .float 0, .int 16, false), (0, .int 16, .float 0, true), (0, .float 0, .int 512, false), (0, .int 512, .float 0, true), (2, .int 0, .float 99, true)]
theorem xz_e0 : xz_all (.int 16) (.int 8192) (.int 524288) (xz_run [] (.int 0) 0 []) = true := by decide +kernel
theorem xz_em : xz_all (.float 0) (.float 100) (.float 101) (xz_run xz_B (.float 0) 4000 xz_Cm) = true := by decide +kernel
theorem xz_ea : xz_all (.int 16) (.int 8192) (.int 524288) (xz_run [] (.float 0) 4000 xz_Ca) = true := by decide +kernel
theorem xz_ed : xz_all (.int 512) (.int 262144) (.int 16777216) (xz_run [] (.float 0) 4000 xz_Cd) = true := by decide +kernel
theorem xz_eb : xz_all (.int 16) (.int 8192) (.int 524288) (xz_run [] (.int 16) 4000 xz_C0) = true := by decide +kernel
theorem xz_ec : xz_all (.int 512) (.int 262144) (.int 16777216) (xz_run [] (.int 512) 4000 xz_C0) = true := by decide +kernel
