/-! ONE CALL ON A FRESH OBJECT: scripts of at most 7 ints (gen one.py) -/
def xo_I (xs : Nat → Int32) : List Int32 := [(xs 0) * 512, ((xs 0) * 512) * 64, (xs 1) &&& 31, (xs 2) >>> (24 &&& 31), ((xs 2) >>> (24 &&& 31)).toInt8.toInt32, (xs 2) >>> (16 &&& 31), ((xs 2) >>> (16 &&& 31)).toInt8.toInt32, (xs 2) >>> (8 &&& 31), ((xs 2) >>> (8 &&& 31)).toInt8.toInt32, (xs 2) >>> (0 &&& 31), ((xs 2) >>> (0 &&& 31)).toInt8.toInt32, (xs 3) >>> (24 &&& 31), ((xs 3) >>> (24 &&& 31)).toInt8.toInt32, (xs 3) >>> (16 &&& 31), ((xs 3) >>> (16 &&& 31)).toInt8.toInt32, (xs 3) >>> (8 &&& 31), ((xs 3) >>> (8 &&& 31)).toInt8.toInt32, (xs 3) >>> (0 &&& 31), ((xs 3) >>> (0 &&& 31)).toInt8.toInt32, (xs 4) >>> (24 &&& 31), ((xs 4) >>> (24 &&& 31)).toInt8.toInt32, (xs 4) >>> (16 &&& 31), ((xs 4) >>> (16 &&& 31)).toInt8.toInt32, (xs 4) >>> (8 &&& 31), ((xs 4) >>> (8 &&& 31)).toInt8.toInt32, (xs 4) >>> (0 &&& 31), ((xs 4) >>> (0 &&& 31)).toInt8.toInt32, (xs 5) >>> (24 &&& 31), ((xs 5) >>> (24 &&& 31)).toInt8.toInt32, (xs 5) >>> (16 &&& 31), ((xs 5) >>> (16 &&& 31)).toInt8.toInt32, (xs 5) >>> (8 &&& 31), ((xs 5) >>> (8 &&& 31)).toInt8.toInt32, (xs 5) >>> (0 &&& 31), ((xs 5) >>> (0 &&& 31)).toInt8.toInt32, (xs 6) >>> (24 &&& 31), ((xs 6) >>> (24 &&& 31)).toInt8.toInt32, (xs 6) >>> (16 &&& 31), ((xs 6) >>> (16 &&& 31)).toInt8.toInt32, (xs 6) >>> (8 &&& 31), ((xs 6) >>> (8 &&& 31)).toInt8.toInt32, (xs 6) >>> (0 &&& 31), ((xs 6) >>> (0 &&& 31)).toInt8.toInt32, (xs 2).toInt8.toInt32, (xs 3).toInt8.toInt32, (xs 4).toInt8.toInt32, (xs 5).toInt8.toInt32, (xs 6).toInt8.toInt32, (xs 0) - 2, 0 - (xs 2)]
def xo_J (xs : Nat → Int32) : List Int64 := [((xs 0) - 2).toInt64, (xs 3).toInt64, ((xs 3).toInt64) <<< ((32 : Int32).toInt64 &&& 63), (xs 4).toInt64, ((xs 4).toInt64) &&& 4294967295, (((xs 3).toInt64) <<< ((32 : Int32).toInt64 &&& 63)) ||| (((xs 4).toInt64) &&& 4294967295), (0 - (xs 2)).toInt64]
def xo_u (xs : Nat → Int32) : xy_U := (fun i => bif Nat.blt i 100 then xs i else bif Nat.blt i 1000 then (xo_I xs).getD (i - 100) 0 else lg_cmp ((xs 0 - 2).toInt64) (Int64.ofNat (i - 1000)), fun i => (xo_J xs).getD i 0, id)
theorem xo_u1 (xs : Nat → Int32) (i : Nat) : (xo_u xs).1 i = bif Nat.blt i 100 then xs i else bif Nat.blt i 1000 then (xo_I xs).getD (i - 100) 0 else lg_cmp ((xs 0 - 2).toInt64) (Int64.ofNat (i - 1000)) := rfl
theorem xo_bb (x : Int32) : x.toInt8.toInt32.toInt8.toInt32 = x.toInt8.toInt32 := by rw [Int8.toInt8_toInt32]
theorem xo_cc (x : Int64) : lg_cmp x x = 0 := by
  unfold lg_cmp
  simp
def xo_K_imul : List (List Value × Value) := [([.int 512, .float 0], .float 100), ([.int 64, .float 100], .float 101)]
theorem xo_k_imul (xs : Nat → Int32) : ∀ q ∈ xo_K_imul, xy_e .imul (q.1.map (xy_v (xo_u xs))) = some (xy_v (xo_u xs) q.2) := List.forall_mem_cons.mpr ⟨rfl, List.forall_mem_cons.mpr ⟨rfl, (fun _ h => absurd h List.not_mem_nil)⟩⟩
def xo_K_iand : List (List Value × Value) := [([.int 31, .float 1], .float 102)]
theorem xo_k_iand (xs : Nat → Int32) : ∀ q ∈ xo_K_iand, xy_e .iand (q.1.map (xy_v (xo_u xs))) = some (xy_v (xo_u xs) q.2) := List.forall_mem_cons.mpr ⟨rfl, (fun _ h => absurd h List.not_mem_nil)⟩
def xo_K_ishr : List (List Value × Value) := [([.int 24, .float 2], .float 103), ([.int 16, .float 2], .float 105), ([.int 8, .float 2], .float 107), ([.int 0, .float 2], .float 109), ([.int 24, .float 3], .float 111), ([.int 16, .float 3], .float 113), ([.int 8, .float 3], .float 115), ([.int 0, .float 3], .float 117), ([.int 24, .float 4], .float 119), ([.int 16, .float 4], .float 121), ([.int 8, .float 4], .float 123), ([.int 0, .float 4], .float 125), ([.int 24, .float 5], .float 127), ([.int 16, .float 5], .float 129), ([.int 8, .float 5], .float 131), ([.int 0, .float 5], .float 133), ([.int 24, .float 6], .float 135), ([.int 16, .float 6], .float 137), ([.int 8, .float 6], .float 139), ([.int 0, .float 6], .float 141)]
theorem xo_k_ishr (xs : Nat → Int32) : ∀ q ∈ xo_K_ishr, xy_e .ishr (q.1.map (xy_v (xo_u xs))) = some (xy_v (xo_u xs) q.2) := List.forall_mem_cons.mpr ⟨rfl, List.forall_mem_cons.mpr ⟨rfl, List.forall_mem_cons.mpr ⟨rfl, List.forall_mem_cons.mpr ⟨rfl, List.forall_mem_cons.mpr ⟨rfl, List.forall_mem_cons.mpr ⟨rfl, List.forall_mem_cons.mpr ⟨rfl, List.forall_mem_cons.mpr ⟨rfl, List.forall_mem_cons.mpr ⟨rfl, List.forall_mem_cons.mpr ⟨rfl, List.forall_mem_cons.mpr ⟨rfl, List.forall_mem_cons.mpr ⟨rfl, List.forall_mem_cons.mpr ⟨rfl, List.forall_mem_cons.mpr ⟨rfl, List.forall_mem_cons.mpr ⟨rfl, List.forall_mem_cons.mpr ⟨rfl, List.forall_mem_cons.mpr ⟨rfl, List.forall_mem_cons.mpr ⟨rfl, List.forall_mem_cons.mpr ⟨rfl, List.forall_mem_cons.mpr ⟨rfl, (fun _ h => absurd h List.not_mem_nil)⟩⟩⟩⟩⟩⟩⟩⟩⟩⟩⟩⟩⟩⟩⟩⟩⟩⟩⟩⟩
def xo_K_i2b : List (List Value × Value) := [([.float 103], .float 104), ([.float 104], .float 104), ([.float 105], .float 106), ([.float 106], .float 106), ([.float 107], .float 108), ([.float 108], .float 108), ([.float 109], .float 110), ([.float 110], .float 110), ([.float 111], .float 112), ([.float 112], .float 112), ([.float 113], .float 114), ([.float 114], .float 114), ([.float 115], .float 116), ([.float 116], .float 116), ([.float 117], .float 118), ([.float 118], .float 118), ([.float 119], .float 120), ([.float 120], .float 120), ([.float 121], .float 122), ([.float 122], .float 122), ([.float 123], .float 124), ([.float 124], .float 124), ([.float 125], .float 126), ([.float 126], .float 126), ([.float 127], .float 128), ([.float 128], .float 128), ([.float 129], .float 130), ([.float 130], .float 130), ([.float 131], .float 132), ([.float 132], .float 132), ([.float 133], .float 134), ([.float 134], .float 134), ([.float 135], .float 136), ([.float 136], .float 136), ([.float 137], .float 138), ([.float 138], .float 138), ([.float 139], .float 140), ([.float 140], .float 140), ([.float 141], .float 142), ([.float 142], .float 142), ([.float 2], .float 143), ([.float 143], .float 143), ([.float 3], .float 144), ([.float 144], .float 144), ([.float 4], .float 145), ([.float 145], .float 145), ([.float 5], .float 146), ([.float 146], .float 146), ([.float 6], .float 147), ([.float 147], .float 147)]
set_option maxRecDepth 100000 in
theorem xo_k_i2b (xs : Nat → Int32) : ∀ q ∈ xo_K_i2b, xy_e .i2b (q.1.map (xy_v (xo_u xs))) = some (xy_v (xo_u xs) q.2) := List.forall_mem_cons.mpr ⟨rfl, List.forall_mem_cons.mpr ⟨congrArg (fun z => some (Value.int z)) (xo_bb ((xs 2) >>> (24 &&& 31))), List.forall_mem_cons.mpr ⟨rfl, List.forall_mem_cons.mpr ⟨congrArg (fun z => some (Value.int z)) (xo_bb ((xs 2) >>> (16 &&& 31))), List.forall_mem_cons.mpr ⟨rfl, List.forall_mem_cons.mpr ⟨congrArg (fun z => some (Value.int z)) (xo_bb ((xs 2) >>> (8 &&& 31))), List.forall_mem_cons.mpr ⟨rfl, List.forall_mem_cons.mpr ⟨congrArg (fun z => some (Value.int z)) (xo_bb ((xs 2) >>> (0 &&& 31))), List.forall_mem_cons.mpr ⟨rfl, List.forall_mem_cons.mpr ⟨congrArg (fun z => some (Value.int z)) (xo_bb ((xs 3) >>> (24 &&& 31))), List.forall_mem_cons.mpr ⟨rfl, List.forall_mem_cons.mpr ⟨congrArg (fun z => some (Value.int z)) (xo_bb ((xs 3) >>> (16 &&& 31))), List.forall_mem_cons.mpr ⟨rfl, List.forall_mem_cons.mpr ⟨congrArg (fun z => some (Value.int z)) (xo_bb ((xs 3) >>> (8 &&& 31))), List.forall_mem_cons.mpr ⟨rfl, List.forall_mem_cons.mpr ⟨congrArg (fun z => some (Value.int z)) (xo_bb ((xs 3) >>> (0 &&& 31))), List.forall_mem_cons.mpr ⟨rfl, List.forall_mem_cons.mpr ⟨congrArg (fun z => some (Value.int z)) (xo_bb ((xs 4) >>> (24 &&& 31))), List.forall_mem_cons.mpr ⟨rfl, List.forall_mem_cons.mpr ⟨congrArg (fun z => some (Value.int z)) (xo_bb ((xs 4) >>> (16 &&& 31))), List.forall_mem_cons.mpr ⟨rfl, List.forall_mem_cons.mpr ⟨congrArg (fun z => some (Value.int z)) (xo_bb ((xs 4) >>> (8 &&& 31))), List.forall_mem_cons.mpr ⟨rfl, List.forall_mem_cons.mpr ⟨congrArg (fun z => some (Value.int z)) (xo_bb ((xs 4) >>> (0 &&& 31))), List.forall_mem_cons.mpr ⟨rfl, List.forall_mem_cons.mpr ⟨congrArg (fun z => some (Value.int z)) (xo_bb ((xs 5) >>> (24 &&& 31))), List.forall_mem_cons.mpr ⟨rfl, List.forall_mem_cons.mpr ⟨congrArg (fun z => some (Value.int z)) (xo_bb ((xs 5) >>> (16 &&& 31))), List.forall_mem_cons.mpr ⟨rfl, List.forall_mem_cons.mpr ⟨congrArg (fun z => some (Value.int z)) (xo_bb ((xs 5) >>> (8 &&& 31))), List.forall_mem_cons.mpr ⟨rfl, List.forall_mem_cons.mpr ⟨congrArg (fun z => some (Value.int z)) (xo_bb ((xs 5) >>> (0 &&& 31))), List.forall_mem_cons.mpr ⟨rfl, List.forall_mem_cons.mpr ⟨congrArg (fun z => some (Value.int z)) (xo_bb ((xs 6) >>> (24 &&& 31))), List.forall_mem_cons.mpr ⟨rfl, List.forall_mem_cons.mpr ⟨congrArg (fun z => some (Value.int z)) (xo_bb ((xs 6) >>> (16 &&& 31))), List.forall_mem_cons.mpr ⟨rfl, List.forall_mem_cons.mpr ⟨congrArg (fun z => some (Value.int z)) (xo_bb ((xs 6) >>> (8 &&& 31))), List.forall_mem_cons.mpr ⟨rfl, List.forall_mem_cons.mpr ⟨congrArg (fun z => some (Value.int z)) (xo_bb ((xs 6) >>> (0 &&& 31))), List.forall_mem_cons.mpr ⟨rfl, List.forall_mem_cons.mpr ⟨congrArg (fun z => some (Value.int z)) (xo_bb (xs 2)), List.forall_mem_cons.mpr ⟨rfl, List.forall_mem_cons.mpr ⟨congrArg (fun z => some (Value.int z)) (xo_bb (xs 3)), List.forall_mem_cons.mpr ⟨rfl, List.forall_mem_cons.mpr ⟨congrArg (fun z => some (Value.int z)) (xo_bb (xs 4)), List.forall_mem_cons.mpr ⟨rfl, List.forall_mem_cons.mpr ⟨congrArg (fun z => some (Value.int z)) (xo_bb (xs 5)), List.forall_mem_cons.mpr ⟨rfl, List.forall_mem_cons.mpr ⟨congrArg (fun z => some (Value.int z)) (xo_bb (xs 6)), (fun _ h => absurd h List.not_mem_nil)⟩⟩⟩⟩⟩⟩⟩⟩⟩⟩⟩⟩⟩⟩⟩⟩⟩⟩⟩⟩⟩⟩⟩⟩⟩⟩⟩⟩⟩⟩⟩⟩⟩⟩⟩⟩⟩⟩⟩⟩⟩⟩⟩⟩⟩⟩⟩⟩⟩⟩
def xo_K_isub : List (List Value × Value) := [([.int 2, .float 0], .float 148), ([.float 2, .int 0], .float 149)]
theorem xo_k_isub (xs : Nat → Int32) : ∀ q ∈ xo_K_isub, xy_e .isub (q.1.map (xy_v (xo_u xs))) = some (xy_v (xo_u xs) q.2) := List.forall_mem_cons.mpr ⟨rfl, List.forall_mem_cons.mpr ⟨rfl, (fun _ h => absurd h List.not_mem_nil)⟩⟩
def xo_K_i2l : List (List Value × Value) := [([.float 148], .double 0), ([.float 3], .double 1), ([.float 4], .double 3), ([.float 149], .double 6)]
theorem xo_k_i2l (xs : Nat → Int32) : ∀ q ∈ xo_K_i2l, xy_e .i2l (q.1.map (xy_v (xo_u xs))) = some (xy_v (xo_u xs) q.2) := List.forall_mem_cons.mpr ⟨rfl, List.forall_mem_cons.mpr ⟨rfl, List.forall_mem_cons.mpr ⟨rfl, List.forall_mem_cons.mpr ⟨rfl, (fun _ h => absurd h List.not_mem_nil)⟩⟩⟩⟩
def xo_K_lshl : List (List Value × Value) := [([.int 32, .double 1], .double 2)]
theorem xo_k_lshl (xs : Nat → Int32) : ∀ q ∈ xo_K_lshl, xy_e .lshl (q.1.map (xy_v (xo_u xs))) = some (xy_v (xo_u xs) q.2) := List.forall_mem_cons.mpr ⟨rfl, (fun _ h => absurd h List.not_mem_nil)⟩
def xo_K_land : List (List Value × Value) := [([.long 4294967295, .double 3], .double 4)]
theorem xo_k_land (xs : Nat → Int32) : ∀ q ∈ xo_K_land, xy_e .land (q.1.map (xy_v (xo_u xs))) = some (xy_v (xo_u xs) q.2) := List.forall_mem_cons.mpr ⟨rfl, (fun _ h => absurd h List.not_mem_nil)⟩
def xo_K_lor : List (List Value × Value) := [([.double 4, .double 2], .double 5)]
theorem xo_k_lor (xs : Nat → Int32) : ∀ q ∈ xo_K_lor, xy_e .lor (q.1.map (xy_v (xo_u xs))) = some (xy_v (xo_u xs) q.2) := List.forall_mem_cons.mpr ⟨rfl, (fun _ h => absurd h List.not_mem_nil)⟩
def xo_K_lcmp : List (List Value × Value) := ([.double 6, .double 6], .int 0) :: (List.range 496).map (fun c => ([.long (Int64.ofNat (c + 15)), .double 0], .float (UInt32.ofNat (c + 1015))))
theorem xo_k_lcmp (xs : Nat → Int32) : ∀ q ∈ xo_K_lcmp, xy_e .lcmp (q.1.map (xy_v (xo_u xs))) = some (xy_v (xo_u xs) q.2) := by
  refine List.forall_mem_cons.mpr ⟨congrArg (fun z => some (Value.int z)) (xo_cc _), fun q hq => ?_⟩
  obtain ⟨c, hc, rfl⟩ := List.mem_map.mp hq
  rw [List.mem_range] at hc
  have h1 : (UInt32.ofNat (c + 1015)).toNat = c + 1015 := UInt32.toNat_ofNat_of_lt' (by show c + 1015 < 4294967296; omega)
  have h2 : (xo_u xs).1 (c + 1015) = lg_cmp ((xs 0 - 2).toInt64) (Int64.ofNat (c + 15)) := by
    rw [xo_u1, xy_bf (by omega), xy_bf (by omega), show c + 1015 - 1000 = c + 15 by omega, cond_false, cond_false]
  show some (Value.int (lg_cmp ((xs 0 - 2).toInt64) (Int64.ofNat (c + 15)))) = some (Value.int ((xo_u xs).1 (UInt32.ofNat (c + 1015)).toNat))
  rw [h1, h2]
def xo_K : Instr → List (List Value × Value)
  | .imul => xo_K_imul
  | .iand => xo_K_iand
  | .ishr => xo_K_ishr
  | .i2b => xo_K_i2b
  | .isub => xo_K_isub
  | .i2l => xo_K_i2l
  | .lshl => xo_K_lshl
  | .land => xo_K_land
  | .lor => xo_K_lor
  | .lcmp => xo_K_lcmp
  | _ => []
theorem xo_Kok (xs : Nat → Int32) : ∀ i, ∀ q ∈ xo_K i, xy_e i (q.1.map (xy_v (xo_u xs))) = some (xy_v (xo_u xs) q.2) := by
  intro i q hq
  cases i <;> first | exact absurd hq List.not_mem_nil | skip
  case imul => exact xo_k_imul xs q hq
  case iand => exact xo_k_iand xs q hq
  case ishr => exact xo_k_ishr xs q hq
  case i2b => exact xo_k_i2b xs q hq
  case isub => exact xo_k_isub xs q hq
  case i2l => exact xo_k_i2l xs q hq
  case lshl => exact xo_k_lshl xs q hq
  case land => exact xo_k_land xs q hq
  case lor => exact xo_k_lor xs q hq
  case lcmp => exact xo_k_lcmp xs q hq
def xo_f (j : Nat) : Value := .float (UInt32.ofNat j)
def xo_g (v : Int32) (j : Nat) : Value := bif Nat.beq j 0 then .int v else .float (UInt32.ofNat j)
def xo_s0 : xy_S := (0, [(0, .retAddr 9)], [], (xy_e0 10, 0), 0)
def xo_one (q : xy_Q × xy_O) : Bool := match q.2 with
  | .inl (.inl (some (.int x)), _, _) => decide (x = 1)
  | _ => false
/-- conditions that contradict each other -/
def xo_bad (C : xy_Q) : Bool := match C with
  | (1, .float z, .int w, false) :: C' => decide (w = 0) && (Nat.ble 1015 z.toNat && (Nat.ble z.toNat 1510 && (C'.any (fun e => decide (e = (3, .int (Int32.ofNat (z.toNat - 998)), .float 0, false))) && C'.any (fun e => decide (e = (2, .int (Int32.ofNat (z.toNat - 999)), .float 0, true))))))
  | _ => false
def xo_all : Option (List (xy_Q × xy_O)) → Bool
  | some l => l.all (fun q => xo_one q || xo_bad q.1)
  | none => false
def xo_N (B : List (Value × Nat × Nat)) (scr : Nat → Value) (L : Nat) : xy_N := (xo_K, B, 0, scr, L)
def xo_run (B : List (Value × Nat × Nat)) (scr : Nat → Value) (L : Nat) (C : xy_Q) : Option (List (xy_Q × xy_O)) := xy_run (xo_N B scr L) xq_P 20000 (fun _ _ => false) 50 349 (8, ret, [], 0) xo_s0 C
def xo_B : List (Value × Nat × Nat) := [(.float 100, 8704, 261632)]
def xo_Cm : xy_Q := [(0, .float 0, .int 16, false), (0, .int 16, .float 0, true), (0, .float 0, .int 512, true), (0, .int 512, .float 0, false), (0, .int 0, .float 0, true), (0, .int 1, .float 0, true), (0, .int 2, .float 0, true), (0, .int 3, .float 0, true), (0, .int 4, .float 0, true), (0, .int 5, .float 0, true), (0, .int 6, .float 0, true), (0, .int 7, .float 0, true), (0, .int 8, .float 0, true), (0, .int 9, .float 0, true), (0, .int 10, .float 0, true), (0, .int 11, .float 0, true), (0, .int 12, .float 0, true), (0, .int 13, .float 0, true), (0, .int 14, .float 0, true), (0, .int 15, .float 0, true)]
def xo_Ca : xy_Q := [(0, .float 0, .int 16, true), (0, .int 16, .float 0, false), (0, .float 0, .int 512, true), (0, .int 512, .float 0, false)]
def xo_Cd : xy_Q := [(0, .float 0, .int 16, false), (0, .int 16, .float 0, true), (0, .float 0, .int 512, false), (0, .int 512, .float 0, true)]
def xo_Cb : xy_Q := []
def xo_Cc : xy_Q := []
def xo_Cl : xy_Q := [(0, .int 16, .float 0, false), (0, .float 0, .int 512, true)]
def xo_Cg : xy_Q := [(0, .int 16, .float 0, true), (0, .float 0, .int 512, false)]
theorem xo_T {a b : Int32} (h : a.toInt < b.toInt) : decide (a < b) = true := decide_eq_true (Int32.lt_iff_toInt_lt.mpr h)
theorem xo_F {a b : Int32} (h : b.toInt ≤ a.toInt) : decide (a < b) = false := decide_eq_false (fun hh => by
  have := Int32.lt_iff_toInt_lt.mp hh
  omega)
theorem xo_okm (xs : Nat → Int32) (h : 16 < (xs 0).toInt ∧ (xs 0).toInt < 512) : xy_ok (xo_u xs) xo_Cm := List.forall_mem_cons.mpr ⟨xo_F (show (16 : Int32).toInt ≤ (xs 0).toInt from by rw [show (16 : Int32).toInt = 16 from rfl]; omega), List.forall_mem_cons.mpr ⟨xo_T (show (16 : Int32).toInt < (xs 0).toInt from by rw [show (16 : Int32).toInt = 16 from rfl]; omega), List.forall_mem_cons.mpr ⟨xo_T (show (xs 0).toInt < (512 : Int32).toInt from by rw [show (512 : Int32).toInt = 512 from rfl]; omega), List.forall_mem_cons.mpr ⟨xo_F (show (xs 0).toInt ≤ (512 : Int32).toInt from by rw [show (512 : Int32).toInt = 512 from rfl]; omega), List.forall_mem_cons.mpr ⟨xo_T (show (0 : Int32).toInt < (xs 0).toInt from by rw [show (0 : Int32).toInt = 0 from rfl]; omega), List.forall_mem_cons.mpr ⟨xo_T (show (1 : Int32).toInt < (xs 0).toInt from by rw [show (1 : Int32).toInt = 1 from rfl]; omega), List.forall_mem_cons.mpr ⟨xo_T (show (2 : Int32).toInt < (xs 0).toInt from by rw [show (2 : Int32).toInt = 2 from rfl]; omega), List.forall_mem_cons.mpr ⟨xo_T (show (3 : Int32).toInt < (xs 0).toInt from by rw [show (3 : Int32).toInt = 3 from rfl]; omega), List.forall_mem_cons.mpr ⟨xo_T (show (4 : Int32).toInt < (xs 0).toInt from by rw [show (4 : Int32).toInt = 4 from rfl]; omega), List.forall_mem_cons.mpr ⟨xo_T (show (5 : Int32).toInt < (xs 0).toInt from by rw [show (5 : Int32).toInt = 5 from rfl]; omega), List.forall_mem_cons.mpr ⟨xo_T (show (6 : Int32).toInt < (xs 0).toInt from by rw [show (6 : Int32).toInt = 6 from rfl]; omega), List.forall_mem_cons.mpr ⟨xo_T (show (7 : Int32).toInt < (xs 0).toInt from by rw [show (7 : Int32).toInt = 7 from rfl]; omega), List.forall_mem_cons.mpr ⟨xo_T (show (8 : Int32).toInt < (xs 0).toInt from by rw [show (8 : Int32).toInt = 8 from rfl]; omega), List.forall_mem_cons.mpr ⟨xo_T (show (9 : Int32).toInt < (xs 0).toInt from by rw [show (9 : Int32).toInt = 9 from rfl]; omega), List.forall_mem_cons.mpr ⟨xo_T (show (10 : Int32).toInt < (xs 0).toInt from by rw [show (10 : Int32).toInt = 10 from rfl]; omega), List.forall_mem_cons.mpr ⟨xo_T (show (11 : Int32).toInt < (xs 0).toInt from by rw [show (11 : Int32).toInt = 11 from rfl]; omega), List.forall_mem_cons.mpr ⟨xo_T (show (12 : Int32).toInt < (xs 0).toInt from by rw [show (12 : Int32).toInt = 12 from rfl]; omega), List.forall_mem_cons.mpr ⟨xo_T (show (13 : Int32).toInt < (xs 0).toInt from by rw [show (13 : Int32).toInt = 13 from rfl]; omega), List.forall_mem_cons.mpr ⟨xo_T (show (14 : Int32).toInt < (xs 0).toInt from by rw [show (14 : Int32).toInt = 14 from rfl]; omega), List.forall_mem_cons.mpr ⟨xo_T (show (15 : Int32).toInt < (xs 0).toInt from by rw [show (15 : Int32).toInt = 15 from rfl]; omega), (fun _ h => absurd h List.not_mem_nil)⟩⟩⟩⟩⟩⟩⟩⟩⟩⟩⟩⟩⟩⟩⟩⟩⟩⟩⟩⟩
theorem xo_oka (xs : Nat → Int32) (h : (xs 0).toInt < 16) : xy_ok (xo_u xs) xo_Ca := List.forall_mem_cons.mpr ⟨xo_T (show (xs 0).toInt < (16 : Int32).toInt from by rw [show (16 : Int32).toInt = 16 from rfl]; omega), List.forall_mem_cons.mpr ⟨xo_F (show (xs 0).toInt ≤ (16 : Int32).toInt from by rw [show (16 : Int32).toInt = 16 from rfl]; omega), List.forall_mem_cons.mpr ⟨xo_T (show (xs 0).toInt < (512 : Int32).toInt from by rw [show (512 : Int32).toInt = 512 from rfl]; omega), List.forall_mem_cons.mpr ⟨xo_F (show (xs 0).toInt ≤ (512 : Int32).toInt from by rw [show (512 : Int32).toInt = 512 from rfl]; omega), (fun _ h => absurd h List.not_mem_nil)⟩⟩⟩⟩
theorem xo_okd (xs : Nat → Int32) (h : 512 < (xs 0).toInt) : xy_ok (xo_u xs) xo_Cd := List.forall_mem_cons.mpr ⟨xo_F (show (16 : Int32).toInt ≤ (xs 0).toInt from by rw [show (16 : Int32).toInt = 16 from rfl]; omega), List.forall_mem_cons.mpr ⟨xo_T (show (16 : Int32).toInt < (xs 0).toInt from by rw [show (16 : Int32).toInt = 16 from rfl]; omega), List.forall_mem_cons.mpr ⟨xo_F (show (512 : Int32).toInt ≤ (xs 0).toInt from by rw [show (512 : Int32).toInt = 512 from rfl]; omega), List.forall_mem_cons.mpr ⟨xo_T (show (512 : Int32).toInt < (xs 0).toInt from by rw [show (512 : Int32).toInt = 512 from rfl]; omega), (fun _ h => absurd h List.not_mem_nil)⟩⟩⟩⟩
theorem xo_okl (xs : Nat → Int32) (h : (xs 0).toInt ≤ 16) : xy_ok (xo_u xs) xo_Cl := List.forall_mem_cons.mpr ⟨xo_F (show (xs 0).toInt ≤ (16 : Int32).toInt from by rw [show (16 : Int32).toInt = 16 from rfl]; omega), List.forall_mem_cons.mpr ⟨xo_T (show (xs 0).toInt < (512 : Int32).toInt from by rw [show (512 : Int32).toInt = 512 from rfl]; omega), (fun _ h => absurd h List.not_mem_nil)⟩⟩
theorem xo_okg (xs : Nat → Int32) (h : 512 ≤ (xs 0).toInt) : xy_ok (xo_u xs) xo_Cg := List.forall_mem_cons.mpr ⟨xo_T (show (16 : Int32).toInt < (xs 0).toInt from by rw [show (16 : Int32).toInt = 16 from rfl]; omega), List.forall_mem_cons.mpr ⟨xo_F (show (512 : Int32).toInt ≤ (xs 0).toInt from by rw [show (512 : Int32).toInt = 512 from rfl]; omega), (fun _ h => absurd h List.not_mem_nil)⟩⟩
theorem xo_dec : (List.range 496).all (fun c => decide (lg_cmp ((Int32.ofNat (c + 17) - 2).toInt64) (Int64.ofNat (c + 15)) = 0)) = true := by decide +kernel
theorem xo_mul : (List.range 495).all (fun c => decide (¬ Int32.ofNat (c + 17) * 512 < 0 ∧ 8704 ≤ (Int32.ofNat (c + 17) * 512).toNatClampNeg ∧ (Int32.ofNat (c + 17) * 512).toNatClampNeg ≤ 261632)) = true := by decide +kernel
theorem xo_nat {x : Int32} {n : Nat} (h : x.toInt = n) (hn : n < 2147483648) : x = Int32.ofNat n := by
  apply Int32.toInt_inj.mp
  rw [Int32.toInt_ofNat_of_lt (by omega), h]
theorem xo_Bok (xs : Nat → Int32) (h : 16 < (xs 0).toInt ∧ (xs 0).toInt < 512) : ∀ q ∈ xo_B, xy_isI q.1 = true ∧ ¬ xy_I (xo_u xs) q.1 < 0 ∧ q.2.1 ≤ (xy_I (xo_u xs) q.1).toNatClampNeg ∧ (xy_I (xo_u xs) q.1).toNatClampNeg ≤ q.2.2 := by
  refine List.forall_mem_cons.mpr ⟨⟨rfl, ?_⟩, fun _ h => absurd h List.not_mem_nil⟩
  have hx : xs 0 = Int32.ofNat (((xs 0).toInt - 17).toNat + 17) := xo_nat (by omega) (by omega)
  have h1 := of_decide_eq_true (List.all_eq_true.mp xo_mul ((xs 0).toInt - 17).toNat (List.mem_range.mpr (by omega)))
  rw [← hx] at h1
  exact h1
theorem xo_badok {xs : Nat → Int32} {C : xy_Q} (hC : xy_ok (xo_u xs) C) : ¬ xo_bad C = true := by
  intro hb
  unfold xo_bad at hb
  split at hb
  · next z w C' =>
    simp only [Bool.and_eq_true] at hb
    obtain ⟨b0, b1, b2, b3, b4⟩ := hb
    have h0 := of_decide_eq_true b0
    have h1 := Nat.le_of_ble_eq_true b1
    have h2 := Nat.le_of_ble_eq_true b2
    obtain ⟨e3, m3, d3⟩ := List.any_eq_true.mp b3
    obtain ⟨e4, m4, d4⟩ := List.any_eq_true.mp b4
    have q3 := hC e3 (List.mem_cons_of_mem _ m3)
    have q4 := hC e4 (List.mem_cons_of_mem _ m4)
    rw [of_decide_eq_true d3] at q3
    rw [of_decide_eq_true d4] at q4
    have t3 : ¬ Int32.ofNat (z.toNat - 998) < xs 0 := of_decide_eq_false q3
    have t4 : Int32.ofNat (z.toNat - 999) < xs 0 := of_decide_eq_true q4
    rw [Int32.lt_iff_toInt_lt, Int32.toInt_ofNat_of_lt (by omega)] at t3
    rw [Int32.lt_iff_toInt_lt, Int32.toInt_ofNat_of_lt (by omega)] at t4
    have hx : xs 0 = Int32.ofNat (z.toNat - 1015 + 17) := xo_nat (by omega) (by omega)
    have q1 := hC _ List.mem_cons_self
    have t1 : ¬ (xo_u xs).1 z.toNat = w := of_decide_eq_false q1
    have hu : (xo_u xs).1 z.toNat = lg_cmp ((xs 0 - 2).toInt64) (Int64.ofNat (z.toNat - 1000)) := by
      show (bif Nat.blt z.toNat 100 then _ else bif Nat.blt z.toNat 1000 then _ else _) = _
      rw [xy_bf (by omega), xy_bf (by omega)]
      rfl
    refine t1 ?_
    rw [h0, hu, hx, show z.toNat - 1000 = z.toNat - 1015 + 15 by omega]
    exact of_decide_eq_true (List.all_eq_true.mp xo_dec (z.toNat - 1015) (List.mem_range.mpr (by omega)))
  · cases hb
theorem xo_fin {L : Nat} {xs : Nat → Int32} {B : List (Value × Nat × Nat)} {scr : Nat → Value} {C : xy_Q} (hl : xo_all (xo_run B scr L C) = true) (hC : xy_ok (xo_u xs) C) (hB : ∀ q ∈ B, xy_isI q.1 = true ∧ ¬ xy_I (xo_u xs) q.1 < 0 ∧ q.2.1 ≤ (xy_I (xo_u xs) q.1).toNatClampNeg ∧ (xy_I (xo_u xs) q.1).toNatClampNeg ≤ q.2.2) (hS : ∀ j, j < L → xy_v (xo_u xs) (scr j) = .int (xs j)) : ∃ (n d : Nat) (h' : xm_H) (ns' : Nat), d ≤ 1000 ∧ xm_run (xm_gg xs L) xt_P n d 349 (8, ret, [], 0) (0, [(0, .retAddr 9)], [], [], 0) = some (.inl (some (.int 1)), h', ns') := by
  unfold xo_all at hl
  split at hl
  · next l he =>
    have hN : xy_Nok (xo_u xs) (xo_N B scr L) xs L [] := ⟨xo_Kok xs, hB, Nat.le_refl _, hS, rfl⟩
    have hA : xy_A (xo_u xs) 0 [] := ⟨fun a b hab => hab, fun k _ => by show k = 0 + (k - 0); omega⟩
    have hH : xy_H (xo_u xs) 0 [] xo_s0.2.2.2.1 [] := ⟨fun k c hk => absurd (xy_hlt hk) (Nat.not_lt_zero k), rfl, Nat.le_refl _, Nat.zero_le _, fun a ha => absurd ha (Nat.not_lt_zero a)⟩
    obtain ⟨q, hq, hq1, hout⟩ := xy_sound (P := xq_P) rfl hN hA _ _ _ _ _ _ _ _ he hC [] 0 hH (Nat.le_refl _)
    have h1 := List.all_eq_true.mp hl q hq
    rw [Bool.or_eq_true] at h1
    rcases h1 with h1 | h1
    · obtain ⟨C', o⟩ := q
      unfold xo_one at h1
      split at h1
      · next x sh n heq =>
        have hx := of_decide_eq_true h1
        rw [heq] at hout
        obtain ⟨h', n', -, -, m, hm⟩ := hout
        rw [xq_Pe, hx] at hm
        exact ⟨m, 50, h', n', by omega, hm⟩
      · cases h1
    · exact absurd h1 (xo_badok hq1)
  · cases hl
theorem xo_sf (xs : Nat → Int32) {L : Nat} (hL : L ≤ 7) : ∀ j, j < L → xy_v (xo_u xs) (xo_f j) = .int (xs j) := by
  intro j hj
  rcases (by omega : j = 0 ∨ j = 1 ∨ j = 2 ∨ j = 3 ∨ j = 4 ∨ j = 5 ∨ j = 6) with rfl | rfl | rfl | rfl | rfl | rfl | rfl <;> rfl
theorem xo_sg (xs : Nat → Int32) {L : Nat} {v : Int32} (hv : xs 0 = v) (hL : L ≤ 7) : ∀ j, j < L → xy_v (xo_u xs) (xo_g v j) = .int (xs j) := by
  intro j hj
  rcases (by omega : j = 0 ∨ j = 1 ∨ j = 2 ∨ j = 3 ∨ j = 4 ∨ j = 5 ∨ j = 6) with rfl | rfl | rfl | rfl | rfl | rfl | rfl
  · rw [hv]
    rfl
  all_goals rfl
def xo_Cr (lo hi : Nat) : xy_Q := [(0, .float 0, .int 16, false), (0, .float 0, .int 512, true), (2, .int (Int32.ofNat (lo - 1)), .float 0, true), (3, .int (Int32.ofNat hi), .float 0, false)]
theorem xo_okr (xs : Nat → Int32) {lo hi : Nat} (h1 : 17 ≤ lo) (h2 : hi ≤ 511) (h : (lo : Int) ≤ (xs 0).toInt ∧ (xs 0).toInt ≤ hi) : xy_ok (xo_u xs) (xo_Cr lo hi) := List.forall_mem_cons.mpr ⟨xo_F (show (16 : Int32).toInt ≤ (xs 0).toInt from by rw [show (16 : Int32).toInt = 16 from rfl]; omega), List.forall_mem_cons.mpr ⟨xo_T (show (xs 0).toInt < (512 : Int32).toInt from by rw [show (512 : Int32).toInt = 512 from rfl]; omega), List.forall_mem_cons.mpr ⟨xo_T (show (Int32.ofNat (lo - 1)).toInt < (xs 0).toInt from by rw [Int32.toInt_ofNat_of_lt (by omega)]; omega), List.forall_mem_cons.mpr ⟨xo_F (show (xs 0).toInt ≤ (Int32.ofNat hi).toInt from by rw [Int32.toInt_ofNat_of_lt (by omega)]; omega), fun _ h => absurd h List.not_mem_nil⟩⟩⟩⟩
def xo_Cn : xy_Q := [(1, .float 102, .int 17, false)]
def xo_Cy : xy_Q := (1, .float 102, .int 17, true) :: (List.range 17).map (fun k => (1, .float 102, .int (Int32.ofNat k), false))
theorem xo_okn (xs : Nat → Int32) (h : ¬ xs 1 &&& 31 = 17) : xy_ok (xo_u xs) xo_Cn := List.forall_mem_cons.mpr ⟨decide_eq_false (show ¬ xs 1 &&& 31 = 17 from h), fun _ h => absurd h List.not_mem_nil⟩
theorem xo_dk : (List.range 17).all (fun k => decide (¬ (17 : Int32) = Int32.ofNat k)) = true := by decide +kernel
theorem xo_oky (xs : Nat → Int32) (h : xs 1 &&& 31 = 17) : xy_ok (xo_u xs) xo_Cy := by
  refine List.forall_mem_cons.mpr ⟨decide_eq_true (show xs 1 &&& 31 = 17 from h), fun q hq => ?_⟩
  obtain ⟨k, hk, rfl⟩ := List.mem_map.mp hq
  refine decide_eq_false (show ¬ xs 1 &&& 31 = Int32.ofNat k from ?_)
  rw [h]
  exact of_decide_eq_true (List.all_eq_true.mp xo_dk k hk)
theorem xo_app {u : xy_U} {C D : xy_Q} (hC : xy_ok u C) (hD : xy_ok u D) : xy_ok u (C ++ D) := fun q hq => (List.mem_append.mp hq).elim (hC q) (hD q)
