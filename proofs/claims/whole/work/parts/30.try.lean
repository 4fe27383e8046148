/-! a try -/
def xz_N (L : Nat) : xy_N := (fun _ => [], [], 0, fun j => .float (UInt32.ofNat j), L)
def xz_one (q : xy_Q × xy_O) : Bool := match q.2 with
  | .inl (.inl (some (.int x)), _, _) => x == 1
  | _ => false
def xz_all : Option (List (xy_Q × xy_O)) → Bool
  | some l => l.all xz_one
  | none => false
def xz_s0 : xy_S := (0, [(0, .retAddr 9)], [], (xy_e0 10, 0), 0)
theorem xz_a : (xy_run (xz_N 0) xq_P 3000 (fun _ pc => Nat.beq pc 9) 50 349 (8, ret, [], 0) xz_s0 []).isSome = true := by decide +kernel
theorem xz_b : (xy_run (xz_N 0) xq_P 3000 (fun _ pc => Nat.beq pc 12) 50 349 (8, ret, [], 0) xz_s0 []).isSome = true := by decide +kernel
