/-! a try -/
def xz_N (L : Nat) : xy_N := ([], [], 0, fun j => .float (UInt32.ofNat j), L)
def xz_one (q : xy_Q × xy_O) : Bool := match q.2 with
  | .inl (.inl (some (.int x)), _, _) => x == 1
  | _ => false
def xz_all : Option (List (xy_Q × xy_O)) → Bool
  | some l => l.all xz_one
  | none => false
theorem xz_a : (xy_run (xz_N 0) (xm_gg (fun _ => 0) 0) xt_P 3000 (fun _ pc => Nat.beq pc 12) 50 349 (8, ret, [], 0) (0, [(0, .retAddr 9)], [], [], 0) []).isSome = true := by decide +kernel
theorem xz_b : (xy_run (xz_N 0) (xm_gg (fun _ => 0) 0) xt_P 3000 (fun _ pc => Nat.beq pc 25) 50 349 (8, ret, [], 0) (0, [(0, .retAddr 9)], [], [], 0) []).isSome = true := by decide +kernel
theorem xz_0 : xz_all (xy_run (xz_N 0) (xm_gg (fun _ => 0) 0) xt_P 3000 (fun _ _ => false) 50 349 (8, ret, [], 0) (0, [(0, .retAddr 9)], [], [], 0) []) = true := by decide +kernel
