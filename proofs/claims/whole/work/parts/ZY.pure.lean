/-! THE CLAIM OF THE PURE MACHINE -/
theorem xz_ax (x : Int32) (h1 : 16 ≤ x.toInt) (h2 : x.toInt ≤ 512) : x = Int32.ofInt (x.toInt.toNat : Int) ∧ ¬ x * 512 < 0 ∧ (x * 512).toNatClampNeg = x.toInt.toNat * 512 ∧ x * 512 * 64 = Int32.ofInt (64 * (x.toInt.toNat * 512 : Nat)) := by
  have hd : (List.range 497).all (fun c => decide (¬ Int32.ofInt ((c + 16 : Nat) : Int) * 512 < 0 ∧ (Int32.ofInt ((c + 16 : Nat) : Int) * 512).toNatClampNeg = (c + 16) * 512 ∧ Int32.ofInt ((c + 16 : Nat) : Int) * 512 * 64 = Int32.ofInt (64 * ((c + 16) * 512 : Nat)))) = true := by decide +kernel
  have e1 : x = Int32.ofInt (x.toInt.toNat : Int) := by
    rw [Int.toNat_of_nonneg (by omega), Int32.ofInt_toInt]
  have e2 : x.toInt.toNat - 16 + 16 = x.toInt.toNat := by omega
  have h3 := of_decide_eq_true (List.all_eq_true.mp hd (x.toInt.toNat - 16) (List.mem_range.mpr (by omega)))
  rw [e2, ← e1] at h3
  exact ⟨e1, h3⟩
theorem xz_T {a b : Int32} (h : a.toInt < b.toInt) : decide (a < b) = true := decide_eq_true (Int32.lt_iff_toInt_lt.mpr h)
theorem xz_F {a b : Int32} (h : b.toInt ≤ a.toInt) : decide (a < b) = false := decide_eq_false (fun hh => by
  have := Int32.lt_iff_toInt_lt.mp hh
  omega)
theorem xz_L {L : Nat} (h1 : 1 ≤ L) (h2 : L ≤ 3073) : decide ((0 : Int32) < L.toInt32) = true := by
  refine xz_T ?_
  rw [xw_ofn, w32_t, w32_id (by omega) (by omega), show (0 : Int32).toInt = 0 from rfl]
  omega
theorem xz_start {L : Nat} (xs : Nat → Int32) (hL : L ≤ 3073) : ∃ B n', 16 ≤ B ∧ B ≤ 512 ∧ n' ≤ 2400000 ∧ ∀ r, xr (xm_gg xs L) xq_P 201 349 (8, ret, [], 0) (33, [(4, .int 1), (3, .ref 604), (2, .ref 536), (1, .ref 0), (0, .retAddr 9)], [], xw_h B (m0 B) [], n') r → xr (xm_gg xs L) xq_P 201 349 (8, ret, [], 0) (0, [(0, .retAddr 9)], [], [], 0) r := by
  have k16 : (16 : Int32).toInt = 16 := rfl
  have k512 : (512 : Int32).toInt = 512 := rfl
  by_cases h0 : L = 0
  · obtain ⟨n', h1, h2⟩ := xz_fin (B := 16) (xs := xs) (L := L) (by decide) hL xz_e0 (fun _ h => absurd h List.not_mem_nil) (fun _ h => absurd h List.not_mem_nil) (fun h => by omega) (Or.inl ⟨rfl, h0.symm⟩) rfl rfl rfl
    exact ⟨16, n', by decide, by decide, h1, h2⟩
  have hn : xy_Nl (xz_u xs L) 4000 L := Or.inr ⟨rfl, by omega, rfl⟩
  have hC0 : xy_t (xz_u xs L) 2 (.int 0) (.float 99) = true := xz_L (by omega) hL
  rcases (by omega : (xs 0).toInt < 16 ∨ (xs 0).toInt = 16 ∨ (16 < (xs 0).toInt ∧ (xs 0).toInt < 512) ∨ (xs 0).toInt = 512 ∨ 512 < (xs 0).toInt) with g | g | g | g | g
  · obtain ⟨n', h1, h2⟩ := xz_fin (B := 16) (xs := xs) (L := L) (by decide) hL xz_ea (List.forall_mem_cons.mpr ⟨xz_T (show (xs 0).toInt < (16 : Int32).toInt by omega), List.forall_mem_cons.mpr ⟨xz_F (show (xs 0).toInt ≤ (16 : Int32).toInt by omega), List.forall_mem_cons.mpr ⟨xz_T (show (xs 0).toInt < (512 : Int32).toInt by omega), List.forall_mem_cons.mpr ⟨xz_F (show (xs 0).toInt ≤ (512 : Int32).toInt by omega), List.forall_mem_cons.mpr ⟨hC0, fun _ h => absurd h List.not_mem_nil⟩⟩⟩⟩⟩) (fun _ h => absurd h List.not_mem_nil) (fun _ => rfl) hn rfl rfl rfl
    exact ⟨16, n', by decide, by decide, h1, h2⟩
  · have e : xs 0 = 16 := Int32.toInt_inj.mp (by rw [g, k16])
    obtain ⟨n', h1, h2⟩ := xz_fin (B := 16) (xs := xs) (L := L) (by decide) hL xz_eb (List.forall_mem_cons.mpr ⟨hC0, fun _ h => absurd h List.not_mem_nil⟩) (fun _ h => absurd h List.not_mem_nil) (fun _ => by rw [e]; rfl) hn rfl rfl rfl
    exact ⟨16, n', by decide, by decide, h1, h2⟩
  · obtain ⟨a1, a2, a3, a4⟩ := xz_ax (xs 0) (by omega) (by omega)
    obtain ⟨n', h1, h2⟩ := xz_fin (B := (xs 0).toInt.toNat) (xs := xs) (L := L) (by omega) hL xz_em (List.forall_mem_cons.mpr ⟨xz_F (show (16 : Int32).toInt ≤ (xs 0).toInt by omega), List.forall_mem_cons.mpr ⟨xz_T (show (16 : Int32).toInt < (xs 0).toInt by omega), List.forall_mem_cons.mpr ⟨xz_T (show (xs 0).toInt < (512 : Int32).toInt by omega), List.forall_mem_cons.mpr ⟨xz_F (show (xs 0).toInt ≤ (512 : Int32).toInt by omega), List.forall_mem_cons.mpr ⟨hC0, fun _ h => absurd h List.not_mem_nil⟩⟩⟩⟩⟩) (List.forall_mem_cons.mpr ⟨⟨rfl, a2, show 8192 ≤ (xs 0 * 512).toNatClampNeg by omega, show (xs 0 * 512).toNatClampNeg ≤ 262144 by omega⟩, fun _ h => absurd h List.not_mem_nil⟩) (fun _ => rfl) hn (congrArg Value.int a1) a3 (congrArg Value.int a4)
    exact ⟨(xs 0).toInt.toNat, n', by omega, by omega, h1, h2⟩
  · have e : xs 0 = 512 := Int32.toInt_inj.mp (by rw [g, k512])
    obtain ⟨n', h1, h2⟩ := xz_fin (B := 512) (xs := xs) (L := L) (by decide) hL xz_ec (List.forall_mem_cons.mpr ⟨hC0, fun _ h => absurd h List.not_mem_nil⟩) (fun _ h => absurd h List.not_mem_nil) (fun _ => by rw [e]; rfl) hn rfl rfl rfl
    exact ⟨512, n', by decide, by decide, h1, h2⟩
  · obtain ⟨n', h1, h2⟩ := xz_fin (B := 512) (xs := xs) (L := L) (by decide) hL xz_ed (List.forall_mem_cons.mpr ⟨xz_F (show (16 : Int32).toInt ≤ (xs 0).toInt by omega), List.forall_mem_cons.mpr ⟨xz_T (show (16 : Int32).toInt < (xs 0).toInt by omega), List.forall_mem_cons.mpr ⟨xz_F (show (512 : Int32).toInt ≤ (xs 0).toInt by omega), List.forall_mem_cons.mpr ⟨xz_T (show (512 : Int32).toInt < (xs 0).toInt by omega), List.forall_mem_cons.mpr ⟨hC0, fun _ h => absurd h List.not_mem_nil⟩⟩⟩⟩⟩) (fun _ h => absurd h List.not_mem_nil) (fun _ => rfl) hn rfl rfl rfl
    exact ⟨512, n', by decide, by decide, h1, h2⟩
theorem xg_ok : xg_pure := by
  intro L xs hL
  obtain ⟨B, n', b0, b1, hn', hstart⟩ := xz_start xs hL
  obtain ⟨i, a⟩ := start_Inw b0 b1
  obtain ⟨m2, hlaw⟩ := law_l (B := B) (xs := xs) (SL := L) (by omega) (by omega) 3100 0 1 (m0 B) (by decide) (by decide) (by omega) (by omega) i a
  have hS := ygl349_33 (xs := xs) (SL := L) (d := 0) b1 hL (w32_id (by omega) (by omega)) 3100 1 (m0 B) rfl
  obtain ⟨-, hrun⟩ := hS _ hlaw
  obtain ⟨e, -, hw⟩ := hrun [] n' (by show 605 + 0 + 2 * 3100 ≤ 601024; omega) (by show n' + 6 * (2 * 3100) ≤ 7293000; omega)
  have hx := hstart _ (hw [(4, .int 1), (3, .ref 604), (2, .ref 536), (1, .ref 0), (0, .retAddr 9)] (List.forall_mem_cons.mpr ⟨rfl, List.forall_mem_cons.mpr ⟨rfl, List.forall_mem_cons.mpr ⟨rfl, List.forall_mem_cons.mpr ⟨rfl, List.forall_mem_cons.mpr ⟨rfl, fun _ h => absurd h List.not_mem_nil⟩⟩⟩⟩⟩))
  obtain ⟨n, hm⟩ := hx
  rw [xq_Pe] at hm
  exact ⟨n, 201, _, _, by omega, hm⟩
