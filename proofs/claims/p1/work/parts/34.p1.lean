/-! one call on a fresh object -/
theorem xo_p1 : ∀ (L : Nat) (xs : Nat → Int32), L ≤ 7 → ∃ (n d : Nat) (h' : xm_H) (ns' : Nat), d ≤ 1000 ∧ xm_run (xm_gg xs L) xt_P n d 349 (8, ret, [], 0) (0, [(0, .retAddr 9)], [], [], 0) = some (.inl (some (.int 1)), h', ns') := by
  intro L xs hL
  rcases (by omega : L = 0 ∨ L = 1 ∨ L = 2 ∨ L = 3 ∨ L = 4 ∨ L = 5 ∨ L = 6 ∨ L = 7) with rfl | rfl | rfl | rfl | rfl | rfl | rfl | rfl
  · exact xo_fin (C := []) (B := []) (scr := xo_f) xo_en0 (fun _ h => absurd h List.not_mem_nil) (fun _ h => absurd h List.not_mem_nil) (xo_sf xs hL)
  · by_cases h : (xs 0).toInt ≤ 16
    · exact xo_fin xo_el1 (xo_okl xs h) (fun _ h => absurd h List.not_mem_nil) (xo_sf xs hL)
    · by_cases h2 : 512 ≤ (xs 0).toInt
      · exact xo_fin xo_eg1 (xo_okg xs h2) (fun _ h => absurd h List.not_mem_nil) (xo_sf xs hL)
      · exact xo_fin xo_em1 (xo_okm xs (by omega)) (xo_Bok xs (by omega)) (xo_sf xs hL)
  · by_cases h : (xs 0).toInt ≤ 16
    · exact xo_fin xo_el2 (xo_okl xs h) (fun _ h => absurd h List.not_mem_nil) (xo_sf xs hL)
    · by_cases h2 : 512 ≤ (xs 0).toInt
      · exact xo_fin xo_eg2 (xo_okg xs h2) (fun _ h => absurd h List.not_mem_nil) (xo_sf xs hL)
      · exact xo_fin xo_em2 (xo_okm xs (by omega)) (xo_Bok xs (by omega)) (xo_sf xs hL)
  · by_cases h : (xs 0).toInt ≤ 16
    · exact xo_fin xo_el3 (xo_okl xs h) (fun _ h => absurd h List.not_mem_nil) (xo_sf xs hL)
    · by_cases h2 : 512 ≤ (xs 0).toInt
      · exact xo_fin xo_eg3 (xo_okg xs h2) (fun _ h => absurd h List.not_mem_nil) (xo_sf xs hL)
      · exact xo_fin xo_em3 (xo_okm xs (by omega)) (xo_Bok xs (by omega)) (xo_sf xs hL)
  · by_cases h : (xs 0).toInt ≤ 16
    · exact xo_fin xo_el4 (xo_okl xs h) (fun _ h => absurd h List.not_mem_nil) (xo_sf xs hL)
    · by_cases h2 : 512 ≤ (xs 0).toInt
      · exact xo_fin xo_eg4 (xo_okg xs h2) (fun _ h => absurd h List.not_mem_nil) (xo_sf xs hL)
      · exact xo_fin xo_em4 (xo_okm xs (by omega)) (xo_Bok xs (by omega)) (xo_sf xs hL)
  · by_cases h : (xs 0).toInt ≤ 16
    · exact xo_fin xo_el5 (xo_okl xs h) (fun _ h => absurd h List.not_mem_nil) (xo_sf xs hL)
    · by_cases h2 : 512 ≤ (xs 0).toInt
      · exact xo_fin xo_eg5 (xo_okg xs h2) (fun _ h => absurd h List.not_mem_nil) (xo_sf xs hL)
      · exact xo_fin xo_em5 (xo_okm xs (by omega)) (xo_Bok xs (by omega)) (xo_sf xs hL)
  · by_cases h : (xs 0).toInt ≤ 16
    · exact xo_fin xo_el6 (xo_okl xs h) (fun _ h => absurd h List.not_mem_nil) (xo_sf xs hL)
    · by_cases h2 : 512 ≤ (xs 0).toInt
      · exact xo_fin xo_eg6 (xo_okg xs h2) (fun _ h => absurd h List.not_mem_nil) (xo_sf xs hL)
      · exact xo_fin xo_em6 (xo_okm xs (by omega)) (xo_Bok xs (by omega)) (xo_sf xs hL)
  · by_cases h : (xs 0).toInt < 16
    · exact xo_fin xo_ea7 (xo_oka xs h) (fun _ h => absurd h List.not_mem_nil) (xo_sf xs hL)
    · by_cases h2 : (xs 0).toInt = 16
      · exact xo_fin xo_eb7 (fun _ h => absurd h List.not_mem_nil) (fun _ h => absurd h List.not_mem_nil) (xo_sg xs (xo_nat (n := 16) h2 (by omega)) hL)
      · by_cases h3 : (xs 0).toInt = 512
        · exact xo_fin xo_ec7 (fun _ h => absurd h List.not_mem_nil) (fun _ h => absurd h List.not_mem_nil) (xo_sg xs (xo_nat (n := 512) h3 (by omega)) hL)
        · by_cases h4 : 512 < (xs 0).toInt
          · exact xo_fin xo_ed7 (xo_okd xs h4) (fun _ h => absurd h List.not_mem_nil) (xo_sf xs hL)
          · exact xo_fin xo_em7 (xo_okm xs (by omega)) (xo_Bok xs (by omega)) (xo_sf xs hL)
