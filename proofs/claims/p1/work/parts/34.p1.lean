/-! one call on a fresh object -/
theorem xo_p1 : ∀ (L : Nat) (xs : Nat → Int32), L ≤ 7 → ∃ (n d : Nat) (h' : xm_H) (ns' : Nat), d ≤ 1000 ∧ xm_run (xm_gg xs L) xt_P n d 349 (8, ret, [], 0) (0, [(0, .retAddr 9)], [], [], 0) = some (.inl (some (.int 1)), h', ns') := by
  intro L xs hL
  rcases (by omega : L = 0 ∨ L = 1 ∨ L = 2 ∨ L = 3 ∨ L = 4 ∨ L = 5 ∨ L = 6 ∨ L = 7) with rfl | rfl | rfl | rfl | rfl | rfl | rfl | rfl
  · exact xo_fin (C := []) (B := []) (scr := xo_f) xo_en0 (fun _ h => absurd h List.not_mem_nil) (fun _ h => absurd h List.not_mem_nil) (xo_sf xs hL)
  · by_cases h : (xs 0).toInt ≤ 16
    · exact xo_fin xo_el1 (xo_okl xs h) (fun _ h => absurd h List.not_mem_nil) (xo_sf xs hL)
    · by_cases h2 : 512 ≤ (xs 0).toInt
      · exact xo_fin xo_eg1 (xo_okg xs h2) (fun _ h => absurd h List.not_mem_nil) (xo_sf xs hL)
      · exact xo_fin xo_em1 (xo_okm xs (by omega)) (xo_Bok xs (by omega)) (xo_sf xs hL)
  · by_cases h : (xs 0).toInt ≤ 16
    · exact xo_fin xo_el2 (xo_okl xs h) (fun _ h => absurd h List.not_mem_nil) (xo_sf xs hL)
    · by_cases h2 : 512 ≤ (xs 0).toInt
      · exact xo_fin xo_eg2 (xo_okg xs h2) (fun _ h => absurd h List.not_mem_nil) (xo_sf xs hL)
      · exact xo_fin xo_em2 (xo_okm xs (by omega)) (xo_Bok xs (by omega)) (xo_sf xs hL)
  · by_cases h : (xs 0).toInt ≤ 16
    · exact xo_fin xo_el3 (xo_okl xs h) (fun _ h => absurd h List.not_mem_nil) (xo_sf xs hL)
    · by_cases h2 : 512 ≤ (xs 0).toInt
      · exact xo_fin xo_eg3 (xo_okg xs h2) (fun _ h => absurd h List.not_mem_nil) (xo_sf xs hL)
      · exact xo_fin xo_em3 (xo_okm xs (by omega)) (xo_Bok xs (by omega)) (xo_sf xs hL)
  · by_cases h : (xs 0).toInt ≤ 16
    · exact xo_fin xo_el4 (xo_okl xs h) (fun _ h => absurd h List.not_mem_nil) (xo_sf xs hL)
    · by_cases h2 : 512 ≤ (xs 0).toInt
      · exact xo_fin xo_eg4 (xo_okg xs h2) (fun _ h => absurd h List.not_mem_nil) (xo_sf xs hL)
      · exact xo_fin xo_em4 (xo_okm xs (by omega)) (xo_Bok xs (by omega)) (xo_sf xs hL)
  · by_cases h : (xs 0).toInt ≤ 16
    · exact xo_fin xo_el5 (xo_okl xs h) (fun _ h => absurd h List.not_mem_nil) (xo_sf xs hL)
    · by_cases h2 : 512 ≤ (xs 0).toInt
      · exact xo_fin xo_eg5 (xo_okg xs h2) (fun _ h => absurd h List.not_mem_nil) (xo_sf xs hL)
      · exact xo_fin xo_em5 (xo_okm xs (by omega)) (xo_Bok xs (by omega)) (xo_sf xs hL)
  · by_cases h : (xs 0).toInt ≤ 16
    · exact xo_fin xo_el6 (xo_okl xs h) (fun _ h => absurd h List.not_mem_nil) (xo_sf xs hL)
    · by_cases h2 : 512 ≤ (xs 0).toInt
      · exact xo_fin xo_eg6 (xo_okg xs h2) (fun _ h => absurd h List.not_mem_nil) (xo_sf xs hL)
      · exact xo_fin xo_em6 (xo_okm xs (by omega)) (xo_Bok xs (by omega)) (xo_sf xs hL)
  · by_cases h : (xs 0).toInt < 16
    · exact xo_fin xo_ea7 (xo_oka xs h) (fun _ h => absurd h List.not_mem_nil) (xo_sf xs hL)
    · by_cases h2 : (xs 0).toInt = 16
      · exact xo_fin xo_eb7 (fun _ h => absurd h List.not_mem_nil) (fun _ h => absurd h List.not_mem_nil) (xo_sg xs (xo_nat (n := 16) h2 (by omega)) hL)
      · by_cases hy : xs 1 &&& 31 = 17
        · by_cases h3 : (xs 0).toInt = 512
          · exact xo_fin xo_ecy (xo_app (xo_oky xs hy) (fun _ h => absurd h List.not_mem_nil)) (fun _ h => absurd h List.not_mem_nil) (xo_sg xs (xo_nat (n := 512) h3 (by omega)) hL)
          · by_cases h4 : 512 < (xs 0).toInt
            · exact xo_fin xo_edy (xo_app (xo_oky xs hy) (xo_okd xs h4)) (fun _ h => absurd h List.not_mem_nil) (xo_sf xs hL)
            · have hB := xo_Bok xs (by omega)
              rcases (by omega : (17 ≤ (xs 0).toInt ∧ (xs 0).toInt ≤ 58) ∨ (59 ≤ (xs 0).toInt ∧ (xs 0).toInt ≤ 100) ∨ (101 ≤ (xs 0).toInt ∧ (xs 0).toInt ≤ 142) ∨ (143 ≤ (xs 0).toInt ∧ (xs 0).toInt ≤ 184) ∨ (185 ≤ (xs 0).toInt ∧ (xs 0).toInt ≤ 226) ∨ (227 ≤ (xs 0).toInt ∧ (xs 0).toInt ≤ 268) ∨ (269 ≤ (xs 0).toInt ∧ (xs 0).toInt ≤ 310) ∨ (311 ≤ (xs 0).toInt ∧ (xs 0).toInt ≤ 352) ∨ (353 ≤ (xs 0).toInt ∧ (xs 0).toInt ≤ 394) ∨ (395 ≤ (xs 0).toInt ∧ (xs 0).toInt ≤ 436) ∨ (437 ≤ (xs 0).toInt ∧ (xs 0).toInt ≤ 478) ∨ (479 ≤ (xs 0).toInt ∧ (xs 0).toInt ≤ 511)) with g | g | g | g | g | g | g | g | g | g | g | g
              · exact xo_fino (by decide) xo_em0_y (xo_app (xo_oky xs hy) (xo_okr xs (by decide) (by decide) g)) hB (xo_sf xs hL)
              · exact xo_fino (by decide) xo_em1_y (xo_app (xo_oky xs hy) (xo_okr xs (by decide) (by decide) g)) hB (xo_sf xs hL)
              · exact xo_fino (by decide) xo_em2_y (xo_app (xo_oky xs hy) (xo_okr xs (by decide) (by decide) g)) hB (xo_sf xs hL)
              · exact xo_fino (by decide) xo_em3_y (xo_app (xo_oky xs hy) (xo_okr xs (by decide) (by decide) g)) hB (xo_sf xs hL)
              · exact xo_fino (by decide) xo_em4_y (xo_app (xo_oky xs hy) (xo_okr xs (by decide) (by decide) g)) hB (xo_sf xs hL)
              · exact xo_fino (by decide) xo_em5_y (xo_app (xo_oky xs hy) (xo_okr xs (by decide) (by decide) g)) hB (xo_sf xs hL)
              · exact xo_fino (by decide) xo_em6_y (xo_app (xo_oky xs hy) (xo_okr xs (by decide) (by decide) g)) hB (xo_sf xs hL)
              · exact xo_fino (by decide) xo_em7_y (xo_app (xo_oky xs hy) (xo_okr xs (by decide) (by decide) g)) hB (xo_sf xs hL)
              · exact xo_fino (by decide) xo_em8_y (xo_app (xo_oky xs hy) (xo_okr xs (by decide) (by decide) g)) hB (xo_sf xs hL)
              · exact xo_fino (by decide) xo_em9_y (xo_app (xo_oky xs hy) (xo_okr xs (by decide) (by decide) g)) hB (xo_sf xs hL)
              · exact xo_fino (by decide) xo_em10_y (xo_app (xo_oky xs hy) (xo_okr xs (by decide) (by decide) g)) hB (xo_sf xs hL)
              · exact xo_fino (by decide) xo_em11_y (xo_app (xo_oky xs hy) (xo_okr xs (by decide) (by decide) g)) hB (xo_sf xs hL)
        · by_cases h3 : (xs 0).toInt = 512
          · exact xo_fin xo_ecn (xo_app (xo_okn xs hy) (fun _ h => absurd h List.not_mem_nil)) (fun _ h => absurd h List.not_mem_nil) (xo_sg xs (xo_nat (n := 512) h3 (by omega)) hL)
          · by_cases h4 : 512 < (xs 0).toInt
            · exact xo_fin xo_edn (xo_app (xo_okn xs hy) (xo_okd xs h4)) (fun _ h => absurd h List.not_mem_nil) (xo_sf xs hL)
            · exact xo_fino (by decide) xo_emn (xo_app (xo_okn xs hy) (xo_okr xs (lo := 17) (hi := 511) (by decide) (by decide) (by omega))) (xo_Bok xs (by omega)) (xo_sf xs hL)
