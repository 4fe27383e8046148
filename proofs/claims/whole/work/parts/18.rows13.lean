/-! the law, its end -/
theorem xt_c349_7 : xt_chr 1050 150 xt_p349 (xt_Y 349) (xt_B 349) = true := by decide +kernel
theorem xt_c349_8 : xt_chr 1200 150 xt_p349 (xt_Y 349) (xt_B 349) = true := by decide +kernel
theorem xt_c349_9 : xt_chr 1350 113 xt_p349 (xt_Y 349) (xt_B 349) = true := by decide +kernel
theorem xt_c349 : xt_chk 1463 xt_p349 (xt_Y 349) (xt_B 349) = true := by
  refine List.all_eq_true.mpr (fun pc hp => ?_)
  rw [List.mem_range] at hp
  by_cases h0 : pc < 150
  · exact xt_chr_ok xt_c349_0 pc (by omega) (by omega)
  by_cases h1 : pc < 300
  · exact xt_chr_ok xt_c349_1 pc (by omega) (by omega)
  by_cases h2 : pc < 450
  · exact xt_chr_ok xt_c349_2 pc (by omega) (by omega)
  by_cases h3 : pc < 600
  · exact xt_chr_ok xt_c349_3 pc (by omega) (by omega)
  by_cases h4 : pc < 750
  · exact xt_chr_ok xt_c349_4 pc (by omega) (by omega)
  by_cases h5 : pc < 900
  · exact xt_chr_ok xt_c349_5 pc (by omega) (by omega)
  by_cases h6 : pc < 1050
  · exact xt_chr_ok xt_c349_6 pc (by omega) (by omega)
  by_cases h7 : pc < 1200
  · exact xt_chr_ok xt_c349_7 pc (by omega) (by omega)
  by_cases h8 : pc < 1350
  · exact xt_chr_ok xt_c349_8 pc (by omega) (by omega)
  exact xt_chr_ok xt_c349_9 pc (by omega) (by omega)
