/-! the law, on -/
theorem xt_c349_4 : xt_chr 600 150 xt_p349 (xt_Y 349) (xt_B 349) = true := by decide +kernel
theorem xt_c349_5 : xt_chr 750 150 xt_p349 (xt_Y 349) (xt_B 349) = true := by decide +kernel
theorem xt_c349_6 : xt_chr 900 150 xt_p349 (xt_Y 349) (xt_B 349) = true := by decide +kernel
