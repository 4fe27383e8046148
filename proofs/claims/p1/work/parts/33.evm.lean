/-! the runs: one call -/
theorem xo_emn : xo_all (xo_runo 15 0 xo_B xo_f 7 (xo_Cn ++ xo_Cr 17 511)) = true := by decide +kernel
theorem xo_em0_y : xo_all (xo_runo 15 42 xo_B xo_f 7 (xo_Cy ++ xo_Cr 17 58)) = true := by decide +kernel
theorem xo_em1_y : xo_all (xo_runo 57 42 xo_B xo_f 7 (xo_Cy ++ xo_Cr 59 100)) = true := by decide +kernel
theorem xo_em2_y : xo_all (xo_runo 99 42 xo_B xo_f 7 (xo_Cy ++ xo_Cr 101 142)) = true := by decide +kernel
theorem xo_em3_y : xo_all (xo_runo 141 42 xo_B xo_f 7 (xo_Cy ++ xo_Cr 143 184)) = true := by decide +kernel
theorem xo_em4_y : xo_all (xo_runo 183 42 xo_B xo_f 7 (xo_Cy ++ xo_Cr 185 226)) = true := by decide +kernel
theorem xo_em5_y : xo_all (xo_runo 225 42 xo_B xo_f 7 (xo_Cy ++ xo_Cr 227 268)) = true := by decide +kernel
