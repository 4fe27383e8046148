/-! the runs: one call -/
theorem xo_em6_y : xo_all (xo_runo 267 42 xo_B xo_f 7 (xo_Cy ++ xo_Cr 269 310)) = true := by decide +kernel
theorem xo_em7_y : xo_all (xo_runo 309 42 xo_B xo_f 7 (xo_Cy ++ xo_Cr 311 352)) = true := by decide +kernel
theorem xo_em8_y : xo_all (xo_runo 351 42 xo_B xo_f 7 (xo_Cy ++ xo_Cr 353 394)) = true := by decide +kernel
theorem xo_em9_y : xo_all (xo_runo 393 42 xo_B xo_f 7 (xo_Cy ++ xo_Cr 395 436)) = true := by decide +kernel
theorem xo_em10_y : xo_all (xo_runo 435 42 xo_B xo_f 7 (xo_Cy ++ xo_Cr 437 478)) = true := by decide +kernel
theorem xo_em11_y : xo_all (xo_runo 477 33 xo_B xo_f 7 (xo_Cy ++ xo_Cr 479 511)) = true := by decide +kernel
