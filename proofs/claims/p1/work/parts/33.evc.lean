/-! the runs: one call -/
theorem xo_ecn : xo_all (xo_run [] (xo_g 512) 7 (xo_Cn ++ xo_Cc)) = true := by decide +kernel
theorem xo_ecy : xo_all (xo_run [] (xo_g 512) 7 (xo_Cy ++ xo_Cc)) = true := by decide +kernel
