/-! the runs: one call -/
theorem xo_eb7 : xo_all (xo_run [] (xo_g 16) 7 xo_Cb) = true := by decide +kernel
