/-! the runs: one call -/
theorem xo_ec7 : xo_all (xo_run [] (xo_g 512) 7 xo_Cc) = true := by decide +kernel
