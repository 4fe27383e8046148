/-! the runs: one call -/
theorem xo_ea7 : xo_all (xo_run [] xo_f 7 xo_Ca) = true := by decide +kernel
