/-! the runs: one call -/
theorem xo_ed7 : xo_all (xo_run [] xo_f 7 xo_Cd) = true := by decide +kernel
