/-! the runs: one call -/
theorem xo_em7 : xo_all (xo_run xo_B xo_f 7 xo_Cm) = true := by decide +kernel
