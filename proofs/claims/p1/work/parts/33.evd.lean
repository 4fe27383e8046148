/-! the runs: one call -/
theorem xo_edn : xo_all (xo_run [] xo_f 7 (xo_Cn ++ xo_Cd)) = true := by decide +kernel
theorem xo_edy : xo_all (xo_run [] xo_f 7 (xo_Cy ++ xo_Cd)) = true := by decide +kernel
