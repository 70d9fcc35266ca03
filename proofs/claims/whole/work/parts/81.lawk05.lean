theorem lw_tk10 : lw_tk 10 = true := by decide +kernel
theorem lw_tk11 : lw_tk 11 = true := by decide +kernel
