theorem lw_tk8 : lw_tk 8 = true := by decide +kernel
theorem lw_tk9 : lw_tk 9 = true := by decide +kernel
