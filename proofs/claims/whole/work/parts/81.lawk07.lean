theorem lw_tk14 : lw_tk 14 = true := by decide +kernel
theorem lw_tk15 : lw_tk 15 = true := by decide +kernel
