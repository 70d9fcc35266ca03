theorem lw_tk12 : lw_tk 12 = true := by decide +kernel
theorem lw_tk13 : lw_tk 13 = true := by decide +kernel
