theorem lw_tk2 : lw_tk 2 = true := by decide +kernel
theorem lw_tk3 : lw_tk 3 = true := by decide +kernel
