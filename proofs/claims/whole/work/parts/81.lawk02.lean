theorem lw_tk4 : lw_tk 4 = true := by decide +kernel
theorem lw_tk5 : lw_tk 5 = true := by decide +kernel
