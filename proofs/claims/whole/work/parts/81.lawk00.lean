theorem lw_tk0 : lw_tk 0 = true := by decide +kernel
theorem lw_tk1 : lw_tk 1 = true := by decide +kernel
