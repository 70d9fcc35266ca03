theorem lw_tk6 : lw_tk 6 = true := by decide +kernel
theorem lw_tk7 : lw_tk 7 = true := by decide +kernel
