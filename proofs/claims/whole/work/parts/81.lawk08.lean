theorem lw_tk16 : lw_tk 16 = true := by decide +kernel
