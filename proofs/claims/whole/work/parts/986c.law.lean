theorem kc_L_law_8 : ((c_L_law.drop 320).take 40).all lw_okP = true := by decide +kernel
theorem kc_L_law_9 : ((c_L_law.drop 360).take 40).all lw_okP = true := by decide +kernel
theorem kc_L_law_10 : ((c_L_law.drop 400).take 40).all lw_okP = true := by decide +kernel
theorem kc_L_law_11 : ((c_L_law.drop 440).take 40).all lw_okP = true := by decide +kernel
