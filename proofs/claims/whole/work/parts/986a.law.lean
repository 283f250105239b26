theorem kc_L_law_0 : ((c_L_law.drop 0).take 40).all lw_okP = true := by decide +kernel
theorem kc_L_law_1 : ((c_L_law.drop 40).take 40).all lw_okP = true := by decide +kernel
theorem kc_L_law_2 : ((c_L_law.drop 80).take 40).all lw_okP = true := by decide +kernel
theorem kc_L_law_3 : ((c_L_law.drop 120).take 40).all lw_okP = true := by decide +kernel
