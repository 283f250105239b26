theorem kc_L_law_12 : ((c_L_law.drop 480).take 40).all lw_okP = true := by decide +kernel
theorem kc_L_law_13 : ((c_L_law.drop 520).take 40).all lw_okP = true := by decide +kernel
theorem kc_L_law_14 : ((c_L_law.drop 560).take 40).all lw_okP = true := by decide +kernel
theorem kc_L_law_15 : ((c_L_law.drop 600).take 40).all lw_okP = true := by decide +kernel
