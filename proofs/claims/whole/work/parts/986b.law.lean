theorem kc_L_law_4 : ((c_L_law.drop 160).take 40).all lw_okP = true := by decide +kernel
theorem kc_L_law_5 : ((c_L_law.drop 200).take 40).all lw_okP = true := by decide +kernel
theorem kc_L_law_6 : ((c_L_law.drop 240).take 40).all lw_okP = true := by decide +kernel
theorem kc_L_law_7 : ((c_L_law.drop 280).take 40).all lw_okP = true := by decide +kernel
