theorem B_LW_law_0_ok : zbk b_LW_law 0 B_LW_law_0 = true := by decide +kernel
theorem B_LW_law_23_ok : zbk b_LW_law 23 B_LW_law_23 = true := by decide +kernel
theorem B_LW_law_104_ok : zbk b_LW_law 104 B_LW_law_104 = true := by decide +kernel
theorem B_LW_law_161_ok : zbk b_LW_law 161 B_LW_law_161 = true := by decide +kernel
theorem B_LW_law_164_ok : zbk b_LW_law 164 B_LW_law_164 = true := by decide +kernel
theorem B_LW_law_184_ok : zbk b_LW_law 184 B_LW_law_184 = true := by decide +kernel
theorem B_LW_law_185_ok : zbk b_LW_law 185 B_LW_law_185 = true := by decide +kernel
