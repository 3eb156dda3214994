theorem B_LW_law_524_ok : zbk b_LW_law 524 B_LW_law_524 = true := by decide +kernel
theorem B_LW_law_541_ok : zbk b_LW_law 541 B_LW_law_541 = true := by decide +kernel
theorem B_LW_law_544_ok : zbk b_LW_law 544 B_LW_law_544 = true := by decide +kernel
theorem B_LW_law_592_ok : zbk b_LW_law 592 B_LW_law_592 = true := by decide +kernel
theorem B_LW_law_609_ok : zbk b_LW_law 609 B_LW_law_609 = true := by decide +kernel
theorem B_LW_law_612_ok : zbk b_LW_law 612 B_LW_law_612 = true := by decide +kernel
