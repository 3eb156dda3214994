theorem B_LW_law_672_ok : zbk b_LW_law 672 B_LW_law_672 = true := by decide +kernel
theorem B_LW_law_689_ok : zbk b_LW_law 689 B_LW_law_689 = true := by decide +kernel
theorem B_LW_law_692_ok : zbk b_LW_law 692 B_LW_law_692 = true := by decide +kernel
theorem B_LW_law_740_ok : zbk b_LW_law 740 B_LW_law_740 = true := by decide +kernel
theorem B_LW_law_757_ok : zbk b_LW_law 757 B_LW_law_757 = true := by decide +kernel
theorem B_LW_law_760_ok : zbk b_LW_law 760 B_LW_law_760 = true := by decide +kernel
theorem B_LW_law_808_ok : zbk b_LW_law 808 B_LW_law_808 = true := by decide +kernel
