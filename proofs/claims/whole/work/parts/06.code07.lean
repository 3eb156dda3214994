theorem B_LW_law_368_ok : zbk b_LW_law 368 B_LW_law_368 = true := by decide +kernel
theorem B_LW_law_371_ok : zbk b_LW_law 371 B_LW_law_371 = true := by decide +kernel
theorem B_LW_law_416_ok : zbk b_LW_law 416 B_LW_law_416 = true := by decide +kernel
theorem B_LW_law_419_ok : zbk b_LW_law 419 B_LW_law_419 = true := by decide +kernel
theorem B_LW_law_443_ok : zbk b_LW_law 443 B_LW_law_443 = true := by decide +kernel
theorem B_LW_law_460_ok : zbk b_LW_law 460 B_LW_law_460 = true := by decide +kernel
theorem B_LW_law_463_ok : zbk b_LW_law 463 B_LW_law_463 = true := by decide +kernel
theorem B_LW_law_476_ok : zbk b_LW_law 476 B_LW_law_476 = true := by decide +kernel
