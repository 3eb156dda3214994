theorem B_LW_law_825_ok : zbk b_LW_law 825 B_LW_law_825 = true := by decide +kernel
theorem B_LW_law_828_ok : zbk b_LW_law 828 B_LW_law_828 = true := by decide +kernel
theorem B_LW_law_841_ok : zbk b_LW_law 841 B_LW_law_841 = true := by decide +kernel
theorem B_LW_law_847_ok : zbk b_LW_law 847 B_LW_law_847 = true := by decide +kernel
theorem zb_LW_law_ok : zbs b_LW_law zb_LW_law = true := by
  simp only [zbs, zb_LW_law, List.all_cons, List.all_nil, Bool.and_true, B_LW_law_0_ok, B_LW_law_23_ok, B_LW_law_104_ok, B_LW_law_161_ok, B_LW_law_164_ok, B_LW_law_184_ok, B_LW_law_185_ok, B_LW_law_211_ok, B_LW_law_212_ok, B_LW_law_228_ok, B_LW_law_245_ok, B_LW_law_246_ok, B_LW_law_252_ok, B_LW_law_255_ok, B_LW_law_300_ok, B_LW_law_303_ok, B_LW_law_351_ok, B_LW_law_368_ok, B_LW_law_371_ok, B_LW_law_416_ok, B_LW_law_419_ok, B_LW_law_443_ok, B_LW_law_460_ok, B_LW_law_463_ok, B_LW_law_476_ok, B_LW_law_524_ok, B_LW_law_541_ok, B_LW_law_544_ok, B_LW_law_592_ok, B_LW_law_609_ok, B_LW_law_612_ok, B_LW_law_672_ok, B_LW_law_689_ok, B_LW_law_692_ok, B_LW_law_740_ok, B_LW_law_757_ok, B_LW_law_760_ok, B_LW_law_808_ok, B_LW_law_825_ok, B_LW_law_828_ok, B_LW_law_841_ok, B_LW_law_847_ok]
