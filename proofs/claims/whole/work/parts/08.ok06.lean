/-! the instructions of methods 288 to 292 -/
theorem am_ok_288 : ∀ pc, pc < 11 → am_okc prog_16_method_65_code 288 pc (am_t288 pc) = true := by decide +kernel
theorem am_ok_289 : ∀ pc, pc < 12 → am_okc prog_16_method_66_code 289 pc (am_t289 pc) = true := by decide +kernel
theorem am_ok_290 : ∀ pc, pc < 11 → am_okc prog_16_method_69_code 290 pc (am_t290 pc) = true := by decide +kernel
theorem am_ok_291 : ∀ pc, pc < 12 → am_okc prog_16_method_70_code 291 pc (am_t291 pc) = true := by decide +kernel
theorem am_ok_292 : ∀ pc, pc < 21 → am_okc prog_21_method_103_code 292 pc (am_t292 pc) = true := by decide +kernel
