theorem g18 : runB 6 (18, 21) F32 F32 = true := by decide +kernel
