/-! the runs, done by the kernel -/
theorem run_20 : runB 6 (36, 36) (-2147483648, 1) F32 = true := by decide +kernel
theorem run_21 : runB 6 (36, 36) (2, 3) F32 = true := by decide +kernel
theorem run_22 : runB 6 (36, 36) (4, 6) F32 = true := by decide +kernel
theorem run_23 : runB 6 (36, 36) (7, 8) F32 = true := by decide +kernel
theorem run_24 : runB 6 (36, 36) (9, 10) F32 = true := by decide +kernel
