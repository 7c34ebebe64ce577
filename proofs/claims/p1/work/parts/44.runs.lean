/-! the runs, done by the kernel -/
theorem run_25 : runB 6 (36, 36) (11, 12) F32 = true := by decide +kernel
theorem run_26 : runB 6 (36, 36) (13, 15) F32 = true := by decide +kernel
theorem run_27 : runB 6 (36, 36) (16, 17) F32 = true := by decide +kernel
theorem run_28 : runB 6 (36, 36) (18, 19) F32 = true := by decide +kernel
theorem run_29 : runB 6 (36, 36) (20, 22) F32 = true := by decide +kernel
