/-! the runs, done by the kernel -/
theorem run_28 : runB 6 (36, 36) (1, 1) F32 = true := by decide +kernel
theorem run_29 : runB 6 (36, 36) (2, 2) F32 = true := by decide +kernel
theorem run_30 : runB 6 (36, 36) (3, 3) F32 = true := by decide +kernel
theorem run_31 : runB 6 (36, 36) (4, 4) F32 = true := by decide +kernel
theorem run_32 : runB 6 (36, 36) (5, 6) F32 = true := by decide +kernel
theorem run_33 : runB 6 (36, 36) (7, 7) F32 = true := by decide +kernel
theorem run_34 : runB 6 (36, 36) (8, 8) F32 = true := by decide +kernel
theorem run_35 : runB 6 (36, 36) (9, 9) F32 = true := by decide +kernel
theorem run_36 : runB 6 (36, 36) (10, 10) F32 = true := by decide +kernel
theorem run_37 : runB 6 (36, 36) (11, 11) F32 = true := by decide +kernel
