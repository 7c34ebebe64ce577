/-! the runs, done by the kernel -/
theorem run_L0 : runB 0 (0, 63) F32 F32 = true := by decide +kernel
theorem run_L1 : runB 1 (0, 63) F32 F32 = true := by decide +kernel
theorem run_L2 : runB 2 (0, 63) F32 F32 = true := by decide +kernel
theorem run_L3 : runB 3 (0, 63) F32 F32 = true := by decide +kernel
theorem run_L4 : runB 4 (0, 63) F32 F32 = true := by decide +kernel
theorem run_L5 : runB 5 (0, 63) F32 F32 = true := by decide +kernel
theorem run_0 : runB 6 (0, 5) F32 F32 = true := by decide +kernel
theorem run_1 : runB 6 (6, 6) (-2147483648, 41) F32 = true := by decide +kernel
theorem run_2 : runB 6 (6, 6) (42, 2147483647) F32 = true := by decide +kernel
theorem run_3 : runB 6 (7, 12) F32 F32 = true := by decide +kernel
theorem run_4 : runB 6 (13, 19) F32 F32 = true := by decide +kernel
