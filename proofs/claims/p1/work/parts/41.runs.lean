/-! the runs, done by the kernel -/
theorem run_5 : runB 6 (20, 22) F32 F32 = true := by decide +kernel
theorem run_6 : runB 6 (23, 26) F32 F32 = true := by decide +kernel
theorem run_7 : runB 6 (27, 27) (-2147483648, 3) F32 = true := by decide +kernel
theorem run_8 : runB 6 (27, 27) (4, 2147483647) F32 = true := by decide +kernel
theorem run_9 : runB 6 (28, 34) F32 F32 = true := by decide +kernel
theorem run_10 : runB 6 (35, 35) (-2147483648, -1) F32 = true := by decide +kernel
theorem run_11 : runB 6 (35, 35) (0, 0) (-2147483648, 0) = true := by decide +kernel
theorem run_12 : runB 6 (35, 35) (0, 0) (1, 1) = true := by decide +kernel
theorem run_13 : runB 6 (35, 35) (0, 0) (2, 2) = true := by decide +kernel
