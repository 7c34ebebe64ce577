/-! the runs, done by the kernel -/
theorem run_9 : runB 6 (20, 21) F32 F32 = true := by decide +kernel
theorem run_10 : runB 6 (22, 22) F32 F32 = true := by decide +kernel
theorem run_11 : runB 6 (23, 26) F32 F32 = true := by decide +kernel
theorem run_12 : runB 6 (27, 27) (-2147483648, 1) F32 = true := by decide +kernel
theorem run_13 : runB 6 (27, 27) (2, 2147483647) F32 = true := by decide +kernel
theorem run_14 : runB 6 (28, 34) F32 F32 = true := by decide +kernel
theorem run_15 : runB 6 (35, 35) (-2147483648, -1) F32 = true := by decide +kernel
theorem run_16 : runB 6 (35, 35) (0, 0) (-2147483648, 0) = true := by decide +kernel
theorem run_17 : runB 6 (35, 35) (0, 0) (1, 1) = true := by decide +kernel
theorem run_18 : runB 6 (35, 35) (0, 0) (2, 2) = true := by decide +kernel
