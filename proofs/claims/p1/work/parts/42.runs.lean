/-! the runs, done by the kernel -/
theorem run_14 : runB 6 (35, 35) (0, 0) (3, 2147483647) = true := by decide +kernel
theorem run_15 : runB 6 (35, 35) (1, 1) (-2147483648, 0) = true := by decide +kernel
theorem run_16 : runB 6 (35, 35) (1, 1) (1, 1) = true := by decide +kernel
theorem run_17 : runB 6 (35, 35) (1, 1) (2, 2) = true := by decide +kernel
theorem run_18 : runB 6 (35, 35) (1, 1) (3, 2147483647) = true := by decide +kernel
theorem run_19 : runB 6 (35, 35) (2, 2147483647) F32 = true := by decide +kernel
