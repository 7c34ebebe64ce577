/-! the runs, done by the kernel -/
theorem run_19 : runB 6 (35, 35) (0, 0) (3, 3) = true := by decide +kernel
theorem run_20 : runB 6 (35, 35) (0, 0) (4, 2147483647) = true := by decide +kernel
theorem run_21 : runB 6 (35, 35) (1, 1) (-2147483648, 0) = true := by decide +kernel
theorem run_22 : runB 6 (35, 35) (1, 1) (1, 1) = true := by decide +kernel
theorem run_23 : runB 6 (35, 35) (1, 1) (2, 2) = true := by decide +kernel
theorem run_24 : runB 6 (35, 35) (1, 1) (3, 3) = true := by decide +kernel
theorem run_25 : runB 6 (35, 35) (1, 1) (4, 2147483647) = true := by decide +kernel
theorem run_26 : runB 6 (35, 35) (2, 2147483647) F32 = true := by decide +kernel
theorem run_27 : runB 6 (36, 36) (-2147483648, 0) F32 = true := by decide +kernel
