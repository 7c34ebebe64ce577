/-! the runs, done by the kernel -/
theorem run_30 : runB 6 (36, 36) (23, 25) F32 = true := by decide +kernel
theorem run_31 : runB 6 (36, 36) (26, 2147483647) F32 = true := by decide +kernel
theorem run_32 : runB 6 (37, 43) F32 F32 = true := by decide +kernel
theorem run_33 : runB 6 (44, 63) F32 F32 = true := by decide +kernel
