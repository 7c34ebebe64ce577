/-! the runs, done by the kernel -/
theorem run_48 : runB 6 (36, 36) (24, 25) F32 = true := by decide +kernel
theorem run_49 : runB 6 (36, 36) (26, 27) F32 = true := by decide +kernel
theorem run_50 : runB 6 (36, 36) (28, 2147483647) F32 = true := by decide +kernel
theorem run_51 : runB 6 (37, 39) F32 F32 = true := by decide +kernel
theorem run_52 : runB 6 (40, 47) F32 F32 = true := by decide +kernel
theorem run_53 : runB 6 (48, 63) F32 F32 = true := by decide +kernel
