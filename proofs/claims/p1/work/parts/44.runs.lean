/-! the runs, done by the kernel -/
theorem run_38 : runB 6 (36, 36) (12, 12) F32 = true := by decide +kernel
theorem run_39 : runB 6 (36, 36) (13, 14) F32 = true := by decide +kernel
theorem run_40 : runB 6 (36, 36) (15, 15) F32 = true := by decide +kernel
theorem run_41 : runB 6 (36, 36) (16, 16) F32 = true := by decide +kernel
theorem run_42 : runB 6 (36, 36) (17, 17) F32 = true := by decide +kernel
theorem run_43 : runB 6 (36, 36) (18, 18) F32 = true := by decide +kernel
theorem run_44 : runB 6 (36, 36) (19, 19) F32 = true := by decide +kernel
theorem run_45 : runB 6 (36, 36) (20, 20) F32 = true := by decide +kernel
theorem run_46 : runB 6 (36, 36) (21, 22) F32 = true := by decide +kernel
theorem run_47 : runB 6 (36, 36) (23, 23) F32 = true := by decide +kernel
