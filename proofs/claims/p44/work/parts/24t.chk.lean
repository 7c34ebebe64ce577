/-! the table is right -/
theorem rwk0 : ckT 0 = true := by decide +kernel
theorem rwk1 : ckT 1 = true := by decide +kernel
theorem rwk2 : ckT 2 = true := by decide +kernel
theorem rwk3 : ckT 3 = true := by decide +kernel
theorem rwk4 : ckT 4 = true := by decide +kernel
theorem rwk5 : ckT 5 = true := by decide +kernel
theorem rwk6 : ckT 6 = true := by decide +kernel
theorem rwk7 : ckT 7 = true := by decide +kernel
theorem rwk8 : ckT 8 = true := by decide +kernel
theorem rwk9 : ckT 9 = true := by decide +kernel
theorem rwk10 : ckT 10 = true := by decide +kernel
theorem rwk11 : ckT 11 = true := by decide +kernel
theorem rwk12 : ckT 12 = true := by decide +kernel
theorem rwk13 : ckT 13 = true := by decide +kernel
theorem rwk14 : ckT 14 = true := by decide +kernel
theorem rwk15 : ckT 15 = true := by decide +kernel
theorem rwk16 : ckT 16 = true := by decide +kernel
theorem rwk17 : ckT 17 = true := by decide +kernel
theorem rwk18 : ckT 18 = true := by decide +kernel
theorem rwk19 : ckT 19 = true := by decide +kernel
theorem rwk20 : ckT 20 = true := by decide +kernel
theorem rwk21 : ckT 21 = true := by decide +kernel
theorem rwk22 : ckT 22 = true := by decide +kernel
theorem rwk23 : ckT 23 = true := by decide +kernel
theorem rwk24 : ckT 24 = true := by decide +kernel
theorem rwk25 : ckT 25 = true := by decide +kernel
theorem rwk26 : ckT 26 = true := by decide +kernel
theorem rwk27 : ckT 27 = true := by decide +kernel
theorem rwk28 : ckT 28 = true := by decide +kernel
theorem rwk29 : ckT 29 = true := by decide +kernel
theorem rwk30 : ckT 30 = true := by decide +kernel
theorem rwk31 : ckT 31 = true := by decide +kernel
theorem rwk32 : ckT 32 = true := by decide +kernel
theorem rwk33 : ckT 33 = true := by decide +kernel
theorem rwk34 : ckT 34 = true := by decide +kernel
theorem rwk35 : ckT 35 = true := by decide +kernel
theorem rwk36 : ckT 36 = true := by decide +kernel
theorem rwk37 : ckT 37 = true := by decide +kernel
theorem rwk38 : ckT 38 = true := by decide +kernel
theorem rwk39 : ckT 39 = true := by decide +kernel
theorem rwk40 : ckT 40 = true := by decide +kernel
theorem rwk41 : ckT 41 = true := by decide +kernel
theorem rwk42 : ckT 42 = true := by decide +kernel
theorem rwk43 : ckT 43 = true := by decide +kernel
theorem rwk44 : ckT 44 = true := by decide +kernel
theorem rwk45 : ckT 45 = true := by decide +kernel
theorem rwk46 : ckT 46 = true := by decide +kernel
theorem rwk47 : ckT 47 = true := by decide +kernel
theorem rwk48 : ckT 48 = true := by decide +kernel
theorem rwk49 : ckT 49 = true := by decide +kernel
theorem rwk50 : ckT 50 = true := by decide +kernel
theorem rwk51 : ckT 51 = true := by decide +kernel
theorem rwk52 : ckT 52 = true := by decide +kernel
theorem rwk53 : ckT 53 = true := by decide +kernel
theorem rwk54 : ckT 54 = true := by decide +kernel
theorem rwk55 : ckT 55 = true := by decide +kernel
theorem rwk56 : ckT 56 = true := by decide +kernel
theorem rwk57 : ckT 57 = true := by decide +kernel
theorem rwk58 : ckT 58 = true := by decide +kernel
theorem rwk59 : ckT 59 = true := by decide +kernel
theorem rwk60 : ckT 60 = true := by decide +kernel
theorem rwk61 : ckT 61 = true := by decide +kernel
theorem rwk62 : ckT 62 = true := by decide +kernel
theorem rwk63 : ckT 63 = true := by decide +kernel
theorem rwk64 : ckT 64 = true := by decide +kernel
theorem rwk65 : ckT 65 = true := by decide +kernel
theorem rwk66 : ckT 66 = true := by decide +kernel
theorem rwk67 : ckT 67 = true := by decide +kernel
theorem lw68_c0 : chkD 68 o68 40 (dropN 0 o68) = true := by decide +kernel
theorem lw68_c1 : chkD 68 o68 40 (dropN 40 o68) = true := by decide +kernel
theorem lw68_c2 : chkD 68 o68 40 (dropN 80 o68) = true := by decide +kernel
theorem lw68_h3 : chkL 68 o68 (dropN 120 o68) = true := by decide +kernel
theorem lw68_h2 : chkL 68 o68 (dropN 80 o68) = true := chkL_split 40 _ lw68_c2 (by rw [dropN_eq, List.drop_drop, ← dropN_eq]; exact lw68_h3)
theorem lw68_h1 : chkL 68 o68 (dropN 40 o68) = true := chkL_split 40 _ lw68_c1 (by rw [dropN_eq, List.drop_drop, ← dropN_eq]; exact lw68_h2)
theorem lw68_h0 : chkL 68 o68 (dropN 0 o68) = true := chkL_split 40 _ lw68_c0 (by rw [dropN_eq, List.drop_drop, ← dropN_eq]; exact lw68_h1)
theorem rwk68 : ckT 68 = true := by
  have h : chkL 68 o68 o68 = true := lw68_h0
  have h2 : (Nat.beq 9 (mmaxl 68) && (Nat.beq 7 (mcls 68) && true)) = true := by decide +kernel
  show (chkL 68 o68 o68 && (Nat.beq 9 (mmaxl 68) && (Nat.beq 7 (mcls 68) && true))) = true
  rw [h, h2]
  rfl
theorem rwk69 : ckT 69 = true := by decide +kernel
theorem rwk70 : ckT 70 = true := by decide +kernel
theorem rwk71 : ckT 71 = true := by decide +kernel
theorem rwk72 : ckT 72 = true := by decide +kernel
theorem rwk73 : ckT 73 = true := by decide +kernel
theorem rwk74 : ckT 74 = true := by decide +kernel
theorem rwk75 : ckT 75 = true := by decide +kernel
theorem rwk76 : ckT 76 = true := by decide +kernel
theorem rwk77 : ckT 77 = true := by decide +kernel
theorem rwk78 : ckT 78 = true := by decide +kernel
theorem rwk79 : ckT 79 = true := by decide +kernel
theorem rwk80 : ckT 80 = true := by decide +kernel
theorem lw81_c0 : chkD 81 o81 40 (dropN 0 o81) = true := by decide +kernel
theorem lw81_c1 : chkD 81 o81 40 (dropN 40 o81) = true := by decide +kernel
theorem lw81_c2 : chkD 81 o81 40 (dropN 80 o81) = true := by decide +kernel
theorem lw81_h3 : chkL 81 o81 (dropN 120 o81) = true := by decide +kernel
theorem lw81_h2 : chkL 81 o81 (dropN 80 o81) = true := chkL_split 40 _ lw81_c2 (by rw [dropN_eq, List.drop_drop, ← dropN_eq]; exact lw81_h3)
theorem lw81_h1 : chkL 81 o81 (dropN 40 o81) = true := chkL_split 40 _ lw81_c1 (by rw [dropN_eq, List.drop_drop, ← dropN_eq]; exact lw81_h2)
theorem lw81_h0 : chkL 81 o81 (dropN 0 o81) = true := chkL_split 40 _ lw81_c0 (by rw [dropN_eq, List.drop_drop, ← dropN_eq]; exact lw81_h1)
theorem rwk81 : ckT 81 = true := by
  have h : chkL 81 o81 o81 = true := lw81_h0
  have h2 : (Nat.beq 6 (mmaxl 81) && (Nat.beq 8 (mcls 81) && true)) = true := by decide +kernel
  show (chkL 81 o81 o81 && (Nat.beq 6 (mmaxl 81) && (Nat.beq 8 (mcls 81) && true))) = true
  rw [h, h2]
  rfl
theorem rwk82 : ckT 82 = true := by decide +kernel
theorem rwk83 : ckT 83 = true := by decide +kernel
theorem rwk84 : ckT 84 = true := by decide +kernel
theorem rwk85 : ckT 85 = true := by decide +kernel
theorem rwk86 : ckT 86 = true := by decide +kernel
theorem rwk87 : ckT 87 = true := by decide +kernel
theorem rwk88 : ckT 88 = true := by decide +kernel
theorem rwk89 : ckT 89 = true := by decide +kernel
theorem rwk90 : ckT 90 = true := by decide +kernel
theorem rwk91 : ckT 91 = true := by decide +kernel
theorem rwk92 : ckT 92 = true := by decide +kernel
theorem rwk93 : ckT 93 = true := by decide +kernel
theorem rwk94 : ckT 94 = true := by decide +kernel
theorem rwk95 : ckT 95 = true := by decide +kernel
theorem rwk96 : ckT 96 = true := by decide +kernel
theorem rwk97 : ckT 97 = true := by decide +kernel
theorem rwk98 : ckT 98 = true := by decide +kernel
theorem rwk99 : ckT 99 = true := by decide +kernel
theorem rwk100 : ckT 100 = true := by decide +kernel
theorem rwk101 : ckT 101 = true := by decide +kernel
theorem rwk102 : ckT 102 = true := by decide +kernel
theorem rwk103 : ckT 103 = true := by decide +kernel
theorem rwk104 : ckT 104 = true := by decide +kernel
theorem rwk105 : ckT 105 = true := by decide +kernel
theorem rwk106 : ckT 106 = true := by decide +kernel
theorem lw107_c0 : chkD 107 o107 40 (dropN 0 o107) = true := by decide +kernel
theorem lw107_c1 : chkD 107 o107 40 (dropN 40 o107) = true := by decide +kernel
theorem lw107_c2 : chkD 107 o107 40 (dropN 80 o107) = true := by decide +kernel
theorem lw107_h3 : chkL 107 o107 (dropN 120 o107) = true := by decide +kernel
theorem lw107_h2 : chkL 107 o107 (dropN 80 o107) = true := chkL_split 40 _ lw107_c2 (by rw [dropN_eq, List.drop_drop, ← dropN_eq]; exact lw107_h3)
theorem lw107_h1 : chkL 107 o107 (dropN 40 o107) = true := chkL_split 40 _ lw107_c1 (by rw [dropN_eq, List.drop_drop, ← dropN_eq]; exact lw107_h2)
theorem lw107_h0 : chkL 107 o107 (dropN 0 o107) = true := chkL_split 40 _ lw107_c0 (by rw [dropN_eq, List.drop_drop, ← dropN_eq]; exact lw107_h1)
theorem rwk107 : ckT 107 = true := by
  have h : chkL 107 o107 o107 = true := lw107_h0
  have h2 : (Nat.beq 4 (mmaxl 107) && (Nat.beq 11 (mcls 107) && true)) = true := by decide +kernel
  show (chkL 107 o107 o107 && (Nat.beq 4 (mmaxl 107) && (Nat.beq 11 (mcls 107) && true))) = true
  rw [h, h2]
  rfl
theorem rwk108 : ckT 108 = true := by decide +kernel
theorem rwk109 : ckT 109 = true := by decide +kernel
theorem lw110_c0 : chkD 110 o110 40 (dropN 0 o110) = true := by decide +kernel
theorem lw110_c1 : chkD 110 o110 40 (dropN 40 o110) = true := by decide +kernel
theorem lw110_c2 : chkD 110 o110 40 (dropN 80 o110) = true := by decide +kernel
theorem lw110_h3 : chkL 110 o110 (dropN 120 o110) = true := by decide +kernel
theorem lw110_h2 : chkL 110 o110 (dropN 80 o110) = true := chkL_split 40 _ lw110_c2 (by rw [dropN_eq, List.drop_drop, ← dropN_eq]; exact lw110_h3)
theorem lw110_h1 : chkL 110 o110 (dropN 40 o110) = true := chkL_split 40 _ lw110_c1 (by rw [dropN_eq, List.drop_drop, ← dropN_eq]; exact lw110_h2)
theorem lw110_h0 : chkL 110 o110 (dropN 0 o110) = true := chkL_split 40 _ lw110_c0 (by rw [dropN_eq, List.drop_drop, ← dropN_eq]; exact lw110_h1)
theorem rwk110 : ckT 110 = true := by
  have h : chkL 110 o110 o110 = true := lw110_h0
  have h2 : (Nat.beq 4 (mmaxl 110) && (Nat.beq 11 (mcls 110) && true)) = true := by decide +kernel
  show (chkL 110 o110 o110 && (Nat.beq 4 (mmaxl 110) && (Nat.beq 11 (mcls 110) && true))) = true
  rw [h, h2]
  rfl
theorem rwk111 : ckT 111 = true := by decide +kernel
theorem rwk112 : ckT 112 = true := by decide +kernel
theorem rwk113 : ckT 113 = true := by decide +kernel
theorem rwk114 : ckT 114 = true := by decide +kernel
theorem rwk115 : ckT 115 = true := by decide +kernel
theorem rwk116 : ckT 116 = true := by decide +kernel
theorem rwk117 : ckT 117 = true := by decide +kernel
theorem rwk118 : ckT 118 = true := by decide +kernel
theorem rwk119 : ckT 119 = true := by decide +kernel
theorem rwk120 : ckT 120 = true := by decide +kernel
theorem rwk121 : ckT 121 = true := by decide +kernel
theorem rwk122 : ckT 122 = true := by decide +kernel
theorem rwk123 : ckT 123 = true := by decide +kernel
theorem rwk124 : ckT 124 = true := by decide +kernel
theorem lw125_c0 : chkD 125 o125 40 (dropN 0 o125) = true := by decide +kernel
theorem lw125_c1 : chkD 125 o125 40 (dropN 40 o125) = true := by decide +kernel
theorem lw125_c2 : chkD 125 o125 40 (dropN 80 o125) = true := by decide +kernel
theorem lw125_c3 : chkD 125 o125 40 (dropN 120 o125) = true := by decide +kernel
theorem lw125_h4 : chkL 125 o125 (dropN 160 o125) = true := by decide +kernel
theorem lw125_h3 : chkL 125 o125 (dropN 120 o125) = true := chkL_split 40 _ lw125_c3 (by rw [dropN_eq, List.drop_drop, ← dropN_eq]; exact lw125_h4)
theorem lw125_h2 : chkL 125 o125 (dropN 80 o125) = true := chkL_split 40 _ lw125_c2 (by rw [dropN_eq, List.drop_drop, ← dropN_eq]; exact lw125_h3)
theorem lw125_h1 : chkL 125 o125 (dropN 40 o125) = true := chkL_split 40 _ lw125_c1 (by rw [dropN_eq, List.drop_drop, ← dropN_eq]; exact lw125_h2)
theorem lw125_h0 : chkL 125 o125 (dropN 0 o125) = true := chkL_split 40 _ lw125_c0 (by rw [dropN_eq, List.drop_drop, ← dropN_eq]; exact lw125_h1)
theorem rwk125 : ckT 125 = true := by
  have h : chkL 125 o125 o125 = true := lw125_h0
  have h2 : (Nat.beq 7 (mmaxl 125) && (Nat.beq 14 (mcls 125) && true)) = true := by decide +kernel
  show (chkL 125 o125 o125 && (Nat.beq 7 (mmaxl 125) && (Nat.beq 14 (mcls 125) && true))) = true
  rw [h, h2]
  rfl
theorem rwk126 : ckT 126 = true := by decide +kernel
theorem rwk127 : ckT 127 = true := by decide +kernel
theorem rwk128 : ckT 128 = true := by decide +kernel
theorem rwk129 : ckT 129 = true := by decide +kernel
theorem lw130_c0 : chkD 130 o130 40 (dropN 0 o130) = true := by decide +kernel
theorem lw130_c1 : chkD 130 o130 40 (dropN 40 o130) = true := by decide +kernel
theorem lw130_c2 : chkD 130 o130 40 (dropN 80 o130) = true := by decide +kernel
theorem lw130_h3 : chkL 130 o130 (dropN 120 o130) = true := by decide +kernel
theorem lw130_h2 : chkL 130 o130 (dropN 80 o130) = true := chkL_split 40 _ lw130_c2 (by rw [dropN_eq, List.drop_drop, ← dropN_eq]; exact lw130_h3)
theorem lw130_h1 : chkL 130 o130 (dropN 40 o130) = true := chkL_split 40 _ lw130_c1 (by rw [dropN_eq, List.drop_drop, ← dropN_eq]; exact lw130_h2)
theorem lw130_h0 : chkL 130 o130 (dropN 0 o130) = true := chkL_split 40 _ lw130_c0 (by rw [dropN_eq, List.drop_drop, ← dropN_eq]; exact lw130_h1)
theorem rwk130 : ckT 130 = true := by
  have h : chkL 130 o130 o130 = true := lw130_h0
  have h2 : (Nat.beq 5 (mmaxl 130) && (Nat.beq 14 (mcls 130) && true)) = true := by decide +kernel
  show (chkL 130 o130 o130 && (Nat.beq 5 (mmaxl 130) && (Nat.beq 14 (mcls 130) && true))) = true
  rw [h, h2]
  rfl
theorem lw131_c0 : chkD 131 o131 40 (dropN 0 o131) = true := by decide +kernel
theorem lw131_c1 : chkD 131 o131 40 (dropN 40 o131) = true := by decide +kernel
theorem lw131_c2 : chkD 131 o131 40 (dropN 80 o131) = true := by decide +kernel
theorem lw131_c3 : chkD 131 o131 40 (dropN 120 o131) = true := by decide +kernel
theorem lw131_c4 : chkD 131 o131 40 (dropN 160 o131) = true := by decide +kernel
theorem lw131_c5 : chkD 131 o131 40 (dropN 200 o131) = true := by decide +kernel
theorem lw131_c6 : chkD 131 o131 40 (dropN 240 o131) = true := by decide +kernel
theorem lw131_c7 : chkD 131 o131 40 (dropN 280 o131) = true := by decide +kernel
theorem lw131_c8 : chkD 131 o131 40 (dropN 320 o131) = true := by decide +kernel
theorem lw131_h9 : chkL 131 o131 (dropN 360 o131) = true := by decide +kernel
theorem lw131_h8 : chkL 131 o131 (dropN 320 o131) = true := chkL_split 40 _ lw131_c8 (by rw [dropN_eq, List.drop_drop, ← dropN_eq]; exact lw131_h9)
theorem lw131_h7 : chkL 131 o131 (dropN 280 o131) = true := chkL_split 40 _ lw131_c7 (by rw [dropN_eq, List.drop_drop, ← dropN_eq]; exact lw131_h8)
theorem lw131_h6 : chkL 131 o131 (dropN 240 o131) = true := chkL_split 40 _ lw131_c6 (by rw [dropN_eq, List.drop_drop, ← dropN_eq]; exact lw131_h7)
theorem lw131_h5 : chkL 131 o131 (dropN 200 o131) = true := chkL_split 40 _ lw131_c5 (by rw [dropN_eq, List.drop_drop, ← dropN_eq]; exact lw131_h6)
theorem lw131_h4 : chkL 131 o131 (dropN 160 o131) = true := chkL_split 40 _ lw131_c4 (by rw [dropN_eq, List.drop_drop, ← dropN_eq]; exact lw131_h5)
theorem lw131_h3 : chkL 131 o131 (dropN 120 o131) = true := chkL_split 40 _ lw131_c3 (by rw [dropN_eq, List.drop_drop, ← dropN_eq]; exact lw131_h4)
theorem lw131_h2 : chkL 131 o131 (dropN 80 o131) = true := chkL_split 40 _ lw131_c2 (by rw [dropN_eq, List.drop_drop, ← dropN_eq]; exact lw131_h3)
theorem lw131_h1 : chkL 131 o131 (dropN 40 o131) = true := chkL_split 40 _ lw131_c1 (by rw [dropN_eq, List.drop_drop, ← dropN_eq]; exact lw131_h2)
theorem lw131_h0 : chkL 131 o131 (dropN 0 o131) = true := chkL_split 40 _ lw131_c0 (by rw [dropN_eq, List.drop_drop, ← dropN_eq]; exact lw131_h1)
theorem rwk131 : ckT 131 = true := by
  have h : chkL 131 o131 o131 = true := lw131_h0
  have h2 : (Nat.beq 15 (mmaxl 131) && (Nat.beq 14 (mcls 131) && true)) = true := by decide +kernel
  show (chkL 131 o131 o131 && (Nat.beq 15 (mmaxl 131) && (Nat.beq 14 (mcls 131) && true))) = true
  rw [h, h2]
  rfl
set_option maxRecDepth 100000 in
theorem rwk_l : ∀ k ∈ [0, 1, 2, 3, 4, 5, 6, 7, 8, 9, 10, 11, 12, 13, 14, 15, 16, 17, 18, 19, 20, 21, 22, 23, 24, 25, 26, 27, 28, 29, 30, 31, 32, 33, 34, 35, 36, 37, 38, 39, 40, 41, 42, 43, 44, 45, 46, 47, 48, 49, 50, 51, 52, 53, 54, 55, 56, 57, 58, 59, 60, 61, 62, 63, 64, 65, 66, 67, 68, 69, 70, 71, 72, 73, 74, 75, 76, 77, 78, 79, 80, 81, 82, 83, 84, 85, 86, 87, 88, 89, 90, 91, 92, 93, 94, 95, 96, 97, 98, 99, 100, 101, 102, 103, 104, 105, 106, 107, 108, 109, 110, 111, 112, 113, 114, 115, 116, 117, 118, 119, 120, 121, 122, 123, 124, 125, 126, 127, 128, 129, 130, 131], ckT k = true := List.forall_mem_cons.mpr ⟨rwk0, List.forall_mem_cons.mpr ⟨rwk1, List.forall_mem_cons.mpr ⟨rwk2, List.forall_mem_cons.mpr ⟨rwk3, List.forall_mem_cons.mpr ⟨rwk4, List.forall_mem_cons.mpr ⟨rwk5, List.forall_mem_cons.mpr ⟨rwk6, List.forall_mem_cons.mpr ⟨rwk7, List.forall_mem_cons.mpr ⟨rwk8, List.forall_mem_cons.mpr ⟨rwk9, List.forall_mem_cons.mpr ⟨rwk10, List.forall_mem_cons.mpr ⟨rwk11, List.forall_mem_cons.mpr ⟨rwk12, List.forall_mem_cons.mpr ⟨rwk13, List.forall_mem_cons.mpr ⟨rwk14, List.forall_mem_cons.mpr ⟨rwk15, List.forall_mem_cons.mpr ⟨rwk16, List.forall_mem_cons.mpr ⟨rwk17, List.forall_mem_cons.mpr ⟨rwk18, List.forall_mem_cons.mpr ⟨rwk19, List.forall_mem_cons.mpr ⟨rwk20, List.forall_mem_cons.mpr ⟨rwk21, List.forall_mem_cons.mpr ⟨rwk22, List.forall_mem_cons.mpr ⟨rwk23, List.forall_mem_cons.mpr ⟨rwk24, List.forall_mem_cons.mpr ⟨rwk25, List.forall_mem_cons.mpr ⟨rwk26, List.forall_mem_cons.mpr ⟨rwk27, List.forall_mem_cons.mpr ⟨rwk28, List.forall_mem_cons.mpr ⟨rwk29, List.forall_mem_cons.mpr ⟨rwk30, List.forall_mem_cons.mpr ⟨rwk31, List.forall_mem_cons.mpr ⟨rwk32, List.forall_mem_cons.mpr ⟨rwk33, List.forall_mem_cons.mpr ⟨rwk34, List.forall_mem_cons.mpr ⟨rwk35, List.forall_mem_cons.mpr ⟨rwk36, List.forall_mem_cons.mpr ⟨rwk37, List.forall_mem_cons.mpr ⟨rwk38, List.forall_mem_cons.mpr ⟨rwk39, List.forall_mem_cons.mpr ⟨rwk40, List.forall_mem_cons.mpr ⟨rwk41, List.forall_mem_cons.mpr ⟨rwk42, List.forall_mem_cons.mpr ⟨rwk43, List.forall_mem_cons.mpr ⟨rwk44, List.forall_mem_cons.mpr ⟨rwk45, List.forall_mem_cons.mpr ⟨rwk46, List.forall_mem_cons.mpr ⟨rwk47, List.forall_mem_cons.mpr ⟨rwk48, List.forall_mem_cons.mpr ⟨rwk49, List.forall_mem_cons.mpr ⟨rwk50, List.forall_mem_cons.mpr ⟨rwk51, List.forall_mem_cons.mpr ⟨rwk52, List.forall_mem_cons.mpr ⟨rwk53, List.forall_mem_cons.mpr ⟨rwk54, List.forall_mem_cons.mpr ⟨rwk55, List.forall_mem_cons.mpr ⟨rwk56, List.forall_mem_cons.mpr ⟨rwk57, List.forall_mem_cons.mpr ⟨rwk58, List.forall_mem_cons.mpr ⟨rwk59, List.forall_mem_cons.mpr ⟨rwk60, List.forall_mem_cons.mpr ⟨rwk61, List.forall_mem_cons.mpr ⟨rwk62, List.forall_mem_cons.mpr ⟨rwk63, List.forall_mem_cons.mpr ⟨rwk64, List.forall_mem_cons.mpr ⟨rwk65, List.forall_mem_cons.mpr ⟨rwk66, List.forall_mem_cons.mpr ⟨rwk67, List.forall_mem_cons.mpr ⟨rwk68, List.forall_mem_cons.mpr ⟨rwk69, List.forall_mem_cons.mpr ⟨rwk70, List.forall_mem_cons.mpr ⟨rwk71, List.forall_mem_cons.mpr ⟨rwk72, List.forall_mem_cons.mpr ⟨rwk73, List.forall_mem_cons.mpr ⟨rwk74, List.forall_mem_cons.mpr ⟨rwk75, List.forall_mem_cons.mpr ⟨rwk76, List.forall_mem_cons.mpr ⟨rwk77, List.forall_mem_cons.mpr ⟨rwk78, List.forall_mem_cons.mpr ⟨rwk79, List.forall_mem_cons.mpr ⟨rwk80, List.forall_mem_cons.mpr ⟨rwk81, List.forall_mem_cons.mpr ⟨rwk82, List.forall_mem_cons.mpr ⟨rwk83, List.forall_mem_cons.mpr ⟨rwk84, List.forall_mem_cons.mpr ⟨rwk85, List.forall_mem_cons.mpr ⟨rwk86, List.forall_mem_cons.mpr ⟨rwk87, List.forall_mem_cons.mpr ⟨rwk88, List.forall_mem_cons.mpr ⟨rwk89, List.forall_mem_cons.mpr ⟨rwk90, List.forall_mem_cons.mpr ⟨rwk91, List.forall_mem_cons.mpr ⟨rwk92, List.forall_mem_cons.mpr ⟨rwk93, List.forall_mem_cons.mpr ⟨rwk94, List.forall_mem_cons.mpr ⟨rwk95, List.forall_mem_cons.mpr ⟨rwk96, List.forall_mem_cons.mpr ⟨rwk97, List.forall_mem_cons.mpr ⟨rwk98, List.forall_mem_cons.mpr ⟨rwk99, List.forall_mem_cons.mpr ⟨rwk100, List.forall_mem_cons.mpr ⟨rwk101, List.forall_mem_cons.mpr ⟨rwk102, List.forall_mem_cons.mpr ⟨rwk103, List.forall_mem_cons.mpr ⟨rwk104, List.forall_mem_cons.mpr ⟨rwk105, List.forall_mem_cons.mpr ⟨rwk106, List.forall_mem_cons.mpr ⟨rwk107, List.forall_mem_cons.mpr ⟨rwk108, List.forall_mem_cons.mpr ⟨rwk109, List.forall_mem_cons.mpr ⟨rwk110, List.forall_mem_cons.mpr ⟨rwk111, List.forall_mem_cons.mpr ⟨rwk112, List.forall_mem_cons.mpr ⟨rwk113, List.forall_mem_cons.mpr ⟨rwk114, List.forall_mem_cons.mpr ⟨rwk115, List.forall_mem_cons.mpr ⟨rwk116, List.forall_mem_cons.mpr ⟨rwk117, List.forall_mem_cons.mpr ⟨rwk118, List.forall_mem_cons.mpr ⟨rwk119, List.forall_mem_cons.mpr ⟨rwk120, List.forall_mem_cons.mpr ⟨rwk121, List.forall_mem_cons.mpr ⟨rwk122, List.forall_mem_cons.mpr ⟨rwk123, List.forall_mem_cons.mpr ⟨rwk124, List.forall_mem_cons.mpr ⟨rwk125, List.forall_mem_cons.mpr ⟨rwk126, List.forall_mem_cons.mpr ⟨rwk127, List.forall_mem_cons.mpr ⟨rwk128, List.forall_mem_cons.mpr ⟨rwk129, List.forall_mem_cons.mpr ⟨rwk130, List.forall_mem_cons.mpr ⟨rwk131, (fun q h => absurd h List.not_mem_nil)⟩⟩⟩⟩⟩⟩⟩⟩⟩⟩⟩⟩⟩⟩⟩⟩⟩⟩⟩⟩⟩⟩⟩⟩⟩⟩⟩⟩⟩⟩⟩⟩⟩⟩⟩⟩⟩⟩⟩⟩⟩⟩⟩⟩⟩⟩⟩⟩⟩⟩⟩⟩⟩⟩⟩⟩⟩⟩⟩⟩⟩⟩⟩⟩⟩⟩⟩⟩⟩⟩⟩⟩⟩⟩⟩⟩⟩⟩⟩⟩⟩⟩⟩⟩⟩⟩⟩⟩⟩⟩⟩⟩⟩⟩⟩⟩⟩⟩⟩⟩⟩⟩⟩⟩⟩⟩⟩⟩⟩⟩⟩⟩⟩⟩⟩⟩⟩⟩⟩⟩⟩⟩⟩⟩⟩⟩⟩⟩⟩⟩⟩⟩
theorem rg_l : [0, 1, 2, 3, 4, 5, 6, 7, 8, 9, 10, 11, 12, 13, 14, 15, 16, 17, 18, 19, 20, 21, 22, 23, 24, 25, 26, 27, 28, 29, 30, 31, 32, 33, 34, 35, 36, 37, 38, 39, 40, 41, 42, 43, 44, 45, 46, 47, 48, 49, 50, 51, 52, 53, 54, 55, 56, 57, 58, 59, 60, 61, 62, 63, 64, 65, 66, 67, 68, 69, 70, 71, 72, 73, 74, 75, 76, 77, 78, 79, 80, 81, 82, 83, 84, 85, 86, 87, 88, 89, 90, 91, 92, 93, 94, 95, 96, 97, 98, 99, 100, 101, 102, 103, 104, 105, 106, 107, 108, 109, 110, 111, 112, 113, 114, 115, 116, 117, 118, 119, 120, 121, 122, 123, 124, 125, 126, 127, 128, 129, 130, 131] = List.range nT := by decide +kernel
theorem chk_all : ∀ k : Nat, k < nT → ckT k = true := fun k h => rwk_l k (by rw [rg_l]; exact List.mem_range.mpr h)
