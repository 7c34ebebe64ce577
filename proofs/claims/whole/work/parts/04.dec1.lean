theorem d93_28 : decode (mcode 93) 28 = .ok (.iload_n 2, 1) := by decide +kernel
theorem d93_29 : decode (mcode 93) 29 = .ok (.if_icmp .ge 41, 3) := by decide +kernel
theorem d93_32 : decode (mcode 93) 32 = .ok (.aload_n 0, 1) := by decide +kernel
theorem d93_33 : decode (mcode 93) 33 = .ok (.getfield 17, 3) := by decide +kernel
theorem d93_36 : decode (mcode 93) 36 = .ok (.iload 4, 2) := by decide +kernel
theorem d93_38 : decode (mcode 93) 38 = .ok (.iaload, 1) := by decide +kernel
theorem d93_39 : decode (mcode 93) 39 = .ok (.ldc 76, 2) := by decide +kernel
theorem d93_41 : decode (mcode 93) 41 = .ok (.if_icmp .eq 29, 3) := by decide +kernel
theorem d93_44 : decode (mcode 93) 44 = .ok (.aload_n 0, 1) := by decide +kernel
theorem d93_45 : decode (mcode 93) 45 = .ok (.getfield 17, 3) := by decide +kernel
theorem d93_48 : decode (mcode 93) 48 = .ok (.iload 6, 2) := by decide +kernel
theorem d93_50 : decode (mcode 93) 50 = .ok (.iaload, 1) := by decide +kernel
theorem d93_51 : decode (mcode 93) 51 = .ok (.aload_n 0, 1) := by decide +kernel
theorem d93_52 : decode (mcode 93) 52 = .ok (.getfield 17, 3) := by decide +kernel
theorem d93_55 : decode (mcode 93) 55 = .ok (.iload 4, 2) := by decide +kernel
theorem d93_57 : decode (mcode 93) 57 = .ok (.iaload, 1) := by decide +kernel
theorem d93_58 : decode (mcode 93) 58 = .ok (.if_icmp .ne 6, 3) := by decide +kernel
theorem d93_61 : decode (mcode 93) 61 = .ok (.iinc 5 1, 3) := by decide +kernel
theorem d93_64 : decode (mcode 93) 64 = .ok (.iinc 6 1, 3) := by decide +kernel
theorem d93_67 : decode (mcode 93) 67 = .ok (.goto (-41), 3) := by decide +kernel
theorem d93_70 : decode (mcode 93) 70 = .ok (.iload_n 3, 1) := by decide +kernel
theorem d93_71 : decode (mcode 93) 71 = .ok (.aload_n 0, 1) := by decide +kernel
theorem d93_72 : decode (mcode 93) 72 = .ok (.getfield 17, 3) := by decide +kernel
theorem d93_75 : decode (mcode 93) 75 = .ok (.iload 4, 2) := by decide +kernel
theorem d93_77 : decode (mcode 93) 77 = .ok (.iaload, 1) := by decide +kernel
theorem d93_78 : decode (mcode 93) 78 = .ok (.imul, 1) := by decide +kernel
theorem d93_79 : decode (mcode 93) 79 = .ok (.istore 6, 2) := by decide +kernel
theorem d93_81 : decode (mcode 93) 81 = .ok (.iload 5, 2) := by decide +kernel
theorem d93_83 : decode (mcode 93) 83 = .ok (.aload_n 0, 1) := by decide +kernel
theorem d93_84 : decode (mcode 93) 84 = .ok (.getfield 95, 3) := by decide +kernel
theorem d93_87 : decode (mcode 93) 87 = .ok (.if_icmp .gt 29, 3) := by decide +kernel
theorem d93_90 : decode (mcode 93) 90 = .ok (.iload 5, 2) := by decide +kernel
theorem d93_92 : decode (mcode 93) 92 = .ok (.aload_n 0, 1) := by decide +kernel
theorem d93_93 : decode (mcode 93) 93 = .ok (.getfield 95, 3) := by decide +kernel
theorem d93_96 : decode (mcode 93) 96 = .ok (.if_icmp .ne 32, 3) := by decide +kernel
theorem d93_99 : decode (mcode 93) 99 = .ok (.iload 5, 2) := by decide +kernel
theorem d93_101 : decode (mcode 93) 101 = .ok (.ifCond .le 27, 3) := by decide +kernel
theorem d93_104 : decode (mcode 93) 104 = .ok (.iload 6, 2) := by decide +kernel
theorem d93_106 : decode (mcode 93) 106 = .ok (.aload_n 0, 1) := by decide +kernel
theorem d93_107 : decode (mcode 93) 107 = .ok (.getfield 92, 3) := by decide +kernel
theorem d93_110 : decode (mcode 93) 110 = .ok (.invokestatic 98, 3) := by decide +kernel
theorem d93_113 : decode (mcode 93) 113 = .ok (.ifCond .eq 15, 3) := by decide +kernel
theorem d93_116 : decode (mcode 93) 116 = .ok (.aload_n 0, 1) := by decide +kernel
theorem d93_117 : decode (mcode 93) 117 = .ok (.iload 5, 2) := by decide +kernel
theorem d93_119 : decode (mcode 93) 119 = .ok (.putfield 95, 3) := by decide +kernel
theorem d93_122 : decode (mcode 93) 122 = .ok (.aload_n 0, 1) := by decide +kernel
theorem d93_123 : decode (mcode 93) 123 = .ok (.iload 6, 2) := by decide +kernel
theorem d93_125 : decode (mcode 93) 125 = .ok (.putfield 92, 3) := by decide +kernel
theorem d93_128 : decode (mcode 93) 128 = .ok (.iinc 4 1, 3) := by decide +kernel
theorem d93_131 : decode (mcode 93) 131 = .ok (.goto (-118), 3) := by decide +kernel
theorem d93_134 : decode (mcode 93) 134 = .ok (.return_, 1) := by decide +kernel
theorem d94_0 : decode (mcode 94) 0 = .ok (.iload_n 0, 1) := by decide +kernel
theorem d94_1 : decode (mcode 94) 1 = .ok (.invokestatic 102, 3) := by decide +kernel
theorem d94_4 : decode (mcode 94) 4 = .ok (.istore_n 2, 1) := by decide +kernel
theorem d94_5 : decode (mcode 94) 5 = .ok (.iload_n 1, 1) := by decide +kernel
theorem d94_6 : decode (mcode 94) 6 = .ok (.invokestatic 102, 3) := by decide +kernel
theorem d94_9 : decode (mcode 94) 9 = .ok (.istore_n 3, 1) := by decide +kernel
theorem d94_10 : decode (mcode 94) 10 = .ok (.iload_n 2, 1) := by decide +kernel
theorem d94_11 : decode (mcode 94) 11 = .ok (.iload_n 3, 1) := by decide +kernel
theorem d94_12 : decode (mcode 94) 12 = .ok (.if_icmp .lt 13, 3) := by decide +kernel
theorem d94_15 : decode (mcode 94) 15 = .ok (.iload_n 2, 1) := by decide +kernel
theorem d94_16 : decode (mcode 94) 16 = .ok (.iload_n 3, 1) := by decide +kernel
theorem d94_17 : decode (mcode 94) 17 = .ok (.if_icmp .ne 12, 3) := by decide +kernel
theorem d94_20 : decode (mcode 94) 20 = .ok (.iload_n 0, 1) := by decide +kernel
theorem d94_21 : decode (mcode 94) 21 = .ok (.iload_n 1, 1) := by decide +kernel
theorem d94_22 : decode (mcode 94) 22 = .ok (.if_icmp .le 7, 3) := by decide +kernel
theorem d94_25 : decode (mcode 94) 25 = .ok (.iconst 1, 1) := by decide +kernel
theorem d94_26 : decode (mcode 94) 26 = .ok (.goto 4, 3) := by decide +kernel
theorem d94_29 : decode (mcode 94) 29 = .ok (.iconst 0, 1) := by decide +kernel
theorem d94_30 : decode (mcode 94) 30 = .ok (.ireturn, 1) := by decide +kernel
theorem d95_0 : decode (mcode 95) 0 = .ok (.aload_n 2, 1) := by decide +kernel
theorem d95_1 : decode (mcode 95) 1 = .ok (.getfield 105, 3) := by decide +kernel
theorem d95_4 : decode (mcode 95) 4 = .ok (.istore_n 3, 1) := by decide +kernel
theorem d95_5 : decode (mcode 95) 5 = .ok (.iconst 0, 1) := by decide +kernel
theorem d95_6 : decode (mcode 95) 6 = .ok (.istore 4, 2) := by decide +kernel
theorem d95_8 : decode (mcode 95) 8 = .ok (.iload 4, 2) := by decide +kernel
theorem d95_10 : decode (mcode 95) 10 = .ok (.iload_n 3, 1) := by decide +kernel
theorem d95_11 : decode (mcode 95) 11 = .ok (.if_icmp .ge 18, 3) := by decide +kernel
theorem d95_14 : decode (mcode 95) 14 = .ok (.aload_n 0, 1) := by decide +kernel
theorem d95_15 : decode (mcode 95) 15 = .ok (.getfield 20, 3) := by decide +kernel
theorem d95_18 : decode (mcode 95) 18 = .ok (.iload 4, 2) := by decide +kernel
theorem d95_20 : decode (mcode 95) 20 = .ok (.iload 4, 2) := by decide +kernel
theorem d95_22 : decode (mcode 95) 22 = .ok (.iastore, 1) := by decide +kernel
theorem d95_23 : decode (mcode 95) 23 = .ok (.iinc 4 1, 3) := by decide +kernel
theorem d95_26 : decode (mcode 95) 26 = .ok (.goto (-18), 3) := by decide +kernel
theorem d95_29 : decode (mcode 95) 29 = .ok (.iconst 1, 1) := by decide +kernel
theorem d95_30 : decode (mcode 95) 30 = .ok (.istore 4, 2) := by decide +kernel
theorem d95_32 : decode (mcode 95) 32 = .ok (.iload 4, 2) := by decide +kernel
theorem d95_34 : decode (mcode 95) 34 = .ok (.aload_n 2, 1) := by decide +kernel
theorem d95_35 : decode (mcode 95) 35 = .ok (.getfield 105, 3) := by decide +kernel
theorem d95_38 : decode (mcode 95) 38 = .ok (.if_icmp .ge 90, 3) := by decide +kernel
theorem d95_41 : decode (mcode 95) 41 = .ok (.aload_n 0, 1) := by decide +kernel
theorem d95_42 : decode (mcode 95) 42 = .ok (.aload_n 1, 1) := by decide +kernel
theorem d95_43 : decode (mcode 95) 43 = .ok (.aload_n 2, 1) := by decide +kernel
theorem d95_44 : decode (mcode 95) 44 = .ok (.invokevirtual 108, 3) := by decide +kernel
theorem d95_47 : decode (mcode 95) 47 = .ok (.aload_n 0, 1) := by decide +kernel
theorem d95_48 : decode (mcode 95) 48 = .ok (.invokevirtual 112, 3) := by decide +kernel
theorem d95_51 : decode (mcode 95) 51 = .ok (.istore 5, 2) := by decide +kernel
theorem d95_53 : decode (mcode 95) 53 = .ok (.iload 5, 2) := by decide +kernel
theorem d95_55 : decode (mcode 95) 55 = .ok (.iconst (-1), 1) := by decide +kernel
theorem d95_56 : decode (mcode 95) 56 = .ok (.if_icmp .ne 5, 3) := by decide +kernel
theorem d95_59 : decode (mcode 95) 59 = .ok (.iload_n 3, 1) := by decide +kernel
theorem d95_60 : decode (mcode 95) 60 = .ok (.ireturn, 1) := by decide +kernel
theorem d95_61 : decode (mcode 95) 61 = .ok (.aload_n 0, 1) := by decide +kernel
theorem d95_62 : decode (mcode 95) 62 = .ok (.getfield 20, 3) := by decide +kernel
theorem d95_65 : decode (mcode 95) 65 = .ok (.aload_n 0, 1) := by decide +kernel
theorem d95_66 : decode (mcode 95) 66 = .ok (.getfield 11, 3) := by decide +kernel
theorem d95_69 : decode (mcode 95) 69 = .ok (.iload 5, 2) := by decide +kernel
theorem d95_71 : decode (mcode 95) 71 = .ok (.iaload, 1) := by decide +kernel
theorem d95_72 : decode (mcode 95) 72 = .ok (.sipush 144, 3) := by decide +kernel
theorem d95_75 : decode (mcode 95) 75 = .ok (.idiv, 1) := by decide +kernel
theorem d95_76 : decode (mcode 95) 76 = .ok (.iaload, 1) := by decide +kernel
theorem d95_77 : decode (mcode 95) 77 = .ok (.istore 6, 2) := by decide +kernel
theorem d95_79 : decode (mcode 95) 79 = .ok (.aload_n 0, 1) := by decide +kernel
theorem d95_80 : decode (mcode 95) 80 = .ok (.getfield 20, 3) := by decide +kernel
theorem d95_83 : decode (mcode 95) 83 = .ok (.aload_n 0, 1) := by decide +kernel
theorem d95_84 : decode (mcode 95) 84 = .ok (.getfield 11, 3) := by decide +kernel
theorem d95_87 : decode (mcode 95) 87 = .ok (.iload 5, 2) := by decide +kernel
theorem d95_89 : decode (mcode 95) 89 = .ok (.iaload, 1) := by decide +kernel
theorem d95_90 : decode (mcode 95) 90 = .ok (.sipush 144, 3) := by decide +kernel
theorem d95_93 : decode (mcode 95) 93 = .ok (.irem, 1) := by decide +kernel
theorem d95_94 : decode (mcode 95) 94 = .ok (.iaload, 1) := by decide +kernel
theorem d95_95 : decode (mcode 95) 95 = .ok (.istore 7, 2) := by decide +kernel
theorem d95_97 : decode (mcode 95) 97 = .ok (.aload_n 0, 1) := by decide +kernel
theorem d95_98 : decode (mcode 95) 98 = .ok (.aload_n 1, 1) := by decide +kernel
theorem d95_99 : decode (mcode 95) 99 = .ok (.aload_n 2, 1) := by decide +kernel
theorem d95_100 : decode (mcode 95) 100 = .ok (.iload 7, 2) := by decide +kernel
theorem d95_102 : decode (mcode 95) 102 = .ok (.invokevirtual 115, 3) := by decide +kernel
theorem d95_105 : decode (mcode 95) 105 = .ok (.ifCond .ne 5, 3) := by decide +kernel
theorem d95_108 : decode (mcode 95) 108 = .ok (.iconst (-1), 1) := by decide +kernel
theorem d95_109 : decode (mcode 95) 109 = .ok (.ireturn, 1) := by decide +kernel
theorem d95_110 : decode (mcode 95) 110 = .ok (.aload_n 0, 1) := by decide +kernel
theorem d95_111 : decode (mcode 95) 111 = .ok (.aload_n 2, 1) := by decide +kernel
theorem d95_112 : decode (mcode 95) 112 = .ok (.iload 6, 2) := by decide +kernel
theorem d95_114 : decode (mcode 95) 114 = .ok (.iload 7, 2) := by decide +kernel
theorem d95_116 : decode (mcode 95) 116 = .ok (.invokevirtual 119, 3) := by decide +kernel
theorem d95_119 : decode (mcode 95) 119 = .ok (.iinc 3 (-1), 3) := by decide +kernel
theorem d95_122 : decode (mcode 95) 122 = .ok (.iinc 4 1, 3) := by decide +kernel
theorem d95_125 : decode (mcode 95) 125 = .ok (.goto (-93), 3) := by decide +kernel
theorem d95_128 : decode (mcode 95) 128 = .ok (.iload_n 3, 1) := by decide +kernel
theorem d95_129 : decode (mcode 95) 129 = .ok (.ireturn, 1) := by decide +kernel
theorem d96_0 : decode (mcode 96) 0 = .ok (.iconst (-1), 1) := by decide +kernel
theorem d96_1 : decode (mcode 96) 1 = .ok (.istore_n 1, 1) := by decide +kernel
theorem d96_2 : decode (mcode 96) 2 = .ok (.iconst 0, 1) := by decide +kernel
theorem d96_3 : decode (mcode 96) 3 = .ok (.istore_n 2, 1) := by decide +kernel
theorem d96_4 : decode (mcode 96) 4 = .ok (.iconst 0, 1) := by decide +kernel
theorem d96_5 : decode (mcode 96) 5 = .ok (.istore_n 3, 1) := by decide +kernel
theorem d96_6 : decode (mcode 96) 6 = .ok (.iconst 0, 1) := by decide +kernel
theorem d96_7 : decode (mcode 96) 7 = .ok (.istore 4, 2) := by decide +kernel
theorem d96_9 : decode (mcode 96) 9 = .ok (.iload 4, 2) := by decide +kernel
theorem d96_11 : decode (mcode 96) 11 = .ok (.aload_n 0, 1) := by decide +kernel
theorem d96_12 : decode (mcode 96) 12 = .ok (.getfield 23, 3) := by decide +kernel
theorem d96_15 : decode (mcode 96) 15 = .ok (.if_icmp .ge 121, 3) := by decide +kernel
theorem d96_18 : decode (mcode 96) 18 = .ok (.iload 4, 2) := by decide +kernel
theorem d96_20 : decode (mcode 96) 20 = .ok (.ifCond .eq 22, 3) := by decide +kernel
theorem d96_23 : decode (mcode 96) 23 = .ok (.aload_n 0, 1) := by decide +kernel
theorem d96_24 : decode (mcode 96) 24 = .ok (.getfield 11, 3) := by decide +kernel
theorem d96_27 : decode (mcode 96) 27 = .ok (.iload 4, 2) := by decide +kernel
theorem d96_29 : decode (mcode 96) 29 = .ok (.iaload, 1) := by decide +kernel
theorem d96_30 : decode (mcode 96) 30 = .ok (.aload_n 0, 1) := by decide +kernel
theorem d96_31 : decode (mcode 96) 31 = .ok (.getfield 11, 3) := by decide +kernel
theorem d96_34 : decode (mcode 96) 34 = .ok (.iload 4, 2) := by decide +kernel
theorem d96_36 : decode (mcode 96) 36 = .ok (.iconst 1, 1) := by decide +kernel
theorem d96_37 : decode (mcode 96) 37 = .ok (.isub, 1) := by decide +kernel
theorem d96_38 : decode (mcode 96) 38 = .ok (.iaload, 1) := by decide +kernel
theorem d96_39 : decode (mcode 96) 39 = .ok (.if_icmp .eq 7, 3) := by decide +kernel
theorem d96_42 : decode (mcode 96) 42 = .ok (.iconst 1, 1) := by decide +kernel
theorem d96_43 : decode (mcode 96) 43 = .ok (.goto 4, 3) := by decide +kernel
theorem d96_46 : decode (mcode 96) 46 = .ok (.iconst 0, 1) := by decide +kernel
theorem d96_47 : decode (mcode 96) 47 = .ok (.istore 5, 2) := by decide +kernel
theorem d96_49 : decode (mcode 96) 49 = .ok (.iload 5, 2) := by decide +kernel
theorem d96_51 : decode (mcode 96) 51 = .ok (.ifCond .eq 79, 3) := by decide +kernel
theorem d96_54 : decode (mcode 96) 54 = .ok (.aload_n 0, 1) := by decide +kernel
theorem d96_55 : decode (mcode 96) 55 = .ok (.getfield 20, 3) := by decide +kernel
theorem d96_58 : decode (mcode 96) 58 = .ok (.aload_n 0, 1) := by decide +kernel
theorem d96_59 : decode (mcode 96) 59 = .ok (.getfield 11, 3) := by decide +kernel
theorem d96_62 : decode (mcode 96) 62 = .ok (.iload 4, 2) := by decide +kernel
theorem d96_64 : decode (mcode 96) 64 = .ok (.iaload, 1) := by decide +kernel
theorem d96_65 : decode (mcode 96) 65 = .ok (.sipush 144, 3) := by decide +kernel
theorem d96_68 : decode (mcode 96) 68 = .ok (.idiv, 1) := by decide +kernel
theorem d96_69 : decode (mcode 96) 69 = .ok (.iaload, 1) := by decide +kernel
theorem d96_70 : decode (mcode 96) 70 = .ok (.aload_n 0, 1) := by decide +kernel
theorem d96_71 : decode (mcode 96) 71 = .ok (.getfield 20, 3) := by decide +kernel
theorem d96_74 : decode (mcode 96) 74 = .ok (.aload_n 0, 1) := by decide +kernel
theorem d96_75 : decode (mcode 96) 75 = .ok (.getfield 11, 3) := by decide +kernel
theorem d96_78 : decode (mcode 96) 78 = .ok (.iload 4, 2) := by decide +kernel
theorem d96_80 : decode (mcode 96) 80 = .ok (.iaload, 1) := by decide +kernel
theorem d96_81 : decode (mcode 96) 81 = .ok (.sipush 144, 3) := by decide +kernel
theorem d96_84 : decode (mcode 96) 84 = .ok (.irem, 1) := by decide +kernel
theorem d96_85 : decode (mcode 96) 85 = .ok (.iaload, 1) := by decide +kernel
theorem d96_86 : decode (mcode 96) 86 = .ok (.if_icmp .eq 44, 3) := by decide +kernel
theorem d96_89 : decode (mcode 96) 89 = .ok (.aload_n 0, 1) := by decide +kernel
theorem d96_90 : decode (mcode 96) 90 = .ok (.iload 4, 2) := by decide +kernel
theorem d96_92 : decode (mcode 96) 92 = .ok (.aload_n 0, 1) := by decide +kernel
theorem d96_93 : decode (mcode 96) 93 = .ok (.iload 4, 2) := by decide +kernel
theorem d96_95 : decode (mcode 96) 95 = .ok (.aload_n 0, 1) := by decide +kernel
theorem d96_96 : decode (mcode 96) 96 = .ok (.getfield 11, 3) := by decide +kernel
theorem d96_99 : decode (mcode 96) 99 = .ok (.iload 4, 2) := by decide +kernel
theorem d96_101 : decode (mcode 96) 101 = .ok (.iaload, 1) := by decide +kernel
theorem d96_102 : decode (mcode 96) 102 = .ok (.invokevirtual 85, 3) := by decide +kernel
theorem d96_105 : decode (mcode 96) 105 = .ok (.iconst 1, 1) := by decide +kernel
theorem d96_106 : decode (mcode 96) 106 = .ok (.invokevirtual 88, 3) := by decide +kernel
theorem d96_109 : decode (mcode 96) 109 = .ok (.aload_n 0, 1) := by decide +kernel
theorem d96_110 : decode (mcode 96) 110 = .ok (.getfield 95, 3) := by decide +kernel
theorem d96_113 : decode (mcode 96) 113 = .ok (.iload_n 2, 1) := by decide +kernel
theorem d96_114 : decode (mcode 96) 114 = .ok (.if_icmp .le 16, 3) := by decide +kernel
theorem d96_117 : decode (mcode 96) 117 = .ok (.iload 4, 2) := by decide +kernel
theorem d96_119 : decode (mcode 96) 119 = .ok (.istore_n 1, 1) := by decide +kernel
theorem d96_120 : decode (mcode 96) 120 = .ok (.aload_n 0, 1) := by decide +kernel
theorem d96_121 : decode (mcode 96) 121 = .ok (.getfield 95, 3) := by decide +kernel
theorem d96_124 : decode (mcode 96) 124 = .ok (.istore_n 2, 1) := by decide +kernel
theorem d96_125 : decode (mcode 96) 125 = .ok (.aload_n 0, 1) := by decide +kernel
theorem d96_126 : decode (mcode 96) 126 = .ok (.getfield 92, 3) := by decide +kernel
theorem d96_129 : decode (mcode 96) 129 = .ok (.istore_n 3, 1) := by decide +kernel
theorem d96_130 : decode (mcode 96) 130 = .ok (.iinc 4 1, 3) := by decide +kernel
theorem d96_133 : decode (mcode 96) 133 = .ok (.goto (-124), 3) := by decide +kernel
theorem d96_136 : decode (mcode 96) 136 = .ok (.aload_n 0, 1) := by decide +kernel
theorem d96_137 : decode (mcode 96) 137 = .ok (.iload_n 3, 1) := by decide +kernel
theorem d96_138 : decode (mcode 96) 138 = .ok (.putfield 92, 3) := by decide +kernel
theorem d96_141 : decode (mcode 96) 141 = .ok (.aload_n 0, 1) := by decide +kernel
theorem d96_142 : decode (mcode 96) 142 = .ok (.iload_n 2, 1) := by decide +kernel
theorem d96_143 : decode (mcode 96) 143 = .ok (.putfield 95, 3) := by decide +kernel
theorem d96_146 : decode (mcode 96) 146 = .ok (.iload_n 1, 1) := by decide +kernel
theorem d96_147 : decode (mcode 96) 147 = .ok (.ireturn, 1) := by decide +kernel
theorem d97_0 : decode (mcode 97) 0 = .ok (.iconst 0, 1) := by decide +kernel
theorem d97_1 : decode (mcode 97) 1 = .ok (.istore 4, 2) := by decide +kernel
theorem d97_3 : decode (mcode 97) 3 = .ok (.iload 4, 2) := by decide +kernel
theorem d97_5 : decode (mcode 97) 5 = .ok (.aload_n 2, 1) := by decide +kernel
theorem d97_6 : decode (mcode 97) 6 = .ok (.getfield 105, 3) := by decide +kernel
theorem d97_9 : decode (mcode 97) 9 = .ok (.if_icmp .ge 47, 3) := by decide +kernel
theorem d97_12 : decode (mcode 97) 12 = .ok (.aload_n 0, 1) := by decide +kernel
theorem d97_13 : decode (mcode 97) 13 = .ok (.getfield 20, 3) := by decide +kernel
theorem d97_16 : decode (mcode 97) 16 = .ok (.iload 4, 2) := by decide +kernel
theorem d97_18 : decode (mcode 97) 18 = .ok (.iaload, 1) := by decide +kernel
theorem d97_19 : decode (mcode 97) 19 = .ok (.iload_n 3, 1) := by decide +kernel
theorem d97_20 : decode (mcode 97) 20 = .ok (.if_icmp .ne 30, 3) := by decide +kernel
theorem d97_23 : decode (mcode 97) 23 = .ok (.aload_n 2, 1) := by decide +kernel
theorem d97_24 : decode (mcode 97) 24 = .ok (.aload_n 1, 1) := by decide +kernel
theorem d97_25 : decode (mcode 97) 25 = .ok (.iload 4, 2) := by decide +kernel
theorem d97_27 : decode (mcode 97) 27 = .ok (.aload_n 0, 1) := by decide +kernel
theorem d97_28 : decode (mcode 97) 28 = .ok (.getfield 92, 3) := by decide +kernel
theorem d97_31 : decode (mcode 97) 31 = .ok (.invokevirtual 123, 3) := by decide +kernel
theorem d97_34 : decode (mcode 97) 34 = .ok (.ifCond .ne 5, 3) := by decide +kernel
theorem d97_37 : decode (mcode 97) 37 = .ok (.iconst 0, 1) := by decide +kernel
theorem d97_38 : decode (mcode 97) 38 = .ok (.ireturn, 1) := by decide +kernel
theorem d97_39 : decode (mcode 97) 39 = .ok (.aload_n 2, 1) := by decide +kernel
theorem d97_40 : decode (mcode 97) 40 = .ok (.aload_n 1, 1) := by decide +kernel
theorem d97_41 : decode (mcode 97) 41 = .ok (.iload 4, 2) := by decide +kernel
theorem d97_43 : decode (mcode 97) 43 = .ok (.aload_n 0, 1) := by decide +kernel
theorem d97_44 : decode (mcode 97) 44 = .ok (.getfield 92, 3) := by decide +kernel
theorem d97_47 : decode (mcode 97) 47 = .ok (.invokevirtual 127, 3) := by decide +kernel
theorem d97_50 : decode (mcode 97) 50 = .ok (.iinc 4 1, 3) := by decide +kernel
theorem d97_53 : decode (mcode 97) 53 = .ok (.goto (-50), 3) := by decide +kernel
theorem d97_56 : decode (mcode 97) 56 = .ok (.iconst 1, 1) := by decide +kernel
theorem d97_57 : decode (mcode 97) 57 = .ok (.ireturn, 1) := by decide +kernel
theorem d98_0 : decode (mcode 98) 0 = .ok (.iconst 0, 1) := by decide +kernel
theorem d98_1 : decode (mcode 98) 1 = .ok (.istore 4, 2) := by decide +kernel
theorem d98_3 : decode (mcode 98) 3 = .ok (.iload 4, 2) := by decide +kernel
theorem d98_5 : decode (mcode 98) 5 = .ok (.aload_n 1, 1) := by decide +kernel
theorem d98_6 : decode (mcode 98) 6 = .ok (.getfield 105, 3) := by decide +kernel
theorem d98_9 : decode (mcode 98) 9 = .ok (.if_icmp .ge 28, 3) := by decide +kernel
theorem d98_12 : decode (mcode 98) 12 = .ok (.aload_n 0, 1) := by decide +kernel
theorem d98_13 : decode (mcode 98) 13 = .ok (.getfield 20, 3) := by decide +kernel
theorem d98_16 : decode (mcode 98) 16 = .ok (.iload 4, 2) := by decide +kernel
theorem d98_18 : decode (mcode 98) 18 = .ok (.iaload, 1) := by decide +kernel
theorem d98_19 : decode (mcode 98) 19 = .ok (.iload_n 3, 1) := by decide +kernel
theorem d98_20 : decode (mcode 98) 20 = .ok (.if_icmp .ne 11, 3) := by decide +kernel
theorem d98_23 : decode (mcode 98) 23 = .ok (.aload_n 0, 1) := by decide +kernel
theorem d98_24 : decode (mcode 98) 24 = .ok (.getfield 20, 3) := by decide +kernel
theorem d98_27 : decode (mcode 98) 27 = .ok (.iload 4, 2) := by decide +kernel
theorem d98_29 : decode (mcode 98) 29 = .ok (.iload_n 2, 1) := by decide +kernel
theorem d98_30 : decode (mcode 98) 30 = .ok (.iastore, 1) := by decide +kernel
theorem d98_31 : decode (mcode 98) 31 = .ok (.iinc 4 1, 3) := by decide +kernel
theorem d98_34 : decode (mcode 98) 34 = .ok (.goto (-31), 3) := by decide +kernel
theorem d98_37 : decode (mcode 98) 37 = .ok (.return_, 1) := by decide +kernel
theorem d99_0 : decode (mcode 99) 0 = .ok (.aload_n 0, 1) := by decide +kernel
theorem d99_1 : decode (mcode 99) 1 = .ok (.invokespecial 3, 3) := by decide +kernel
theorem d99_4 : decode (mcode 99) 4 = .ok (.aload_n 0, 1) := by decide +kernel
theorem d99_5 : decode (mcode 99) 5 = .ok (.sipush 400, 3) := by decide +kernel
theorem d99_8 : decode (mcode 99) 8 = .ok (.newarray .int, 2) := by decide +kernel
theorem d99_10 : decode (mcode 99) 10 = .ok (.putfield 9, 3) := by decide +kernel
theorem d99_13 : decode (mcode 99) 13 = .ok (.return_, 1) := by decide +kernel
theorem d100_0 : decode (mcode 100) 0 = .ok (.bipush 24, 2) := by decide +kernel
theorem d100_2 : decode (mcode 100) 2 = .ok (.istore_n 2, 1) := by decide +kernel
theorem d100_3 : decode (mcode 100) 3 = .ok (.iload_n 2, 1) := by decide +kernel
theorem d100_4 : decode (mcode 100) 4 = .ok (.ifCond .lt 45, 3) := by decide +kernel
theorem d100_7 : decode (mcode 100) 7 = .ok (.aload_n 0, 1) := by decide +kernel
theorem d100_8 : decode (mcode 100) 8 = .ok (.getfield 15, 3) := by decide +kernel
theorem d100_11 : decode (mcode 100) 11 = .ok (.sipush 400, 3) := by decide +kernel
theorem d100_14 : decode (mcode 100) 14 = .ok (.if_icmp .ge 35, 3) := by decide +kernel
theorem d100_17 : decode (mcode 100) 17 = .ok (.aload_n 0, 1) := by decide +kernel
theorem d100_18 : decode (mcode 100) 18 = .ok (.getfield 9, 3) := by decide +kernel
theorem d100_21 : decode (mcode 100) 21 = .ok (.aload_n 0, 1) := by decide +kernel
theorem d100_22 : decode (mcode 100) 22 = .ok (.getfield 15, 3) := by decide +kernel
theorem d100_25 : decode (mcode 100) 25 = .ok (.iload_n 1, 1) := by decide +kernel
theorem d100_26 : decode (mcode 100) 26 = .ok (.iload_n 2, 1) := by decide +kernel
theorem d100_27 : decode (mcode 100) 27 = .ok (.ishr, 1) := by decide +kernel
theorem d100_28 : decode (mcode 100) 28 = .ok (.sipush 255, 3) := by decide +kernel
theorem d100_31 : decode (mcode 100) 31 = .ok (.iand, 1) := by decide +kernel
theorem d100_32 : decode (mcode 100) 32 = .ok (.iastore, 1) := by decide +kernel
theorem d100_33 : decode (mcode 100) 33 = .ok (.aload_n 0, 1) := by decide +kernel
theorem d100_34 : decode (mcode 100) 34 = .ok (.dup, 1) := by decide +kernel
theorem d100_35 : decode (mcode 100) 35 = .ok (.getfield 15, 3) := by decide +kernel
theorem d100_38 : decode (mcode 100) 38 = .ok (.iconst 1, 1) := by decide +kernel
theorem d100_39 : decode (mcode 100) 39 = .ok (.iadd, 1) := by decide +kernel
theorem d100_40 : decode (mcode 100) 40 = .ok (.putfield 15, 3) := by decide +kernel
theorem d100_43 : decode (mcode 100) 43 = .ok (.iinc 2 (-8), 3) := by decide +kernel
theorem d100_46 : decode (mcode 100) 46 = .ok (.goto (-43), 3) := by decide +kernel
theorem d100_49 : decode (mcode 100) 49 = .ok (.return_, 1) := by decide +kernel
theorem d101_0 : decode (mcode 101) 0 = .ok (.iconst 0, 1) := by decide +kernel
theorem d101_1 : decode (mcode 101) 1 = .ok (.istore_n 1, 1) := by decide +kernel
theorem d101_2 : decode (mcode 101) 2 = .ok (.iconst 0, 1) := by decide +kernel
theorem d101_3 : decode (mcode 101) 3 = .ok (.istore_n 2, 1) := by decide +kernel
theorem d101_4 : decode (mcode 101) 4 = .ok (.iconst 0, 1) := by decide +kernel
theorem d101_5 : decode (mcode 101) 5 = .ok (.istore_n 3, 1) := by decide +kernel
theorem d101_6 : decode (mcode 101) 6 = .ok (.iconst 0, 1) := by decide +kernel
theorem d101_7 : decode (mcode 101) 7 = .ok (.istore 4, 2) := by decide +kernel
theorem d101_9 : decode (mcode 101) 9 = .ok (.iload 4, 2) := by decide +kernel
theorem d101_11 : decode (mcode 101) 11 = .ok (.aload_n 0, 1) := by decide +kernel
theorem d101_12 : decode (mcode 101) 12 = .ok (.getfield 15, 3) := by decide +kernel
theorem d101_15 : decode (mcode 101) 15 = .ok (.if_icmp .ge 70, 3) := by decide +kernel
theorem d101_18 : decode (mcode 101) 18 = .ok (.aload_n 0, 1) := by decide +kernel
theorem d101_19 : decode (mcode 101) 19 = .ok (.getfield 9, 3) := by decide +kernel
theorem d101_22 : decode (mcode 101) 22 = .ok (.iload 4, 2) := by decide +kernel
theorem d101_24 : decode (mcode 101) 24 = .ok (.iaload, 1) := by decide +kernel
theorem d101_25 : decode (mcode 101) 25 = .ok (.bipush 59, 2) := by decide +kernel
theorem d101_27 : decode (mcode 101) 27 = .ok (.if_icmp .ne 30, 3) := by decide +kernel
theorem d101_30 : decode (mcode 101) 30 = .ok (.iload_n 3, 1) := by decide +kernel
theorem d101_31 : decode (mcode 101) 31 = .ok (.iload_n 2, 1) := by decide +kernel
theorem d101_32 : decode (mcode 101) 32 = .ok (.invokestatic 19, 3) := by decide +kernel
theorem d101_35 : decode (mcode 101) 35 = .ok (.ifCond .eq 9, 3) := by decide +kernel
theorem d101_38 : decode (mcode 101) 38 = .ok (.iload_n 1, 1) := by decide +kernel
theorem d101_39 : decode (mcode 101) 39 = .ok (.bipush 11, 2) := by decide +kernel
theorem d101_41 : decode (mcode 101) 41 = .ok (.if_icmp .ne 6, 3) := by decide +kernel
theorem d101_44 : decode (mcode 101) 44 = .ok (.iload 4, 2) := by decide +kernel
theorem d101_46 : decode (mcode 101) 46 = .ok (.ireturn, 1) := by decide +kernel
theorem d101_47 : decode (mcode 101) 47 = .ok (.iload_n 3, 1) := by decide +kernel
theorem d101_48 : decode (mcode 101) 48 = .ok (.istore_n 2, 1) := by decide +kernel
theorem d101_49 : decode (mcode 101) 49 = .ok (.iinc 1 1, 3) := by decide +kernel
theorem d101_52 : decode (mcode 101) 52 = .ok (.iconst 0, 1) := by decide +kernel
theorem d101_53 : decode (mcode 101) 53 = .ok (.istore_n 3, 1) := by decide +kernel
theorem d101_54 : decode (mcode 101) 54 = .ok (.goto 25, 3) := by decide +kernel
theorem d101_57 : decode (mcode 101) 57 = .ok (.iload_n 3, 1) := by decide +kernel
theorem d101_58 : decode (mcode 101) 58 = .ok (.bipush 24, 2) := by decide +kernel
theorem d101_60 : decode (mcode 101) 60 = .ok (.if_icmp .eq 13, 3) := by decide +kernel
theorem d101_63 : decode (mcode 101) 63 = .ok (.aload_n 0, 1) := by decide +kernel
theorem d101_64 : decode (mcode 101) 64 = .ok (.iload 4, 2) := by decide +kernel
theorem d101_66 : decode (mcode 101) 66 = .ok (.iload_n 3, 1) := by decide +kernel
theorem d101_67 : decode (mcode 101) 67 = .ok (.invokevirtual 23, 3) := by decide +kernel
theorem d101_70 : decode (mcode 101) 70 = .ok (.ifCond .ne 6, 3) := by decide +kernel
theorem d101_73 : decode (mcode 101) 73 = .ok (.iload 4, 2) := by decide +kernel
theorem d101_75 : decode (mcode 101) 75 = .ok (.ireturn, 1) := by decide +kernel
theorem d101_76 : decode (mcode 101) 76 = .ok (.iinc 3 1, 3) := by decide +kernel
theorem d101_79 : decode (mcode 101) 79 = .ok (.iinc 4 1, 3) := by decide +kernel
theorem d101_82 : decode (mcode 101) 82 = .ok (.goto (-73), 3) := by decide +kernel
theorem d101_85 : decode (mcode 101) 85 = .ok (.iload_n 3, 1) := by decide +kernel
theorem d101_86 : decode (mcode 101) 86 = .ok (.iload_n 2, 1) := by decide +kernel
theorem d101_87 : decode (mcode 101) 87 = .ok (.invokestatic 19, 3) := by decide +kernel
theorem d101_90 : decode (mcode 101) 90 = .ok (.ifCond .eq 7, 3) := by decide +kernel
theorem d101_93 : decode (mcode 101) 93 = .ok (.iload_n 1, 1) := by decide +kernel
theorem d101_94 : decode (mcode 101) 94 = .ok (.ifCond .ne 8, 3) := by decide +kernel
theorem d101_97 : decode (mcode 101) 97 = .ok (.aload_n 0, 1) := by decide +kernel
theorem d101_98 : decode (mcode 101) 98 = .ok (.getfield 15, 3) := by decide +kernel
theorem d101_101 : decode (mcode 101) 101 = .ok (.ireturn, 1) := by decide +kernel
theorem d101_102 : decode (mcode 101) 102 = .ok (.aload_n 0, 1) := by decide +kernel
theorem d101_103 : decode (mcode 101) 103 = .ok (.iload_n 1, 1) := by decide +kernel
theorem d101_104 : decode (mcode 101) 104 = .ok (.iconst 1, 1) := by decide +kernel
theorem d101_105 : decode (mcode 101) 105 = .ok (.iadd, 1) := by decide +kernel
theorem d101_106 : decode (mcode 101) 106 = .ok (.putfield 26, 3) := by decide +kernel
theorem d101_109 : decode (mcode 101) 109 = .ok (.aload_n 0, 1) := by decide +kernel
theorem d101_110 : decode (mcode 101) 110 = .ok (.iload_n 3, 1) := by decide +kernel
theorem d101_111 : decode (mcode 101) 111 = .ok (.iconst 2, 1) := by decide +kernel
theorem d101_112 : decode (mcode 101) 112 = .ok (.idiv, 1) := by decide +kernel
theorem d101_113 : decode (mcode 101) 113 = .ok (.putfield 29, 3) := by decide +kernel
theorem d101_116 : decode (mcode 101) 116 = .ok (.iconst (-1), 1) := by decide +kernel
theorem d101_117 : decode (mcode 101) 117 = .ok (.ireturn, 1) := by decide +kernel
theorem d102_0 : decode (mcode 102) 0 = .ok (.iload_n 0, 1) := by decide +kernel
theorem d102_1 : decode (mcode 102) 1 = .ok (.iconst 2, 1) := by decide +kernel
theorem d102_2 : decode (mcode 102) 2 = .ok (.irem, 1) := by decide +kernel
theorem d102_3 : decode (mcode 102) 3 = .ok (.ifCond .ne 21, 3) := by decide +kernel
theorem d102_6 : decode (mcode 102) 6 = .ok (.iload_n 0, 1) := by decide +kernel
theorem d102_7 : decode (mcode 102) 7 = .ok (.iconst 4, 1) := by decide +kernel
theorem d102_8 : decode (mcode 102) 8 = .ok (.if_icmp .lt 16, 3) := by decide +kernel
theorem d102_11 : decode (mcode 102) 11 = .ok (.iload_n 1, 1) := by decide +kernel
theorem d102_12 : decode (mcode 102) 12 = .ok (.ifCond .eq 8, 3) := by decide +kernel
theorem d102_15 : decode (mcode 102) 15 = .ok (.iload_n 0, 1) := by decide +kernel
theorem d102_16 : decode (mcode 102) 16 = .ok (.iload_n 1, 1) := by decide +kernel
theorem d102_17 : decode (mcode 102) 17 = .ok (.if_icmp .ne 7, 3) := by decide +kernel
theorem d102_20 : decode (mcode 102) 20 = .ok (.iconst 1, 1) := by decide +kernel
theorem d102_21 : decode (mcode 102) 21 = .ok (.goto 4, 3) := by decide +kernel
theorem d102_24 : decode (mcode 102) 24 = .ok (.iconst 0, 1) := by decide +kernel
theorem d102_25 : decode (mcode 102) 25 = .ok (.ireturn, 1) := by decide +kernel
theorem d103_0 : decode (mcode 103) 0 = .ok (.aload_n 0, 1) := by decide +kernel
theorem d103_1 : decode (mcode 103) 1 = .ok (.getfield 9, 3) := by decide +kernel
theorem d103_4 : decode (mcode 103) 4 = .ok (.iload_n 1, 1) := by decide +kernel
theorem d103_5 : decode (mcode 103) 5 = .ok (.iaload, 1) := by decide +kernel
theorem d103_6 : decode (mcode 103) 6 = .ok (.invokestatic 32, 3) := by decide +kernel
theorem d103_9 : decode (mcode 103) 9 = .ok (.iconst (-1), 1) := by decide +kernel
theorem d103_10 : decode (mcode 103) 10 = .ok (.if_icmp .eq 7, 3) := by decide +kernel
theorem d103_13 : decode (mcode 103) 13 = .ok (.iconst 1, 1) := by decide +kernel
theorem d103_14 : decode (mcode 103) 14 = .ok (.goto 4, 3) := by decide +kernel
theorem d103_17 : decode (mcode 103) 17 = .ok (.iconst 0, 1) := by decide +kernel
theorem d103_18 : decode (mcode 103) 18 = .ok (.istore_n 3, 1) := by decide +kernel
theorem d103_19 : decode (mcode 103) 19 = .ok (.iload_n 2, 1) := by decide +kernel
theorem d103_20 : decode (mcode 103) 20 = .ok (.iconst 2, 1) := by decide +kernel
theorem d103_21 : decode (mcode 103) 21 = .ok (.irem, 1) := by decide +kernel
theorem d103_22 : decode (mcode 103) 22 = .ok (.ifCond .eq 7, 3) := by decide +kernel
theorem d103_25 : decode (mcode 103) 25 = .ok (.iload_n 1, 1) := by decide +kernel
theorem d103_26 : decode (mcode 103) 26 = .ok (.ifCond .ne 24, 3) := by decide +kernel
theorem d103_29 : decode (mcode 103) 29 = .ok (.iload_n 3, 1) := by decide +kernel
theorem d103_30 : decode (mcode 103) 30 = .ok (.ifCond .ne 14, 3) := by decide +kernel
theorem d103_33 : decode (mcode 103) 33 = .ok (.aload_n 0, 1) := by decide +kernel
theorem d103_34 : decode (mcode 103) 34 = .ok (.getfield 9, 3) := by decide +kernel
theorem d103_37 : decode (mcode 103) 37 = .ok (.iload_n 1, 1) := by decide +kernel
theorem d103_38 : decode (mcode 103) 38 = .ok (.iaload, 1) := by decide +kernel
theorem d103_39 : decode (mcode 103) 39 = .ok (.bipush 46, 2) := by decide +kernel
theorem d103_41 : decode (mcode 103) 41 = .ok (.if_icmp .ne 7, 3) := by decide +kernel
theorem d103_44 : decode (mcode 103) 44 = .ok (.iconst 1, 1) := by decide +kernel
theorem d103_45 : decode (mcode 103) 45 = .ok (.goto 4, 3) := by decide +kernel
theorem d103_48 : decode (mcode 103) 48 = .ok (.iconst 0, 1) := by decide +kernel
theorem d103_49 : decode (mcode 103) 49 = .ok (.ireturn, 1) := by decide +kernel
theorem d103_50 : decode (mcode 103) 50 = .ok (.aload_n 0, 1) := by decide +kernel
theorem d103_51 : decode (mcode 103) 51 = .ok (.getfield 9, 3) := by decide +kernel
theorem d103_54 : decode (mcode 103) 54 = .ok (.iload_n 1, 1) := by decide +kernel
theorem d103_55 : decode (mcode 103) 55 = .ok (.iconst 1, 1) := by decide +kernel
theorem d103_56 : decode (mcode 103) 56 = .ok (.isub, 1) := by decide +kernel
theorem d103_57 : decode (mcode 103) 57 = .ok (.iaload, 1) := by decide +kernel
theorem d103_58 : decode (mcode 103) 58 = .ok (.bipush 46, 2) := by decide +kernel
theorem d103_60 : decode (mcode 103) 60 = .ok (.if_icmp .ne 22, 3) := by decide +kernel
theorem d103_63 : decode (mcode 103) 63 = .ok (.aload_n 0, 1) := by decide +kernel
theorem d103_64 : decode (mcode 103) 64 = .ok (.getfield 9, 3) := by decide +kernel
theorem d103_67 : decode (mcode 103) 67 = .ok (.iload_n 1, 1) := by decide +kernel
theorem d103_68 : decode (mcode 103) 68 = .ok (.iaload, 1) := by decide +kernel
theorem d103_69 : decode (mcode 103) 69 = .ok (.bipush 46, 2) := by decide +kernel
theorem d103_71 : decode (mcode 103) 71 = .ok (.if_icmp .ne 7, 3) := by decide +kernel
theorem d103_74 : decode (mcode 103) 74 = .ok (.iconst 1, 1) := by decide +kernel
theorem d103_75 : decode (mcode 103) 75 = .ok (.goto 8, 3) := by decide +kernel
theorem d103_78 : decode (mcode 103) 78 = .ok (.iconst 0, 1) := by decide +kernel
theorem d103_79 : decode (mcode 103) 79 = .ok (.goto 4, 3) := by decide +kernel
theorem d103_82 : decode (mcode 103) 82 = .ok (.iload_n 3, 1) := by decide +kernel
theorem d103_83 : decode (mcode 103) 83 = .ok (.ireturn, 1) := by decide +kernel
theorem d104_0 : decode (mcode 104) 0 = .ok (.iload_n 0, 1) := by decide +kernel
theorem d104_1 : decode (mcode 104) 1 = .ok (.bipush 48, 2) := by decide +kernel
theorem d104_3 : decode (mcode 104) 3 = .ok (.if_icmp .lt 14, 3) := by decide +kernel
theorem d104_6 : decode (mcode 104) 6 = .ok (.iload_n 0, 1) := by decide +kernel
theorem d104_7 : decode (mcode 104) 7 = .ok (.bipush 57, 2) := by decide +kernel
theorem d104_9 : decode (mcode 104) 9 = .ok (.if_icmp .gt 8, 3) := by decide +kernel
theorem d104_12 : decode (mcode 104) 12 = .ok (.iload_n 0, 1) := by decide +kernel
theorem d104_13 : decode (mcode 104) 13 = .ok (.bipush 48, 2) := by decide +kernel
theorem d104_15 : decode (mcode 104) 15 = .ok (.isub, 1) := by decide +kernel
theorem d104_16 : decode (mcode 104) 16 = .ok (.ireturn, 1) := by decide +kernel
theorem d104_17 : decode (mcode 104) 17 = .ok (.iload_n 0, 1) := by decide +kernel
theorem d104_18 : decode (mcode 104) 18 = .ok (.bipush 97, 2) := by decide +kernel
theorem d104_20 : decode (mcode 104) 20 = .ok (.if_icmp .lt 19, 3) := by decide +kernel
theorem d104_23 : decode (mcode 104) 23 = .ok (.iload_n 0, 1) := by decide +kernel
theorem d104_24 : decode (mcode 104) 24 = .ok (.bipush 102, 2) := by decide +kernel
theorem d104_26 : decode (mcode 104) 26 = .ok (.if_icmp .gt 13, 3) := by decide +kernel
theorem d104_29 : decode (mcode 104) 29 = .ok (.iload_n 0, 1) := by decide +kernel
theorem d104_30 : decode (mcode 104) 30 = .ok (.bipush 97, 2) := by decide +kernel
theorem d104_32 : decode (mcode 104) 32 = .ok (.isub, 1) := by decide +kernel
theorem d104_33 : decode (mcode 104) 33 = .ok (.bipush 10, 2) := by decide +kernel
theorem d104_35 : decode (mcode 104) 35 = .ok (.iadd, 1) := by decide +kernel
theorem d104_36 : decode (mcode 104) 36 = .ok (.goto 4, 3) := by decide +kernel
theorem d104_39 : decode (mcode 104) 39 = .ok (.iconst (-1), 1) := by decide +kernel
theorem d104_40 : decode (mcode 104) 40 = .ok (.ireturn, 1) := by decide +kernel
theorem d105_0 : decode (mcode 105) 0 = .ok (.iconst 0, 1) := by decide +kernel
theorem d105_1 : decode (mcode 105) 1 = .ok (.istore_n 2, 1) := by decide +kernel
theorem d105_2 : decode (mcode 105) 2 = .ok (.iconst 0, 1) := by decide +kernel
theorem d105_3 : decode (mcode 105) 3 = .ok (.istore_n 3, 1) := by decide +kernel
theorem d105_4 : decode (mcode 105) 4 = .ok (.iload_n 3, 1) := by decide +kernel
theorem d105_5 : decode (mcode 105) 5 = .ok (.aload_n 1, 1) := by decide +kernel
theorem d105_6 : decode (mcode 105) 6 = .ok (.invokevirtual 36, 3) := by decide +kernel
theorem d105_9 : decode (mcode 105) 9 = .ok (.if_icmp .ge 95, 3) := by decide +kernel
theorem d105_12 : decode (mcode 105) 12 = .ok (.iload_n 2, 1) := by decide +kernel
theorem d105_13 : decode (mcode 105) 13 = .ok (.iconst 1, 1) := by decide +kernel
theorem d105_14 : decode (mcode 105) 14 = .ok (.iadd, 1) := by decide +kernel
theorem d105_15 : decode (mcode 105) 15 = .ok (.aload_n 0, 1) := by decide +kernel
theorem d105_16 : decode (mcode 105) 16 = .ok (.getfield 15, 3) := by decide +kernel
theorem d105_19 : decode (mcode 105) 19 = .ok (.if_icmp .ge 85, 3) := by decide +kernel
theorem d105_22 : decode (mcode 105) 22 = .ok (.iload_n 3, 1) := by decide +kernel
theorem d105_23 : decode (mcode 105) 23 = .ok (.ifCond .le 14, 3) := by decide +kernel
theorem d105_26 : decode (mcode 105) 26 = .ok (.aload_n 1, 1) := by decide +kernel
theorem d105_27 : decode (mcode 105) 27 = .ok (.iload_n 3, 1) := by decide +kernel
theorem d105_28 : decode (mcode 105) 28 = .ok (.invokevirtual 42, 3) := by decide +kernel
theorem d105_31 : decode (mcode 105) 31 = .ok (.ifCond .ne 6, 3) := by decide +kernel
theorem d105_34 : decode (mcode 105) 34 = .ok (.iinc 2 1, 3) := by decide +kernel
theorem d105_37 : decode (mcode 105) 37 = .ok (.aload_n 0, 1) := by decide +kernel
theorem d105_38 : decode (mcode 105) 38 = .ok (.getfield 9, 3) := by decide +kernel
theorem d105_41 : decode (mcode 105) 41 = .ok (.iload_n 2, 1) := by decide +kernel
theorem d105_42 : decode (mcode 105) 42 = .ok (.iaload, 1) := by decide +kernel
theorem d105_43 : decode (mcode 105) 43 = .ok (.bipush 46, 2) := by decide +kernel
theorem d105_45 : decode (mcode 105) 45 = .ok (.if_icmp .ne 13, 3) := by decide +kernel
theorem d105_48 : decode (mcode 105) 48 = .ok (.aload_n 1, 1) := by decide +kernel
theorem d105_49 : decode (mcode 105) 49 = .ok (.getfield 45, 3) := by decide +kernel
theorem d105_52 : decode (mcode 105) 52 = .ok (.iload_n 3, 1) := by decide +kernel
theorem d105_53 : decode (mcode 105) 53 = .ok (.iconst 1, 1) := by decide +kernel
theorem d105_54 : decode (mcode 105) 54 = .ok (.bastore, 1) := by decide +kernel
theorem d105_55 : decode (mcode 105) 55 = .ok (.goto 40, 3) := by decide +kernel
theorem d105_58 : decode (mcode 105) 58 = .ok (.aload_n 1, 1) := by decide +kernel
theorem d105_59 : decode (mcode 105) 59 = .ok (.getfield 49, 3) := by decide +kernel
theorem d105_62 : decode (mcode 105) 62 = .ok (.iload_n 3, 1) := by decide +kernel
theorem d105_63 : decode (mcode 105) 63 = .ok (.aload_n 0, 1) := by decide +kernel
theorem d105_64 : decode (mcode 105) 64 = .ok (.getfield 9, 3) := by decide +kernel
theorem d105_67 : decode (mcode 105) 67 = .ok (.iload_n 2, 1) := by decide +kernel
theorem d105_68 : decode (mcode 105) 68 = .ok (.iaload, 1) := by decide +kernel
theorem d105_69 : decode (mcode 105) 69 = .ok (.invokestatic 32, 3) := by decide +kernel
theorem d105_72 : decode (mcode 105) 72 = .ok (.bipush 16, 2) := by decide +kernel
theorem d105_74 : decode (mcode 105) 74 = .ok (.imul, 1) := by decide +kernel
theorem d105_75 : decode (mcode 105) 75 = .ok (.aload_n 0, 1) := by decide +kernel
theorem d105_76 : decode (mcode 105) 76 = .ok (.getfield 9, 3) := by decide +kernel
theorem d105_79 : decode (mcode 105) 79 = .ok (.iload_n 2, 1) := by decide +kernel
theorem d105_80 : decode (mcode 105) 80 = .ok (.iconst 1, 1) := by decide +kernel
theorem d105_81 : decode (mcode 105) 81 = .ok (.iadd, 1) := by decide +kernel
theorem d105_82 : decode (mcode 105) 82 = .ok (.iaload, 1) := by decide +kernel
theorem d105_83 : decode (mcode 105) 83 = .ok (.invokestatic 32, 3) := by decide +kernel
theorem d105_86 : decode (mcode 105) 86 = .ok (.iadd, 1) := by decide +kernel
theorem d105_87 : decode (mcode 105) 87 = .ok (.sipush 128, 3) := by decide +kernel
theorem d105_90 : decode (mcode 105) 90 = .ok (.isub, 1) := by decide +kernel
theorem d105_91 : decode (mcode 105) 91 = .ok (.invokestatic 52, 3) := by decide +kernel
theorem d105_94 : decode (mcode 105) 94 = .ok (.iastore, 1) := by decide +kernel
theorem d105_95 : decode (mcode 105) 95 = .ok (.iinc 2 2, 3) := by decide +kernel
theorem d105_98 : decode (mcode 105) 98 = .ok (.iinc 3 1, 3) := by decide +kernel
theorem d105_101 : decode (mcode 105) 101 = .ok (.goto (-97), 3) := by decide +kernel
theorem d105_104 : decode (mcode 105) 104 = .ok (.return_, 1) := by decide +kernel
theorem d106_0 : decode (mcode 106) 0 = .ok (.aload_n 0, 1) := by decide +kernel
theorem d106_1 : decode (mcode 106) 1 = .ok (.invokespecial 3, 3) := by decide +kernel
theorem d106_4 : decode (mcode 106) 4 = .ok (.aload_n 0, 1) := by decide +kernel
theorem d106_5 : decode (mcode 106) 5 = .ok (.aload_n 1, 1) := by decide +kernel
theorem d106_6 : decode (mcode 106) 6 = .ok (.putfield 9, 3) := by decide +kernel
theorem d106_9 : decode (mcode 106) 9 = .ok (.aload_n 0, 1) := by decide +kernel
theorem d106_10 : decode (mcode 106) 10 = .ok (.new 15, 3) := by decide +kernel
theorem d106_13 : decode (mcode 106) 13 = .ok (.dup, 1) := by decide +kernel
theorem d106_14 : decode (mcode 106) 14 = .ok (.invokespecial 17, 3) := by decide +kernel
theorem d106_17 : decode (mcode 106) 17 = .ok (.putfield 18, 3) := by decide +kernel
theorem d106_20 : decode (mcode 106) 20 = .ok (.aload_n 0, 1) := by decide +kernel
theorem d106_21 : decode (mcode 106) 21 = .ok (.new 22, 3) := by decide +kernel
theorem d106_24 : decode (mcode 106) 24 = .ok (.dup, 1) := by decide +kernel
theorem d106_25 : decode (mcode 106) 25 = .ok (.invokespecial 24, 3) := by decide +kernel
theorem d106_28 : decode (mcode 106) 28 = .ok (.putfield 25, 3) := by decide +kernel
theorem d106_31 : decode (mcode 106) 31 = .ok (.return_, 1) := by decide +kernel
theorem d107_0 : decode (mcode 107) 0 = .ok (.aload_n 0, 1) := by decide +kernel
theorem d107_1 : decode (mcode 107) 1 = .ok (.getfield 9, 3) := by decide +kernel
theorem d107_4 : decode (mcode 107) 4 = .ok (.aload_n 1, 1) := by decide +kernel
theorem d107_5 : decode (mcode 107) 5 = .ok (.getfield 9, 3) := by decide +kernel
theorem d107_8 : decode (mcode 107) 8 = .ok (.invokevirtual 29, 3) := by decide +kernel
theorem d107_11 : decode (mcode 107) 11 = .ok (.aload_n 0, 1) := by decide +kernel
theorem d107_12 : decode (mcode 107) 12 = .ok (.getfield 18, 3) := by decide +kernel
theorem d107_15 : decode (mcode 107) 15 = .ok (.aload_n 1, 1) := by decide +kernel
theorem d107_16 : decode (mcode 107) 16 = .ok (.getfield 18, 3) := by decide +kernel
theorem d107_19 : decode (mcode 107) 19 = .ok (.invokevirtual 35, 3) := by decide +kernel
theorem d107_22 : decode (mcode 107) 22 = .ok (.aload_n 0, 1) := by decide +kernel
theorem d107_23 : decode (mcode 107) 23 = .ok (.getfield 25, 3) := by decide +kernel
theorem d107_26 : decode (mcode 107) 26 = .ok (.aload_n 1, 1) := by decide +kernel
theorem d107_27 : decode (mcode 107) 27 = .ok (.getfield 25, 3) := by decide +kernel
theorem d107_30 : decode (mcode 107) 30 = .ok (.invokevirtual 38, 3) := by decide +kernel
theorem d107_33 : decode (mcode 107) 33 = .ok (.return_, 1) := by decide +kernel
theorem d108_0 : decode (mcode 108) 0 = .ok (.aload_n 0, 1) := by decide +kernel
theorem d108_1 : decode (mcode 108) 1 = .ok (.getfield 9, 3) := by decide +kernel
theorem d108_4 : decode (mcode 108) 4 = .ok (.iload_n 1, 1) := by decide +kernel
theorem d108_5 : decode (mcode 108) 5 = .ok (.iload_n 2, 1) := by decide +kernel
theorem d108_6 : decode (mcode 108) 6 = .ok (.invokevirtual 41, 3) := by decide +kernel
theorem d108_9 : decode (mcode 108) 9 = .ok (.aload_n 0, 1) := by decide +kernel
theorem d108_10 : decode (mcode 108) 10 = .ok (.getfield 18, 3) := by decide +kernel
theorem d108_13 : decode (mcode 108) 13 = .ok (.invokevirtual 45, 3) := by decide +kernel
theorem d108_16 : decode (mcode 108) 16 = .ok (.aload_n 0, 1) := by decide +kernel
theorem d108_17 : decode (mcode 108) 17 = .ok (.getfield 25, 3) := by decide +kernel
theorem d108_20 : decode (mcode 108) 20 = .ok (.invokevirtual 48, 3) := by decide +kernel
theorem d108_23 : decode (mcode 108) 23 = .ok (.return_, 1) := by decide +kernel
theorem d109_0 : decode (mcode 109) 0 = .ok (.aload_n 0, 1) := by decide +kernel
theorem d109_1 : decode (mcode 109) 1 = .ok (.getfield 9, 3) := by decide +kernel
theorem d109_4 : decode (mcode 109) 4 = .ok (.getfield 49, 3) := by decide +kernel
theorem d109_7 : decode (mcode 109) 7 = .ok (.iload_n 1, 1) := by decide +kernel
theorem d109_8 : decode (mcode 109) 8 = .ok (.baload, 1) := by decide +kernel
theorem d109_9 : decode (mcode 109) 9 = .ok (.ifCond .ne 15, 3) := by decide +kernel
theorem d109_12 : decode (mcode 109) 12 = .ok (.aload_n 0, 1) := by decide +kernel
theorem d109_13 : decode (mcode 109) 13 = .ok (.getfield 18, 3) := by decide +kernel
theorem d109_16 : decode (mcode 109) 16 = .ok (.getfield 53, 3) := by decide +kernel
theorem d109_19 : decode (mcode 109) 19 = .ok (.iload_n 1, 1) := by decide +kernel
theorem d109_20 : decode (mcode 109) 20 = .ok (.iaload, 1) := by decide +kernel
theorem d109_21 : decode (mcode 109) 21 = .ok (.ifCond .le 7, 3) := by decide +kernel
theorem d109_24 : decode (mcode 109) 24 = .ok (.iconst 1, 1) := by decide +kernel
theorem d109_25 : decode (mcode 109) 25 = .ok (.goto 4, 3) := by decide +kernel
theorem d109_28 : decode (mcode 109) 28 = .ok (.iconst 0, 1) := by decide +kernel
theorem d109_29 : decode (mcode 109) 29 = .ok (.ireturn, 1) := by decide +kernel
theorem d110_0 : decode (mcode 110) 0 = .ok (.iconst 0, 1) := by decide +kernel
theorem d110_1 : decode (mcode 110) 1 = .ok (.istore_n 1, 1) := by decide +kernel
theorem d110_2 : decode (mcode 110) 2 = .ok (.iconst 0, 1) := by decide +kernel
theorem d110_3 : decode (mcode 110) 3 = .ok (.istore_n 2, 1) := by decide +kernel
theorem d110_4 : decode (mcode 110) 4 = .ok (.iload_n 2, 1) := by decide +kernel
theorem d110_5 : decode (mcode 110) 5 = .ok (.iconst 2, 1) := by decide +kernel
theorem d110_6 : decode (mcode 110) 6 = .ok (.aload_n 0, 1) := by decide +kernel
theorem d110_7 : decode (mcode 110) 7 = .ok (.getfield 9, 3) := by decide +kernel
theorem d110_10 : decode (mcode 110) 10 = .ok (.invokevirtual 57, 3) := by decide +kernel
theorem d110_13 : decode (mcode 110) 13 = .ok (.imul, 1) := by decide +kernel
theorem d110_14 : decode (mcode 110) 14 = .ok (.if_icmp .ge 20, 3) := by decide +kernel
theorem d110_17 : decode (mcode 110) 17 = .ok (.aload_n 0, 1) := by decide +kernel
theorem d110_18 : decode (mcode 110) 18 = .ok (.iload_n 2, 1) := by decide +kernel
theorem d110_19 : decode (mcode 110) 19 = .ok (.invokevirtual 61, 3) := by decide +kernel
theorem d110_22 : decode (mcode 110) 22 = .ok (.ifCond .eq 6, 3) := by decide +kernel
theorem d110_25 : decode (mcode 110) 25 = .ok (.iinc 1 1, 3) := by decide +kernel
theorem d110_28 : decode (mcode 110) 28 = .ok (.iinc 2 1, 3) := by decide +kernel
theorem d110_31 : decode (mcode 110) 31 = .ok (.goto (-27), 3) := by decide +kernel
theorem d110_34 : decode (mcode 110) 34 = .ok (.iload_n 1, 1) := by decide +kernel
theorem d110_35 : decode (mcode 110) 35 = .ok (.ireturn, 1) := by decide +kernel
theorem d111_0 : decode (mcode 111) 0 = .ok (.aload_n 0, 1) := by decide +kernel
theorem d111_1 : decode (mcode 111) 1 = .ok (.iload_n 1, 1) := by decide +kernel
theorem d111_2 : decode (mcode 111) 2 = .ok (.invokevirtual 61, 3) := by decide +kernel
theorem d111_5 : decode (mcode 111) 5 = .ok (.ifCond .ne 15, 3) := by decide +kernel
theorem d111_8 : decode (mcode 111) 8 = .ok (.aload_n 0, 1) := by decide +kernel
theorem d111_9 : decode (mcode 111) 9 = .ok (.iload_n 1, 1) := by decide +kernel
theorem d111_10 : decode (mcode 111) 10 = .ok (.invokevirtual 65, 3) := by decide +kernel
theorem d111_13 : decode (mcode 111) 13 = .ok (.ifCond .eq 7, 3) := by decide +kernel
theorem d111_16 : decode (mcode 111) 16 = .ok (.iconst 1, 1) := by decide +kernel
theorem d111_17 : decode (mcode 111) 17 = .ok (.goto 4, 3) := by decide +kernel
theorem d111_20 : decode (mcode 111) 20 = .ok (.iconst 0, 1) := by decide +kernel
theorem d111_21 : decode (mcode 111) 21 = .ok (.ireturn, 1) := by decide +kernel
theorem d112_0 : decode (mcode 112) 0 = .ok (.aload_n 0, 1) := by decide +kernel
theorem d112_1 : decode (mcode 112) 1 = .ok (.iload_n 1, 1) := by decide +kernel
theorem d112_2 : decode (mcode 112) 2 = .ok (.invokevirtual 61, 3) := by decide +kernel
theorem d112_5 : decode (mcode 112) 5 = .ok (.ifCond .eq 50, 3) := by decide +kernel
theorem d112_8 : decode (mcode 112) 8 = .ok (.aload_n 0, 1) := by decide +kernel
theorem d112_9 : decode (mcode 112) 9 = .ok (.getfield 25, 3) := by decide +kernel
theorem d112_12 : decode (mcode 112) 12 = .ok (.getfield 68, 3) := by decide +kernel
theorem d112_15 : decode (mcode 112) 15 = .ok (.aload_n 0, 1) := by decide +kernel
theorem d112_16 : decode (mcode 112) 16 = .ok (.getfield 9, 3) := by decide +kernel
theorem d112_19 : decode (mcode 112) 19 = .ok (.iload_n 1, 1) := by decide +kernel
theorem d112_20 : decode (mcode 112) 20 = .ok (.invokevirtual 71, 3) := by decide +kernel
theorem d112_23 : decode (mcode 112) 23 = .ok (.iaload, 1) := by decide +kernel
theorem d112_24 : decode (mcode 112) 24 = .ok (.aload_n 0, 1) := by decide +kernel
theorem d112_25 : decode (mcode 112) 25 = .ok (.getfield 25, 3) := by decide +kernel
theorem d112_28 : decode (mcode 112) 28 = .ok (.getfield 68, 3) := by decide +kernel
theorem d112_31 : decode (mcode 112) 31 = .ok (.aload_n 0, 1) := by decide +kernel
theorem d112_32 : decode (mcode 112) 32 = .ok (.getfield 9, 3) := by decide +kernel
theorem d112_35 : decode (mcode 112) 35 = .ok (.iload_n 1, 1) := by decide +kernel
theorem d112_36 : decode (mcode 112) 36 = .ok (.invokevirtual 75, 3) := by decide +kernel
theorem d112_39 : decode (mcode 112) 39 = .ok (.iaload, 1) := by decide +kernel
theorem d112_40 : decode (mcode 112) 40 = .ok (.if_icmp .ne 15, 3) := by decide +kernel
theorem d112_43 : decode (mcode 112) 43 = .ok (.aload_n 0, 1) := by decide +kernel
theorem d112_44 : decode (mcode 112) 44 = .ok (.iload_n 1, 1) := by decide +kernel
theorem d112_45 : decode (mcode 112) 45 = .ok (.invokevirtual 65, 3) := by decide +kernel
theorem d112_48 : decode (mcode 112) 48 = .ok (.ifCond .eq 7, 3) := by decide +kernel
theorem d112_51 : decode (mcode 112) 51 = .ok (.iconst 1, 1) := by decide +kernel
theorem d112_52 : decode (mcode 112) 52 = .ok (.goto 4, 3) := by decide +kernel
theorem d112_55 : decode (mcode 112) 55 = .ok (.iconst 0, 1) := by decide +kernel
theorem d112_56 : decode (mcode 112) 56 = .ok (.ireturn, 1) := by decide +kernel
theorem d113_0 : decode (mcode 113) 0 = .ok (.aload_n 0, 1) := by decide +kernel
theorem d113_1 : decode (mcode 113) 1 = .ok (.getfield 9, 3) := by decide +kernel
theorem d113_4 : decode (mcode 113) 4 = .ok (.iload_n 1, 1) := by decide +kernel
theorem d113_5 : decode (mcode 113) 5 = .ok (.invokevirtual 71, 3) := by decide +kernel
theorem d113_8 : decode (mcode 113) 8 = .ok (.istore_n 2, 1) := by decide +kernel
theorem d113_9 : decode (mcode 113) 9 = .ok (.aload_n 0, 1) := by decide +kernel
theorem d113_10 : decode (mcode 113) 10 = .ok (.getfield 9, 3) := by decide +kernel
theorem d113_13 : decode (mcode 113) 13 = .ok (.iload_n 1, 1) := by decide +kernel
theorem d113_14 : decode (mcode 113) 14 = .ok (.invokevirtual 75, 3) := by decide +kernel
theorem d113_17 : decode (mcode 113) 17 = .ok (.istore_n 3, 1) := by decide +kernel
theorem d113_18 : decode (mcode 113) 18 = .ok (.aload_n 0, 1) := by decide +kernel
theorem d113_19 : decode (mcode 113) 19 = .ok (.getfield 25, 3) := by decide +kernel
theorem d113_22 : decode (mcode 113) 22 = .ok (.iload_n 2, 1) := by decide +kernel
theorem d113_23 : decode (mcode 113) 23 = .ok (.invokevirtual 78, 3) := by decide +kernel
theorem d113_26 : decode (mcode 113) 26 = .ok (.ifCond .eq 14, 3) := by decide +kernel
theorem d113_29 : decode (mcode 113) 29 = .ok (.aload_n 0, 1) := by decide +kernel
theorem d113_30 : decode (mcode 113) 30 = .ok (.getfield 25, 3) := by decide +kernel
theorem d113_33 : decode (mcode 113) 33 = .ok (.iload_n 3, 1) := by decide +kernel
theorem d113_34 : decode (mcode 113) 34 = .ok (.invokevirtual 78, 3) := by decide +kernel
theorem d113_37 : decode (mcode 113) 37 = .ok (.ifCond .ne 5, 3) := by decide +kernel
theorem d113_40 : decode (mcode 113) 40 = .ok (.iconst 0, 1) := by decide +kernel
theorem d113_41 : decode (mcode 113) 41 = .ok (.ireturn, 1) := by decide +kernel
theorem d113_42 : decode (mcode 113) 42 = .ok (.aload_n 0, 1) := by decide +kernel
theorem d113_43 : decode (mcode 113) 43 = .ok (.getfield 25, 3) := by decide +kernel
theorem d113_46 : decode (mcode 113) 46 = .ok (.getfield 81, 3) := by decide +kernel
theorem d113_49 : decode (mcode 113) 49 = .ok (.iload_n 3, 1) := by decide +kernel
theorem d113_50 : decode (mcode 113) 50 = .ok (.iaload, 1) := by decide +kernel
theorem d113_51 : decode (mcode 113) 51 = .ok (.aload_n 0, 1) := by decide +kernel
theorem d113_52 : decode (mcode 113) 52 = .ok (.getfield 25, 3) := by decide +kernel
theorem d113_55 : decode (mcode 113) 55 = .ok (.getfield 81, 3) := by decide +kernel
theorem d113_58 : decode (mcode 113) 58 = .ok (.iload_n 2, 1) := by decide +kernel
theorem d113_59 : decode (mcode 113) 59 = .ok (.iaload, 1) := by decide +kernel
theorem d113_60 : decode (mcode 113) 60 = .ok (.isub, 1) := by decide +kernel
theorem d113_61 : decode (mcode 113) 61 = .ok (.aload_n 0, 1) := by decide +kernel
theorem d113_62 : decode (mcode 113) 62 = .ok (.getfield 9, 3) := by decide +kernel
theorem d113_65 : decode (mcode 113) 65 = .ok (.iload_n 2, 1) := by decide +kernel
theorem d113_66 : decode (mcode 113) 66 = .ok (.iload_n 3, 1) := by decide +kernel
theorem d113_67 : decode (mcode 113) 67 = .ok (.invokevirtual 84, 3) := by decide +kernel
theorem d113_70 : decode (mcode 113) 70 = .ok (.if_icmp .eq 7, 3) := by decide +kernel
theorem d113_73 : decode (mcode 113) 73 = .ok (.iconst 1, 1) := by decide +kernel
theorem d113_74 : decode (mcode 113) 74 = .ok (.goto 4, 3) := by decide +kernel
theorem d113_77 : decode (mcode 113) 77 = .ok (.iconst 0, 1) := by decide +kernel
theorem d113_78 : decode (mcode 113) 78 = .ok (.ireturn, 1) := by decide +kernel
theorem d114_0 : decode (mcode 114) 0 = .ok (.iconst 0, 1) := by decide +kernel
theorem d114_1 : decode (mcode 114) 1 = .ok (.istore_n 1, 1) := by decide +kernel
theorem d114_2 : decode (mcode 114) 2 = .ok (.iconst 0, 1) := by decide +kernel
theorem d114_3 : decode (mcode 114) 3 = .ok (.istore_n 2, 1) := by decide +kernel
theorem d114_4 : decode (mcode 114) 4 = .ok (.iload_n 2, 1) := by decide +kernel
theorem d114_5 : decode (mcode 114) 5 = .ok (.iconst 2, 1) := by decide +kernel
theorem d114_6 : decode (mcode 114) 6 = .ok (.aload_n 0, 1) := by decide +kernel
theorem d114_7 : decode (mcode 114) 7 = .ok (.getfield 9, 3) := by decide +kernel
theorem d114_10 : decode (mcode 114) 10 = .ok (.invokevirtual 57, 3) := by decide +kernel
theorem d114_13 : decode (mcode 114) 13 = .ok (.imul, 1) := by decide +kernel
theorem d114_14 : decode (mcode 114) 14 = .ok (.if_icmp .ge 31, 3) := by decide +kernel
theorem d114_17 : decode (mcode 114) 17 = .ok (.aload_n 0, 1) := by decide +kernel
theorem d114_18 : decode (mcode 114) 18 = .ok (.getfield 9, 3) := by decide +kernel
theorem d114_21 : decode (mcode 114) 21 = .ok (.iload_n 2, 1) := by decide +kernel
theorem d114_22 : decode (mcode 114) 22 = .ok (.invokevirtual 88, 3) := by decide +kernel
theorem d114_25 : decode (mcode 114) 25 = .ok (.ifCond .eq 14, 3) := by decide +kernel
theorem d114_28 : decode (mcode 114) 28 = .ok (.aload_n 0, 1) := by decide +kernel
theorem d114_29 : decode (mcode 114) 29 = .ok (.iload_n 2, 1) := by decide +kernel
theorem d114_30 : decode (mcode 114) 30 = .ok (.invokevirtual 91, 3) := by decide +kernel
theorem d114_33 : decode (mcode 114) 33 = .ok (.ifCond .eq 6, 3) := by decide +kernel
theorem d114_36 : decode (mcode 114) 36 = .ok (.iinc 1 1, 3) := by decide +kernel
theorem d114_39 : decode (mcode 114) 39 = .ok (.iinc 2 1, 3) := by decide +kernel
theorem d114_42 : decode (mcode 114) 42 = .ok (.goto (-38), 3) := by decide +kernel
theorem d114_45 : decode (mcode 114) 45 = .ok (.iload_n 1, 1) := by decide +kernel
theorem d114_46 : decode (mcode 114) 46 = .ok (.ireturn, 1) := by decide +kernel
theorem d115_0 : decode (mcode 115) 0 = .ok (.iconst 0, 1) := by decide +kernel
theorem d115_1 : decode (mcode 115) 1 = .ok (.istore_n 1, 1) := by decide +kernel
theorem d115_2 : decode (mcode 115) 2 = .ok (.iconst 0, 1) := by decide +kernel
theorem d115_3 : decode (mcode 115) 3 = .ok (.istore_n 2, 1) := by decide +kernel
theorem d115_4 : decode (mcode 115) 4 = .ok (.iload_n 2, 1) := by decide +kernel
theorem d115_5 : decode (mcode 115) 5 = .ok (.iconst 2, 1) := by decide +kernel
theorem d115_6 : decode (mcode 115) 6 = .ok (.aload_n 0, 1) := by decide +kernel
theorem d115_7 : decode (mcode 115) 7 = .ok (.getfield 9, 3) := by decide +kernel
theorem d115_10 : decode (mcode 115) 10 = .ok (.invokevirtual 57, 3) := by decide +kernel
theorem d115_13 : decode (mcode 115) 13 = .ok (.imul, 1) := by decide +kernel
theorem d115_14 : decode (mcode 115) 14 = .ok (.if_icmp .ge 31, 3) := by decide +kernel
theorem d115_17 : decode (mcode 115) 17 = .ok (.aload_n 0, 1) := by decide +kernel
theorem d115_18 : decode (mcode 115) 18 = .ok (.getfield 9, 3) := by decide +kernel
theorem d115_21 : decode (mcode 115) 21 = .ok (.iload_n 2, 1) := by decide +kernel
theorem d115_22 : decode (mcode 115) 22 = .ok (.invokevirtual 88, 3) := by decide +kernel
theorem d115_25 : decode (mcode 115) 25 = .ok (.ifCond .eq 14, 3) := by decide +kernel
theorem d115_28 : decode (mcode 115) 28 = .ok (.aload_n 0, 1) := by decide +kernel
theorem d115_29 : decode (mcode 115) 29 = .ok (.iload_n 2, 1) := by decide +kernel
theorem d115_30 : decode (mcode 115) 30 = .ok (.invokevirtual 94, 3) := by decide +kernel
theorem d115_33 : decode (mcode 115) 33 = .ok (.ifCond .eq 6, 3) := by decide +kernel
theorem d115_36 : decode (mcode 115) 36 = .ok (.iinc 1 1, 3) := by decide +kernel
theorem d115_39 : decode (mcode 115) 39 = .ok (.iinc 2 1, 3) := by decide +kernel
theorem d115_42 : decode (mcode 115) 42 = .ok (.goto (-38), 3) := by decide +kernel
theorem d115_45 : decode (mcode 115) 45 = .ok (.iload_n 1, 1) := by decide +kernel
theorem d115_46 : decode (mcode 115) 46 = .ok (.ireturn, 1) := by decide +kernel
theorem d116_0 : decode (mcode 116) 0 = .ok (.iconst 0, 1) := by decide +kernel
theorem d116_1 : decode (mcode 116) 1 = .ok (.istore_n 2, 1) := by decide +kernel
theorem d116_2 : decode (mcode 116) 2 = .ok (.iconst 0, 1) := by decide +kernel
theorem d116_3 : decode (mcode 116) 3 = .ok (.istore_n 3, 1) := by decide +kernel
theorem d116_4 : decode (mcode 116) 4 = .ok (.iload_n 3, 1) := by decide +kernel
theorem d116_5 : decode (mcode 116) 5 = .ok (.iconst 2, 1) := by decide +kernel
theorem d116_6 : decode (mcode 116) 6 = .ok (.aload_n 0, 1) := by decide +kernel
theorem d116_7 : decode (mcode 116) 7 = .ok (.getfield 9, 3) := by decide +kernel
theorem d116_10 : decode (mcode 116) 10 = .ok (.invokevirtual 57, 3) := by decide +kernel
theorem d116_13 : decode (mcode 116) 13 = .ok (.imul, 1) := by decide +kernel
theorem d116_14 : decode (mcode 116) 14 = .ok (.if_icmp .ge 90, 3) := by decide +kernel
theorem d116_17 : decode (mcode 116) 17 = .ok (.aload_n 0, 1) := by decide +kernel
theorem d116_18 : decode (mcode 116) 18 = .ok (.getfield 9, 3) := by decide +kernel
theorem d116_21 : decode (mcode 116) 21 = .ok (.iload_n 3, 1) := by decide +kernel
theorem d116_22 : decode (mcode 116) 22 = .ok (.invokevirtual 88, 3) := by decide +kernel
theorem d116_25 : decode (mcode 116) 25 = .ok (.ifCond .eq 73, 3) := by decide +kernel
theorem d116_28 : decode (mcode 116) 28 = .ok (.aload_n 0, 1) := by decide +kernel
theorem d116_29 : decode (mcode 116) 29 = .ok (.getfield 25, 3) := by decide +kernel
theorem d116_32 : decode (mcode 116) 32 = .ok (.getfield 68, 3) := by decide +kernel
theorem d116_35 : decode (mcode 116) 35 = .ok (.aload_n 0, 1) := by decide +kernel
theorem d116_36 : decode (mcode 116) 36 = .ok (.getfield 9, 3) := by decide +kernel
theorem d116_39 : decode (mcode 116) 39 = .ok (.iload_n 3, 1) := by decide +kernel
theorem d116_40 : decode (mcode 116) 40 = .ok (.invokevirtual 71, 3) := by decide +kernel
theorem d116_43 : decode (mcode 116) 43 = .ok (.iaload, 1) := by decide +kernel
theorem d116_44 : decode (mcode 116) 44 = .ok (.istore 4, 2) := by decide +kernel
theorem d116_46 : decode (mcode 116) 46 = .ok (.aload_n 0, 1) := by decide +kernel
theorem d116_47 : decode (mcode 116) 47 = .ok (.getfield 25, 3) := by decide +kernel
theorem d116_50 : decode (mcode 116) 50 = .ok (.getfield 68, 3) := by decide +kernel
theorem d116_53 : decode (mcode 116) 53 = .ok (.aload_n 0, 1) := by decide +kernel
theorem d116_54 : decode (mcode 116) 54 = .ok (.getfield 9, 3) := by decide +kernel
theorem d116_57 : decode (mcode 116) 57 = .ok (.iload_n 3, 1) := by decide +kernel
theorem d116_58 : decode (mcode 116) 58 = .ok (.invokevirtual 75, 3) := by decide +kernel
theorem d116_61 : decode (mcode 116) 61 = .ok (.iaload, 1) := by decide +kernel
theorem d116_62 : decode (mcode 116) 62 = .ok (.istore 5, 2) := by decide +kernel
theorem d116_64 : decode (mcode 116) 64 = .ok (.iload 4, 2) := by decide +kernel
theorem d116_66 : decode (mcode 116) 66 = .ok (.iload 5, 2) := by decide +kernel
theorem d116_68 : decode (mcode 116) 68 = .ok (.if_icmp .eq 30, 3) := by decide +kernel
theorem d116_71 : decode (mcode 116) 71 = .ok (.iload 4, 2) := by decide +kernel
theorem d116_73 : decode (mcode 116) 73 = .ok (.iconst (-1), 1) := by decide +kernel
theorem d116_74 : decode (mcode 116) 74 = .ok (.if_icmp .eq 24, 3) := by decide +kernel
theorem d116_77 : decode (mcode 116) 77 = .ok (.iload 5, 2) := by decide +kernel
theorem d116_79 : decode (mcode 116) 79 = .ok (.iconst (-1), 1) := by decide +kernel
theorem d116_80 : decode (mcode 116) 80 = .ok (.if_icmp .eq 18, 3) := by decide +kernel
theorem d116_83 : decode (mcode 116) 83 = .ok (.iload 4, 2) := by decide +kernel
theorem d116_85 : decode (mcode 116) 85 = .ok (.iload_n 1, 1) := by decide +kernel
theorem d116_86 : decode (mcode 116) 86 = .ok (.if_icmp .eq 9, 3) := by decide +kernel
theorem d116_89 : decode (mcode 116) 89 = .ok (.iload 5, 2) := by decide +kernel
theorem d116_91 : decode (mcode 116) 91 = .ok (.iload_n 1, 1) := by decide +kernel
theorem d116_92 : decode (mcode 116) 92 = .ok (.if_icmp .ne 6, 3) := by decide +kernel
theorem d116_95 : decode (mcode 116) 95 = .ok (.iinc 2 1, 3) := by decide +kernel
theorem d116_98 : decode (mcode 116) 98 = .ok (.iinc 3 1, 3) := by decide +kernel
theorem d116_101 : decode (mcode 116) 101 = .ok (.goto (-97), 3) := by decide +kernel
theorem d116_104 : decode (mcode 116) 104 = .ok (.iload_n 2, 1) := by decide +kernel
theorem d116_105 : decode (mcode 116) 105 = .ok (.ireturn, 1) := by decide +kernel
theorem d117_0 : decode (mcode 117) 0 = .ok (.aload_n 0, 1) := by decide +kernel
theorem d117_1 : decode (mcode 117) 1 = .ok (.invokespecial 3, 3) := by decide +kernel
theorem d117_4 : decode (mcode 117) 4 = .ok (.aload_n 0, 1) := by decide +kernel
theorem d117_5 : decode (mcode 117) 5 = .ok (.new 9, 3) := by decide +kernel
theorem d117_8 : decode (mcode 117) 8 = .ok (.dup, 1) := by decide +kernel
theorem d117_9 : decode (mcode 117) 9 = .ok (.new 11, 3) := by decide +kernel
theorem d117_12 : decode (mcode 117) 12 = .ok (.dup, 1) := by decide +kernel
theorem d117_13 : decode (mcode 117) 13 = .ok (.invokespecial 13, 3) := by decide +kernel
theorem d117_16 : decode (mcode 117) 16 = .ok (.invokespecial 14, 3) := by decide +kernel
theorem d117_19 : decode (mcode 117) 19 = .ok (.putfield 17, 3) := by decide +kernel
theorem d117_22 : decode (mcode 117) 22 = .ok (.aload_n 0, 1) := by decide +kernel
theorem d117_23 : decode (mcode 117) 23 = .ok (.new 9, 3) := by decide +kernel
theorem d117_26 : decode (mcode 117) 26 = .ok (.dup, 1) := by decide +kernel
theorem d117_27 : decode (mcode 117) 27 = .ok (.aload_n 0, 1) := by decide +kernel
theorem d117_28 : decode (mcode 117) 28 = .ok (.getfield 17, 3) := by decide +kernel
theorem d117_31 : decode (mcode 117) 31 = .ok (.getfield 21, 3) := by decide +kernel
theorem d117_34 : decode (mcode 117) 34 = .ok (.invokespecial 14, 3) := by decide +kernel
theorem d117_37 : decode (mcode 117) 37 = .ok (.putfield 25, 3) := by decide +kernel
theorem d117_40 : decode (mcode 117) 40 = .ok (.aload_n 0, 1) := by decide +kernel
theorem d117_41 : decode (mcode 117) 41 = .ok (.new 28, 3) := by decide +kernel
theorem d117_44 : decode (mcode 117) 44 = .ok (.dup, 1) := by decide +kernel
theorem d117_45 : decode (mcode 117) 45 = .ok (.invokespecial 30, 3) := by decide +kernel
theorem d117_48 : decode (mcode 117) 48 = .ok (.putfield 31, 3) := by decide +kernel
theorem d117_51 : decode (mcode 117) 51 = .ok (.aload_n 0, 1) := by decide +kernel
theorem d117_52 : decode (mcode 117) 52 = .ok (.new 35, 3) := by decide +kernel
theorem d117_55 : decode (mcode 117) 55 = .ok (.dup, 1) := by decide +kernel
theorem d117_56 : decode (mcode 117) 56 = .ok (.invokespecial 37, 3) := by decide +kernel
theorem d117_59 : decode (mcode 117) 59 = .ok (.putfield 38, 3) := by decide +kernel
theorem d117_62 : decode (mcode 117) 62 = .ok (.aload_n 0, 1) := by decide +kernel
theorem d117_63 : decode (mcode 117) 63 = .ok (.new 42, 3) := by decide +kernel
theorem d117_66 : decode (mcode 117) 66 = .ok (.dup, 1) := by decide +kernel
theorem d117_67 : decode (mcode 117) 67 = .ok (.invokespecial 44, 3) := by decide +kernel
theorem d117_70 : decode (mcode 117) 70 = .ok (.putfield 45, 3) := by decide +kernel
theorem d117_73 : decode (mcode 117) 73 = .ok (.aload_n 0, 1) := by decide +kernel
theorem d117_74 : decode (mcode 117) 74 = .ok (.new 49, 3) := by decide +kernel
theorem d117_77 : decode (mcode 117) 77 = .ok (.dup, 1) := by decide +kernel
theorem d117_78 : decode (mcode 117) 78 = .ok (.invokespecial 51, 3) := by decide +kernel
theorem d117_81 : decode (mcode 117) 81 = .ok (.putfield 52, 3) := by decide +kernel
theorem d117_84 : decode (mcode 117) 84 = .ok (.aload_n 0, 1) := by decide +kernel
theorem d117_85 : decode (mcode 117) 85 = .ok (.new 56, 3) := by decide +kernel
theorem d117_88 : decode (mcode 117) 88 = .ok (.dup, 1) := by decide +kernel
theorem d117_89 : decode (mcode 117) 89 = .ok (.invokespecial 58, 3) := by decide +kernel
theorem d117_92 : decode (mcode 117) 92 = .ok (.putfield 59, 3) := by decide +kernel
theorem d117_95 : decode (mcode 117) 95 = .ok (.aload_n 0, 1) := by decide +kernel
theorem d117_96 : decode (mcode 117) 96 = .ok (.new 63, 3) := by decide +kernel
theorem d117_99 : decode (mcode 117) 99 = .ok (.dup, 1) := by decide +kernel
theorem d117_100 : decode (mcode 117) 100 = .ok (.invokespecial 65, 3) := by decide +kernel
theorem d117_103 : decode (mcode 117) 103 = .ok (.putfield 66, 3) := by decide +kernel
theorem d117_106 : decode (mcode 117) 106 = .ok (.aload_n 0, 1) := by decide +kernel
theorem d117_107 : decode (mcode 117) 107 = .ok (.new 70, 3) := by decide +kernel
theorem d117_110 : decode (mcode 117) 110 = .ok (.dup, 1) := by decide +kernel
theorem d117_111 : decode (mcode 117) 111 = .ok (.invokespecial 72, 3) := by decide +kernel
theorem d117_114 : decode (mcode 117) 114 = .ok (.putfield 73, 3) := by decide +kernel
theorem d117_117 : decode (mcode 117) 117 = .ok (.aload_n 0, 1) := by decide +kernel
theorem d117_118 : decode (mcode 117) 118 = .ok (.iconst (-1), 1) := by decide +kernel
theorem d117_119 : decode (mcode 117) 119 = .ok (.putfield 77, 3) := by decide +kernel
theorem d117_122 : decode (mcode 117) 122 = .ok (.return_, 1) := by decide +kernel
theorem d118_0 : decode (mcode 118) 0 = .ok (.iload_n 1, 1) := by decide +kernel
theorem d118_1 : decode (mcode 118) 1 = .ok (.invokestatic 81, 3) := by decide +kernel
theorem d118_4 : decode (mcode 118) 4 = .ok (.ifCond .eq 10, 3) := by decide +kernel
theorem d118_7 : decode (mcode 118) 7 = .ok (.iload_n 2, 1) := by decide +kernel
theorem d118_8 : decode (mcode 118) 8 = .ok (.invokestatic 81, 3) := by decide +kernel
theorem d118_11 : decode (mcode 118) 11 = .ok (.ifCond .ne 5, 3) := by decide +kernel
theorem d118_14 : decode (mcode 118) 14 = .ok (.iconst 0, 1) := by decide +kernel
theorem d118_15 : decode (mcode 118) 15 = .ok (.ireturn, 1) := by decide +kernel
theorem d118_16 : decode (mcode 118) 16 = .ok (.aload_n 0, 1) := by decide +kernel
theorem d118_17 : decode (mcode 118) 17 = .ok (.getfield 31, 3) := by decide +kernel
theorem d118_20 : decode (mcode 118) 20 = .ok (.aload_n 0, 1) := by decide +kernel
theorem d118_21 : decode (mcode 118) 21 = .ok (.getfield 17, 3) := by decide +kernel
theorem d118_24 : decode (mcode 118) 24 = .ok (.invokevirtual 85, 3) := by decide +kernel
theorem d118_27 : decode (mcode 118) 27 = .ok (.aload_n 0, 1) := by decide +kernel
theorem d118_28 : decode (mcode 118) 28 = .ok (.getfield 17, 3) := by decide +kernel
theorem d118_31 : decode (mcode 118) 31 = .ok (.iload_n 1, 1) := by decide +kernel
theorem d118_32 : decode (mcode 118) 32 = .ok (.iload_n 2, 1) := by decide +kernel
theorem d118_33 : decode (mcode 118) 33 = .ok (.invokevirtual 89, 3) := by decide +kernel
theorem d118_36 : decode (mcode 118) 36 = .ok (.iconst 1, 1) := by decide +kernel
theorem d118_37 : decode (mcode 118) 37 = .ok (.ireturn, 1) := by decide +kernel
theorem d119_0 : decode (mcode 119) 0 = .ok (.aload_n 0, 1) := by decide +kernel
theorem d119_1 : decode (mcode 119) 1 = .ok (.getfield 17, 3) := by decide +kernel
theorem d119_4 : decode (mcode 119) 4 = .ok (.getfield 21, 3) := by decide +kernel
theorem d119_7 : decode (mcode 119) 7 = .ok (.iload_n 1, 1) := by decide +kernel
theorem d119_8 : decode (mcode 119) 8 = .ok (.invokevirtual 93, 3) := by decide +kernel
theorem d119_11 : decode (mcode 119) 11 = .ok (.ifCond .ne 7, 3) := by decide +kernel
theorem d119_14 : decode (mcode 119) 14 = .ok (.sipush (-1000), 3) := by decide +kernel
theorem d119_17 : decode (mcode 119) 17 = .ok (.ireturn, 1) := by decide +kernel
theorem d119_18 : decode (mcode 119) 18 = .ok (.aload_n 0, 1) := by decide +kernel
theorem d119_19 : decode (mcode 119) 19 = .ok (.getfield 31, 3) := by decide +kernel
theorem d119_22 : decode (mcode 119) 22 = .ok (.aload_n 0, 1) := by decide +kernel
theorem d119_23 : decode (mcode 119) 23 = .ok (.getfield 17, 3) := by decide +kernel
theorem d119_26 : decode (mcode 119) 26 = .ok (.invokevirtual 85, 3) := by decide +kernel
theorem d119_29 : decode (mcode 119) 29 = .ok (.aload_n 0, 1) := by decide +kernel
theorem d119_30 : decode (mcode 119) 30 = .ok (.getfield 17, 3) := by decide +kernel
theorem d119_33 : decode (mcode 119) 33 = .ok (.getfield 21, 3) := by decide +kernel
theorem d119_36 : decode (mcode 119) 36 = .ok (.getfield 96, 3) := by decide +kernel
theorem d119_39 : decode (mcode 119) 39 = .ok (.iload_n 1, 1) := by decide +kernel
theorem d119_40 : decode (mcode 119) 40 = .ok (.iload_n 2, 1) := by decide +kernel
theorem d119_41 : decode (mcode 119) 41 = .ok (.invokestatic 100, 3) := by decide +kernel
theorem d119_44 : decode (mcode 119) 44 = .ok (.iastore, 1) := by decide +kernel
theorem d119_45 : decode (mcode 119) 45 = .ok (.aload_n 0, 1) := by decide +kernel
theorem d119_46 : decode (mcode 119) 46 = .ok (.getfield 17, 3) := by decide +kernel
theorem d119_49 : decode (mcode 119) 49 = .ok (.getfield 104, 3) := by decide +kernel
theorem d119_52 : decode (mcode 119) 52 = .ok (.invokevirtual 108, 3) := by decide +kernel
theorem d119_55 : decode (mcode 119) 55 = .ok (.aload_n 0, 1) := by decide +kernel
theorem d119_56 : decode (mcode 119) 56 = .ok (.getfield 17, 3) := by decide +kernel
theorem d119_59 : decode (mcode 119) 59 = .ok (.getfield 21, 3) := by decide +kernel
theorem d119_62 : decode (mcode 119) 62 = .ok (.getfield 96, 3) := by decide +kernel
theorem d119_65 : decode (mcode 119) 65 = .ok (.iload_n 1, 1) := by decide +kernel
theorem d119_66 : decode (mcode 119) 66 = .ok (.iaload, 1) := by decide +kernel
theorem d119_67 : decode (mcode 119) 67 = .ok (.ireturn, 1) := by decide +kernel
theorem d120_0 : decode (mcode 120) 0 = .ok (.aload_n 0, 1) := by decide +kernel
theorem d120_1 : decode (mcode 120) 1 = .ok (.getfield 17, 3) := by decide +kernel
theorem d120_4 : decode (mcode 120) 4 = .ok (.getfield 21, 3) := by decide +kernel
theorem d120_7 : decode (mcode 120) 7 = .ok (.iload_n 1, 1) := by decide +kernel
theorem d120_8 : decode (mcode 120) 8 = .ok (.invokevirtual 93, 3) := by decide +kernel
theorem d120_11 : decode (mcode 120) 11 = .ok (.ifCond .eq 19, 3) := by decide +kernel
theorem d120_14 : decode (mcode 120) 14 = .ok (.aload_n 0, 1) := by decide +kernel
theorem d120_15 : decode (mcode 120) 15 = .ok (.getfield 17, 3) := by decide +kernel
theorem d120_18 : decode (mcode 120) 18 = .ok (.getfield 21, 3) := by decide +kernel
theorem d120_21 : decode (mcode 120) 21 = .ok (.getfield 113, 3) := by decide +kernel
theorem d120_24 : decode (mcode 120) 24 = .ok (.iload_n 1, 1) := by decide +kernel
theorem d120_25 : decode (mcode 120) 25 = .ok (.baload, 1) := by decide +kernel
theorem d120_26 : decode (mcode 120) 26 = .ok (.iload_n 2, 1) := by decide +kernel
theorem d120_27 : decode (mcode 120) 27 = .ok (.if_icmp .ne 5, 3) := by decide +kernel
theorem d120_30 : decode (mcode 120) 30 = .ok (.iconst 0, 1) := by decide +kernel
theorem d120_31 : decode (mcode 120) 31 = .ok (.ireturn, 1) := by decide +kernel
theorem d120_32 : decode (mcode 120) 32 = .ok (.aload_n 0, 1) := by decide +kernel
theorem d120_33 : decode (mcode 120) 33 = .ok (.getfield 31, 3) := by decide +kernel
theorem d120_36 : decode (mcode 120) 36 = .ok (.aload_n 0, 1) := by decide +kernel
theorem d120_37 : decode (mcode 120) 37 = .ok (.getfield 17, 3) := by decide +kernel
theorem d120_40 : decode (mcode 120) 40 = .ok (.invokevirtual 85, 3) := by decide +kernel
theorem d120_43 : decode (mcode 120) 43 = .ok (.aload_n 0, 1) := by decide +kernel
theorem d120_44 : decode (mcode 120) 44 = .ok (.getfield 17, 3) := by decide +kernel
theorem d120_47 : decode (mcode 120) 47 = .ok (.getfield 21, 3) := by decide +kernel
theorem d120_50 : decode (mcode 120) 50 = .ok (.getfield 113, 3) := by decide +kernel
theorem d120_53 : decode (mcode 120) 53 = .ok (.iload_n 1, 1) := by decide +kernel
theorem d120_54 : decode (mcode 120) 54 = .ok (.iload_n 2, 1) := by decide +kernel
theorem d120_55 : decode (mcode 120) 55 = .ok (.bastore, 1) := by decide +kernel
theorem d120_56 : decode (mcode 120) 56 = .ok (.aload_n 0, 1) := by decide +kernel
theorem d120_57 : decode (mcode 120) 57 = .ok (.getfield 17, 3) := by decide +kernel
theorem d120_60 : decode (mcode 120) 60 = .ok (.getfield 104, 3) := by decide +kernel
theorem d120_63 : decode (mcode 120) 63 = .ok (.invokevirtual 108, 3) := by decide +kernel
theorem d120_66 : decode (mcode 120) 66 = .ok (.iconst 1, 1) := by decide +kernel
theorem d120_67 : decode (mcode 120) 67 = .ok (.ireturn, 1) := by decide +kernel
theorem d121_0 : decode (mcode 121) 0 = .ok (.aload_n 0, 1) := by decide +kernel
theorem d121_1 : decode (mcode 121) 1 = .ok (.getfield 17, 3) := by decide +kernel
theorem d121_4 : decode (mcode 121) 4 = .ok (.getfield 21, 3) := by decide +kernel
theorem d121_7 : decode (mcode 121) 7 = .ok (.iload_n 1, 1) := by decide +kernel
theorem d121_8 : decode (mcode 121) 8 = .ok (.invokevirtual 93, 3) := by decide +kernel
theorem d121_11 : decode (mcode 121) 11 = .ok (.ifCond .eq 13, 3) := by decide +kernel
theorem d121_14 : decode (mcode 121) 14 = .ok (.iload_n 2, 1) := by decide +kernel
theorem d121_15 : decode (mcode 121) 15 = .ok (.ifCond .lt 9, 3) := by decide +kernel
theorem d121_18 : decode (mcode 121) 18 = .ok (.iload_n 2, 1) := by decide +kernel
theorem d121_19 : decode (mcode 121) 19 = .ok (.bipush 99, 2) := by decide +kernel
theorem d121_21 : decode (mcode 121) 21 = .ok (.if_icmp .le 5, 3) := by decide +kernel
theorem d121_24 : decode (mcode 121) 24 = .ok (.iconst 0, 1) := by decide +kernel
theorem d121_25 : decode (mcode 121) 25 = .ok (.ireturn, 1) := by decide +kernel
theorem d121_26 : decode (mcode 121) 26 = .ok (.aload_n 0, 1) := by decide +kernel
theorem d121_27 : decode (mcode 121) 27 = .ok (.getfield 31, 3) := by decide +kernel
theorem d121_30 : decode (mcode 121) 30 = .ok (.aload_n 0, 1) := by decide +kernel
theorem d121_31 : decode (mcode 121) 31 = .ok (.getfield 17, 3) := by decide +kernel
theorem d121_34 : decode (mcode 121) 34 = .ok (.invokevirtual 85, 3) := by decide +kernel
theorem d121_37 : decode (mcode 121) 37 = .ok (.aload_n 0, 1) := by decide +kernel
theorem d121_38 : decode (mcode 121) 38 = .ok (.getfield 17, 3) := by decide +kernel
theorem d121_41 : decode (mcode 121) 41 = .ok (.getfield 21, 3) := by decide +kernel
theorem d121_44 : decode (mcode 121) 44 = .ok (.getfield 117, 3) := by decide +kernel
theorem d121_47 : decode (mcode 121) 47 = .ok (.iload_n 1, 1) := by decide +kernel
theorem d121_48 : decode (mcode 121) 48 = .ok (.iload_n 2, 1) := by decide +kernel
theorem d121_49 : decode (mcode 121) 49 = .ok (.iastore, 1) := by decide +kernel
theorem d121_50 : decode (mcode 121) 50 = .ok (.iconst 1, 1) := by decide +kernel
theorem d121_51 : decode (mcode 121) 51 = .ok (.ireturn, 1) := by decide +kernel
theorem d122_0 : decode (mcode 122) 0 = .ok (.iload_n 1, 1) := by decide +kernel
theorem d122_1 : decode (mcode 122) 1 = .ok (.ifCond .lt 8, 3) := by decide +kernel
theorem d122_4 : decode (mcode 122) 4 = .ok (.iload_n 1, 1) := by decide +kernel
theorem d122_5 : decode (mcode 122) 5 = .ok (.iconst 2, 1) := by decide +kernel
theorem d122_6 : decode (mcode 122) 6 = .ok (.if_icmp .le 5, 3) := by decide +kernel
theorem d122_9 : decode (mcode 122) 9 = .ok (.iconst (-1), 1) := by decide +kernel
theorem d122_10 : decode (mcode 122) 10 = .ok (.ireturn, 1) := by decide +kernel
theorem d122_11 : decode (mcode 122) 11 = .ok (.aload_n 0, 1) := by decide +kernel
theorem d122_12 : decode (mcode 122) 12 = .ok (.getfield 31, 3) := by decide +kernel
theorem d122_15 : decode (mcode 122) 15 = .ok (.aload_n 0, 1) := by decide +kernel
theorem d122_16 : decode (mcode 122) 16 = .ok (.getfield 17, 3) := by decide +kernel
theorem d122_19 : decode (mcode 122) 19 = .ok (.invokevirtual 85, 3) := by decide +kernel
theorem d122_22 : decode (mcode 122) 22 = .ok (.iload_n 1, 1) := by decide +kernel
theorem d122_23 : decode (mcode 122) 23 = .ok (.iconst 2, 1) := by decide +kernel
theorem d122_24 : decode (mcode 122) 24 = .ok (.if_icmp .ne 17, 3) := by decide +kernel
theorem d122_27 : decode (mcode 122) 27 = .ok (.aload_n 0, 1) := by decide +kernel
theorem d122_28 : decode (mcode 122) 28 = .ok (.getfield 52, 3) := by decide +kernel
theorem d122_31 : decode (mcode 122) 31 = .ok (.aload_n 0, 1) := by decide +kernel
theorem d122_32 : decode (mcode 122) 32 = .ok (.getfield 17, 3) := by decide +kernel
theorem d122_35 : decode (mcode 122) 35 = .ok (.getfield 21, 3) := by decide +kernel
theorem d122_38 : decode (mcode 122) 38 = .ok (.invokevirtual 120, 3) := by decide +kernel
theorem d122_41 : decode (mcode 122) 41 = .ok (.iconst 0, 1) := by decide +kernel
theorem d122_42 : decode (mcode 122) 42 = .ok (.istore_n 2, 1) := by decide +kernel
theorem d122_43 : decode (mcode 122) 43 = .ok (.iconst 0, 1) := by decide +kernel
theorem d122_44 : decode (mcode 122) 44 = .ok (.istore_n 3, 1) := by decide +kernel
theorem d122_45 : decode (mcode 122) 45 = .ok (.iload_n 3, 1) := by decide +kernel
theorem d122_46 : decode (mcode 122) 46 = .ok (.aload_n 0, 1) := by decide +kernel
theorem d122_47 : decode (mcode 122) 47 = .ok (.getfield 17, 3) := by decide +kernel
theorem d122_50 : decode (mcode 122) 50 = .ok (.getfield 21, 3) := by decide +kernel
theorem d122_53 : decode (mcode 122) 53 = .ok (.invokevirtual 123, 3) := by decide +kernel
theorem d122_56 : decode (mcode 122) 56 = .ok (.if_icmp .ge 42, 3) := by decide +kernel
theorem d122_59 : decode (mcode 122) 59 = .ok (.aload_n 0, 1) := by decide +kernel
theorem d122_60 : decode (mcode 122) 60 = .ok (.getfield 17, 3) := by decide +kernel
theorem d122_63 : decode (mcode 122) 63 = .ok (.getfield 21, 3) := by decide +kernel
theorem d122_66 : decode (mcode 122) 66 = .ok (.getfield 117, 3) := by decide +kernel
theorem d122_69 : decode (mcode 122) 69 = .ok (.iload_n 3, 1) := by decide +kernel
theorem d122_70 : decode (mcode 122) 70 = .ok (.aload_n 0, 1) := by decide +kernel
theorem d122_71 : decode (mcode 122) 71 = .ok (.iload_n 1, 1) := by decide +kernel
theorem d122_72 : decode (mcode 122) 72 = .ok (.iload_n 3, 1) := by decide +kernel
theorem d122_73 : decode (mcode 122) 73 = .ok (.invokevirtual 127, 3) := by decide +kernel
theorem d122_76 : decode (mcode 122) 76 = .ok (.iastore, 1) := by decide +kernel
theorem d122_77 : decode (mcode 122) 77 = .ok (.iload_n 2, 1) := by decide +kernel
theorem d122_78 : decode (mcode 122) 78 = .ok (.aload_n 0, 1) := by decide +kernel
theorem d122_79 : decode (mcode 122) 79 = .ok (.getfield 17, 3) := by decide +kernel
theorem d122_82 : decode (mcode 122) 82 = .ok (.getfield 21, 3) := by decide +kernel
theorem d122_85 : decode (mcode 122) 85 = .ok (.getfield 117, 3) := by decide +kernel
theorem d122_88 : decode (mcode 122) 88 = .ok (.iload_n 3, 1) := by decide +kernel
theorem d122_89 : decode (mcode 122) 89 = .ok (.iaload, 1) := by decide +kernel
theorem d122_90 : decode (mcode 122) 90 = .ok (.iadd, 1) := by decide +kernel
theorem d122_91 : decode (mcode 122) 91 = .ok (.istore_n 2, 1) := by decide +kernel
theorem d122_92 : decode (mcode 122) 92 = .ok (.iinc 3 1, 3) := by decide +kernel
theorem d122_95 : decode (mcode 122) 95 = .ok (.goto (-50), 3) := by decide +kernel
theorem d122_98 : decode (mcode 122) 98 = .ok (.iload_n 2, 1) := by decide +kernel
theorem d122_99 : decode (mcode 122) 99 = .ok (.ireturn, 1) := by decide +kernel
theorem d123_0 : decode (mcode 123) 0 = .ok (.iload_n 1, 1) := by decide +kernel
theorem d123_1 : decode (mcode 123) 1 = .ok (.sipush (-999), 3) := by decide +kernel
theorem d123_4 : decode (mcode 123) 4 = .ok (.if_icmp .lt 24, 3) := by decide +kernel
theorem d123_7 : decode (mcode 123) 7 = .ok (.iload_n 1, 1) := by decide +kernel
theorem d123_8 : decode (mcode 123) 8 = .ok (.sipush 999, 3) := by decide +kernel
theorem d123_11 : decode (mcode 123) 11 = .ok (.if_icmp .gt 17, 3) := by decide +kernel
theorem d123_14 : decode (mcode 123) 14 = .ok (.iload_n 2, 1) := by decide +kernel
theorem d123_15 : decode (mcode 123) 15 = .ok (.sipush (-999), 3) := by decide +kernel
theorem d123_18 : decode (mcode 123) 18 = .ok (.if_icmp .lt 10, 3) := by decide +kernel
theorem d123_21 : decode (mcode 123) 21 = .ok (.iload_n 2, 1) := by decide +kernel
theorem d123_22 : decode (mcode 123) 22 = .ok (.sipush 999, 3) := by decide +kernel
theorem d123_25 : decode (mcode 123) 25 = .ok (.if_icmp .le 5, 3) := by decide +kernel
theorem d123_28 : decode (mcode 123) 28 = .ok (.iconst 0, 1) := by decide +kernel
theorem d123_29 : decode (mcode 123) 29 = .ok (.ireturn, 1) := by decide +kernel
theorem d123_30 : decode (mcode 123) 30 = .ok (.aload_n 0, 1) := by decide +kernel
theorem d123_31 : decode (mcode 123) 31 = .ok (.getfield 31, 3) := by decide +kernel
theorem d123_34 : decode (mcode 123) 34 = .ok (.aload_n 0, 1) := by decide +kernel
theorem d123_35 : decode (mcode 123) 35 = .ok (.getfield 17, 3) := by decide +kernel
theorem d123_38 : decode (mcode 123) 38 = .ok (.invokevirtual 85, 3) := by decide +kernel
theorem d123_41 : decode (mcode 123) 41 = .ok (.aload_n 0, 1) := by decide +kernel
theorem d123_42 : decode (mcode 123) 42 = .ok (.getfield 17, 3) := by decide +kernel
theorem d123_45 : decode (mcode 123) 45 = .ok (.getfield 21, 3) := by decide +kernel
theorem d123_48 : decode (mcode 123) 48 = .ok (.astore_n 3, 1) := by decide +kernel
theorem d123_49 : decode (mcode 123) 49 = .ok (.iconst 0, 1) := by decide +kernel
theorem d123_50 : decode (mcode 123) 50 = .ok (.istore 4, 2) := by decide +kernel
theorem d123_52 : decode (mcode 123) 52 = .ok (.iload 4, 2) := by decide +kernel
theorem d123_54 : decode (mcode 123) 54 = .ok (.aload_n 3, 1) := by decide +kernel
theorem d123_55 : decode (mcode 123) 55 = .ok (.invokevirtual 123, 3) := by decide +kernel
theorem d123_58 : decode (mcode 123) 58 = .ok (.if_icmp .ge 44, 3) := by decide +kernel
theorem d123_61 : decode (mcode 123) 61 = .ok (.aload_n 3, 1) := by decide +kernel
theorem d123_62 : decode (mcode 123) 62 = .ok (.getfield 96, 3) := by decide +kernel
theorem d123_65 : decode (mcode 123) 65 = .ok (.iload 4, 2) := by decide +kernel
theorem d123_67 : decode (mcode 123) 67 = .ok (.aload_n 3, 1) := by decide +kernel
theorem d123_68 : decode (mcode 123) 68 = .ok (.getfield 96, 3) := by decide +kernel
theorem d123_71 : decode (mcode 123) 71 = .ok (.iload 4, 2) := by decide +kernel
theorem d123_73 : decode (mcode 123) 73 = .ok (.iaload, 1) := by decide +kernel
theorem d123_74 : decode (mcode 123) 74 = .ok (.iload_n 1, 1) := by decide +kernel
theorem d123_75 : decode (mcode 123) 75 = .ok (.aload_n 3, 1) := by decide +kernel
theorem d123_76 : decode (mcode 123) 76 = .ok (.iload 4, 2) := by decide +kernel
theorem d123_78 : decode (mcode 123) 78 = .ok (.invokevirtual 131, 3) := by decide +kernel
theorem d123_81 : decode (mcode 123) 81 = .ok (.imul, 1) := by decide +kernel
theorem d123_82 : decode (mcode 123) 82 = .ok (.iadd, 1) := by decide +kernel
theorem d123_83 : decode (mcode 123) 83 = .ok (.iload_n 2, 1) := by decide +kernel
theorem d123_84 : decode (mcode 123) 84 = .ok (.aload_n 3, 1) := by decide +kernel
theorem d123_85 : decode (mcode 123) 85 = .ok (.iload 4, 2) := by decide +kernel
theorem d123_87 : decode (mcode 123) 87 = .ok (.invokevirtual 134, 3) := by decide +kernel
theorem d123_90 : decode (mcode 123) 90 = .ok (.imul, 1) := by decide +kernel
theorem d123_91 : decode (mcode 123) 91 = .ok (.iadd, 1) := by decide +kernel
theorem d123_92 : decode (mcode 123) 92 = .ok (.invokestatic 100, 3) := by decide +kernel
theorem d123_95 : decode (mcode 123) 95 = .ok (.iastore, 1) := by decide +kernel
theorem d123_96 : decode (mcode 123) 96 = .ok (.iinc 4 1, 3) := by decide +kernel
theorem d123_99 : decode (mcode 123) 99 = .ok (.goto (-47), 3) := by decide +kernel
theorem d123_102 : decode (mcode 123) 102 = .ok (.aload_n 0, 1) := by decide +kernel
theorem d123_103 : decode (mcode 123) 103 = .ok (.getfield 17, 3) := by decide +kernel
theorem d123_106 : decode (mcode 123) 106 = .ok (.getfield 104, 3) := by decide +kernel
theorem d123_109 : decode (mcode 123) 109 = .ok (.invokevirtual 108, 3) := by decide +kernel
theorem d123_112 : decode (mcode 123) 112 = .ok (.iconst 1, 1) := by decide +kernel
theorem d123_113 : decode (mcode 123) 113 = .ok (.ireturn, 1) := by decide +kernel
theorem d124_0 : decode (mcode 124) 0 = .ok (.iload_n 1, 1) := by decide +kernel
theorem d124_1 : decode (mcode 124) 1 = .ok (.iconst 1, 1) := by decide +kernel
theorem d124_2 : decode (mcode 124) 2 = .ok (.if_icmp .lt 9, 3) := by decide +kernel
theorem d124_5 : decode (mcode 124) 5 = .ok (.iload_n 1, 1) := by decide +kernel
theorem d124_6 : decode (mcode 124) 6 = .ok (.bipush 60, 2) := by decide +kernel
theorem d124_8 : decode (mcode 124) 8 = .ok (.if_icmp .le 5, 3) := by decide +kernel
theorem d124_11 : decode (mcode 124) 11 = .ok (.iconst 0, 1) := by decide +kernel
theorem d124_12 : decode (mcode 124) 12 = .ok (.ireturn, 1) := by decide +kernel
theorem d124_13 : decode (mcode 124) 13 = .ok (.aload_n 0, 1) := by decide +kernel
theorem d124_14 : decode (mcode 124) 14 = .ok (.getfield 31, 3) := by decide +kernel
theorem d124_17 : decode (mcode 124) 17 = .ok (.aload_n 0, 1) := by decide +kernel
theorem d124_18 : decode (mcode 124) 18 = .ok (.getfield 17, 3) := by decide +kernel
theorem d124_21 : decode (mcode 124) 21 = .ok (.invokevirtual 85, 3) := by decide +kernel
theorem d124_24 : decode (mcode 124) 24 = .ok (.iconst 0, 1) := by decide +kernel
theorem d124_25 : decode (mcode 124) 25 = .ok (.istore_n 2, 1) := by decide +kernel
theorem d124_26 : decode (mcode 124) 26 = .ok (.iload_n 2, 1) := by decide +kernel
theorem d124_27 : decode (mcode 124) 27 = .ok (.iload_n 1, 1) := by decide +kernel
theorem d124_28 : decode (mcode 124) 28 = .ok (.if_icmp .ge 65, 3) := by decide +kernel
theorem d124_31 : decode (mcode 124) 31 = .ok (.aload_n 0, 1) := by decide +kernel
theorem d124_32 : decode (mcode 124) 32 = .ok (.aload_n 0, 1) := by decide +kernel
theorem d124_33 : decode (mcode 124) 33 = .ok (.getfield 17, 3) := by decide +kernel
theorem d124_36 : decode (mcode 124) 36 = .ok (.getfield 21, 3) := by decide +kernel
theorem d124_39 : decode (mcode 124) 39 = .ok (.invokevirtual 123, 3) := by decide +kernel
theorem d124_42 : decode (mcode 124) 42 = .ok (.invokevirtual 137, 3) := by decide +kernel
theorem d124_45 : decode (mcode 124) 45 = .ok (.istore_n 3, 1) := by decide +kernel
theorem d124_46 : decode (mcode 124) 46 = .ok (.aload_n 0, 1) := by decide +kernel
theorem d124_47 : decode (mcode 124) 47 = .ok (.bipush 65, 2) := by decide +kernel
theorem d124_49 : decode (mcode 124) 49 = .ok (.invokevirtual 137, 3) := by decide +kernel
theorem d124_52 : decode (mcode 124) 52 = .ok (.bipush 32, 2) := by decide +kernel
theorem d124_54 : decode (mcode 124) 54 = .ok (.isub, 1) := by decide +kernel
theorem d124_55 : decode (mcode 124) 55 = .ok (.istore 4, 2) := by decide +kernel
theorem d124_57 : decode (mcode 124) 57 = .ok (.aload_n 0, 1) := by decide +kernel
theorem d124_58 : decode (mcode 124) 58 = .ok (.getfield 17, 3) := by decide +kernel
theorem d124_61 : decode (mcode 124) 61 = .ok (.getfield 21, 3) := by decide +kernel
theorem d124_64 : decode (mcode 124) 64 = .ok (.getfield 96, 3) := by decide +kernel
theorem d124_67 : decode (mcode 124) 67 = .ok (.iload_n 3, 1) := by decide +kernel
theorem d124_68 : decode (mcode 124) 68 = .ok (.aload_n 0, 1) := by decide +kernel
theorem d124_69 : decode (mcode 124) 69 = .ok (.getfield 17, 3) := by decide +kernel
theorem d124_72 : decode (mcode 124) 72 = .ok (.getfield 21, 3) := by decide +kernel
theorem d124_75 : decode (mcode 124) 75 = .ok (.getfield 96, 3) := by decide +kernel
theorem d124_78 : decode (mcode 124) 78 = .ok (.iload_n 3, 1) := by decide +kernel
theorem d124_79 : decode (mcode 124) 79 = .ok (.iaload, 1) := by decide +kernel
theorem d124_80 : decode (mcode 124) 80 = .ok (.iload 4, 2) := by decide +kernel
theorem d124_82 : decode (mcode 124) 82 = .ok (.iadd, 1) := by decide +kernel
theorem d124_83 : decode (mcode 124) 83 = .ok (.invokestatic 100, 3) := by decide +kernel
theorem d124_86 : decode (mcode 124) 86 = .ok (.iastore, 1) := by decide +kernel
theorem d124_87 : decode (mcode 124) 87 = .ok (.iinc 2 1, 3) := by decide +kernel
theorem d124_90 : decode (mcode 124) 90 = .ok (.goto (-64), 3) := by decide +kernel
theorem d124_93 : decode (mcode 124) 93 = .ok (.aload_n 0, 1) := by decide +kernel
theorem d124_94 : decode (mcode 124) 94 = .ok (.getfield 17, 3) := by decide +kernel
theorem d124_97 : decode (mcode 124) 97 = .ok (.getfield 104, 3) := by decide +kernel
theorem d124_100 : decode (mcode 124) 100 = .ok (.invokevirtual 108, 3) := by decide +kernel
theorem d124_103 : decode (mcode 124) 103 = .ok (.iconst 1, 1) := by decide +kernel
theorem d124_104 : decode (mcode 124) 104 = .ok (.ireturn, 1) := by decide +kernel
theorem d125_0 : decode (mcode 125) 0 = .ok (.aload_n 0, 1) := by decide +kernel
theorem d125_1 : decode (mcode 125) 1 = .ok (.getfield 140, 3) := by decide +kernel
theorem d125_4 : decode (mcode 125) 4 = .ok (.istore_n 2, 1) := by decide +kernel
theorem d125_5 : decode (mcode 125) 5 = .ok (.aload_n 0, 1) := by decide +kernel
theorem d125_6 : decode (mcode 125) 6 = .ok (.iload_n 1, 1) := by decide +kernel
theorem d125_7 : decode (mcode 125) 7 = .ok (.putfield 140, 3) := by decide +kernel
theorem d125_10 : decode (mcode 125) 10 = .ok (.iload_n 2, 1) := by decide +kernel
theorem d125_11 : decode (mcode 125) 11 = .ok (.ireturn, 1) := by decide +kernel
theorem d126_0 : decode (mcode 126) 0 = .ok (.aload_n 0, 1) := by decide +kernel
theorem d126_1 : decode (mcode 126) 1 = .ok (.getfield 52, 3) := by decide +kernel
theorem d126_4 : decode (mcode 126) 4 = .ok (.aload_n 0, 1) := by decide +kernel
theorem d126_5 : decode (mcode 126) 5 = .ok (.getfield 17, 3) := by decide +kernel
theorem d126_8 : decode (mcode 126) 8 = .ok (.getfield 21, 3) := by decide +kernel
theorem d126_11 : decode (mcode 126) 11 = .ok (.iload_n 1, 1) := by decide +kernel
theorem d126_12 : decode (mcode 126) 12 = .ok (.invokevirtual 143, 3) := by decide +kernel
theorem d126_15 : decode (mcode 126) 15 = .ok (.ifCond .ne 5, 3) := by decide +kernel
theorem d126_18 : decode (mcode 126) 18 = .ok (.iconst (-1), 1) := by decide +kernel
theorem d126_19 : decode (mcode 126) 19 = .ok (.ireturn, 1) := by decide +kernel
theorem d126_20 : decode (mcode 126) 20 = .ok (.aload_n 0, 1) := by decide +kernel
theorem d126_21 : decode (mcode 126) 21 = .ok (.getfield 31, 3) := by decide +kernel
theorem d126_24 : decode (mcode 126) 24 = .ok (.aload_n 0, 1) := by decide +kernel
theorem d126_25 : decode (mcode 126) 25 = .ok (.getfield 17, 3) := by decide +kernel
theorem d126_28 : decode (mcode 126) 28 = .ok (.invokevirtual 85, 3) := by decide +kernel
theorem d126_31 : decode (mcode 126) 31 = .ok (.aload_n 0, 1) := by decide +kernel
theorem d126_32 : decode (mcode 126) 32 = .ok (.getfield 52, 3) := by decide +kernel
theorem d126_35 : decode (mcode 126) 35 = .ok (.aload_n 0, 1) := by decide +kernel
theorem d126_36 : decode (mcode 126) 36 = .ok (.getfield 17, 3) := by decide +kernel
theorem d126_39 : decode (mcode 126) 39 = .ok (.getfield 21, 3) := by decide +kernel
theorem d126_42 : decode (mcode 126) 42 = .ok (.iload_n 1, 1) := by decide +kernel
theorem d126_43 : decode (mcode 126) 43 = .ok (.invokevirtual 147, 3) := by decide +kernel
theorem d126_46 : decode (mcode 126) 46 = .ok (.aload_n 0, 1) := by decide +kernel
theorem d126_47 : decode (mcode 126) 47 = .ok (.getfield 52, 3) := by decide +kernel
theorem d126_50 : decode (mcode 126) 50 = .ok (.aload_n 0, 1) := by decide +kernel
theorem d126_51 : decode (mcode 126) 51 = .ok (.getfield 17, 3) := by decide +kernel
theorem d126_54 : decode (mcode 126) 54 = .ok (.getfield 21, 3) := by decide +kernel
theorem d126_57 : decode (mcode 126) 57 = .ok (.aload_n 0, 1) := by decide +kernel
theorem d126_58 : decode (mcode 126) 58 = .ok (.getfield 17, 3) := by decide +kernel
theorem d126_61 : decode (mcode 126) 61 = .ok (.getfield 151, 3) := by decide +kernel
theorem d126_64 : decode (mcode 126) 64 = .ok (.invokevirtual 155, 3) := by decide +kernel
theorem d126_67 : decode (mcode 126) 67 = .ok (.aload_n 0, 1) := by decide +kernel
theorem d126_68 : decode (mcode 126) 68 = .ok (.getfield 17, 3) := by decide +kernel
theorem d126_71 : decode (mcode 126) 71 = .ok (.getfield 104, 3) := by decide +kernel
theorem d126_74 : decode (mcode 126) 74 = .ok (.invokevirtual 108, 3) := by decide +kernel
theorem d126_77 : decode (mcode 126) 77 = .ok (.aload_n 0, 1) := by decide +kernel
theorem d126_78 : decode (mcode 126) 78 = .ok (.getfield 38, 3) := by decide +kernel
theorem d126_81 : decode (mcode 126) 81 = .ok (.iconst 0, 1) := by decide +kernel
theorem d126_82 : decode (mcode 126) 82 = .ok (.aload_n 0, 1) := by decide +kernel
theorem d126_83 : decode (mcode 126) 83 = .ok (.getfield 52, 3) := by decide +kernel
theorem d126_86 : decode (mcode 126) 86 = .ok (.getfield 159, 3) := by decide +kernel
theorem d126_89 : decode (mcode 126) 89 = .ok (.aload_n 0, 1) := by decide +kernel
theorem d126_90 : decode (mcode 126) 90 = .ok (.getfield 17, 3) := by decide +kernel
theorem d126_93 : decode (mcode 126) 93 = .ok (.getfield 151, 3) := by decide +kernel
theorem d126_96 : decode (mcode 126) 96 = .ok (.getfield 162, 3) := by decide +kernel
theorem d126_99 : decode (mcode 126) 99 = .ok (.invokevirtual 167, 3) := by decide +kernel
theorem d126_102 : decode (mcode 126) 102 = .ok (.aload_n 0, 1) := by decide +kernel
theorem d126_103 : decode (mcode 126) 103 = .ok (.getfield 17, 3) := by decide +kernel
theorem d126_106 : decode (mcode 126) 106 = .ok (.getfield 151, 3) := by decide +kernel
theorem d126_109 : decode (mcode 126) 109 = .ok (.getfield 162, 3) := by decide +kernel
theorem d126_112 : decode (mcode 126) 112 = .ok (.ireturn, 1) := by decide +kernel
theorem d127_0 : decode (mcode 127) 0 = .ok (.aload_n 0, 1) := by decide +kernel
theorem d127_1 : decode (mcode 127) 1 = .ok (.getfield 17, 3) := by decide +kernel
theorem d127_4 : decode (mcode 127) 4 = .ok (.getfield 21, 3) := by decide +kernel
theorem d127_7 : decode (mcode 127) 7 = .ok (.iload_n 1, 1) := by decide +kernel
theorem d127_8 : decode (mcode 127) 8 = .ok (.invokevirtual 171, 3) := by decide +kernel
theorem d127_11 : decode (mcode 127) 11 = .ok (.ifCond .eq 19, 3) := by decide +kernel
theorem d127_14 : decode (mcode 127) 14 = .ok (.aload_n 0, 1) := by decide +kernel
theorem d127_15 : decode (mcode 127) 15 = .ok (.getfield 17, 3) := by decide +kernel
theorem d127_18 : decode (mcode 127) 18 = .ok (.getfield 21, 3) := by decide +kernel
theorem d127_21 : decode (mcode 127) 21 = .ok (.getfield 174, 3) := by decide +kernel
theorem d127_24 : decode (mcode 127) 24 = .ok (.iload_n 1, 1) := by decide +kernel
theorem d127_25 : decode (mcode 127) 25 = .ok (.baload, 1) := by decide +kernel
theorem d127_26 : decode (mcode 127) 26 = .ok (.iload_n 2, 1) := by decide +kernel
theorem d127_27 : decode (mcode 127) 27 = .ok (.if_icmp .ne 5, 3) := by decide +kernel
theorem d127_30 : decode (mcode 127) 30 = .ok (.iconst 0, 1) := by decide +kernel
theorem d127_31 : decode (mcode 127) 31 = .ok (.ireturn, 1) := by decide +kernel
theorem d127_32 : decode (mcode 127) 32 = .ok (.aload_n 0, 1) := by decide +kernel
theorem d127_33 : decode (mcode 127) 33 = .ok (.getfield 31, 3) := by decide +kernel
theorem d127_36 : decode (mcode 127) 36 = .ok (.aload_n 0, 1) := by decide +kernel
theorem d127_37 : decode (mcode 127) 37 = .ok (.getfield 17, 3) := by decide +kernel
theorem d127_40 : decode (mcode 127) 40 = .ok (.invokevirtual 85, 3) := by decide +kernel
theorem d127_43 : decode (mcode 127) 43 = .ok (.aload_n 0, 1) := by decide +kernel
theorem d127_44 : decode (mcode 127) 44 = .ok (.getfield 17, 3) := by decide +kernel
theorem d127_47 : decode (mcode 127) 47 = .ok (.getfield 21, 3) := by decide +kernel
theorem d127_50 : decode (mcode 127) 50 = .ok (.getfield 174, 3) := by decide +kernel
theorem d127_53 : decode (mcode 127) 53 = .ok (.iload_n 1, 1) := by decide +kernel
theorem d127_54 : decode (mcode 127) 54 = .ok (.iload_n 2, 1) := by decide +kernel
theorem d127_55 : decode (mcode 127) 55 = .ok (.bastore, 1) := by decide +kernel
theorem d127_56 : decode (mcode 127) 56 = .ok (.aload_n 0, 1) := by decide +kernel
theorem d127_57 : decode (mcode 127) 57 = .ok (.getfield 17, 3) := by decide +kernel
theorem d127_60 : decode (mcode 127) 60 = .ok (.getfield 104, 3) := by decide +kernel
theorem d127_63 : decode (mcode 127) 63 = .ok (.invokevirtual 108, 3) := by decide +kernel
theorem d127_66 : decode (mcode 127) 66 = .ok (.iconst 1, 1) := by decide +kernel
theorem d127_67 : decode (mcode 127) 67 = .ok (.ireturn, 1) := by decide +kernel
theorem d128_0 : decode (mcode 128) 0 = .ok (.aload_n 0, 1) := by decide +kernel
theorem d128_1 : decode (mcode 128) 1 = .ok (.getfield 17, 3) := by decide +kernel
theorem d128_4 : decode (mcode 128) 4 = .ok (.getfield 104, 3) := by decide +kernel
theorem d128_7 : decode (mcode 128) 7 = .ok (.aload_n 0, 1) := by decide +kernel
theorem d128_8 : decode (mcode 128) 8 = .ok (.getfield 17, 3) := by decide +kernel
theorem d128_11 : decode (mcode 128) 11 = .ok (.getfield 21, 3) := by decide +kernel
theorem d128_14 : decode (mcode 128) 14 = .ok (.invokevirtual 177, 3) := by decide +kernel
theorem d128_17 : decode (mcode 128) 17 = .ok (.aload_n 0, 1) := by decide +kernel
theorem d128_18 : decode (mcode 128) 18 = .ok (.getfield 17, 3) := by decide +kernel
theorem d128_21 : decode (mcode 128) 21 = .ok (.getfield 104, 3) := by decide +kernel
theorem d128_24 : decode (mcode 128) 24 = .ok (.getfield 180, 3) := by decide +kernel
theorem d128_27 : decode (mcode 128) 27 = .ok (.ireturn, 1) := by decide +kernel
theorem d129_0 : decode (mcode 129) 0 = .ok (.iload_n 1, 1) := by decide +kernel
theorem d129_1 : decode (mcode 129) 1 = .ok (.iconst 1, 1) := by decide +kernel
theorem d129_2 : decode (mcode 129) 2 = .ok (.if_icmp .lt 23, 3) := by decide +kernel
theorem d129_5 : decode (mcode 129) 5 = .ok (.iload_n 1, 1) := by decide +kernel
theorem d129_6 : decode (mcode 129) 6 = .ok (.sipush 144, 3) := by decide +kernel
theorem d129_9 : decode (mcode 129) 9 = .ok (.if_icmp .gt 16, 3) := by decide +kernel
theorem d129_12 : decode (mcode 129) 12 = .ok (.aload_n 0, 1) := by decide +kernel
theorem d129_13 : decode (mcode 129) 13 = .ok (.getfield 17, 3) := by decide +kernel
theorem d129_16 : decode (mcode 129) 16 = .ok (.getfield 104, 3) := by decide +kernel
theorem d129_19 : decode (mcode 129) 19 = .ok (.getfield 183, 3) := by decide +kernel
theorem d129_22 : decode (mcode 129) 22 = .ok (.ifCond .ne 5, 3) := by decide +kernel
theorem d129_25 : decode (mcode 129) 25 = .ok (.iconst (-1), 1) := by decide +kernel
theorem d129_26 : decode (mcode 129) 26 = .ok (.ireturn, 1) := by decide +kernel
theorem d129_27 : decode (mcode 129) 27 = .ok (.aload_n 0, 1) := by decide +kernel
theorem d129_28 : decode (mcode 129) 28 = .ok (.getfield 59, 3) := by decide +kernel
theorem d129_31 : decode (mcode 129) 31 = .ok (.aload_n 0, 1) := by decide +kernel
theorem d129_32 : decode (mcode 129) 32 = .ok (.getfield 17, 3) := by decide +kernel
theorem d129_35 : decode (mcode 129) 35 = .ok (.invokevirtual 187, 3) := by decide +kernel
theorem d129_38 : decode (mcode 129) 38 = .ok (.aload_n 0, 1) := by decide +kernel
theorem d129_39 : decode (mcode 129) 39 = .ok (.getfield 59, 3) := by decide +kernel
theorem d129_42 : decode (mcode 129) 42 = .ok (.aload_n 0, 1) := by decide +kernel
theorem d129_43 : decode (mcode 129) 43 = .ok (.getfield 17, 3) := by decide +kernel
theorem d129_46 : decode (mcode 129) 46 = .ok (.invokevirtual 190, 3) := by decide +kernel
theorem d129_49 : decode (mcode 129) 49 = .ok (.iconst 0, 1) := by decide +kernel
theorem d129_50 : decode (mcode 129) 50 = .ok (.istore_n 2, 1) := by decide +kernel
theorem d129_51 : decode (mcode 129) 51 = .ok (.iload_n 2, 1) := by decide +kernel
theorem d129_52 : decode (mcode 129) 52 = .ok (.iload_n 1, 1) := by decide +kernel
theorem d129_53 : decode (mcode 129) 53 = .ok (.if_icmp .ge 89, 3) := by decide +kernel
theorem d129_56 : decode (mcode 129) 56 = .ok (.aload_n 0, 1) := by decide +kernel
theorem d129_57 : decode (mcode 129) 57 = .ok (.getfield 17, 3) := by decide +kernel
theorem d129_60 : decode (mcode 129) 60 = .ok (.getfield 104, 3) := by decide +kernel
theorem d129_63 : decode (mcode 129) 63 = .ok (.getfield 183, 3) := by decide +kernel
theorem d129_66 : decode (mcode 129) 66 = .ok (.ifCond .eq 76, 3) := by decide +kernel
theorem d129_69 : decode (mcode 129) 69 = .ok (.aload_n 0, 1) := by decide +kernel
theorem d129_70 : decode (mcode 129) 70 = .ok (.getfield 17, 3) := by decide +kernel
theorem d129_73 : decode (mcode 129) 73 = .ok (.getfield 104, 3) := by decide +kernel
theorem d129_76 : decode (mcode 129) 76 = .ok (.getfield 193, 3) := by decide +kernel
theorem d129_79 : decode (mcode 129) 79 = .ok (.istore_n 3, 1) := by decide +kernel
theorem d129_80 : decode (mcode 129) 80 = .ok (.aload_n 0, 1) := by decide +kernel
theorem d129_81 : decode (mcode 129) 81 = .ok (.getfield 17, 3) := by decide +kernel
theorem d129_84 : decode (mcode 129) 84 = .ok (.getfield 104, 3) := by decide +kernel
theorem d129_87 : decode (mcode 129) 87 = .ok (.aload_n 0, 1) := by decide +kernel
theorem d129_88 : decode (mcode 129) 88 = .ok (.getfield 17, 3) := by decide +kernel
theorem d129_91 : decode (mcode 129) 91 = .ok (.getfield 21, 3) := by decide +kernel
theorem d129_94 : decode (mcode 129) 94 = .ok (.aload_n 0, 1) := by decide +kernel
theorem d129_95 : decode (mcode 129) 95 = .ok (.getfield 59, 3) := by decide +kernel
theorem d129_98 : decode (mcode 129) 98 = .ok (.invokevirtual 196, 3) := by decide +kernel
theorem d129_101 : decode (mcode 129) 101 = .ok (.iinc 2 1, 3) := by decide +kernel
theorem d129_104 : decode (mcode 129) 104 = .ok (.aload_n 0, 1) := by decide +kernel
theorem d129_105 : decode (mcode 129) 105 = .ok (.getfield 17, 3) := by decide +kernel
theorem d129_108 : decode (mcode 129) 108 = .ok (.getfield 104, 3) := by decide +kernel
theorem d129_111 : decode (mcode 129) 111 = .ok (.getfield 193, 3) := by decide +kernel
theorem d129_114 : decode (mcode 129) 114 = .ok (.iload_n 3, 1) := by decide +kernel
theorem d129_115 : decode (mcode 129) 115 = .ok (.if_icmp .le 24, 3) := by decide +kernel
theorem d129_118 : decode (mcode 129) 118 = .ok (.aload_n 0, 1) := by decide +kernel
theorem d129_119 : decode (mcode 129) 119 = .ok (.getfield 38, 3) := by decide +kernel
theorem d129_122 : decode (mcode 129) 122 = .ok (.iconst 1, 1) := by decide +kernel
theorem d129_123 : decode (mcode 129) 123 = .ok (.iload_n 3, 1) := by decide +kernel
theorem d129_124 : decode (mcode 129) 124 = .ok (.aload_n 0, 1) := by decide +kernel
theorem d129_125 : decode (mcode 129) 125 = .ok (.getfield 17, 3) := by decide +kernel
theorem d129_128 : decode (mcode 129) 128 = .ok (.getfield 104, 3) := by decide +kernel
theorem d129_131 : decode (mcode 129) 131 = .ok (.getfield 200, 3) := by decide +kernel
theorem d129_134 : decode (mcode 129) 134 = .ok (.iload_n 3, 1) := by decide +kernel
theorem d129_135 : decode (mcode 129) 135 = .ok (.iaload, 1) := by decide +kernel
theorem d129_136 : decode (mcode 129) 136 = .ok (.invokevirtual 167, 3) := by decide +kernel
theorem d129_139 : decode (mcode 129) 139 = .ok (.goto (-88), 3) := by decide +kernel
theorem d129_142 : decode (mcode 129) 142 = .ok (.aload_n 0, 1) := by decide +kernel
theorem d129_143 : decode (mcode 129) 143 = .ok (.getfield 17, 3) := by decide +kernel
theorem d129_146 : decode (mcode 129) 146 = .ok (.getfield 104, 3) := by decide +kernel
theorem d129_149 : decode (mcode 129) 149 = .ok (.getfield 183, 3) := by decide +kernel
theorem d129_152 : decode (mcode 129) 152 = .ok (.ifCond .ne 28, 3) := by decide +kernel
theorem d129_155 : decode (mcode 129) 155 = .ok (.aload_n 0, 1) := by decide +kernel
theorem d129_156 : decode (mcode 129) 156 = .ok (.getfield 38, 3) := by decide +kernel
theorem d129_159 : decode (mcode 129) 159 = .ok (.iconst 2, 1) := by decide +kernel
theorem d129_160 : decode (mcode 129) 160 = .ok (.aload_n 0, 1) := by decide +kernel
theorem d129_161 : decode (mcode 129) 161 = .ok (.getfield 17, 3) := by decide +kernel
theorem d129_164 : decode (mcode 129) 164 = .ok (.getfield 104, 3) := by decide +kernel
theorem d129_167 : decode (mcode 129) 167 = .ok (.getfield 193, 3) := by decide +kernel
theorem d129_170 : decode (mcode 129) 170 = .ok (.aload_n 0, 1) := by decide +kernel
theorem d129_171 : decode (mcode 129) 171 = .ok (.getfield 17, 3) := by decide +kernel
theorem d129_174 : decode (mcode 129) 174 = .ok (.invokevirtual 203, 3) := by decide +kernel
theorem d129_177 : decode (mcode 129) 177 = .ok (.invokevirtual 167, 3) := by decide +kernel
theorem d129_180 : decode (mcode 129) 180 = .ok (.iload_n 2, 1) := by decide +kernel
theorem d129_181 : decode (mcode 129) 181 = .ok (.ireturn, 1) := by decide +kernel
theorem d130_0 : decode (mcode 130) 0 = .ok (.aload_n 0, 1) := by decide +kernel
theorem d130_1 : decode (mcode 130) 1 = .ok (.getfield 17, 3) := by decide +kernel
theorem d130_4 : decode (mcode 130) 4 = .ok (.getfield 104, 3) := by decide +kernel
theorem d130_7 : decode (mcode 130) 7 = .ok (.iload_n 1, 1) := by decide +kernel
theorem d130_8 : decode (mcode 130) 8 = .ok (.invokevirtual 206, 3) := by decide +kernel
theorem d130_11 : decode (mcode 130) 11 = .ok (.ifCond .eq 25, 3) := by decide +kernel
theorem d130_14 : decode (mcode 130) 14 = .ok (.aload_n 0, 1) := by decide +kernel
theorem d130_15 : decode (mcode 130) 15 = .ok (.getfield 17, 3) := by decide +kernel
theorem d130_18 : decode (mcode 130) 18 = .ok (.getfield 104, 3) := by decide +kernel
theorem d130_21 : decode (mcode 130) 21 = .ok (.aload_n 0, 1) := by decide +kernel
theorem d130_22 : decode (mcode 130) 22 = .ok (.getfield 17, 3) := by decide +kernel
theorem d130_25 : decode (mcode 130) 25 = .ok (.getfield 21, 3) := by decide +kernel
theorem d130_28 : decode (mcode 130) 28 = .ok (.iload_n 1, 1) := by decide +kernel
theorem d130_29 : decode (mcode 130) 29 = .ok (.iload_n 2, 1) := by decide +kernel
theorem d130_30 : decode (mcode 130) 30 = .ok (.invokevirtual 209, 3) := by decide +kernel
theorem d130_33 : decode (mcode 130) 33 = .ok (.ifCond .ne 5, 3) := by decide +kernel
theorem d130_36 : decode (mcode 130) 36 = .ok (.iconst 0, 1) := by decide +kernel
theorem d130_37 : decode (mcode 130) 37 = .ok (.ireturn, 1) := by decide +kernel
theorem d130_38 : decode (mcode 130) 38 = .ok (.aload_n 0, 1) := by decide +kernel
theorem d130_39 : decode (mcode 130) 39 = .ok (.getfield 31, 3) := by decide +kernel
theorem d130_42 : decode (mcode 130) 42 = .ok (.aload_n 0, 1) := by decide +kernel
theorem d130_43 : decode (mcode 130) 43 = .ok (.getfield 17, 3) := by decide +kernel
theorem d130_46 : decode (mcode 130) 46 = .ok (.invokevirtual 85, 3) := by decide +kernel
theorem d130_49 : decode (mcode 130) 49 = .ok (.aload_n 0, 1) := by decide +kernel
theorem d130_50 : decode (mcode 130) 50 = .ok (.getfield 17, 3) := by decide +kernel
theorem d130_53 : decode (mcode 130) 53 = .ok (.getfield 104, 3) := by decide +kernel
theorem d130_56 : decode (mcode 130) 56 = .ok (.aload_n 0, 1) := by decide +kernel
theorem d130_57 : decode (mcode 130) 57 = .ok (.getfield 17, 3) := by decide +kernel
theorem d130_60 : decode (mcode 130) 60 = .ok (.getfield 21, 3) := by decide +kernel
theorem d130_63 : decode (mcode 130) 63 = .ok (.iload_n 1, 1) := by decide +kernel
theorem d130_64 : decode (mcode 130) 64 = .ok (.iload_n 2, 1) := by decide +kernel
theorem d130_65 : decode (mcode 130) 65 = .ok (.invokevirtual 213, 3) := by decide +kernel
theorem d130_68 : decode (mcode 130) 68 = .ok (.aload_n 0, 1) := by decide +kernel
theorem d130_69 : decode (mcode 130) 69 = .ok (.getfield 38, 3) := by decide +kernel
theorem d130_72 : decode (mcode 130) 72 = .ok (.iconst 3, 1) := by decide +kernel
theorem d130_73 : decode (mcode 130) 73 = .ok (.iload_n 1, 1) := by decide +kernel
theorem d130_74 : decode (mcode 130) 74 = .ok (.iload_n 2, 1) := by decide +kernel
theorem d130_75 : decode (mcode 130) 75 = .ok (.invokevirtual 167, 3) := by decide +kernel
theorem d130_78 : decode (mcode 130) 78 = .ok (.iconst 1, 1) := by decide +kernel
theorem d130_79 : decode (mcode 130) 79 = .ok (.ireturn, 1) := by decide +kernel
theorem d131_0 : decode (mcode 131) 0 = .ok (.aload_n 0, 1) := by decide +kernel
theorem d131_1 : decode (mcode 131) 1 = .ok (.getfield 25, 3) := by decide +kernel
theorem d131_4 : decode (mcode 131) 4 = .ok (.getfield 104, 3) := by decide +kernel
theorem d131_7 : decode (mcode 131) 7 = .ok (.aload_n 0, 1) := by decide +kernel
theorem d131_8 : decode (mcode 131) 8 = .ok (.getfield 17, 3) := by decide +kernel
theorem d131_11 : decode (mcode 131) 11 = .ok (.getfield 104, 3) := by decide +kernel
theorem d131_14 : decode (mcode 131) 14 = .ok (.invokevirtual 217, 3) := by decide +kernel
theorem d131_17 : decode (mcode 131) 17 = .ok (.aload_n 0, 1) := by decide +kernel
theorem d131_18 : decode (mcode 131) 18 = .ok (.getfield 66, 3) := by decide +kernel
theorem d131_21 : decode (mcode 131) 21 = .ok (.aload_n 0, 1) := by decide +kernel
theorem d131_22 : decode (mcode 131) 22 = .ok (.getfield 25, 3) := by decide +kernel
theorem d131_25 : decode (mcode 131) 25 = .ok (.getfield 21, 3) := by decide +kernel
theorem d131_28 : decode (mcode 131) 28 = .ok (.aload_n 0, 1) := by decide +kernel
theorem d131_29 : decode (mcode 131) 29 = .ok (.getfield 25, 3) := by decide +kernel
theorem d131_32 : decode (mcode 131) 32 = .ok (.getfield 104, 3) := by decide +kernel
theorem d131_35 : decode (mcode 131) 35 = .ok (.invokevirtual 221, 3) := by decide +kernel
theorem d131_38 : decode (mcode 131) 38 = .ok (.istore_n 1, 1) := by decide +kernel
theorem d131_39 : decode (mcode 131) 39 = .ok (.iload_n 1, 1) := by decide +kernel
theorem d131_40 : decode (mcode 131) 40 = .ok (.iconst (-1), 1) := by decide +kernel
theorem d131_41 : decode (mcode 131) 41 = .ok (.if_icmp .ne 5, 3) := by decide +kernel
theorem d131_44 : decode (mcode 131) 44 = .ok (.iconst (-1), 1) := by decide +kernel
theorem d131_45 : decode (mcode 131) 45 = .ok (.ireturn, 1) := by decide +kernel
theorem d131_46 : decode (mcode 131) 46 = .ok (.aload_n 0, 1) := by decide +kernel
theorem d131_47 : decode (mcode 131) 47 = .ok (.getfield 31, 3) := by decide +kernel
theorem d131_50 : decode (mcode 131) 50 = .ok (.aload_n 0, 1) := by decide +kernel
theorem d131_51 : decode (mcode 131) 51 = .ok (.getfield 17, 3) := by decide +kernel
theorem d131_54 : decode (mcode 131) 54 = .ok (.invokevirtual 85, 3) := by decide +kernel
theorem d131_57 : decode (mcode 131) 57 = .ok (.aload_n 0, 1) := by decide +kernel
theorem d131_58 : decode (mcode 131) 58 = .ok (.getfield 17, 3) := by decide +kernel
theorem d131_61 : decode (mcode 131) 61 = .ok (.getfield 104, 3) := by decide +kernel
theorem d131_64 : decode (mcode 131) 64 = .ok (.aload_n 0, 1) := by decide +kernel
theorem d131_65 : decode (mcode 131) 65 = .ok (.getfield 25, 3) := by decide +kernel
theorem d131_68 : decode (mcode 131) 68 = .ok (.getfield 104, 3) := by decide +kernel
theorem d131_71 : decode (mcode 131) 71 = .ok (.invokevirtual 217, 3) := by decide +kernel
theorem d131_74 : decode (mcode 131) 74 = .ok (.aload_n 0, 1) := by decide +kernel
theorem d131_75 : decode (mcode 131) 75 = .ok (.getfield 38, 3) := by decide +kernel
theorem d131_78 : decode (mcode 131) 78 = .ok (.iconst 5, 1) := by decide +kernel
theorem d131_79 : decode (mcode 131) 79 = .ok (.iload_n 1, 1) := by decide +kernel
theorem d131_80 : decode (mcode 131) 80 = .ok (.aload_n 0, 1) := by decide +kernel
theorem d131_81 : decode (mcode 131) 81 = .ok (.getfield 17, 3) := by decide +kernel
theorem d131_84 : decode (mcode 131) 84 = .ok (.getfield 104, 3) := by decide +kernel
theorem d131_87 : decode (mcode 131) 87 = .ok (.getfield 193, 3) := by decide +kernel
theorem d131_90 : decode (mcode 131) 90 = .ok (.invokevirtual 167, 3) := by decide +kernel
theorem d131_93 : decode (mcode 131) 93 = .ok (.iload_n 1, 1) := by decide +kernel
theorem d131_94 : decode (mcode 131) 94 = .ok (.ireturn, 1) := by decide +kernel
theorem d132_0 : decode (mcode 132) 0 = .ok (.aload_n 0, 1) := by decide +kernel
theorem d132_1 : decode (mcode 132) 1 = .ok (.getfield 45, 3) := by decide +kernel
theorem d132_4 : decode (mcode 132) 4 = .ok (.getfield 225, 3) := by decide +kernel
theorem d132_7 : decode (mcode 132) 7 = .ok (.bipush 20, 2) := by decide +kernel
theorem d132_9 : decode (mcode 132) 9 = .ok (.iadd, 1) := by decide +kernel
theorem d132_10 : decode (mcode 132) 10 = .ok (.sipush 400, 3) := by decide +kernel
theorem d132_13 : decode (mcode 132) 13 = .ok (.if_icmp .le 5, 3) := by decide +kernel
theorem d132_16 : decode (mcode 132) 16 = .ok (.iconst (-1), 1) := by decide +kernel
theorem d132_17 : decode (mcode 132) 17 = .ok (.ireturn, 1) := by decide +kernel
theorem d132_18 : decode (mcode 132) 18 = .ok (.aload_n 0, 1) := by decide +kernel
theorem d132_19 : decode (mcode 132) 19 = .ok (.getfield 45, 3) := by decide +kernel
theorem d132_22 : decode (mcode 132) 22 = .ok (.iload_n 1, 1) := by decide +kernel
theorem d132_23 : decode (mcode 132) 23 = .ok (.invokevirtual 228, 3) := by decide +kernel
theorem d132_26 : decode (mcode 132) 26 = .ok (.aload_n 0, 1) := by decide +kernel
theorem d132_27 : decode (mcode 132) 27 = .ok (.getfield 45, 3) := by decide +kernel
theorem d132_30 : decode (mcode 132) 30 = .ok (.iload_n 2, 1) := by decide +kernel
theorem d132_31 : decode (mcode 132) 31 = .ok (.invokevirtual 228, 3) := by decide +kernel
theorem d132_34 : decode (mcode 132) 34 = .ok (.aload_n 0, 1) := by decide +kernel
theorem d132_35 : decode (mcode 132) 35 = .ok (.getfield 45, 3) := by decide +kernel
theorem d132_38 : decode (mcode 132) 38 = .ok (.iload_n 3, 1) := by decide +kernel
theorem d132_39 : decode (mcode 132) 39 = .ok (.invokevirtual 228, 3) := by decide +kernel
theorem d132_42 : decode (mcode 132) 42 = .ok (.aload_n 0, 1) := by decide +kernel
theorem d132_43 : decode (mcode 132) 43 = .ok (.getfield 45, 3) := by decide +kernel
theorem d132_46 : decode (mcode 132) 46 = .ok (.iload 4, 2) := by decide +kernel
theorem d132_48 : decode (mcode 132) 48 = .ok (.invokevirtual 228, 3) := by decide +kernel
theorem d132_51 : decode (mcode 132) 51 = .ok (.aload_n 0, 1) := by decide +kernel
theorem d132_52 : decode (mcode 132) 52 = .ok (.getfield 45, 3) := by decide +kernel
theorem d132_55 : decode (mcode 132) 55 = .ok (.iload 5, 2) := by decide +kernel
theorem d132_57 : decode (mcode 132) 57 = .ok (.invokevirtual 228, 3) := by decide +kernel
theorem d132_60 : decode (mcode 132) 60 = .ok (.aload_n 0, 1) := by decide +kernel
theorem d132_61 : decode (mcode 132) 61 = .ok (.getfield 45, 3) := by decide +kernel
theorem d132_64 : decode (mcode 132) 64 = .ok (.getfield 225, 3) := by decide +kernel
theorem d132_67 : decode (mcode 132) 67 = .ok (.ireturn, 1) := by decide +kernel
theorem d133_0 : decode (mcode 133) 0 = .ok (.iload_n 1, 1) := by decide +kernel
theorem d133_1 : decode (mcode 133) 1 = .ok (.ifCond .lt 14, 3) := by decide +kernel
theorem d133_4 : decode (mcode 133) 4 = .ok (.iload_n 1, 1) := by decide +kernel
theorem d133_5 : decode (mcode 133) 5 = .ok (.aload_n 0, 1) := by decide +kernel
theorem d133_6 : decode (mcode 133) 6 = .ok (.getfield 45, 3) := by decide +kernel
theorem d133_9 : decode (mcode 133) 9 = .ok (.getfield 225, 3) := by decide +kernel
theorem d133_12 : decode (mcode 133) 12 = .ok (.if_icmp .le 5, 3) := by decide +kernel
theorem d133_15 : decode (mcode 133) 15 = .ok (.iconst 0, 1) := by decide +kernel
theorem d133_16 : decode (mcode 133) 16 = .ok (.ireturn, 1) := by decide +kernel
theorem d133_17 : decode (mcode 133) 17 = .ok (.aload_n 0, 1) := by decide +kernel
theorem d133_18 : decode (mcode 133) 18 = .ok (.getfield 45, 3) := by decide +kernel
theorem d133_21 : decode (mcode 133) 21 = .ok (.iload_n 1, 1) := by decide +kernel
theorem d133_22 : decode (mcode 133) 22 = .ok (.putfield 225, 3) := by decide +kernel
theorem d133_25 : decode (mcode 133) 25 = .ok (.iconst 1, 1) := by decide +kernel
theorem d133_26 : decode (mcode 133) 26 = .ok (.ireturn, 1) := by decide +kernel
theorem d134_0 : decode (mcode 134) 0 = .ok (.aload_n 0, 1) := by decide +kernel
theorem d134_1 : decode (mcode 134) 1 = .ok (.aload_n 0, 1) := by decide +kernel
theorem d134_2 : decode (mcode 134) 2 = .ok (.getfield 45, 3) := by decide +kernel
theorem d134_5 : decode (mcode 134) 5 = .ok (.invokevirtual 232, 3) := by decide +kernel
theorem d134_8 : decode (mcode 134) 8 = .ok (.putfield 77, 3) := by decide +kernel
theorem d134_11 : decode (mcode 134) 11 = .ok (.aload_n 0, 1) := by decide +kernel
theorem d134_12 : decode (mcode 134) 12 = .ok (.getfield 77, 3) := by decide +kernel
theorem d134_15 : decode (mcode 134) 15 = .ok (.iconst (-1), 1) := by decide +kernel
theorem d134_16 : decode (mcode 134) 16 = .ok (.if_icmp .ne 49, 3) := by decide +kernel
theorem d134_19 : decode (mcode 134) 19 = .ok (.aload_n 0, 1) := by decide +kernel
theorem d134_20 : decode (mcode 134) 20 = .ok (.getfield 31, 3) := by decide +kernel
theorem d134_23 : decode (mcode 134) 23 = .ok (.aload_n 0, 1) := by decide +kernel
theorem d134_24 : decode (mcode 134) 24 = .ok (.getfield 17, 3) := by decide +kernel
theorem d134_27 : decode (mcode 134) 27 = .ok (.invokevirtual 85, 3) := by decide +kernel
theorem d134_30 : decode (mcode 134) 30 = .ok (.aload_n 0, 1) := by decide +kernel
theorem d134_31 : decode (mcode 134) 31 = .ok (.getfield 17, 3) := by decide +kernel
theorem d134_34 : decode (mcode 134) 34 = .ok (.aload_n 0, 1) := by decide +kernel
theorem d134_35 : decode (mcode 134) 35 = .ok (.getfield 45, 3) := by decide +kernel
theorem d134_38 : decode (mcode 134) 38 = .ok (.getfield 235, 3) := by decide +kernel
theorem d134_41 : decode (mcode 134) 41 = .ok (.aload_n 0, 1) := by decide +kernel
theorem d134_42 : decode (mcode 134) 42 = .ok (.getfield 45, 3) := by decide +kernel
theorem d134_45 : decode (mcode 134) 45 = .ok (.getfield 238, 3) := by decide +kernel
theorem d134_48 : decode (mcode 134) 48 = .ok (.invokevirtual 89, 3) := by decide +kernel
theorem d134_51 : decode (mcode 134) 51 = .ok (.aload_n 0, 1) := by decide +kernel
theorem d134_52 : decode (mcode 134) 52 = .ok (.getfield 45, 3) := by decide +kernel
theorem d134_55 : decode (mcode 134) 55 = .ok (.aload_n 0, 1) := by decide +kernel
theorem d134_56 : decode (mcode 134) 56 = .ok (.getfield 17, 3) := by decide +kernel
theorem d134_59 : decode (mcode 134) 59 = .ok (.getfield 21, 3) := by decide +kernel
theorem d134_62 : decode (mcode 134) 62 = .ok (.invokevirtual 241, 3) := by decide +kernel
theorem d134_65 : decode (mcode 134) 65 = .ok (.aload_n 0, 1) := by decide +kernel
theorem d134_66 : decode (mcode 134) 66 = .ok (.getfield 45, 3) := by decide +kernel
theorem d134_69 : decode (mcode 134) 69 = .ok (.iconst 0, 1) := by decide +kernel
theorem d134_70 : decode (mcode 134) 70 = .ok (.putfield 225, 3) := by decide +kernel
theorem d134_73 : decode (mcode 134) 73 = .ok (.aload_n 0, 1) := by decide +kernel
theorem d134_74 : decode (mcode 134) 74 = .ok (.getfield 77, 3) := by decide +kernel
theorem d134_77 : decode (mcode 134) 77 = .ok (.iconst (-1), 1) := by decide +kernel
theorem d134_78 : decode (mcode 134) 78 = .ok (.if_icmp .ne 16, 3) := by decide +kernel
theorem d134_81 : decode (mcode 134) 81 = .ok (.aload_n 0, 1) := by decide +kernel
theorem d134_82 : decode (mcode 134) 82 = .ok (.getfield 17, 3) := by decide +kernel
theorem d134_85 : decode (mcode 134) 85 = .ok (.getfield 21, 3) := by decide +kernel
theorem d134_88 : decode (mcode 134) 88 = .ok (.invokevirtual 123, 3) := by decide +kernel
theorem d134_91 : decode (mcode 134) 91 = .ok (.goto 4, 3) := by decide +kernel
theorem d134_94 : decode (mcode 134) 94 = .ok (.iconst (-1), 1) := by decide +kernel
theorem d134_95 : decode (mcode 134) 95 = .ok (.ireturn, 1) := by decide +kernel
theorem d135_0 : decode (mcode 135) 0 = .ok (.aload_n 0, 1) := by decide +kernel
theorem d135_1 : decode (mcode 135) 1 = .ok (.getfield 77, 3) := by decide +kernel
theorem d135_4 : decode (mcode 135) 4 = .ok (.ireturn, 1) := by decide +kernel
theorem d136_0 : decode (mcode 136) 0 = .ok (.aload_n 0, 1) := by decide +kernel
theorem d136_1 : decode (mcode 136) 1 = .ok (.getfield 17, 3) := by decide +kernel
theorem d136_4 : decode (mcode 136) 4 = .ok (.getfield 21, 3) := by decide +kernel
theorem d136_7 : decode (mcode 136) 7 = .ok (.iload_n 1, 1) := by decide +kernel
theorem d136_8 : decode (mcode 136) 8 = .ok (.invokevirtual 93, 3) := by decide +kernel
theorem d136_11 : decode (mcode 136) 11 = .ok (.ifCond .ne 7, 3) := by decide +kernel
theorem d136_14 : decode (mcode 136) 14 = .ok (.sipush (-1000), 3) := by decide +kernel
theorem d136_17 : decode (mcode 136) 17 = .ok (.ireturn, 1) := by decide +kernel
theorem d136_18 : decode (mcode 136) 18 = .ok (.aload_n 0, 1) := by decide +kernel
theorem d136_19 : decode (mcode 136) 19 = .ok (.getfield 17, 3) := by decide +kernel
theorem d136_22 : decode (mcode 136) 22 = .ok (.getfield 104, 3) := by decide +kernel
theorem d136_25 : decode (mcode 136) 25 = .ok (.iload_n 1, 1) := by decide +kernel
theorem d136_26 : decode (mcode 136) 26 = .ok (.invokevirtual 243, 3) := by decide +kernel
theorem d136_29 : decode (mcode 136) 29 = .ok (.istore_n 3, 1) := by decide +kernel
theorem d136_30 : decode (mcode 136) 30 = .ok (.iload_n 2, 1) := by decide +kernel
theorem d136_31 : decode (mcode 136) 31 = .ok (.tableswitch 169 0 7 #[45, 58, 71, 92, 102, 123, 136, 148], 45) := by decide +kernel
theorem d136_76 : decode (mcode 136) 76 = .ok (.aload_n 0, 1) := by decide +kernel
theorem d136_77 : decode (mcode 136) 77 = .ok (.getfield 17, 3) := by decide +kernel
theorem d136_80 : decode (mcode 136) 80 = .ok (.getfield 21, 3) := by decide +kernel
theorem d136_83 : decode (mcode 136) 83 = .ok (.getfield 96, 3) := by decide +kernel
theorem d136_86 : decode (mcode 136) 86 = .ok (.iload_n 1, 1) := by decide +kernel
theorem d136_87 : decode (mcode 136) 87 = .ok (.iaload, 1) := by decide +kernel
theorem d136_88 : decode (mcode 136) 88 = .ok (.ireturn, 1) := by decide +kernel
theorem d136_89 : decode (mcode 136) 89 = .ok (.aload_n 0, 1) := by decide +kernel
theorem d136_90 : decode (mcode 136) 90 = .ok (.getfield 17, 3) := by decide +kernel
theorem d136_93 : decode (mcode 136) 93 = .ok (.getfield 21, 3) := by decide +kernel
theorem d136_96 : decode (mcode 136) 96 = .ok (.getfield 117, 3) := by decide +kernel
theorem d136_99 : decode (mcode 136) 99 = .ok (.iload_n 1, 1) := by decide +kernel
theorem d136_100 : decode (mcode 136) 100 = .ok (.iaload, 1) := by decide +kernel
theorem d136_101 : decode (mcode 136) 101 = .ok (.ireturn, 1) := by decide +kernel
theorem d136_102 : decode (mcode 136) 102 = .ok (.aload_n 0, 1) := by decide +kernel
theorem d136_103 : decode (mcode 136) 103 = .ok (.getfield 17, 3) := by decide +kernel
theorem d136_106 : decode (mcode 136) 106 = .ok (.getfield 21, 3) := by decide +kernel
theorem d136_109 : decode (mcode 136) 109 = .ok (.getfield 113, 3) := by decide +kernel
theorem d136_112 : decode (mcode 136) 112 = .ok (.iload_n 1, 1) := by decide +kernel
theorem d136_113 : decode (mcode 136) 113 = .ok (.baload, 1) := by decide +kernel
theorem d136_114 : decode (mcode 136) 114 = .ok (.ifCond .eq 7, 3) := by decide +kernel
theorem d136_117 : decode (mcode 136) 117 = .ok (.iconst 1, 1) := by decide +kernel
theorem d136_118 : decode (mcode 136) 118 = .ok (.goto 4, 3) := by decide +kernel
theorem d136_121 : decode (mcode 136) 121 = .ok (.iconst 0, 1) := by decide +kernel
theorem d136_122 : decode (mcode 136) 122 = .ok (.ireturn, 1) := by decide +kernel
theorem d136_123 : decode (mcode 136) 123 = .ok (.iload_n 3, 1) := by decide +kernel
theorem d136_124 : decode (mcode 136) 124 = .ok (.ifCond .eq 7, 3) := by decide +kernel
theorem d136_127 : decode (mcode 136) 127 = .ok (.iconst 1, 1) := by decide +kernel
theorem d136_128 : decode (mcode 136) 128 = .ok (.goto 4, 3) := by decide +kernel
theorem d136_131 : decode (mcode 136) 131 = .ok (.iconst 0, 1) := by decide +kernel
theorem d136_132 : decode (mcode 136) 132 = .ok (.ireturn, 1) := by decide +kernel
theorem d136_133 : decode (mcode 136) 133 = .ok (.iload_n 3, 1) := by decide +kernel
theorem d136_134 : decode (mcode 136) 134 = .ok (.ifCond .eq 18, 3) := by decide +kernel
theorem d136_137 : decode (mcode 136) 137 = .ok (.aload_n 0, 1) := by decide +kernel
theorem d136_138 : decode (mcode 136) 138 = .ok (.getfield 17, 3) := by decide +kernel
theorem d136_141 : decode (mcode 136) 141 = .ok (.getfield 104, 3) := by decide +kernel
theorem d136_144 : decode (mcode 136) 144 = .ok (.getfield 246, 3) := by decide +kernel
theorem d136_147 : decode (mcode 136) 147 = .ok (.iload_n 1, 1) := by decide +kernel
theorem d136_148 : decode (mcode 136) 148 = .ok (.iaload, 1) := by decide +kernel
theorem d136_149 : decode (mcode 136) 149 = .ok (.goto 4, 3) := by decide +kernel
theorem d136_152 : decode (mcode 136) 152 = .ok (.iconst (-1), 1) := by decide +kernel
theorem d136_153 : decode (mcode 136) 153 = .ok (.ireturn, 1) := by decide +kernel
theorem d136_154 : decode (mcode 136) 154 = .ok (.aload_n 0, 1) := by decide +kernel
theorem d136_155 : decode (mcode 136) 155 = .ok (.getfield 17, 3) := by decide +kernel
theorem d136_158 : decode (mcode 136) 158 = .ok (.getfield 104, 3) := by decide +kernel
theorem d136_161 : decode (mcode 136) 161 = .ok (.getfield 249, 3) := by decide +kernel
theorem d136_164 : decode (mcode 136) 164 = .ok (.iload_n 1, 1) := by decide +kernel
theorem d136_165 : decode (mcode 136) 165 = .ok (.iaload, 1) := by decide +kernel
theorem d136_166 : decode (mcode 136) 166 = .ok (.ireturn, 1) := by decide +kernel
theorem d136_167 : decode (mcode 136) 167 = .ok (.aload_n 0, 1) := by decide +kernel
theorem d136_168 : decode (mcode 136) 168 = .ok (.getfield 17, 3) := by decide +kernel
theorem d136_171 : decode (mcode 136) 171 = .ok (.getfield 104, 3) := by decide +kernel
theorem d136_174 : decode (mcode 136) 174 = .ok (.iload_n 1, 1) := by decide +kernel
theorem d136_175 : decode (mcode 136) 175 = .ok (.invokevirtual 252, 3) := by decide +kernel
theorem d136_178 : decode (mcode 136) 178 = .ok (.ireturn, 1) := by decide +kernel
theorem d136_179 : decode (mcode 136) 179 = .ok (.iload_n 3, 1) := by decide +kernel
theorem d136_180 : decode (mcode 136) 180 = .ok (.ifCond .eq 18, 3) := by decide +kernel
theorem d136_183 : decode (mcode 136) 183 = .ok (.aload_n 0, 1) := by decide +kernel
theorem d136_184 : decode (mcode 136) 184 = .ok (.getfield 17, 3) := by decide +kernel
theorem d136_187 : decode (mcode 136) 187 = .ok (.getfield 104, 3) := by decide +kernel
theorem d136_190 : decode (mcode 136) 190 = .ok (.getfield 255, 3) := by decide +kernel
theorem d136_193 : decode (mcode 136) 193 = .ok (.iload_n 1, 1) := by decide +kernel
theorem d136_194 : decode (mcode 136) 194 = .ok (.iaload, 1) := by decide +kernel
theorem d136_195 : decode (mcode 136) 195 = .ok (.goto 4, 3) := by decide +kernel
theorem d136_198 : decode (mcode 136) 198 = .ok (.iconst 0, 1) := by decide +kernel
theorem d136_199 : decode (mcode 136) 199 = .ok (.ireturn, 1) := by decide +kernel
theorem d136_200 : decode (mcode 136) 200 = .ok (.sipush (-1000), 3) := by decide +kernel
theorem d136_203 : decode (mcode 136) 203 = .ok (.ireturn, 1) := by decide +kernel
theorem d137_0 : decode (mcode 137) 0 = .ok (.aload_n 0, 1) := by decide +kernel
theorem d137_1 : decode (mcode 137) 1 = .ok (.getfield 17, 3) := by decide +kernel
theorem d137_4 : decode (mcode 137) 4 = .ok (.getfield 21, 3) := by decide +kernel
theorem d137_7 : decode (mcode 137) 7 = .ok (.iload_n 1, 1) := by decide +kernel
theorem d137_8 : decode (mcode 137) 8 = .ok (.invokevirtual 93, 3) := by decide +kernel
theorem d137_11 : decode (mcode 137) 11 = .ok (.ifCond .eq 17, 3) := by decide +kernel
theorem d137_14 : decode (mcode 137) 14 = .ok (.aload_n 0, 1) := by decide +kernel
theorem d137_15 : decode (mcode 137) 15 = .ok (.getfield 17, 3) := by decide +kernel
theorem d137_18 : decode (mcode 137) 18 = .ok (.getfield 104, 3) := by decide +kernel
theorem d137_21 : decode (mcode 137) 21 = .ok (.iload_n 1, 1) := by decide +kernel
theorem d137_22 : decode (mcode 137) 22 = .ok (.invokevirtual 243, 3) := by decide +kernel
theorem d137_25 : decode (mcode 137) 25 = .ok (.ifCond .ne 7, 3) := by decide +kernel
theorem d137_28 : decode (mcode 137) 28 = .ok (.ldc_w 258, 3) := by decide +kernel
theorem d137_31 : decode (mcode 137) 31 = .ok (.ireturn, 1) := by decide +kernel
theorem d137_32 : decode (mcode 137) 32 = .ok (.aload_n 0, 1) := by decide +kernel
theorem d137_33 : decode (mcode 137) 33 = .ok (.getfield 17, 3) := by decide +kernel
theorem d137_36 : decode (mcode 137) 36 = .ok (.getfield 104, 3) := by decide +kernel
theorem d137_39 : decode (mcode 137) 39 = .ok (.getfield 259, 3) := by decide +kernel
theorem d137_42 : decode (mcode 137) 42 = .ok (.iload_n 1, 1) := by decide +kernel
theorem d137_43 : decode (mcode 137) 43 = .ok (.iaload, 1) := by decide +kernel
theorem d137_44 : decode (mcode 137) 44 = .ok (.ireturn, 1) := by decide +kernel
theorem d138_0 : decode (mcode 138) 0 = .ok (.aload_n 0, 1) := by decide +kernel
theorem d138_1 : decode (mcode 138) 1 = .ok (.getfield 17, 3) := by decide +kernel
theorem d138_4 : decode (mcode 138) 4 = .ok (.getfield 21, 3) := by decide +kernel
theorem d138_7 : decode (mcode 138) 7 = .ok (.astore_n 3, 1) := by decide +kernel
theorem d138_8 : decode (mcode 138) 8 = .ok (.aload_n 3, 1) := by decide +kernel
theorem d138_9 : decode (mcode 138) 9 = .ok (.iload_n 1, 1) := by decide +kernel
theorem d138_10 : decode (mcode 138) 10 = .ok (.invokevirtual 171, 3) := by decide +kernel
theorem d138_13 : decode (mcode 138) 13 = .ok (.ifCond .ne 7, 3) := by decide +kernel
theorem d138_16 : decode (mcode 138) 16 = .ok (.sipush (-1000), 3) := by decide +kernel
theorem d138_19 : decode (mcode 138) 19 = .ok (.ireturn, 1) := by decide +kernel
theorem d138_20 : decode (mcode 138) 20 = .ok (.iload_n 2, 1) := by decide +kernel
theorem d138_21 : decode (mcode 138) 21 = .ok (.tableswitch 149 0 6 #[43, 49, 63, 76, 91, 108, 125], 43) := by decide +kernel
theorem d138_64 : decode (mcode 138) 64 = .ok (.aload_n 3, 1) := by decide +kernel
theorem d138_65 : decode (mcode 138) 65 = .ok (.iload_n 1, 1) := by decide +kernel
theorem d138_66 : decode (mcode 138) 66 = .ok (.invokevirtual 262, 3) := by decide +kernel
theorem d138_69 : decode (mcode 138) 69 = .ok (.ireturn, 1) := by decide +kernel
theorem d138_70 : decode (mcode 138) 70 = .ok (.aload_n 3, 1) := by decide +kernel
theorem d138_71 : decode (mcode 138) 71 = .ok (.iload_n 1, 1) := by decide +kernel
theorem d138_72 : decode (mcode 138) 72 = .ok (.invokevirtual 265, 3) := by decide +kernel
theorem d138_75 : decode (mcode 138) 75 = .ok (.ifCond .eq 7, 3) := by decide +kernel
theorem d138_78 : decode (mcode 138) 78 = .ok (.iconst 1, 1) := by decide +kernel
theorem d138_79 : decode (mcode 138) 79 = .ok (.goto 4, 3) := by decide +kernel
theorem d138_82 : decode (mcode 138) 82 = .ok (.iconst 0, 1) := by decide +kernel
theorem d138_83 : decode (mcode 138) 83 = .ok (.ireturn, 1) := by decide +kernel
theorem d138_84 : decode (mcode 138) 84 = .ok (.aload_n 0, 1) := by decide +kernel
theorem d138_85 : decode (mcode 138) 85 = .ok (.getfield 17, 3) := by decide +kernel
theorem d138_88 : decode (mcode 138) 88 = .ok (.getfield 151, 3) := by decide +kernel
theorem d138_91 : decode (mcode 138) 91 = .ok (.getfield 268, 3) := by decide +kernel
theorem d138_94 : decode (mcode 138) 94 = .ok (.iload_n 1, 1) := by decide +kernel
theorem d138_95 : decode (mcode 138) 95 = .ok (.iaload, 1) := by decide +kernel
theorem d138_96 : decode (mcode 138) 96 = .ok (.ireturn, 1) := by decide +kernel
theorem d138_97 : decode (mcode 138) 97 = .ok (.aload_n 3, 1) := by decide +kernel
theorem d138_98 : decode (mcode 138) 98 = .ok (.getfield 174, 3) := by decide +kernel
theorem d138_101 : decode (mcode 138) 101 = .ok (.iload_n 1, 1) := by decide +kernel
theorem d138_102 : decode (mcode 138) 102 = .ok (.baload, 1) := by decide +kernel
theorem d138_103 : decode (mcode 138) 103 = .ok (.ifCond .eq 7, 3) := by decide +kernel
theorem d138_106 : decode (mcode 138) 106 = .ok (.iconst 1, 1) := by decide +kernel
theorem d138_107 : decode (mcode 138) 107 = .ok (.goto 4, 3) := by decide +kernel
theorem d138_110 : decode (mcode 138) 110 = .ok (.iconst 0, 1) := by decide +kernel
theorem d138_111 : decode (mcode 138) 111 = .ok (.ireturn, 1) := by decide +kernel
theorem d138_112 : decode (mcode 138) 112 = .ok (.aload_n 0, 1) := by decide +kernel
theorem d138_113 : decode (mcode 138) 113 = .ok (.getfield 17, 3) := by decide +kernel
theorem d138_116 : decode (mcode 138) 116 = .ok (.iload_n 1, 1) := by decide +kernel
theorem d138_117 : decode (mcode 138) 117 = .ok (.invokevirtual 271, 3) := by decide +kernel
theorem d138_120 : decode (mcode 138) 120 = .ok (.ifCond .eq 7, 3) := by decide +kernel
theorem d138_123 : decode (mcode 138) 123 = .ok (.iconst 1, 1) := by decide +kernel
theorem d138_124 : decode (mcode 138) 124 = .ok (.goto 4, 3) := by decide +kernel
theorem d138_127 : decode (mcode 138) 127 = .ok (.iconst 0, 1) := by decide +kernel
theorem d138_128 : decode (mcode 138) 128 = .ok (.ireturn, 1) := by decide +kernel
theorem d138_129 : decode (mcode 138) 129 = .ok (.aload_n 0, 1) := by decide +kernel
theorem d138_130 : decode (mcode 138) 130 = .ok (.getfield 17, 3) := by decide +kernel
theorem d138_133 : decode (mcode 138) 133 = .ok (.iload_n 1, 1) := by decide +kernel
theorem d138_134 : decode (mcode 138) 134 = .ok (.invokevirtual 274, 3) := by decide +kernel
theorem d138_137 : decode (mcode 138) 137 = .ok (.ifCond .eq 7, 3) := by decide +kernel
theorem d138_140 : decode (mcode 138) 140 = .ok (.iconst 1, 1) := by decide +kernel
theorem d138_141 : decode (mcode 138) 141 = .ok (.goto 4, 3) := by decide +kernel
theorem d138_144 : decode (mcode 138) 144 = .ok (.iconst 0, 1) := by decide +kernel
theorem d138_145 : decode (mcode 138) 145 = .ok (.ireturn, 1) := by decide +kernel
theorem d138_146 : decode (mcode 138) 146 = .ok (.aload_n 3, 1) := by decide +kernel
theorem d138_147 : decode (mcode 138) 147 = .ok (.getfield 117, 3) := by decide +kernel
theorem d138_150 : decode (mcode 138) 150 = .ok (.aload_n 3, 1) := by decide +kernel
theorem d138_151 : decode (mcode 138) 151 = .ok (.iload_n 1, 1) := by decide +kernel
theorem d138_152 : decode (mcode 138) 152 = .ok (.invokevirtual 277, 3) := by decide +kernel
theorem d138_155 : decode (mcode 138) 155 = .ok (.iaload, 1) := by decide +kernel
theorem d138_156 : decode (mcode 138) 156 = .ok (.aload_n 3, 1) := by decide +kernel
theorem d138_157 : decode (mcode 138) 157 = .ok (.getfield 117, 3) := by decide +kernel
theorem d138_160 : decode (mcode 138) 160 = .ok (.aload_n 3, 1) := by decide +kernel
theorem d138_161 : decode (mcode 138) 161 = .ok (.iload_n 1, 1) := by decide +kernel
theorem d138_162 : decode (mcode 138) 162 = .ok (.invokevirtual 280, 3) := by decide +kernel
theorem d138_165 : decode (mcode 138) 165 = .ok (.iaload, 1) := by decide +kernel
theorem d138_166 : decode (mcode 138) 166 = .ok (.invokestatic 283, 3) := by decide +kernel
theorem d138_169 : decode (mcode 138) 169 = .ok (.ireturn, 1) := by decide +kernel
theorem d138_170 : decode (mcode 138) 170 = .ok (.sipush (-1000), 3) := by decide +kernel
theorem d138_173 : decode (mcode 138) 173 = .ok (.ireturn, 1) := by decide +kernel
theorem d139_0 : decode (mcode 139) 0 = .ok (.aload_n 0, 1) := by decide +kernel
theorem d139_1 : decode (mcode 139) 1 = .ok (.getfield 17, 3) := by decide +kernel
theorem d139_4 : decode (mcode 139) 4 = .ok (.getfield 21, 3) := by decide +kernel
theorem d139_7 : decode (mcode 139) 7 = .ok (.iload_n 1, 1) := by decide +kernel
theorem d139_8 : decode (mcode 139) 8 = .ok (.invokevirtual 288, 3) := by decide +kernel
theorem d139_11 : decode (mcode 139) 11 = .ok (.ifCond .eq 17, 3) := by decide +kernel
theorem d139_14 : decode (mcode 139) 14 = .ok (.aload_n 0, 1) := by decide +kernel
theorem d139_15 : decode (mcode 139) 15 = .ok (.getfield 17, 3) := by decide +kernel
theorem d139_18 : decode (mcode 139) 18 = .ok (.getfield 21, 3) := by decide +kernel
theorem d139_21 : decode (mcode 139) 21 = .ok (.iload_n 1, 1) := by decide +kernel
theorem d139_22 : decode (mcode 139) 22 = .ok (.invokevirtual 291, 3) := by decide +kernel
theorem d139_25 : decode (mcode 139) 25 = .ok (.goto 6, 3) := by decide +kernel
theorem d139_28 : decode (mcode 139) 28 = .ok (.sipush (-1000), 3) := by decide +kernel
theorem d139_31 : decode (mcode 139) 31 = .ok (.ireturn, 1) := by decide +kernel
theorem d140_0 : decode (mcode 140) 0 = .ok (.aload_n 0, 1) := by decide +kernel
theorem d140_1 : decode (mcode 140) 1 = .ok (.getfield 52, 3) := by decide +kernel
theorem d140_4 : decode (mcode 140) 4 = .ok (.aload_n 0, 1) := by decide +kernel
theorem d140_5 : decode (mcode 140) 5 = .ok (.getfield 17, 3) := by decide +kernel
theorem d140_8 : decode (mcode 140) 8 = .ok (.getfield 21, 3) := by decide +kernel
theorem d140_11 : decode (mcode 140) 11 = .ok (.invokevirtual 120, 3) := by decide +kernel
theorem d140_14 : decode (mcode 140) 14 = .ok (.iload_n 1, 1) := by decide +kernel
theorem d140_15 : decode (mcode 140) 15 = .ok (.iconst (-1), 1) := by decide +kernel
theorem d140_16 : decode (mcode 140) 16 = .ok (.if_icmp .ne 11, 3) := by decide +kernel
theorem d140_19 : decode (mcode 140) 19 = .ok (.aload_n 0, 1) := by decide +kernel
theorem d140_20 : decode (mcode 140) 20 = .ok (.getfield 52, 3) := by decide +kernel
theorem d140_23 : decode (mcode 140) 23 = .ok (.getfield 159, 3) := by decide +kernel
theorem d140_26 : decode (mcode 140) 26 = .ok (.ireturn, 1) := by decide +kernel
theorem d140_27 : decode (mcode 140) 27 = .ok (.iload_n 1, 1) := by decide +kernel
theorem d140_28 : decode (mcode 140) 28 = .ok (.ifCond .lt 26, 3) := by decide +kernel
theorem d140_31 : decode (mcode 140) 31 = .ok (.iload_n 1, 1) := by decide +kernel
theorem d140_32 : decode (mcode 140) 32 = .ok (.aload_n 0, 1) := by decide +kernel
theorem d140_33 : decode (mcode 140) 33 = .ok (.getfield 52, 3) := by decide +kernel
theorem d140_36 : decode (mcode 140) 36 = .ok (.getfield 159, 3) := by decide +kernel
theorem d140_39 : decode (mcode 140) 39 = .ok (.if_icmp .ge 15, 3) := by decide +kernel
theorem d140_42 : decode (mcode 140) 42 = .ok (.aload_n 0, 1) := by decide +kernel
theorem d140_43 : decode (mcode 140) 43 = .ok (.getfield 52, 3) := by decide +kernel
theorem d140_46 : decode (mcode 140) 46 = .ok (.getfield 294, 3) := by decide +kernel
theorem d140_49 : decode (mcode 140) 49 = .ok (.iload_n 1, 1) := by decide +kernel
theorem d140_50 : decode (mcode 140) 50 = .ok (.iaload, 1) := by decide +kernel
theorem d140_51 : decode (mcode 140) 51 = .ok (.goto 4, 3) := by decide +kernel
theorem d140_54 : decode (mcode 140) 54 = .ok (.iconst (-1), 1) := by decide +kernel
theorem d140_55 : decode (mcode 140) 55 = .ok (.ireturn, 1) := by decide +kernel
theorem d141_0 : decode (mcode 141) 0 = .ok (.aload_n 0, 1) := by decide +kernel
theorem d141_1 : decode (mcode 141) 1 = .ok (.getfield 17, 3) := by decide +kernel
theorem d141_4 : decode (mcode 141) 4 = .ok (.getfield 21, 3) := by decide +kernel
theorem d141_7 : decode (mcode 141) 7 = .ok (.iload_n 1, 1) := by decide +kernel
theorem d141_8 : decode (mcode 141) 8 = .ok (.invokevirtual 288, 3) := by decide +kernel
theorem d141_11 : decode (mcode 141) 11 = .ok (.ifCond .ne 5, 3) := by decide +kernel
theorem d141_14 : decode (mcode 141) 14 = .ok (.iconst (-1), 1) := by decide +kernel
theorem d141_15 : decode (mcode 141) 15 = .ok (.ireturn, 1) := by decide +kernel
theorem d141_16 : decode (mcode 141) 16 = .ok (.iload_n 2, 1) := by decide +kernel
theorem d141_17 : decode (mcode 141) 17 = .ok (.iconst (-1), 1) := by decide +kernel
theorem d141_18 : decode (mcode 141) 18 = .ok (.if_icmp .ne 15, 3) := by decide +kernel
theorem d141_21 : decode (mcode 141) 21 = .ok (.aload_n 0, 1) := by decide +kernel
theorem d141_22 : decode (mcode 141) 22 = .ok (.getfield 17, 3) := by decide +kernel
theorem d141_25 : decode (mcode 141) 25 = .ok (.getfield 21, 3) := by decide +kernel
theorem d141_28 : decode (mcode 141) 28 = .ok (.iload_n 1, 1) := by decide +kernel
theorem d141_29 : decode (mcode 141) 29 = .ok (.invokevirtual 297, 3) := by decide +kernel
theorem d141_32 : decode (mcode 141) 32 = .ok (.ireturn, 1) := by decide +kernel
theorem d141_33 : decode (mcode 141) 33 = .ok (.aload_n 0, 1) := by decide +kernel
theorem d141_34 : decode (mcode 141) 34 = .ok (.getfield 17, 3) := by decide +kernel
theorem d141_37 : decode (mcode 141) 37 = .ok (.getfield 21, 3) := by decide +kernel
theorem d141_40 : decode (mcode 141) 40 = .ok (.iload_n 2, 1) := by decide +kernel
theorem d141_41 : decode (mcode 141) 41 = .ok (.invokevirtual 288, 3) := by decide +kernel
theorem d141_44 : decode (mcode 141) 44 = .ok (.ifCond .eq 18, 3) := by decide +kernel
theorem d141_47 : decode (mcode 141) 47 = .ok (.aload_n 0, 1) := by decide +kernel
theorem d141_48 : decode (mcode 141) 48 = .ok (.getfield 17, 3) := by decide +kernel
theorem d141_51 : decode (mcode 141) 51 = .ok (.getfield 21, 3) := by decide +kernel
theorem d141_54 : decode (mcode 141) 54 = .ok (.iload_n 1, 1) := by decide +kernel
theorem d141_55 : decode (mcode 141) 55 = .ok (.iload_n 2, 1) := by decide +kernel
theorem d141_56 : decode (mcode 141) 56 = .ok (.invokevirtual 300, 3) := by decide +kernel
theorem d141_59 : decode (mcode 141) 59 = .ok (.goto 4, 3) := by decide +kernel
theorem d141_62 : decode (mcode 141) 62 = .ok (.iconst (-1), 1) := by decide +kernel
theorem d141_63 : decode (mcode 141) 63 = .ok (.ireturn, 1) := by decide +kernel
theorem d142_0 : decode (mcode 142) 0 = .ok (.aload_n 0, 1) := by decide +kernel
theorem d142_1 : decode (mcode 142) 1 = .ok (.getfield 17, 3) := by decide +kernel
theorem d142_4 : decode (mcode 142) 4 = .ok (.getfield 151, 3) := by decide +kernel
theorem d142_7 : decode (mcode 142) 7 = .ok (.astore_n 3, 1) := by decide +kernel
theorem d142_8 : decode (mcode 142) 8 = .ok (.iload_n 1, 1) := by decide +kernel
theorem d142_9 : decode (mcode 142) 9 = .ok (.iconst (-1), 1) := by decide +kernel
theorem d142_10 : decode (mcode 142) 10 = .ok (.if_icmp .ne 8, 3) := by decide +kernel
theorem d142_13 : decode (mcode 142) 13 = .ok (.aload_n 3, 1) := by decide +kernel
theorem d142_14 : decode (mcode 142) 14 = .ok (.getfield 303, 3) := by decide +kernel
theorem d142_17 : decode (mcode 142) 17 = .ok (.ireturn, 1) := by decide +kernel
theorem d142_18 : decode (mcode 142) 18 = .ok (.iload_n 1, 1) := by decide +kernel
theorem d142_19 : decode (mcode 142) 19 = .ok (.ifCond .lt 11, 3) := by decide +kernel
theorem d142_22 : decode (mcode 142) 22 = .ok (.iload_n 1, 1) := by decide +kernel
theorem d142_23 : decode (mcode 142) 23 = .ok (.aload_n 3, 1) := by decide +kernel
theorem d142_24 : decode (mcode 142) 24 = .ok (.getfield 303, 3) := by decide +kernel
theorem d142_27 : decode (mcode 142) 27 = .ok (.if_icmp .lt 7, 3) := by decide +kernel
theorem d142_30 : decode (mcode 142) 30 = .ok (.sipush (-1000), 3) := by decide +kernel
theorem d142_33 : decode (mcode 142) 33 = .ok (.ireturn, 1) := by decide +kernel
theorem d142_34 : decode (mcode 142) 34 = .ok (.iload_n 2, 1) := by decide +kernel
theorem d142_35 : decode (mcode 142) 35 = .ok (.tableswitch 62 0 2 #[25, 32, 39], 25) := by decide +kernel
theorem d142_60 : decode (mcode 142) 60 = .ok (.aload_n 3, 1) := by decide +kernel
theorem d142_61 : decode (mcode 142) 61 = .ok (.getfield 304, 3) := by decide +kernel
theorem d142_64 : decode (mcode 142) 64 = .ok (.iload_n 1, 1) := by decide +kernel
theorem d142_65 : decode (mcode 142) 65 = .ok (.iaload, 1) := by decide +kernel
theorem d142_66 : decode (mcode 142) 66 = .ok (.ireturn, 1) := by decide +kernel
theorem d142_67 : decode (mcode 142) 67 = .ok (.aload_n 3, 1) := by decide +kernel
theorem d142_68 : decode (mcode 142) 68 = .ok (.getfield 307, 3) := by decide +kernel
theorem d142_71 : decode (mcode 142) 71 = .ok (.iload_n 1, 1) := by decide +kernel
theorem d142_72 : decode (mcode 142) 72 = .ok (.iaload, 1) := by decide +kernel
theorem d142_73 : decode (mcode 142) 73 = .ok (.ireturn, 1) := by decide +kernel
theorem d142_74 : decode (mcode 142) 74 = .ok (.aload_n 0, 1) := by decide +kernel
theorem d142_75 : decode (mcode 142) 75 = .ok (.getfield 17, 3) := by decide +kernel
theorem d142_78 : decode (mcode 142) 78 = .ok (.getfield 21, 3) := by decide +kernel
theorem d142_81 : decode (mcode 142) 81 = .ok (.aload_n 3, 1) := by decide +kernel
theorem d142_82 : decode (mcode 142) 82 = .ok (.getfield 304, 3) := by decide +kernel
theorem d142_85 : decode (mcode 142) 85 = .ok (.iload_n 1, 1) := by decide +kernel
theorem d142_86 : decode (mcode 142) 86 = .ok (.iaload, 1) := by decide +kernel
theorem d142_87 : decode (mcode 142) 87 = .ok (.aload_n 3, 1) := by decide +kernel
theorem d142_88 : decode (mcode 142) 88 = .ok (.getfield 307, 3) := by decide +kernel
theorem d142_91 : decode (mcode 142) 91 = .ok (.iload_n 1, 1) := by decide +kernel
theorem d142_92 : decode (mcode 142) 92 = .ok (.iaload, 1) := by decide +kernel
theorem d142_93 : decode (mcode 142) 93 = .ok (.invokevirtual 310, 3) := by decide +kernel
theorem d142_96 : decode (mcode 142) 96 = .ok (.ireturn, 1) := by decide +kernel
theorem d142_97 : decode (mcode 142) 97 = .ok (.sipush (-1000), 3) := by decide +kernel
theorem d142_100 : decode (mcode 142) 100 = .ok (.ireturn, 1) := by decide +kernel
theorem d143_0 : decode (mcode 143) 0 = .ok (.aload_n 0, 1) := by decide +kernel
theorem d143_1 : decode (mcode 143) 1 = .ok (.getfield 17, 3) := by decide +kernel
theorem d143_4 : decode (mcode 143) 4 = .ok (.getfield 21, 3) := by decide +kernel
theorem d143_7 : decode (mcode 143) 7 = .ok (.astore 5, 2) := by decide +kernel
theorem d143_9 : decode (mcode 143) 9 = .ok (.iload_n 1, 1) := by decide +kernel
theorem d143_10 : decode (mcode 143) 10 = .ok (.ifCond .lt 17, 3) := by decide +kernel
theorem d143_13 : decode (mcode 143) 13 = .ok (.iload_n 2, 1) := by decide +kernel
theorem d143_14 : decode (mcode 143) 14 = .ok (.aload 5, 2) := by decide +kernel
theorem d143_16 : decode (mcode 143) 16 = .ok (.getfield 313, 3) := by decide +kernel
theorem d143_19 : decode (mcode 143) 19 = .ok (.if_icmp .ge 8, 3) := by decide +kernel
theorem d143_22 : decode (mcode 143) 22 = .ok (.iload_n 1, 1) := by decide +kernel
theorem d143_23 : decode (mcode 143) 23 = .ok (.iload_n 2, 1) := by decide +kernel
theorem d143_24 : decode (mcode 143) 24 = .ok (.if_icmp .lt 7, 3) := by decide +kernel
theorem d143_27 : decode (mcode 143) 27 = .ok (.sipush (-1000), 3) := by decide +kernel
theorem d143_30 : decode (mcode 143) 30 = .ok (.ireturn, 1) := by decide +kernel
theorem d143_31 : decode (mcode 143) 31 = .ok (.iload_n 3, 1) := by decide +kernel
theorem d143_32 : decode (mcode 143) 32 = .ok (.ifCond .lt 19, 3) := by decide +kernel
theorem d143_35 : decode (mcode 143) 35 = .ok (.iload 4, 2) := by decide +kernel
theorem d143_37 : decode (mcode 143) 37 = .ok (.aload 5, 2) := by decide +kernel
theorem d143_39 : decode (mcode 143) 39 = .ok (.getfield 314, 3) := by decide +kernel
theorem d143_42 : decode (mcode 143) 42 = .ok (.if_icmp .ge 9, 3) := by decide +kernel
theorem d143_45 : decode (mcode 143) 45 = .ok (.iload_n 3, 1) := by decide +kernel
theorem d143_46 : decode (mcode 143) 46 = .ok (.iload 4, 2) := by decide +kernel
theorem d143_48 : decode (mcode 143) 48 = .ok (.if_icmp .lt 7, 3) := by decide +kernel
theorem d143_51 : decode (mcode 143) 51 = .ok (.sipush (-1000), 3) := by decide +kernel
theorem d143_54 : decode (mcode 143) 54 = .ok (.ireturn, 1) := by decide +kernel
theorem d143_55 : decode (mcode 143) 55 = .ok (.aload 5, 2) := by decide +kernel
theorem d143_57 : decode (mcode 143) 57 = .ok (.iload_n 1, 1) := by decide +kernel
theorem d143_58 : decode (mcode 143) 58 = .ok (.iload_n 2, 1) := by decide +kernel
theorem d143_59 : decode (mcode 143) 59 = .ok (.iload_n 3, 1) := by decide +kernel
theorem d143_60 : decode (mcode 143) 60 = .ok (.iload 4, 2) := by decide +kernel
theorem d143_62 : decode (mcode 143) 62 = .ok (.invokevirtual 315, 3) := by decide +kernel
theorem d143_65 : decode (mcode 143) 65 = .ok (.ifCond .eq 7, 3) := by decide +kernel
theorem d143_68 : decode (mcode 143) 68 = .ok (.sipush (-1000), 3) := by decide +kernel
theorem d143_71 : decode (mcode 143) 71 = .ok (.ireturn, 1) := by decide +kernel
theorem d143_72 : decode (mcode 143) 72 = .ok (.aload 5, 2) := by decide +kernel
theorem d143_74 : decode (mcode 143) 74 = .ok (.iload_n 1, 1) := by decide +kernel
theorem d143_75 : decode (mcode 143) 75 = .ok (.iload_n 2, 1) := by decide +kernel
theorem d143_76 : decode (mcode 143) 76 = .ok (.iload_n 3, 1) := by decide +kernel
theorem d143_77 : decode (mcode 143) 77 = .ok (.iload 4, 2) := by decide +kernel
theorem d143_79 : decode (mcode 143) 79 = .ok (.invokevirtual 319, 3) := by decide +kernel
theorem d143_82 : decode (mcode 143) 82 = .ok (.sipush 255, 3) := by decide +kernel
theorem d143_85 : decode (mcode 143) 85 = .ok (.idiv, 1) := by decide +kernel
theorem d143_86 : decode (mcode 143) 86 = .ok (.ireturn, 1) := by decide +kernel
theorem d144_0 : decode (mcode 144) 0 = .ok (.aload_n 0, 1) := by decide +kernel
theorem d144_1 : decode (mcode 144) 1 = .ok (.getfield 17, 3) := by decide +kernel
theorem d144_4 : decode (mcode 144) 4 = .ok (.getfield 104, 3) := by decide +kernel
theorem d144_7 : decode (mcode 144) 7 = .ok (.iload_n 1, 1) := by decide +kernel
theorem d144_8 : decode (mcode 144) 8 = .ok (.invokevirtual 206, 3) := by decide +kernel
theorem d144_11 : decode (mcode 144) 11 = .ok (.ifCond .ne 5, 3) := by decide +kernel
theorem d144_14 : decode (mcode 144) 14 = .ok (.iconst (-1), 1) := by decide +kernel
theorem d144_15 : decode (mcode 144) 15 = .ok (.ireturn, 1) := by decide +kernel
theorem d144_16 : decode (mcode 144) 16 = .ok (.iload_n 2, 1) := by decide +kernel
theorem d144_17 : decode (mcode 144) 17 = .ok (.tableswitch 85 0 3 #[31, 44, 63, 76], 31) := by decide +kernel
theorem d144_48 : decode (mcode 144) 48 = .ok (.aload_n 0, 1) := by decide +kernel
theorem d144_49 : decode (mcode 144) 49 = .ok (.getfield 17, 3) := by decide +kernel
theorem d144_52 : decode (mcode 144) 52 = .ok (.getfield 104, 3) := by decide +kernel
theorem d144_55 : decode (mcode 144) 55 = .ok (.getfield 200, 3) := by decide +kernel
theorem d144_58 : decode (mcode 144) 58 = .ok (.iload_n 1, 1) := by decide +kernel
theorem d144_59 : decode (mcode 144) 59 = .ok (.iaload, 1) := by decide +kernel
theorem d144_60 : decode (mcode 144) 60 = .ok (.ireturn, 1) := by decide +kernel
theorem d144_61 : decode (mcode 144) 61 = .ok (.aload_n 0, 1) := by decide +kernel
theorem d144_62 : decode (mcode 144) 62 = .ok (.getfield 17, 3) := by decide +kernel
theorem d144_65 : decode (mcode 144) 65 = .ok (.getfield 104, 3) := by decide +kernel
theorem d144_68 : decode (mcode 144) 68 = .ok (.aload_n 0, 1) := by decide +kernel
theorem d144_69 : decode (mcode 144) 69 = .ok (.getfield 17, 3) := by decide +kernel
theorem d144_72 : decode (mcode 144) 72 = .ok (.getfield 21, 3) := by decide +kernel
theorem d144_75 : decode (mcode 144) 75 = .ok (.iload_n 1, 1) := by decide +kernel
theorem d144_76 : decode (mcode 144) 76 = .ok (.invokevirtual 323, 3) := by decide +kernel
theorem d144_79 : decode (mcode 144) 79 = .ok (.ireturn, 1) := by decide +kernel
theorem d144_80 : decode (mcode 144) 80 = .ok (.aload_n 0, 1) := by decide +kernel
theorem d144_81 : decode (mcode 144) 81 = .ok (.getfield 17, 3) := by decide +kernel
theorem d144_84 : decode (mcode 144) 84 = .ok (.getfield 104, 3) := by decide +kernel
theorem d144_87 : decode (mcode 144) 87 = .ok (.getfield 327, 3) := by decide +kernel
theorem d144_90 : decode (mcode 144) 90 = .ok (.iload_n 1, 1) := by decide +kernel
theorem d144_91 : decode (mcode 144) 91 = .ok (.iaload, 1) := by decide +kernel
theorem d144_92 : decode (mcode 144) 92 = .ok (.ireturn, 1) := by decide +kernel
theorem d144_93 : decode (mcode 144) 93 = .ok (.aload_n 0, 1) := by decide +kernel
theorem d144_94 : decode (mcode 144) 94 = .ok (.getfield 17, 3) := by decide +kernel
theorem d144_97 : decode (mcode 144) 97 = .ok (.iload_n 1, 1) := by decide +kernel
theorem d144_98 : decode (mcode 144) 98 = .ok (.invokevirtual 330, 3) := by decide +kernel
theorem d144_101 : decode (mcode 144) 101 = .ok (.ireturn, 1) := by decide +kernel
theorem d144_102 : decode (mcode 144) 102 = .ok (.iconst (-1), 1) := by decide +kernel
theorem d144_103 : decode (mcode 144) 103 = .ok (.ireturn, 1) := by decide +kernel
theorem d145_0 : decode (mcode 145) 0 = .ok (.aload_n 0, 1) := by decide +kernel
theorem d145_1 : decode (mcode 145) 1 = .ok (.getfield 17, 3) := by decide +kernel
theorem d145_4 : decode (mcode 145) 4 = .ok (.getfield 104, 3) := by decide +kernel
theorem d145_7 : decode (mcode 145) 7 = .ok (.iload_n 1, 1) := by decide +kernel
theorem d145_8 : decode (mcode 145) 8 = .ok (.invokevirtual 206, 3) := by decide +kernel
theorem d145_11 : decode (mcode 145) 11 = .ok (.ifCond .eq 22, 3) := by decide +kernel
theorem d145_14 : decode (mcode 145) 14 = .ok (.aload_n 0, 1) := by decide +kernel
theorem d145_15 : decode (mcode 145) 15 = .ok (.getfield 17, 3) := by decide +kernel
theorem d145_18 : decode (mcode 145) 18 = .ok (.getfield 104, 3) := by decide +kernel
theorem d145_21 : decode (mcode 145) 21 = .ok (.iload_n 2, 1) := by decide +kernel
theorem d145_22 : decode (mcode 145) 22 = .ok (.invokevirtual 206, 3) := by decide +kernel
theorem d145_25 : decode (mcode 145) 25 = .ok (.ifCond .eq 8, 3) := by decide +kernel
theorem d145_28 : decode (mcode 145) 28 = .ok (.iload_n 1, 1) := by decide +kernel
theorem d145_29 : decode (mcode 145) 29 = .ok (.iload_n 2, 1) := by decide +kernel
theorem d145_30 : decode (mcode 145) 30 = .ok (.if_icmp .ne 7, 3) := by decide +kernel
theorem d145_33 : decode (mcode 145) 33 = .ok (.ldc_w 333, 3) := by decide +kernel
theorem d145_36 : decode (mcode 145) 36 = .ok (.ireturn, 1) := by decide +kernel
theorem d145_37 : decode (mcode 145) 37 = .ok (.aload_n 0, 1) := by decide +kernel
theorem d145_38 : decode (mcode 145) 38 = .ok (.getfield 66, 3) := by decide +kernel
theorem d145_41 : decode (mcode 145) 41 = .ok (.aload_n 0, 1) := by decide +kernel
theorem d145_42 : decode (mcode 145) 42 = .ok (.getfield 17, 3) := by decide +kernel
theorem d145_45 : decode (mcode 145) 45 = .ok (.getfield 21, 3) := by decide +kernel
theorem d145_48 : decode (mcode 145) 48 = .ok (.aload_n 0, 1) := by decide +kernel
theorem d145_49 : decode (mcode 145) 49 = .ok (.getfield 17, 3) := by decide +kernel
theorem d145_52 : decode (mcode 145) 52 = .ok (.getfield 104, 3) := by decide +kernel
theorem d145_55 : decode (mcode 145) 55 = .ok (.invokevirtual 334, 3) := by decide +kernel
theorem d145_58 : decode (mcode 145) 58 = .ok (.aload_n 0, 1) := by decide +kernel
theorem d145_59 : decode (mcode 145) 59 = .ok (.getfield 66, 3) := by decide +kernel
theorem d145_62 : decode (mcode 145) 62 = .ok (.iload_n 1, 1) := by decide +kernel
theorem d145_63 : decode (mcode 145) 63 = .ok (.iload_n 2, 1) := by decide +kernel
theorem d145_64 : decode (mcode 145) 64 = .ok (.invokevirtual 337, 3) := by decide +kernel
theorem d145_67 : decode (mcode 145) 67 = .ok (.aload_n 0, 1) := by decide +kernel
theorem d145_68 : decode (mcode 145) 68 = .ok (.getfield 66, 3) := by decide +kernel
theorem d145_71 : decode (mcode 145) 71 = .ok (.getfield 340, 3) := by decide +kernel
theorem d145_74 : decode (mcode 145) 74 = .ok (.ifCond .eq 12, 3) := by decide +kernel
theorem d145_77 : decode (mcode 145) 77 = .ok (.iload_n 3, 1) := by decide +kernel
theorem d145_78 : decode (mcode 145) 78 = .ok (.ifCond .lt 8, 3) := by decide +kernel
theorem d145_81 : decode (mcode 145) 81 = .ok (.iload_n 3, 1) := by decide +kernel
theorem d145_82 : decode (mcode 145) 82 = .ok (.iconst 1, 1) := by decide +kernel
theorem d145_83 : decode (mcode 145) 83 = .ok (.if_icmp .le 7, 3) := by decide +kernel
theorem d145_86 : decode (mcode 145) 86 = .ok (.ldc_w 333, 3) := by decide +kernel
theorem d145_89 : decode (mcode 145) 89 = .ok (.ireturn, 1) := by decide +kernel
theorem d145_90 : decode (mcode 145) 90 = .ok (.iload_n 3, 1) := by decide +kernel
theorem d145_91 : decode (mcode 145) 91 = .ok (.ifCond .ne 13, 3) := by decide +kernel
theorem d145_94 : decode (mcode 145) 94 = .ok (.aload_n 0, 1) := by decide +kernel
theorem d145_95 : decode (mcode 145) 95 = .ok (.getfield 66, 3) := by decide +kernel
theorem d145_98 : decode (mcode 145) 98 = .ok (.getfield 343, 3) := by decide +kernel
theorem d145_101 : decode (mcode 145) 101 = .ok (.goto 10, 3) := by decide +kernel
theorem d145_104 : decode (mcode 145) 104 = .ok (.aload_n 0, 1) := by decide +kernel
theorem d145_105 : decode (mcode 145) 105 = .ok (.getfield 66, 3) := by decide +kernel
theorem d145_108 : decode (mcode 145) 108 = .ok (.getfield 340, 3) := by decide +kernel
theorem d145_111 : decode (mcode 145) 111 = .ok (.ireturn, 1) := by decide +kernel
theorem d146_0 : decode (mcode 146) 0 = .ok (.aload_n 0, 1) := by decide +kernel
theorem d146_1 : decode (mcode 146) 1 = .ok (.getfield 17, 3) := by decide +kernel
theorem d146_4 : decode (mcode 146) 4 = .ok (.getfield 104, 3) := by decide +kernel
theorem d146_7 : decode (mcode 146) 7 = .ok (.iload_n 1, 1) := by decide +kernel
theorem d146_8 : decode (mcode 146) 8 = .ok (.invokevirtual 206, 3) := by decide +kernel
theorem d146_11 : decode (mcode 146) 11 = .ok (.ifCond .ne 7, 3) := by decide +kernel
theorem d146_14 : decode (mcode 146) 14 = .ok (.ldc2_w 346, 3) := by decide +kernel
theorem d146_17 : decode (mcode 146) 17 = .ok (.lreturn, 1) := by decide +kernel
theorem d146_18 : decode (mcode 146) 18 = .ok (.lconst 0, 1) := by decide +kernel
theorem d146_19 : decode (mcode 146) 19 = .ok (.lstore_n 2, 1) := by decide +kernel
theorem d146_20 : decode (mcode 146) 20 = .ok (.iconst 0, 1) := by decide +kernel
theorem d146_21 : decode (mcode 146) 21 = .ok (.istore 4, 2) := by decide +kernel
theorem d146_23 : decode (mcode 146) 23 = .ok (.iload 4, 2) := by decide +kernel
theorem d146_25 : decode (mcode 146) 25 = .ok (.aload_n 0, 1) := by decide +kernel
theorem d146_26 : decode (mcode 146) 26 = .ok (.getfield 17, 3) := by decide +kernel
theorem d146_29 : decode (mcode 146) 29 = .ok (.getfield 21, 3) := by decide +kernel
theorem d146_32 : decode (mcode 146) 32 = .ok (.invokevirtual 123, 3) := by decide +kernel
theorem d146_35 : decode (mcode 146) 35 = .ok (.if_icmp .ge 43, 3) := by decide +kernel
theorem d146_38 : decode (mcode 146) 38 = .ok (.aload_n 0, 1) := by decide +kernel
theorem d146_39 : decode (mcode 146) 39 = .ok (.getfield 17, 3) := by decide +kernel
theorem d146_42 : decode (mcode 146) 42 = .ok (.getfield 104, 3) := by decide +kernel
theorem d146_45 : decode (mcode 146) 45 = .ok (.getfield 249, 3) := by decide +kernel
theorem d146_48 : decode (mcode 146) 48 = .ok (.iload 4, 2) := by decide +kernel
theorem d146_50 : decode (mcode 146) 50 = .ok (.iaload, 1) := by decide +kernel
theorem d146_51 : decode (mcode 146) 51 = .ok (.iload_n 1, 1) := by decide +kernel
theorem d146_52 : decode (mcode 146) 52 = .ok (.if_icmp .ne 20, 3) := by decide +kernel
theorem d146_55 : decode (mcode 146) 55 = .ok (.lload_n 2, 1) := by decide +kernel
theorem d146_56 : decode (mcode 146) 56 = .ok (.aload_n 0, 1) := by decide +kernel
theorem d146_57 : decode (mcode 146) 57 = .ok (.getfield 17, 3) := by decide +kernel
theorem d146_60 : decode (mcode 146) 60 = .ok (.getfield 104, 3) := by decide +kernel
theorem d146_63 : decode (mcode 146) 63 = .ok (.getfield 259, 3) := by decide +kernel
theorem d146_66 : decode (mcode 146) 66 = .ok (.iload 4, 2) := by decide +kernel
theorem d146_68 : decode (mcode 146) 68 = .ok (.iaload, 1) := by decide +kernel
theorem d146_69 : decode (mcode 146) 69 = .ok (.i2l, 1) := by decide +kernel
theorem d146_70 : decode (mcode 146) 70 = .ok (.ladd, 1) := by decide +kernel
theorem d146_71 : decode (mcode 146) 71 = .ok (.lstore_n 2, 1) := by decide +kernel
theorem d146_72 : decode (mcode 146) 72 = .ok (.iinc 4 1, 3) := by decide +kernel
theorem d146_75 : decode (mcode 146) 75 = .ok (.goto (-52), 3) := by decide +kernel
theorem d146_78 : decode (mcode 146) 78 = .ok (.lload_n 2, 1) := by decide +kernel
theorem d146_79 : decode (mcode 146) 79 = .ok (.lreturn, 1) := by decide +kernel
theorem d147_0 : decode (mcode 147) 0 = .ok (.lload_n 2, 1) := by decide +kernel
theorem d147_1 : decode (mcode 147) 1 = .ok (.lconst 0, 1) := by decide +kernel
theorem d147_2 : decode (mcode 147) 2 = .ok (.lcmp, 1) := by decide +kernel
theorem d147_3 : decode (mcode 147) 3 = .ok (.ifCond .ge 7, 3) := by decide +kernel
theorem d147_6 : decode (mcode 147) 6 = .ok (.ldc2_w 348, 3) := by decide +kernel
theorem d147_9 : decode (mcode 147) 9 = .ok (.lreturn, 1) := by decide +kernel
theorem d147_10 : decode (mcode 147) 10 = .ok (.aload_n 0, 1) := by decide +kernel
theorem d147_11 : decode (mcode 147) 11 = .ok (.getfield 17, 3) := by decide +kernel
theorem d147_14 : decode (mcode 147) 14 = .ok (.getfield 104, 3) := by decide +kernel
theorem d147_17 : decode (mcode 147) 17 = .ok (.aload_n 0, 1) := by decide +kernel
theorem d147_18 : decode (mcode 147) 18 = .ok (.getfield 17, 3) := by decide +kernel
theorem d147_21 : decode (mcode 147) 21 = .ok (.getfield 21, 3) := by decide +kernel
theorem d147_24 : decode (mcode 147) 24 = .ok (.iload_n 1, 1) := by decide +kernel
theorem d147_25 : decode (mcode 147) 25 = .ok (.invokevirtual 350, 3) := by decide +kernel
theorem d147_28 : decode (mcode 147) 28 = .ok (.lstore 4, 2) := by decide +kernel
theorem d147_30 : decode (mcode 147) 30 = .ok (.lload 4, 2) := by decide +kernel
theorem d147_32 : decode (mcode 147) 32 = .ok (.lconst 0, 1) := by decide +kernel
theorem d147_33 : decode (mcode 147) 33 = .ok (.lcmp, 1) := by decide +kernel
theorem d147_34 : decode (mcode 147) 34 = .ok (.ifCond .ge 7, 3) := by decide +kernel
theorem d147_37 : decode (mcode 147) 37 = .ok (.ldc2_w 348, 3) := by decide +kernel
theorem d147_40 : decode (mcode 147) 40 = .ok (.lreturn, 1) := by decide +kernel
theorem d147_41 : decode (mcode 147) 41 = .ok (.lload 4, 2) := by decide +kernel
theorem d147_43 : decode (mcode 147) 43 = .ok (.lconst 0, 1) := by decide +kernel
theorem d147_44 : decode (mcode 147) 44 = .ok (.lcmp, 1) := by decide +kernel
theorem d147_45 : decode (mcode 147) 45 = .ok (.ifCond .le 18, 3) := by decide +kernel
theorem d147_48 : decode (mcode 147) 48 = .ok (.lload_n 2, 1) := by decide +kernel
theorem d147_49 : decode (mcode 147) 49 = .ok (.ldc2_w 356, 3) := by decide +kernel
theorem d147_52 : decode (mcode 147) 52 = .ok (.lload 4, 2) := by decide +kernel
theorem d147_54 : decode (mcode 147) 54 = .ok (.ldiv, 1) := by decide +kernel
theorem d147_55 : decode (mcode 147) 55 = .ok (.lcmp, 1) := by decide +kernel
theorem d147_56 : decode (mcode 147) 56 = .ok (.ifCond .le 7, 3) := by decide +kernel
theorem d147_59 : decode (mcode 147) 59 = .ok (.ldc2_w 348, 3) := by decide +kernel
theorem d147_62 : decode (mcode 147) 62 = .ok (.lreturn, 1) := by decide +kernel
theorem d147_63 : decode (mcode 147) 63 = .ok (.lload 4, 2) := by decide +kernel
theorem d147_65 : decode (mcode 147) 65 = .ok (.lload_n 2, 1) := by decide +kernel
theorem d147_66 : decode (mcode 147) 66 = .ok (.lmul, 1) := by decide +kernel
theorem d147_67 : decode (mcode 147) 67 = .ok (.lreturn, 1) := by decide +kernel
theorem d148_0 : decode (mcode 148) 0 = .ok (.aload_n 0, 1) := by decide +kernel
theorem d148_1 : decode (mcode 148) 1 = .ok (.getfield 17, 3) := by decide +kernel
theorem d148_4 : decode (mcode 148) 4 = .ok (.getfield 104, 3) := by decide +kernel
theorem d148_7 : decode (mcode 148) 7 = .ok (.aload_n 0, 1) := by decide +kernel
theorem d148_8 : decode (mcode 148) 8 = .ok (.getfield 17, 3) := by decide +kernel
theorem d148_11 : decode (mcode 148) 11 = .ok (.getfield 21, 3) := by decide +kernel
theorem d148_14 : decode (mcode 148) 14 = .ok (.invokevirtual 358, 3) := by decide +kernel
theorem d148_17 : decode (mcode 148) 17 = .ok (.istore_n 2, 1) := by decide +kernel
theorem d148_18 : decode (mcode 148) 18 = .ok (.aload_n 0, 1) := by decide +kernel
theorem d148_19 : decode (mcode 148) 19 = .ok (.getfield 17, 3) := by decide +kernel
theorem d148_22 : decode (mcode 148) 22 = .ok (.getfield 104, 3) := by decide +kernel
theorem d148_25 : decode (mcode 148) 25 = .ok (.aload_n 0, 1) := by decide +kernel
theorem d148_26 : decode (mcode 148) 26 = .ok (.getfield 17, 3) := by decide +kernel
theorem d148_29 : decode (mcode 148) 29 = .ok (.getfield 21, 3) := by decide +kernel
theorem d148_32 : decode (mcode 148) 32 = .ok (.invokevirtual 362, 3) := by decide +kernel
theorem d148_35 : decode (mcode 148) 35 = .ok (.istore_n 3, 1) := by decide +kernel
theorem d148_36 : decode (mcode 148) 36 = .ok (.iload_n 2, 1) := by decide +kernel
theorem d148_37 : decode (mcode 148) 37 = .ok (.iconst (-1), 1) := by decide +kernel
theorem d148_38 : decode (mcode 148) 38 = .ok (.if_icmp .eq 8, 3) := by decide +kernel
theorem d148_41 : decode (mcode 148) 41 = .ok (.iload_n 3, 1) := by decide +kernel
theorem d148_42 : decode (mcode 148) 42 = .ok (.iconst (-1), 1) := by decide +kernel
theorem d148_43 : decode (mcode 148) 43 = .ok (.if_icmp .ne 7, 3) := by decide +kernel
theorem d148_46 : decode (mcode 148) 46 = .ok (.ldc_w 258, 3) := by decide +kernel
theorem d148_49 : decode (mcode 148) 49 = .ok (.ireturn, 1) := by decide +kernel
theorem d148_50 : decode (mcode 148) 50 = .ok (.iload_n 1, 1) := by decide +kernel
theorem d148_51 : decode (mcode 148) 51 = .ok (.tableswitch 59 0 3 #[29, 42, 55, 57], 29) := by decide +kernel
theorem d148_80 : decode (mcode 148) 80 = .ok (.aload_n 0, 1) := by decide +kernel
theorem d148_81 : decode (mcode 148) 81 = .ok (.getfield 17, 3) := by decide +kernel
theorem d148_84 : decode (mcode 148) 84 = .ok (.getfield 104, 3) := by decide +kernel
theorem d148_87 : decode (mcode 148) 87 = .ok (.getfield 259, 3) := by decide +kernel
theorem d148_90 : decode (mcode 148) 90 = .ok (.iload_n 2, 1) := by decide +kernel
theorem d148_91 : decode (mcode 148) 91 = .ok (.iaload, 1) := by decide +kernel
theorem d148_92 : decode (mcode 148) 92 = .ok (.ireturn, 1) := by decide +kernel
theorem d148_93 : decode (mcode 148) 93 = .ok (.aload_n 0, 1) := by decide +kernel
theorem d148_94 : decode (mcode 148) 94 = .ok (.getfield 17, 3) := by decide +kernel
theorem d148_97 : decode (mcode 148) 97 = .ok (.getfield 104, 3) := by decide +kernel
theorem d148_100 : decode (mcode 148) 100 = .ok (.getfield 259, 3) := by decide +kernel
theorem d148_103 : decode (mcode 148) 103 = .ok (.iload_n 3, 1) := by decide +kernel
theorem d148_104 : decode (mcode 148) 104 = .ok (.iaload, 1) := by decide +kernel
theorem d148_105 : decode (mcode 148) 105 = .ok (.ireturn, 1) := by decide +kernel
theorem d148_106 : decode (mcode 148) 106 = .ok (.iload_n 2, 1) := by decide +kernel
theorem d148_107 : decode (mcode 148) 107 = .ok (.ireturn, 1) := by decide +kernel
theorem d148_108 : decode (mcode 148) 108 = .ok (.iload_n 3, 1) := by decide +kernel
theorem d148_109 : decode (mcode 148) 109 = .ok (.ireturn, 1) := by decide +kernel
theorem d148_110 : decode (mcode 148) 110 = .ok (.ldc_w 258, 3) := by decide +kernel
theorem d148_113 : decode (mcode 148) 113 = .ok (.ireturn, 1) := by decide +kernel
theorem d149_0 : decode (mcode 149) 0 = .ok (.iconst 0, 1) := by decide +kernel
theorem d149_1 : decode (mcode 149) 1 = .ok (.istore_n 3, 1) := by decide +kernel
theorem d149_2 : decode (mcode 149) 2 = .ok (.iconst 0, 1) := by decide +kernel
theorem d149_3 : decode (mcode 149) 3 = .ok (.istore 4, 2) := by decide +kernel
theorem d149_5 : decode (mcode 149) 5 = .ok (.iload 4, 2) := by decide +kernel
theorem d149_7 : decode (mcode 149) 7 = .ok (.aload_n 0, 1) := by decide +kernel
theorem d149_8 : decode (mcode 149) 8 = .ok (.getfield 17, 3) := by decide +kernel
theorem d149_11 : decode (mcode 149) 11 = .ok (.getfield 21, 3) := by decide +kernel
theorem d149_14 : decode (mcode 149) 14 = .ok (.invokevirtual 123, 3) := by decide +kernel
theorem d149_17 : decode (mcode 149) 17 = .ok (.if_icmp .ge 61, 3) := by decide +kernel
theorem d149_20 : decode (mcode 149) 20 = .ok (.aload_n 0, 1) := by decide +kernel
theorem d149_21 : decode (mcode 149) 21 = .ok (.getfield 17, 3) := by decide +kernel
theorem d149_24 : decode (mcode 149) 24 = .ok (.getfield 104, 3) := by decide +kernel
theorem d149_27 : decode (mcode 149) 27 = .ok (.iload 4, 2) := by decide +kernel
theorem d149_29 : decode (mcode 149) 29 = .ok (.invokevirtual 243, 3) := by decide +kernel
theorem d149_32 : decode (mcode 149) 32 = .ok (.ifCond .eq 40, 3) := by decide +kernel
theorem d149_35 : decode (mcode 149) 35 = .ok (.aload_n 0, 1) := by decide +kernel
theorem d149_36 : decode (mcode 149) 36 = .ok (.getfield 17, 3) := by decide +kernel
theorem d149_39 : decode (mcode 149) 39 = .ok (.getfield 104, 3) := by decide +kernel
theorem d149_42 : decode (mcode 149) 42 = .ok (.getfield 259, 3) := by decide +kernel
theorem d149_45 : decode (mcode 149) 45 = .ok (.iload 4, 2) := by decide +kernel
theorem d149_47 : decode (mcode 149) 47 = .ok (.iaload, 1) := by decide +kernel
theorem d149_48 : decode (mcode 149) 48 = .ok (.iload_n 1, 1) := by decide +kernel
theorem d149_49 : decode (mcode 149) 49 = .ok (.if_icmp .lt 23, 3) := by decide +kernel
theorem d149_52 : decode (mcode 149) 52 = .ok (.aload_n 0, 1) := by decide +kernel
theorem d149_53 : decode (mcode 149) 53 = .ok (.getfield 17, 3) := by decide +kernel
theorem d149_56 : decode (mcode 149) 56 = .ok (.getfield 104, 3) := by decide +kernel
theorem d149_59 : decode (mcode 149) 59 = .ok (.getfield 259, 3) := by decide +kernel
theorem d149_62 : decode (mcode 149) 62 = .ok (.iload 4, 2) := by decide +kernel
theorem d149_64 : decode (mcode 149) 64 = .ok (.iaload, 1) := by decide +kernel
theorem d149_65 : decode (mcode 149) 65 = .ok (.iload_n 2, 1) := by decide +kernel
theorem d149_66 : decode (mcode 149) 66 = .ok (.if_icmp .gt 6, 3) := by decide +kernel
theorem d149_69 : decode (mcode 149) 69 = .ok (.iinc 3 1, 3) := by decide +kernel
theorem d149_72 : decode (mcode 149) 72 = .ok (.iinc 4 1, 3) := by decide +kernel
theorem d149_75 : decode (mcode 149) 75 = .ok (.goto (-70), 3) := by decide +kernel
theorem d149_78 : decode (mcode 149) 78 = .ok (.iload_n 3, 1) := by decide +kernel
theorem d149_79 : decode (mcode 149) 79 = .ok (.ireturn, 1) := by decide +kernel
theorem d150_0 : decode (mcode 150) 0 = .ok (.iload_n 2, 1) := by decide +kernel
theorem d150_1 : decode (mcode 150) 1 = .ok (.ifCond .lt 8, 3) := by decide +kernel
theorem d150_4 : decode (mcode 150) 4 = .ok (.iload_n 2, 1) := by decide +kernel
theorem d150_5 : decode (mcode 150) 5 = .ok (.iconst 2, 1) := by decide +kernel
theorem d150_6 : decode (mcode 150) 6 = .ok (.if_icmp .le 7, 3) := by decide +kernel
theorem d150_9 : decode (mcode 150) 9 = .ok (.sipush (-1000), 3) := by decide +kernel
theorem d150_12 : decode (mcode 150) 12 = .ok (.ireturn, 1) := by decide +kernel
theorem d150_13 : decode (mcode 150) 13 = .ok (.aload_n 0, 1) := by decide +kernel
theorem d150_14 : decode (mcode 150) 14 = .ok (.getfield 73, 3) := by decide +kernel
theorem d150_17 : decode (mcode 150) 17 = .ok (.aload_n 0, 1) := by decide +kernel
theorem d150_18 : decode (mcode 150) 18 = .ok (.getfield 17, 3) := by decide +kernel
theorem d150_21 : decode (mcode 150) 21 = .ok (.getfield 21, 3) := by decide +kernel
theorem d150_24 : decode (mcode 150) 24 = .ok (.aload_n 0, 1) := by decide +kernel
theorem d150_25 : decode (mcode 150) 25 = .ok (.getfield 17, 3) := by decide +kernel
theorem d150_28 : decode (mcode 150) 28 = .ok (.getfield 104, 3) := by decide +kernel
theorem d150_31 : decode (mcode 150) 31 = .ok (.iload_n 1, 1) := by decide +kernel
theorem d150_32 : decode (mcode 150) 32 = .ok (.invokevirtual 365, 3) := by decide +kernel
theorem d150_35 : decode (mcode 150) 35 = .ok (.iload_n 2, 1) := by decide +kernel
theorem d150_36 : decode (mcode 150) 36 = .ok (.ifCond .ne 11, 3) := by decide +kernel
theorem d150_39 : decode (mcode 150) 39 = .ok (.aload_n 0, 1) := by decide +kernel
theorem d150_40 : decode (mcode 150) 40 = .ok (.getfield 73, 3) := by decide +kernel
theorem d150_43 : decode (mcode 150) 43 = .ok (.getfield 369, 3) := by decide +kernel
theorem d150_46 : decode (mcode 150) 46 = .ok (.ireturn, 1) := by decide +kernel
theorem d150_47 : decode (mcode 150) 47 = .ok (.iload_n 2, 1) := by decide +kernel
theorem d150_48 : decode (mcode 150) 48 = .ok (.iconst 1, 1) := by decide +kernel
theorem d150_49 : decode (mcode 150) 49 = .ok (.if_icmp .ne 13, 3) := by decide +kernel
theorem d150_52 : decode (mcode 150) 52 = .ok (.aload_n 0, 1) := by decide +kernel
theorem d150_53 : decode (mcode 150) 53 = .ok (.getfield 73, 3) := by decide +kernel
theorem d150_56 : decode (mcode 150) 56 = .ok (.getfield 370, 3) := by decide +kernel
theorem d150_59 : decode (mcode 150) 59 = .ok (.goto 10, 3) := by decide +kernel
theorem d150_62 : decode (mcode 150) 62 = .ok (.aload_n 0, 1) := by decide +kernel
theorem d150_63 : decode (mcode 150) 63 = .ok (.getfield 73, 3) := by decide +kernel
theorem d150_66 : decode (mcode 150) 66 = .ok (.getfield 373, 3) := by decide +kernel
theorem d150_69 : decode (mcode 150) 69 = .ok (.ireturn, 1) := by decide +kernel
theorem d151_0 : decode (mcode 151) 0 = .ok (.iconst 0, 1) := by decide +kernel
theorem d151_1 : decode (mcode 151) 1 = .ok (.istore_n 2, 1) := by decide +kernel
theorem d151_2 : decode (mcode 151) 2 = .ok (.iconst 0, 1) := by decide +kernel
theorem d151_3 : decode (mcode 151) 3 = .ok (.istore_n 3, 1) := by decide +kernel
theorem d151_4 : decode (mcode 151) 4 = .ok (.iload_n 3, 1) := by decide +kernel
theorem d151_5 : decode (mcode 151) 5 = .ok (.aload_n 0, 1) := by decide +kernel
theorem d151_6 : decode (mcode 151) 6 = .ok (.getfield 17, 3) := by decide +kernel
theorem d151_9 : decode (mcode 151) 9 = .ok (.getfield 21, 3) := by decide +kernel
theorem d151_12 : decode (mcode 151) 12 = .ok (.invokevirtual 123, 3) := by decide +kernel
theorem d151_15 : decode (mcode 151) 15 = .ok (.if_icmp .ge 40, 3) := by decide +kernel
theorem d151_18 : decode (mcode 151) 18 = .ok (.aload_n 0, 1) := by decide +kernel
theorem d151_19 : decode (mcode 151) 19 = .ok (.getfield 17, 3) := by decide +kernel
theorem d151_22 : decode (mcode 151) 22 = .ok (.getfield 104, 3) := by decide +kernel
theorem d151_25 : decode (mcode 151) 25 = .ok (.aload_n 0, 1) := by decide +kernel
theorem d151_26 : decode (mcode 151) 26 = .ok (.getfield 17, 3) := by decide +kernel
theorem d151_29 : decode (mcode 151) 29 = .ok (.getfield 21, 3) := by decide +kernel
theorem d151_32 : decode (mcode 151) 32 = .ok (.iload_n 3, 1) := by decide +kernel
theorem d151_33 : decode (mcode 151) 33 = .ok (.invokevirtual 376, 3) := by decide +kernel
theorem d151_36 : decode (mcode 151) 36 = .ok (.ifCond .eq 13, 3) := by decide +kernel
theorem d151_39 : decode (mcode 151) 39 = .ok (.iload_n 2, 1) := by decide +kernel
theorem d151_40 : decode (mcode 151) 40 = .ok (.iload_n 1, 1) := by decide +kernel
theorem d151_41 : decode (mcode 151) 41 = .ok (.if_icmp .ne 5, 3) := by decide +kernel
theorem d151_44 : decode (mcode 151) 44 = .ok (.iload_n 3, 1) := by decide +kernel
theorem d151_45 : decode (mcode 151) 45 = .ok (.ireturn, 1) := by decide +kernel
theorem d151_46 : decode (mcode 151) 46 = .ok (.iinc 2 1, 3) := by decide +kernel
theorem d151_49 : decode (mcode 151) 49 = .ok (.iinc 3 1, 3) := by decide +kernel
theorem d151_52 : decode (mcode 151) 52 = .ok (.goto (-48), 3) := by decide +kernel
theorem d151_55 : decode (mcode 151) 55 = .ok (.iload_n 1, 1) := by decide +kernel
theorem d151_56 : decode (mcode 151) 56 = .ok (.iconst (-1), 1) := by decide +kernel
theorem d151_57 : decode (mcode 151) 57 = .ok (.if_icmp .ne 7, 3) := by decide +kernel
theorem d151_60 : decode (mcode 151) 60 = .ok (.iload_n 2, 1) := by decide +kernel
theorem d151_61 : decode (mcode 151) 61 = .ok (.goto 4, 3) := by decide +kernel
theorem d151_64 : decode (mcode 151) 64 = .ok (.iconst (-1), 1) := by decide +kernel
theorem d151_65 : decode (mcode 151) 65 = .ok (.ireturn, 1) := by decide +kernel
theorem d152_0 : decode (mcode 152) 0 = .ok (.aload_n 0, 1) := by decide +kernel
theorem d152_1 : decode (mcode 152) 1 = .ok (.getfield 17, 3) := by decide +kernel
theorem d152_4 : decode (mcode 152) 4 = .ok (.getfield 21, 3) := by decide +kernel
theorem d152_7 : decode (mcode 152) 7 = .ok (.iload_n 1, 1) := by decide +kernel
theorem d152_8 : decode (mcode 152) 8 = .ok (.invokevirtual 93, 3) := by decide +kernel
theorem d152_11 : decode (mcode 152) 11 = .ok (.ifCond .eq 22, 3) := by decide +kernel
theorem d152_14 : decode (mcode 152) 14 = .ok (.iload_n 2, 1) := by decide +kernel
theorem d152_15 : decode (mcode 152) 15 = .ok (.ifCond .lt 18, 3) := by decide +kernel
theorem d152_18 : decode (mcode 152) 18 = .ok (.iload_n 2, 1) := by decide +kernel
theorem d152_19 : decode (mcode 152) 19 = .ok (.aload_n 0, 1) := by decide +kernel
theorem d152_20 : decode (mcode 152) 20 = .ok (.getfield 17, 3) := by decide +kernel
theorem d152_23 : decode (mcode 152) 23 = .ok (.getfield 104, 3) := by decide +kernel
theorem d152_26 : decode (mcode 152) 26 = .ok (.iload_n 1, 1) := by decide +kernel
theorem d152_27 : decode (mcode 152) 27 = .ok (.invokevirtual 252, 3) := by decide +kernel
theorem d152_30 : decode (mcode 152) 30 = .ok (.if_icmp .le 5, 3) := by decide +kernel
theorem d152_33 : decode (mcode 152) 33 = .ok (.iconst (-1), 1) := by decide +kernel
theorem d152_34 : decode (mcode 152) 34 = .ok (.ireturn, 1) := by decide +kernel
theorem d152_35 : decode (mcode 152) 35 = .ok (.iload_n 1, 1) := by decide +kernel
theorem d152_36 : decode (mcode 152) 36 = .ok (.istore_n 3, 1) := by decide +kernel
theorem d152_37 : decode (mcode 152) 37 = .ok (.iconst 0, 1) := by decide +kernel
theorem d152_38 : decode (mcode 152) 38 = .ok (.istore 4, 2) := by decide +kernel
theorem d152_40 : decode (mcode 152) 40 = .ok (.iload 4, 2) := by decide +kernel
theorem d152_42 : decode (mcode 152) 42 = .ok (.iload_n 2, 1) := by decide +kernel
theorem d152_43 : decode (mcode 152) 43 = .ok (.if_icmp .ge 27, 3) := by decide +kernel
theorem d152_46 : decode (mcode 152) 46 = .ok (.iload_n 3, 1) := by decide +kernel
theorem d152_47 : decode (mcode 152) 47 = .ok (.iconst (-1), 1) := by decide +kernel
theorem d152_48 : decode (mcode 152) 48 = .ok (.if_icmp .eq 22, 3) := by decide +kernel
theorem d152_51 : decode (mcode 152) 51 = .ok (.aload_n 0, 1) := by decide +kernel
theorem d152_52 : decode (mcode 152) 52 = .ok (.getfield 17, 3) := by decide +kernel
theorem d152_55 : decode (mcode 152) 55 = .ok (.getfield 104, 3) := by decide +kernel
theorem d152_58 : decode (mcode 152) 58 = .ok (.getfield 246, 3) := by decide +kernel
theorem d152_61 : decode (mcode 152) 61 = .ok (.iload_n 3, 1) := by decide +kernel
theorem d152_62 : decode (mcode 152) 62 = .ok (.iaload, 1) := by decide +kernel
theorem d152_63 : decode (mcode 152) 63 = .ok (.istore_n 3, 1) := by decide +kernel
theorem d152_64 : decode (mcode 152) 64 = .ok (.iinc 4 1, 3) := by decide +kernel
theorem d152_67 : decode (mcode 152) 67 = .ok (.goto (-27), 3) := by decide +kernel
theorem d152_70 : decode (mcode 152) 70 = .ok (.iload_n 3, 1) := by decide +kernel
theorem d152_71 : decode (mcode 152) 71 = .ok (.ireturn, 1) := by decide +kernel
theorem d153_0 : decode (mcode 153) 0 = .ok (.iload_n 2, 1) := by decide +kernel
theorem d153_1 : decode (mcode 153) 1 = .ok (.ifCond .lt 26, 3) := by decide +kernel
theorem d153_4 : decode (mcode 153) 4 = .ok (.iload_n 2, 1) := by decide +kernel
theorem d153_5 : decode (mcode 153) 5 = .ok (.iconst 4, 1) := by decide +kernel
theorem d153_6 : decode (mcode 153) 6 = .ok (.if_icmp .gt 21, 3) := by decide +kernel
theorem d153_9 : decode (mcode 153) 9 = .ok (.aload_n 0, 1) := by decide +kernel
theorem d153_10 : decode (mcode 153) 10 = .ok (.getfield 52, 3) := by decide +kernel
theorem d153_13 : decode (mcode 153) 13 = .ok (.aload_n 0, 1) := by decide +kernel
theorem d153_14 : decode (mcode 153) 14 = .ok (.getfield 17, 3) := by decide +kernel
theorem d153_17 : decode (mcode 153) 17 = .ok (.getfield 21, 3) := by decide +kernel
theorem d153_20 : decode (mcode 153) 20 = .ok (.iload_n 1, 1) := by decide +kernel
theorem d153_21 : decode (mcode 153) 21 = .ok (.invokevirtual 143, 3) := by decide +kernel
theorem d153_24 : decode (mcode 153) 24 = .ok (.ifCond .ne 5, 3) := by decide +kernel
theorem d153_27 : decode (mcode 153) 27 = .ok (.iconst (-1), 1) := by decide +kernel
theorem d153_28 : decode (mcode 153) 28 = .ok (.ireturn, 1) := by decide +kernel
theorem d153_29 : decode (mcode 153) 29 = .ok (.aload_n 0, 1) := by decide +kernel
theorem d153_30 : decode (mcode 153) 30 = .ok (.getfield 52, 3) := by decide +kernel
theorem d153_33 : decode (mcode 153) 33 = .ok (.aload_n 0, 1) := by decide +kernel
theorem d153_34 : decode (mcode 153) 34 = .ok (.getfield 17, 3) := by decide +kernel
theorem d153_37 : decode (mcode 153) 37 = .ok (.getfield 21, 3) := by decide +kernel
theorem d153_40 : decode (mcode 153) 40 = .ok (.iload_n 1, 1) := by decide +kernel
theorem d153_41 : decode (mcode 153) 41 = .ok (.invokevirtual 147, 3) := by decide +kernel
theorem d153_44 : decode (mcode 153) 44 = .ok (.aload_n 0, 1) := by decide +kernel
theorem d153_45 : decode (mcode 153) 45 = .ok (.getfield 52, 3) := by decide +kernel
theorem d153_48 : decode (mcode 153) 48 = .ok (.aload_n 0, 1) := by decide +kernel
theorem d153_49 : decode (mcode 153) 49 = .ok (.getfield 17, 3) := by decide +kernel
theorem d153_52 : decode (mcode 153) 52 = .ok (.getfield 21, 3) := by decide +kernel
theorem d153_55 : decode (mcode 153) 55 = .ok (.aload_n 0, 1) := by decide +kernel
theorem d153_56 : decode (mcode 153) 56 = .ok (.getfield 25, 3) := by decide +kernel
theorem d153_59 : decode (mcode 153) 59 = .ok (.getfield 151, 3) := by decide +kernel
theorem d153_62 : decode (mcode 153) 62 = .ok (.invokevirtual 155, 3) := by decide +kernel
theorem d153_65 : decode (mcode 153) 65 = .ok (.iload_n 2, 1) := by decide +kernel
theorem d153_66 : decode (mcode 153) 66 = .ok (.iconst 3, 1) := by decide +kernel
theorem d153_67 : decode (mcode 153) 67 = .ok (.if_icmp .ne 14, 3) := by decide +kernel
theorem d153_70 : decode (mcode 153) 70 = .ok (.aload_n 0, 1) := by decide +kernel
theorem d153_71 : decode (mcode 153) 71 = .ok (.getfield 25, 3) := by decide +kernel
theorem d153_74 : decode (mcode 153) 74 = .ok (.getfield 151, 3) := by decide +kernel
theorem d153_77 : decode (mcode 153) 77 = .ok (.getfield 162, 3) := by decide +kernel
theorem d153_80 : decode (mcode 153) 80 = .ok (.ireturn, 1) := by decide +kernel
theorem d153_81 : decode (mcode 153) 81 = .ok (.aload_n 0, 1) := by decide +kernel
theorem d153_82 : decode (mcode 153) 82 = .ok (.getfield 59, 3) := by decide +kernel
theorem d153_85 : decode (mcode 153) 85 = .ok (.aload_n 0, 1) := by decide +kernel
theorem d153_86 : decode (mcode 153) 86 = .ok (.getfield 25, 3) := by decide +kernel
theorem d153_89 : decode (mcode 153) 89 = .ok (.invokevirtual 187, 3) := by decide +kernel
theorem d153_92 : decode (mcode 153) 92 = .ok (.aload_n 0, 1) := by decide +kernel
theorem d153_93 : decode (mcode 153) 93 = .ok (.invokevirtual 379, 3) := by decide +kernel
theorem d153_96 : decode (mcode 153) 96 = .ok (.iload_n 2, 1) := by decide +kernel
theorem d153_97 : decode (mcode 153) 97 = .ok (.tableswitch 54 0 2 #[27, 38, 46], 27) := by decide +kernel
theorem d153_124 : decode (mcode 153) 124 = .ok (.aload_n 0, 1) := by decide +kernel
theorem d153_125 : decode (mcode 153) 125 = .ok (.getfield 25, 3) := by decide +kernel
theorem d153_128 : decode (mcode 153) 128 = .ok (.getfield 104, 3) := by decide +kernel
theorem d153_131 : decode (mcode 153) 131 = .ok (.getfield 193, 3) := by decide +kernel
theorem d153_134 : decode (mcode 153) 134 = .ok (.ireturn, 1) := by decide +kernel
theorem d153_135 : decode (mcode 153) 135 = .ok (.aload_n 0, 1) := by decide +kernel
theorem d153_136 : decode (mcode 153) 136 = .ok (.getfield 25, 3) := by decide +kernel
theorem d153_139 : decode (mcode 153) 139 = .ok (.invokevirtual 203, 3) := by decide +kernel
theorem d153_142 : decode (mcode 153) 142 = .ok (.ireturn, 1) := by decide +kernel
theorem d153_143 : decode (mcode 153) 143 = .ok (.aload_n 0, 1) := by decide +kernel
theorem d153_144 : decode (mcode 153) 144 = .ok (.getfield 25, 3) := by decide +kernel
theorem d153_147 : decode (mcode 153) 147 = .ok (.invokevirtual 382, 3) := by decide +kernel
theorem d153_150 : decode (mcode 153) 150 = .ok (.ireturn, 1) := by decide +kernel
theorem d153_151 : decode (mcode 153) 151 = .ok (.aload_n 0, 1) := by decide +kernel
theorem d153_152 : decode (mcode 153) 152 = .ok (.getfield 17, 3) := by decide +kernel
theorem d153_155 : decode (mcode 153) 155 = .ok (.getfield 104, 3) := by decide +kernel
theorem d153_158 : decode (mcode 153) 158 = .ok (.aload_n 0, 1) := by decide +kernel
theorem d153_159 : decode (mcode 153) 159 = .ok (.getfield 17, 3) := by decide +kernel
theorem d153_162 : decode (mcode 153) 162 = .ok (.getfield 21, 3) := by decide +kernel
theorem d153_165 : decode (mcode 153) 165 = .ok (.aload_n 0, 1) := by decide +kernel
theorem d153_166 : decode (mcode 153) 166 = .ok (.getfield 25, 3) := by decide +kernel
theorem d153_169 : decode (mcode 153) 169 = .ok (.getfield 104, 3) := by decide +kernel
theorem d153_172 : decode (mcode 153) 172 = .ok (.invokevirtual 385, 3) := by decide +kernel
theorem d153_175 : decode (mcode 153) 175 = .ok (.ireturn, 1) := by decide +kernel
theorem d154_0 : decode (mcode 154) 0 = .ok (.aload_n 0, 1) := by decide +kernel
theorem d154_1 : decode (mcode 154) 1 = .ok (.getfield 17, 3) := by decide +kernel
theorem d154_4 : decode (mcode 154) 4 = .ok (.getfield 21, 3) := by decide +kernel
theorem d154_7 : decode (mcode 154) 7 = .ok (.iload_n 1, 1) := by decide +kernel
theorem d154_8 : decode (mcode 154) 8 = .ok (.invokevirtual 171, 3) := by decide +kernel
theorem d154_11 : decode (mcode 154) 11 = .ok (.ifCond .ne 5, 3) := by decide +kernel
theorem d154_14 : decode (mcode 154) 14 = .ok (.iconst (-1), 1) := by decide +kernel
theorem d154_15 : decode (mcode 154) 15 = .ok (.ireturn, 1) := by decide +kernel
theorem d154_16 : decode (mcode 154) 16 = .ok (.aload_n 0, 1) := by decide +kernel
theorem d154_17 : decode (mcode 154) 17 = .ok (.getfield 59, 3) := by decide +kernel
theorem d154_20 : decode (mcode 154) 20 = .ok (.aload_n 0, 1) := by decide +kernel
theorem d154_21 : decode (mcode 154) 21 = .ok (.getfield 17, 3) := by decide +kernel
theorem d154_24 : decode (mcode 154) 24 = .ok (.invokevirtual 187, 3) := by decide +kernel
theorem d154_27 : decode (mcode 154) 27 = .ok (.aload_n 0, 1) := by decide +kernel
theorem d154_28 : decode (mcode 154) 28 = .ok (.getfield 59, 3) := by decide +kernel
theorem d154_31 : decode (mcode 154) 31 = .ok (.getfield 388, 3) := by decide +kernel
theorem d154_34 : decode (mcode 154) 34 = .ok (.iload_n 1, 1) := by decide +kernel
theorem d154_35 : decode (mcode 154) 35 = .ok (.iconst 1, 1) := by decide +kernel
theorem d154_36 : decode (mcode 154) 36 = .ok (.bastore, 1) := by decide +kernel
theorem d154_37 : decode (mcode 154) 37 = .ok (.aload_n 0, 1) := by decide +kernel
theorem d154_38 : decode (mcode 154) 38 = .ok (.invokevirtual 379, 3) := by decide +kernel
theorem d154_41 : decode (mcode 154) 41 = .ok (.aload_n 0, 1) := by decide +kernel
theorem d154_42 : decode (mcode 154) 42 = .ok (.getfield 25, 3) := by decide +kernel
theorem d154_45 : decode (mcode 154) 45 = .ok (.getfield 104, 3) := by decide +kernel
theorem d154_48 : decode (mcode 154) 48 = .ok (.getfield 193, 3) := by decide +kernel
theorem d154_51 : decode (mcode 154) 51 = .ok (.ireturn, 1) := by decide +kernel
theorem d155_0 : decode (mcode 155) 0 = .ok (.aload_n 0, 1) := by decide +kernel
theorem d155_1 : decode (mcode 155) 1 = .ok (.getfield 31, 3) := by decide +kernel
theorem d155_4 : decode (mcode 155) 4 = .ok (.aload_n 0, 1) := by decide +kernel
theorem d155_5 : decode (mcode 155) 5 = .ok (.getfield 17, 3) := by decide +kernel
theorem d155_8 : decode (mcode 155) 8 = .ok (.invokevirtual 391, 3) := by decide +kernel
theorem d155_11 : decode (mcode 155) 11 = .ok (.ifCond .ne 5, 3) := by decide +kernel
theorem d155_14 : decode (mcode 155) 14 = .ok (.iconst (-1), 1) := by decide +kernel
theorem d155_15 : decode (mcode 155) 15 = .ok (.ireturn, 1) := by decide +kernel
theorem d155_16 : decode (mcode 155) 16 = .ok (.aload_n 0, 1) := by decide +kernel
theorem d155_17 : decode (mcode 155) 17 = .ok (.getfield 38, 3) := by decide +kernel
theorem d155_20 : decode (mcode 155) 20 = .ok (.iconst 4, 1) := by decide +kernel
theorem d155_21 : decode (mcode 155) 21 = .ok (.aload_n 0, 1) := by decide +kernel
theorem d155_22 : decode (mcode 155) 22 = .ok (.getfield 31, 3) := by decide +kernel
theorem d155_25 : decode (mcode 155) 25 = .ok (.getfield 395, 3) := by decide +kernel
theorem d155_28 : decode (mcode 155) 28 = .ok (.iconst 0, 1) := by decide +kernel
theorem d155_29 : decode (mcode 155) 29 = .ok (.invokevirtual 167, 3) := by decide +kernel
theorem d155_32 : decode (mcode 155) 32 = .ok (.aload_n 0, 1) := by decide +kernel
theorem d155_33 : decode (mcode 155) 33 = .ok (.getfield 31, 3) := by decide +kernel
theorem d155_36 : decode (mcode 155) 36 = .ok (.getfield 395, 3) := by decide +kernel
theorem d155_39 : decode (mcode 155) 39 = .ok (.ireturn, 1) := by decide +kernel
theorem d156_0 : decode (mcode 156) 0 = .ok (.aload_n 0, 1) := by decide +kernel
theorem d156_1 : decode (mcode 156) 1 = .ok (.getfield 38, 3) := by decide +kernel
theorem d156_4 : decode (mcode 156) 4 = .ok (.iload_n 1, 1) := by decide +kernel
theorem d156_5 : decode (mcode 156) 5 = .ok (.invokevirtual 396, 3) := by decide +kernel
theorem d156_8 : decode (mcode 156) 8 = .ok (.ifCond .eq 12, 3) := by decide +kernel
theorem d156_11 : decode (mcode 156) 11 = .ok (.iload_n 2, 1) := by decide +kernel
theorem d156_12 : decode (mcode 156) 12 = .ok (.ifCond .lt 8, 3) := by decide +kernel
theorem d156_15 : decode (mcode 156) 15 = .ok (.iload_n 2, 1) := by decide +kernel
theorem d156_16 : decode (mcode 156) 16 = .ok (.iconst 2, 1) := by decide +kernel
theorem d156_17 : decode (mcode 156) 17 = .ok (.if_icmp .le 7, 3) := by decide +kernel
theorem d156_20 : decode (mcode 156) 20 = .ok (.ldc_w 258, 3) := by decide +kernel
theorem d156_23 : decode (mcode 156) 23 = .ok (.ireturn, 1) := by decide +kernel
theorem d156_24 : decode (mcode 156) 24 = .ok (.aload_n 0, 1) := by decide +kernel
theorem d156_25 : decode (mcode 156) 25 = .ok (.getfield 38, 3) := by decide +kernel
theorem d156_28 : decode (mcode 156) 28 = .ok (.iload_n 1, 1) := by decide +kernel
theorem d156_29 : decode (mcode 156) 29 = .ok (.iload_n 2, 1) := by decide +kernel
theorem d156_30 : decode (mcode 156) 30 = .ok (.invokevirtual 399, 3) := by decide +kernel
theorem d156_33 : decode (mcode 156) 33 = .ok (.ireturn, 1) := by decide +kernel
theorem d157_0 : decode (mcode 157) 0 = .ok (.iload_n 1, 1) := by decide +kernel
theorem d157_1 : decode (mcode 157) 1 = .ok (.ifCond .eq 9, 3) := by decide +kernel
theorem d157_4 : decode (mcode 157) 4 = .ok (.aload_n 0, 1) := by decide +kernel
theorem d157_5 : decode (mcode 157) 5 = .ok (.invokevirtual 402, 3) := by decide +kernel
theorem d157_8 : decode (mcode 157) 8 = .ok (.iconst 1, 1) := by decide +kernel
theorem d157_9 : decode (mcode 157) 9 = .ok (.ireturn, 1) := by decide +kernel
theorem d157_10 : decode (mcode 157) 10 = .ok (.aload_n 0, 1) := by decide +kernel
theorem d157_11 : decode (mcode 157) 11 = .ok (.getfield 405, 3) := by decide +kernel
theorem d157_14 : decode (mcode 157) 14 = .ok (.ifnull 10, 3) := by decide +kernel
theorem d157_17 : decode (mcode 157) 17 = .ok (.aload_n 0, 1) := by decide +kernel
theorem d157_18 : decode (mcode 157) 18 = .ok (.getfield 408, 3) := by decide +kernel
theorem d157_21 : decode (mcode 157) 21 = .ok (.ifnonnull 5, 3) := by decide +kernel
theorem d157_24 : decode (mcode 157) 24 = .ok (.iconst 0, 1) := by decide +kernel
theorem d157_25 : decode (mcode 157) 25 = .ok (.ireturn, 1) := by decide +kernel
theorem d157_26 : decode (mcode 157) 26 = .ok (.aload_n 0, 1) := by decide +kernel
theorem d157_27 : decode (mcode 157) 27 = .ok (.getfield 17, 3) := by decide +kernel
theorem d157_30 : decode (mcode 157) 30 = .ok (.aload_n 0, 1) := by decide +kernel
theorem d157_31 : decode (mcode 157) 31 = .ok (.getfield 405, 3) := by decide +kernel
theorem d157_34 : decode (mcode 157) 34 = .ok (.invokevirtual 411, 3) := by decide +kernel
theorem d157_37 : decode (mcode 157) 37 = .ok (.aload_n 0, 1) := by decide +kernel
theorem d157_38 : decode (mcode 157) 38 = .ok (.getfield 38, 3) := by decide +kernel
theorem d157_41 : decode (mcode 157) 41 = .ok (.aload_n 0, 1) := by decide +kernel
theorem d157_42 : decode (mcode 157) 42 = .ok (.getfield 408, 3) := by decide +kernel
theorem d157_45 : decode (mcode 157) 45 = .ok (.invokevirtual 413, 3) := by decide +kernel
theorem d157_48 : decode (mcode 157) 48 = .ok (.aload_n 0, 1) := by decide +kernel
theorem d157_49 : decode (mcode 157) 49 = .ok (.aload_n 0, 1) := by decide +kernel
theorem d157_50 : decode (mcode 157) 50 = .ok (.getfield 416, 3) := by decide +kernel
theorem d157_53 : decode (mcode 157) 53 = .ok (.putfield 140, 3) := by decide +kernel
theorem d157_56 : decode (mcode 157) 56 = .ok (.aload_n 0, 1) := by decide +kernel
theorem d157_57 : decode (mcode 157) 57 = .ok (.getfield 31, 3) := by decide +kernel
theorem d157_60 : decode (mcode 157) 60 = .ok (.iconst 0, 1) := by decide +kernel
theorem d157_61 : decode (mcode 157) 61 = .ok (.putfield 395, 3) := by decide +kernel
theorem d157_64 : decode (mcode 157) 64 = .ok (.iconst 1, 1) := by decide +kernel
theorem d157_65 : decode (mcode 157) 65 = .ok (.ireturn, 1) := by decide +kernel
theorem d158_0 : decode (mcode 158) 0 = .ok (.iload_n 1, 1) := by decide +kernel
theorem d158_1 : decode (mcode 158) 1 = .ok (.tableswitch 234 0 15 #[79, 90, 101, 112, 118, 129, 137, 148, 159, 178, 186, 194, 199, 207, 215, 223], 79) := by decide +kernel
theorem d158_80 : decode (mcode 158) 80 = .ok (.aload_n 0, 1) := by decide +kernel
theorem d158_81 : decode (mcode 158) 81 = .ok (.getfield 17, 3) := by decide +kernel
theorem d158_84 : decode (mcode 158) 84 = .ok (.getfield 21, 3) := by decide +kernel
theorem d158_87 : decode (mcode 158) 87 = .ok (.getfield 313, 3) := by decide +kernel
theorem d158_90 : decode (mcode 158) 90 = .ok (.ireturn, 1) := by decide +kernel
theorem d158_91 : decode (mcode 158) 91 = .ok (.aload_n 0, 1) := by decide +kernel
theorem d158_92 : decode (mcode 158) 92 = .ok (.getfield 17, 3) := by decide +kernel
theorem d158_95 : decode (mcode 158) 95 = .ok (.getfield 21, 3) := by decide +kernel
theorem d158_98 : decode (mcode 158) 98 = .ok (.getfield 314, 3) := by decide +kernel
theorem d158_101 : decode (mcode 158) 101 = .ok (.ireturn, 1) := by decide +kernel
theorem d158_102 : decode (mcode 158) 102 = .ok (.aload_n 0, 1) := by decide +kernel
theorem d158_103 : decode (mcode 158) 103 = .ok (.getfield 17, 3) := by decide +kernel
theorem d158_106 : decode (mcode 158) 106 = .ok (.getfield 21, 3) := by decide +kernel
theorem d158_109 : decode (mcode 158) 109 = .ok (.invokevirtual 419, 3) := by decide +kernel
theorem d158_112 : decode (mcode 158) 112 = .ok (.ireturn, 1) := by decide +kernel
theorem d158_113 : decode (mcode 158) 113 = .ok (.aload_n 0, 1) := by decide +kernel
theorem d158_114 : decode (mcode 158) 114 = .ok (.iconst (-1), 1) := by decide +kernel
theorem d158_115 : decode (mcode 158) 115 = .ok (.invokevirtual 422, 3) := by decide +kernel
theorem d158_118 : decode (mcode 158) 118 = .ok (.ireturn, 1) := by decide +kernel
theorem d158_119 : decode (mcode 158) 119 = .ok (.aload_n 0, 1) := by decide +kernel
theorem d158_120 : decode (mcode 158) 120 = .ok (.getfield 17, 3) := by decide +kernel
theorem d158_123 : decode (mcode 158) 123 = .ok (.getfield 21, 3) := by decide +kernel
theorem d158_126 : decode (mcode 158) 126 = .ok (.invokevirtual 425, 3) := by decide +kernel
theorem d158_129 : decode (mcode 158) 129 = .ok (.ireturn, 1) := by decide +kernel
theorem d158_130 : decode (mcode 158) 130 = .ok (.aload_n 0, 1) := by decide +kernel
theorem d158_131 : decode (mcode 158) 131 = .ok (.getfield 17, 3) := by decide +kernel
theorem d158_134 : decode (mcode 158) 134 = .ok (.invokevirtual 428, 3) := by decide +kernel
theorem d158_137 : decode (mcode 158) 137 = .ok (.ireturn, 1) := by decide +kernel
theorem d158_138 : decode (mcode 158) 138 = .ok (.aload_n 0, 1) := by decide +kernel
theorem d158_139 : decode (mcode 158) 139 = .ok (.getfield 17, 3) := by decide +kernel
theorem d158_142 : decode (mcode 158) 142 = .ok (.getfield 104, 3) := by decide +kernel
theorem d158_145 : decode (mcode 158) 145 = .ok (.getfield 431, 3) := by decide +kernel
theorem d158_148 : decode (mcode 158) 148 = .ok (.ireturn, 1) := by decide +kernel
theorem d158_149 : decode (mcode 158) 149 = .ok (.aload_n 0, 1) := by decide +kernel
theorem d158_150 : decode (mcode 158) 150 = .ok (.getfield 17, 3) := by decide +kernel
theorem d158_153 : decode (mcode 158) 153 = .ok (.getfield 104, 3) := by decide +kernel
theorem d158_156 : decode (mcode 158) 156 = .ok (.getfield 193, 3) := by decide +kernel
theorem d158_159 : decode (mcode 158) 159 = .ok (.ireturn, 1) := by decide +kernel
theorem d158_160 : decode (mcode 158) 160 = .ok (.aload_n 0, 1) := by decide +kernel
theorem d158_161 : decode (mcode 158) 161 = .ok (.getfield 17, 3) := by decide +kernel
theorem d158_164 : decode (mcode 158) 164 = .ok (.getfield 104, 3) := by decide +kernel
theorem d158_167 : decode (mcode 158) 167 = .ok (.getfield 183, 3) := by decide +kernel
theorem d158_170 : decode (mcode 158) 170 = .ok (.ifCond .eq 7, 3) := by decide +kernel
theorem d158_173 : decode (mcode 158) 173 = .ok (.iconst 1, 1) := by decide +kernel
theorem d158_174 : decode (mcode 158) 174 = .ok (.goto 4, 3) := by decide +kernel
theorem d158_177 : decode (mcode 158) 177 = .ok (.iconst 0, 1) := by decide +kernel
theorem d158_178 : decode (mcode 158) 178 = .ok (.ireturn, 1) := by decide +kernel
theorem d158_179 : decode (mcode 158) 179 = .ok (.aload_n 0, 1) := by decide +kernel
theorem d158_180 : decode (mcode 158) 180 = .ok (.getfield 17, 3) := by decide +kernel
theorem d158_183 : decode (mcode 158) 183 = .ok (.invokevirtual 203, 3) := by decide +kernel
theorem d158_186 : decode (mcode 158) 186 = .ok (.ireturn, 1) := by decide +kernel
theorem d158_187 : decode (mcode 158) 187 = .ok (.aload_n 0, 1) := by decide +kernel
theorem d158_188 : decode (mcode 158) 188 = .ok (.getfield 17, 3) := by decide +kernel
theorem d158_191 : decode (mcode 158) 191 = .ok (.invokevirtual 382, 3) := by decide +kernel
theorem d158_194 : decode (mcode 158) 194 = .ok (.ireturn, 1) := by decide +kernel
theorem d158_195 : decode (mcode 158) 195 = .ok (.aload_n 0, 1) := by decide +kernel
theorem d158_196 : decode (mcode 158) 196 = .ok (.getfield 140, 3) := by decide +kernel
theorem d158_199 : decode (mcode 158) 199 = .ok (.ireturn, 1) := by decide +kernel
theorem d158_200 : decode (mcode 158) 200 = .ok (.aload_n 0, 1) := by decide +kernel
theorem d158_201 : decode (mcode 158) 201 = .ok (.getfield 31, 3) := by decide +kernel
theorem d158_204 : decode (mcode 158) 204 = .ok (.getfield 395, 3) := by decide +kernel
theorem d158_207 : decode (mcode 158) 207 = .ok (.ireturn, 1) := by decide +kernel
theorem d158_208 : decode (mcode 158) 208 = .ok (.aload_n 0, 1) := by decide +kernel
theorem d158_209 : decode (mcode 158) 209 = .ok (.getfield 45, 3) := by decide +kernel
theorem d158_212 : decode (mcode 158) 212 = .ok (.getfield 225, 3) := by decide +kernel
theorem d158_215 : decode (mcode 158) 215 = .ok (.ireturn, 1) := by decide +kernel
theorem d158_216 : decode (mcode 158) 216 = .ok (.aload_n 0, 1) := by decide +kernel
theorem d158_217 : decode (mcode 158) 217 = .ok (.getfield 38, 3) := by decide +kernel
theorem d158_220 : decode (mcode 158) 220 = .ok (.getfield 434, 3) := by decide +kernel
theorem d158_223 : decode (mcode 158) 223 = .ok (.ireturn, 1) := by decide +kernel
theorem d158_224 : decode (mcode 158) 224 = .ok (.aload_n 0, 1) := by decide +kernel
theorem d158_225 : decode (mcode 158) 225 = .ok (.getfield 17, 3) := by decide +kernel
theorem d158_228 : decode (mcode 158) 228 = .ok (.getfield 151, 3) := by decide +kernel
theorem d158_231 : decode (mcode 158) 231 = .ok (.getfield 162, 3) := by decide +kernel
theorem d158_234 : decode (mcode 158) 234 = .ok (.ireturn, 1) := by decide +kernel
theorem d158_235 : decode (mcode 158) 235 = .ok (.ldc_w 258, 3) := by decide +kernel
theorem d158_238 : decode (mcode 158) 238 = .ok (.ireturn, 1) := by decide +kernel
theorem d159_0 : decode (mcode 159) 0 = .ok (.iload_n 0, 1) := by decide +kernel
theorem d159_1 : decode (mcode 159) 1 = .ok (.iconst 2, 1) := by decide +kernel
theorem d159_2 : decode (mcode 159) 2 = .ok (.if_icmp .lt 13, 3) := by decide +kernel
theorem d159_5 : decode (mcode 159) 5 = .ok (.iload_n 0, 1) := by decide +kernel
theorem d159_6 : decode (mcode 159) 6 = .ok (.bipush 12, 2) := by decide +kernel
theorem d159_8 : decode (mcode 159) 8 = .ok (.if_icmp .gt 7, 3) := by decide +kernel
theorem d159_11 : decode (mcode 159) 11 = .ok (.iconst 1, 1) := by decide +kernel
theorem d159_12 : decode (mcode 159) 12 = .ok (.goto 4, 3) := by decide +kernel
theorem d159_15 : decode (mcode 159) 15 = .ok (.iconst 0, 1) := by decide +kernel
theorem d159_16 : decode (mcode 159) 16 = .ok (.ireturn, 1) := by decide +kernel
theorem d160_0 : decode (mcode 160) 0 = .ok (.aload_n 0, 1) := by decide +kernel
theorem d160_1 : decode (mcode 160) 1 = .ok (.aload_n 0, 1) := by decide +kernel
theorem d160_2 : decode (mcode 160) 2 = .ok (.getfield 140, 3) := by decide +kernel
theorem d160_5 : decode (mcode 160) 5 = .ok (.ldc_w 437, 3) := by decide +kernel
theorem d160_8 : decode (mcode 160) 8 = .ok (.imul, 1) := by decide +kernel
theorem d160_9 : decode (mcode 160) 9 = .ok (.ldc_w 438, 3) := by decide +kernel
theorem d160_12 : decode (mcode 160) 12 = .ok (.iadd, 1) := by decide +kernel
theorem d160_13 : decode (mcode 160) 13 = .ok (.putfield 140, 3) := by decide +kernel
theorem d160_16 : decode (mcode 160) 16 = .ok (.iload_n 1, 1) := by decide +kernel
theorem d160_17 : decode (mcode 160) 17 = .ok (.ifCond .le 15, 3) := by decide +kernel
theorem d160_20 : decode (mcode 160) 20 = .ok (.aload_n 0, 1) := by decide +kernel
theorem d160_21 : decode (mcode 160) 21 = .ok (.getfield 140, 3) := by decide +kernel
theorem d160_24 : decode (mcode 160) 24 = .ok (.bipush 8, 2) := by decide +kernel
theorem d160_26 : decode (mcode 160) 26 = .ok (.iushr, 1) := by decide +kernel
theorem d160_27 : decode (mcode 160) 27 = .ok (.iload_n 1, 1) := by decide +kernel
theorem d160_28 : decode (mcode 160) 28 = .ok (.irem, 1) := by decide +kernel
theorem d160_29 : decode (mcode 160) 29 = .ok (.goto 4, 3) := by decide +kernel
theorem d160_32 : decode (mcode 160) 32 = .ok (.iconst 0, 1) := by decide +kernel
theorem d160_33 : decode (mcode 160) 33 = .ok (.ireturn, 1) := by decide +kernel
theorem d161_0 : decode (mcode 161) 0 = .ok (.iload_n 1, 1) := by decide +kernel
theorem d161_1 : decode (mcode 161) 1 = .ok (.ifCond .ne 6, 3) := by decide +kernel
theorem d161_4 : decode (mcode 161) 4 = .ok (.bipush 50, 2) := by decide +kernel
theorem d161_6 : decode (mcode 161) 6 = .ok (.ireturn, 1) := by decide +kernel
theorem d161_7 : decode (mcode 161) 7 = .ok (.aload_n 0, 1) := by decide +kernel
theorem d161_8 : decode (mcode 161) 8 = .ok (.getfield 17, 3) := by decide +kernel
theorem d161_11 : decode (mcode 161) 11 = .ok (.getfield 21, 3) := by decide +kernel
theorem d161_14 : decode (mcode 161) 14 = .ok (.getfield 113, 3) := by decide +kernel
theorem d161_17 : decode (mcode 161) 17 = .ok (.iload_n 2, 1) := by decide +kernel
theorem d161_18 : decode (mcode 161) 18 = .ok (.baload, 1) := by decide +kernel
theorem d161_19 : decode (mcode 161) 19 = .ok (.ifCond .eq 5, 3) := by decide +kernel
theorem d161_22 : decode (mcode 161) 22 = .ok (.iconst 0, 1) := by decide +kernel
theorem d161_23 : decode (mcode 161) 23 = .ok (.ireturn, 1) := by decide +kernel
theorem d161_24 : decode (mcode 161) 24 = .ok (.iload_n 1, 1) := by decide +kernel
theorem d161_25 : decode (mcode 161) 25 = .ok (.iconst 1, 1) := by decide +kernel
theorem d161_26 : decode (mcode 161) 26 = .ok (.if_icmp .ne 15, 3) := by decide +kernel
theorem d161_29 : decode (mcode 161) 29 = .ok (.aload_n 0, 1) := by decide +kernel
theorem d161_30 : decode (mcode 161) 30 = .ok (.getfield 17, 3) := by decide +kernel
theorem d161_33 : decode (mcode 161) 33 = .ok (.getfield 21, 3) := by decide +kernel
theorem d161_36 : decode (mcode 161) 36 = .ok (.iload_n 2, 1) := by decide +kernel
theorem d161_37 : decode (mcode 161) 37 = .ok (.invokevirtual 439, 3) := by decide +kernel
theorem d161_40 : decode (mcode 161) 40 = .ok (.ireturn, 1) := by decide +kernel
theorem d161_41 : decode (mcode 161) 41 = .ok (.bipush 99, 2) := by decide +kernel
theorem d161_43 : decode (mcode 161) 43 = .ok (.bipush 9, 2) := by decide +kernel
theorem d161_45 : decode (mcode 161) 45 = .ok (.aload_n 0, 1) := by decide +kernel
theorem d161_46 : decode (mcode 161) 46 = .ok (.getfield 52, 3) := by decide +kernel
theorem d161_49 : decode (mcode 161) 49 = .ok (.aload_n 0, 1) := by decide +kernel
theorem d161_50 : decode (mcode 161) 50 = .ok (.getfield 17, 3) := by decide +kernel
theorem d161_53 : decode (mcode 161) 53 = .ok (.getfield 21, 3) := by decide +kernel
theorem d161_56 : decode (mcode 161) 56 = .ok (.iload_n 2, 1) := by decide +kernel
theorem d161_57 : decode (mcode 161) 57 = .ok (.invokevirtual 442, 3) := by decide +kernel
theorem d161_60 : decode (mcode 161) 60 = .ok (.imul, 1) := by decide +kernel
theorem d161_61 : decode (mcode 161) 61 = .ok (.invokestatic 283, 3) := by decide +kernel
theorem d161_64 : decode (mcode 161) 64 = .ok (.ireturn, 1) := by decide +kernel
theorem d162_0 : decode (mcode 162) 0 = .ok (.aload_n 0, 1) := by decide +kernel
theorem d162_1 : decode (mcode 162) 1 = .ok (.getfield 25, 3) := by decide +kernel
theorem d162_4 : decode (mcode 162) 4 = .ok (.getfield 104, 3) := by decide +kernel
theorem d162_7 : decode (mcode 162) 7 = .ok (.aload_n 0, 1) := by decide +kernel
theorem d162_8 : decode (mcode 162) 8 = .ok (.getfield 25, 3) := by decide +kernel
theorem d162_11 : decode (mcode 162) 11 = .ok (.getfield 21, 3) := by decide +kernel
theorem d162_14 : decode (mcode 162) 14 = .ok (.invokevirtual 177, 3) := by decide +kernel
theorem d162_17 : decode (mcode 162) 17 = .ok (.aload_n 0, 1) := by decide +kernel
theorem d162_18 : decode (mcode 162) 18 = .ok (.getfield 59, 3) := by decide +kernel
theorem d162_21 : decode (mcode 162) 21 = .ok (.aload_n 0, 1) := by decide +kernel
theorem d162_22 : decode (mcode 162) 22 = .ok (.getfield 25, 3) := by decide +kernel
theorem d162_25 : decode (mcode 162) 25 = .ok (.invokevirtual 190, 3) := by decide +kernel
theorem d162_28 : decode (mcode 162) 28 = .ok (.iconst 0, 1) := by decide +kernel
theorem d162_29 : decode (mcode 162) 29 = .ok (.istore_n 1, 1) := by decide +kernel
theorem d162_30 : decode (mcode 162) 30 = .ok (.iload_n 1, 1) := by decide +kernel
theorem d162_31 : decode (mcode 162) 31 = .ok (.sipush 144, 3) := by decide +kernel
theorem d162_34 : decode (mcode 162) 34 = .ok (.if_icmp .ge 43, 3) := by decide +kernel
theorem d162_37 : decode (mcode 162) 37 = .ok (.aload_n 0, 1) := by decide +kernel
theorem d162_38 : decode (mcode 162) 38 = .ok (.getfield 25, 3) := by decide +kernel
theorem d162_41 : decode (mcode 162) 41 = .ok (.getfield 104, 3) := by decide +kernel
theorem d162_44 : decode (mcode 162) 44 = .ok (.getfield 183, 3) := by decide +kernel
theorem d162_47 : decode (mcode 162) 47 = .ok (.ifCond .eq 30, 3) := by decide +kernel
theorem d162_50 : decode (mcode 162) 50 = .ok (.aload_n 0, 1) := by decide +kernel
theorem d162_51 : decode (mcode 162) 51 = .ok (.getfield 25, 3) := by decide +kernel
theorem d162_54 : decode (mcode 162) 54 = .ok (.getfield 104, 3) := by decide +kernel
theorem d162_57 : decode (mcode 162) 57 = .ok (.aload_n 0, 1) := by decide +kernel
theorem d162_58 : decode (mcode 162) 58 = .ok (.getfield 25, 3) := by decide +kernel
theorem d162_61 : decode (mcode 162) 61 = .ok (.getfield 21, 3) := by decide +kernel
theorem d162_64 : decode (mcode 162) 64 = .ok (.aload_n 0, 1) := by decide +kernel
theorem d162_65 : decode (mcode 162) 65 = .ok (.getfield 59, 3) := by decide +kernel
theorem d162_68 : decode (mcode 162) 68 = .ok (.invokevirtual 196, 3) := by decide +kernel
theorem d162_71 : decode (mcode 162) 71 = .ok (.iinc 1 1, 3) := by decide +kernel
theorem d162_74 : decode (mcode 162) 74 = .ok (.goto (-44), 3) := by decide +kernel
theorem d162_77 : decode (mcode 162) 77 = .ok (.return_, 1) := by decide +kernel
theorem d163_0 : decode (mcode 163) 0 = .ok (.aload_n 0, 1) := by decide +kernel
theorem d163_1 : decode (mcode 163) 1 = .ok (.getfield 405, 3) := by decide +kernel
theorem d163_4 : decode (mcode 163) 4 = .ok (.ifnonnull 21, 3) := by decide +kernel
theorem d163_7 : decode (mcode 163) 7 = .ok (.aload_n 0, 1) := by decide +kernel
theorem d163_8 : decode (mcode 163) 8 = .ok (.new 9, 3) := by decide +kernel
theorem d163_11 : decode (mcode 163) 11 = .ok (.dup, 1) := by decide +kernel
theorem d163_12 : decode (mcode 163) 12 = .ok (.new 11, 3) := by decide +kernel
theorem d163_15 : decode (mcode 163) 15 = .ok (.dup, 1) := by decide +kernel
theorem d163_16 : decode (mcode 163) 16 = .ok (.invokespecial 13, 3) := by decide +kernel
theorem d163_19 : decode (mcode 163) 19 = .ok (.invokespecial 14, 3) := by decide +kernel
theorem d163_22 : decode (mcode 163) 22 = .ok (.putfield 405, 3) := by decide +kernel
theorem d163_25 : decode (mcode 163) 25 = .ok (.aload_n 0, 1) := by decide +kernel
theorem d163_26 : decode (mcode 163) 26 = .ok (.getfield 408, 3) := by decide +kernel
theorem d163_29 : decode (mcode 163) 29 = .ok (.ifnonnull 14, 3) := by decide +kernel
theorem d163_32 : decode (mcode 163) 32 = .ok (.aload_n 0, 1) := by decide +kernel
theorem d163_33 : decode (mcode 163) 33 = .ok (.new 35, 3) := by decide +kernel
theorem d163_36 : decode (mcode 163) 36 = .ok (.dup, 1) := by decide +kernel
theorem d163_37 : decode (mcode 163) 37 = .ok (.invokespecial 37, 3) := by decide +kernel
theorem d163_40 : decode (mcode 163) 40 = .ok (.putfield 408, 3) := by decide +kernel
theorem d163_43 : decode (mcode 163) 43 = .ok (.aload_n 0, 1) := by decide +kernel
theorem d163_44 : decode (mcode 163) 44 = .ok (.getfield 405, 3) := by decide +kernel
theorem d163_47 : decode (mcode 163) 47 = .ok (.aload_n 0, 1) := by decide +kernel
theorem d163_48 : decode (mcode 163) 48 = .ok (.getfield 17, 3) := by decide +kernel
theorem d163_51 : decode (mcode 163) 51 = .ok (.invokevirtual 411, 3) := by decide +kernel
theorem d163_54 : decode (mcode 163) 54 = .ok (.aload_n 0, 1) := by decide +kernel
theorem d163_55 : decode (mcode 163) 55 = .ok (.getfield 408, 3) := by decide +kernel
theorem d163_58 : decode (mcode 163) 58 = .ok (.aload_n 0, 1) := by decide +kernel
theorem d163_59 : decode (mcode 163) 59 = .ok (.getfield 38, 3) := by decide +kernel
theorem d163_62 : decode (mcode 163) 62 = .ok (.invokevirtual 413, 3) := by decide +kernel
theorem d163_65 : decode (mcode 163) 65 = .ok (.aload_n 0, 1) := by decide +kernel
theorem d163_66 : decode (mcode 163) 66 = .ok (.aload_n 0, 1) := by decide +kernel
theorem d163_67 : decode (mcode 163) 67 = .ok (.getfield 140, 3) := by decide +kernel
theorem d163_70 : decode (mcode 163) 70 = .ok (.putfield 416, 3) := by decide +kernel
theorem d163_73 : decode (mcode 163) 73 = .ok (.return_, 1) := by decide +kernel
theorem d164_0 : decode (mcode 164) 0 = .ok (.aload_n 0, 1) := by decide +kernel
theorem d164_1 : decode (mcode 164) 1 = .ok (.invokespecial 1, 3) := by decide +kernel
theorem d164_4 : decode (mcode 164) 4 = .ok (.aload_n 0, 1) := by decide +kernel
theorem d164_5 : decode (mcode 164) 5 = .ok (.sipush 2314, 3) := by decide +kernel
theorem d164_8 : decode (mcode 164) 8 = .ok (.newarray .int, 2) := by decide +kernel
theorem d164_10 : decode (mcode 164) 10 = .ok (.putfield 7, 3) := by decide +kernel
theorem d164_13 : decode (mcode 164) 13 = .ok (.aload_n 0, 1) := by decide +kernel
theorem d164_14 : decode (mcode 164) 14 = .ok (.sipush 2314, 3) := by decide +kernel
theorem d164_17 : decode (mcode 164) 17 = .ok (.newarray .int, 2) := by decide +kernel
theorem d164_19 : decode (mcode 164) 19 = .ok (.putfield 13, 3) := by decide +kernel
theorem d164_22 : decode (mcode 164) 22 = .ok (.aload_n 0, 1) := by decide +kernel
theorem d164_23 : decode (mcode 164) 23 = .ok (.sipush 180, 3) := by decide +kernel
theorem d164_26 : decode (mcode 164) 26 = .ok (.newarray .int, 2) := by decide +kernel
theorem d164_28 : decode (mcode 164) 28 = .ok (.putfield 16, 3) := by decide +kernel
theorem d164_31 : decode (mcode 164) 31 = .ok (.aload_n 0, 1) := by decide +kernel
theorem d164_32 : decode (mcode 164) 32 = .ok (.sipush 27768, 3) := by decide +kernel
theorem d164_35 : decode (mcode 164) 35 = .ok (.newarray .int, 2) := by decide +kernel
theorem d164_37 : decode (mcode 164) 37 = .ok (.putfield 19, 3) := by decide +kernel
theorem d164_40 : decode (mcode 164) 40 = .ok (.aload_n 0, 1) := by decide +kernel
theorem d164_41 : decode (mcode 164) 41 = .ok (.sipush 144, 3) := by decide +kernel
theorem d164_44 : decode (mcode 164) 44 = .ok (.newarray .int, 2) := by decide +kernel
theorem d164_46 : decode (mcode 164) 46 = .ok (.putfield 22, 3) := by decide +kernel
theorem d164_49 : decode (mcode 164) 49 = .ok (.aload_n 0, 1) := by decide +kernel
theorem d164_50 : decode (mcode 164) 50 = .ok (.sipush 144, 3) := by decide +kernel
theorem d164_53 : decode (mcode 164) 53 = .ok (.newarray .int, 2) := by decide +kernel
theorem d164_55 : decode (mcode 164) 55 = .ok (.putfield 25, 3) := by decide +kernel
theorem d164_58 : decode (mcode 164) 58 = .ok (.aload_n 0, 1) := by decide +kernel
theorem d164_59 : decode (mcode 164) 59 = .ok (.sipush 4096, 3) := by decide +kernel
theorem d164_62 : decode (mcode 164) 62 = .ok (.newarray .int, 2) := by decide +kernel
theorem d164_64 : decode (mcode 164) 64 = .ok (.putfield 28, 3) := by decide +kernel
theorem d164_67 : decode (mcode 164) 67 = .ok (.aload_n 0, 1) := by decide +kernel
theorem d164_68 : decode (mcode 164) 68 = .ok (.sipush 144, 3) := by decide +kernel
theorem d164_71 : decode (mcode 164) 71 = .ok (.newarray .int, 2) := by decide +kernel
theorem d164_73 : decode (mcode 164) 73 = .ok (.putfield 31, 3) := by decide +kernel
theorem d164_76 : decode (mcode 164) 76 = .ok (.aload_n 0, 1) := by decide +kernel
theorem d164_77 : decode (mcode 164) 77 = .ok (.sipush 400, 3) := by decide +kernel
theorem d164_80 : decode (mcode 164) 80 = .ok (.newarray .int, 2) := by decide +kernel
theorem d164_82 : decode (mcode 164) 82 = .ok (.putfield 34, 3) := by decide +kernel
theorem d164_85 : decode (mcode 164) 85 = .ok (.aload_n 0, 1) := by decide +kernel
theorem d164_86 : decode (mcode 164) 86 = .ok (.iconst (-1), 1) := by decide +kernel
theorem d164_87 : decode (mcode 164) 87 = .ok (.putfield 37, 3) := by decide +kernel
theorem d164_90 : decode (mcode 164) 90 = .ok (.aload_n 0, 1) := by decide +kernel
theorem d164_91 : decode (mcode 164) 91 = .ok (.sipush 144, 3) := by decide +kernel
theorem d164_94 : decode (mcode 164) 94 = .ok (.newarray .int, 2) := by decide +kernel
theorem d164_96 : decode (mcode 164) 96 = .ok (.putfield 41, 3) := by decide +kernel
theorem d164_99 : decode (mcode 164) 99 = .ok (.aload_n 0, 1) := by decide +kernel
theorem d164_100 : decode (mcode 164) 100 = .ok (.sipush 144, 3) := by decide +kernel
theorem d164_103 : decode (mcode 164) 103 = .ok (.newarray .boolean, 2) := by decide +kernel
theorem d164_105 : decode (mcode 164) 105 = .ok (.putfield 44, 3) := by decide +kernel
theorem d164_108 : decode (mcode 164) 108 = .ok (.aload_n 0, 1) := by decide +kernel
theorem d164_109 : decode (mcode 164) 109 = .ok (.sipush 144, 3) := by decide +kernel
theorem d164_112 : decode (mcode 164) 112 = .ok (.newarray .int, 2) := by decide +kernel
theorem d164_114 : decode (mcode 164) 114 = .ok (.putfield 48, 3) := by decide +kernel
theorem d164_117 : decode (mcode 164) 117 = .ok (.aload_n 0, 1) := by decide +kernel
theorem d164_118 : decode (mcode 164) 118 = .ok (.sipush 2314, 3) := by decide +kernel
theorem d164_121 : decode (mcode 164) 121 = .ok (.newarray .int, 2) := by decide +kernel
theorem d164_123 : decode (mcode 164) 123 = .ok (.putfield 51, 3) := by decide +kernel
theorem d164_126 : decode (mcode 164) 126 = .ok (.aload_n 0, 1) := by decide +kernel
theorem d164_127 : decode (mcode 164) 127 = .ok (.sipush 180, 3) := by decide +kernel
theorem d164_130 : decode (mcode 164) 130 = .ok (.newarray .int, 2) := by decide +kernel
theorem d164_132 : decode (mcode 164) 132 = .ok (.putfield 54, 3) := by decide +kernel
theorem d164_135 : decode (mcode 164) 135 = .ok (.return_, 1) := by decide +kernel
theorem d165_0 : decode (mcode 165) 0 = .ok (.iload_n 1, 1) := by decide +kernel
theorem d165_1 : decode (mcode 165) 1 = .ok (.iload_n 2, 1) := by decide +kernel
theorem d165_2 : decode (mcode 165) 2 = .ok (.if_icmp .lt 12, 3) := by decide +kernel
theorem d165_5 : decode (mcode 165) 5 = .ok (.iload_n 1, 1) := by decide +kernel
theorem d165_6 : decode (mcode 165) 6 = .ok (.iload_n 3, 1) := by decide +kernel
theorem d165_7 : decode (mcode 165) 7 = .ok (.if_icmp .gt 7, 3) := by decide +kernel
theorem d165_10 : decode (mcode 165) 10 = .ok (.iconst 1, 1) := by decide +kernel
theorem d165_11 : decode (mcode 165) 11 = .ok (.goto 4, 3) := by decide +kernel
theorem d165_14 : decode (mcode 165) 14 = .ok (.iconst 0, 1) := by decide +kernel
theorem d165_15 : decode (mcode 165) 15 = .ok (.ireturn, 1) := by decide +kernel
theorem d166_0 : decode (mcode 166) 0 = .ok (.aload_n 0, 1) := by decide +kernel
theorem d166_1 : decode (mcode 166) 1 = .ok (.getfield 7, 3) := by decide +kernel
theorem d166_4 : decode (mcode 166) 4 = .ok (.iconst 0, 1) := by decide +kernel
theorem d166_5 : decode (mcode 166) 5 = .ok (.iaload, 1) := by decide +kernel
theorem d166_6 : decode (mcode 166) 6 = .ok (.iconst 4, 1) := by decide +kernel
theorem d166_7 : decode (mcode 166) 7 = .ok (.iadd, 1) := by decide +kernel
theorem d166_8 : decode (mcode 166) 8 = .ok (.ireturn, 1) := by decide +kernel
theorem d167_0 : decode (mcode 167) 0 = .ok (.aload_n 0, 1) := by decide +kernel
theorem d167_1 : decode (mcode 167) 1 = .ok (.getfield 7, 3) := by decide +kernel
theorem d167_4 : decode (mcode 167) 4 = .ok (.iconst 1, 1) := by decide +kernel
theorem d167_5 : decode (mcode 167) 5 = .ok (.iaload, 1) := by decide +kernel
theorem d167_6 : decode (mcode 167) 6 = .ok (.iconst 4, 1) := by decide +kernel
theorem d167_7 : decode (mcode 167) 7 = .ok (.iadd, 1) := by decide +kernel
theorem d167_8 : decode (mcode 167) 8 = .ok (.ireturn, 1) := by decide +kernel
theorem d168_0 : decode (mcode 168) 0 = .ok (.aload_n 0, 1) := by decide +kernel
theorem d168_1 : decode (mcode 168) 1 = .ok (.invokevirtual 60, 3) := by decide +kernel
theorem d168_4 : decode (mcode 168) 4 = .ok (.aload_n 0, 1) := by decide +kernel
theorem d168_5 : decode (mcode 168) 5 = .ok (.invokevirtual 64, 3) := by decide +kernel
theorem d168_8 : decode (mcode 168) 8 = .ok (.imul, 1) := by decide +kernel
theorem d168_9 : decode (mcode 168) 9 = .ok (.ireturn, 1) := by decide +kernel
theorem d169_0 : decode (mcode 169) 0 = .ok (.iload_n 1, 1) := by decide +kernel
theorem d169_1 : decode (mcode 169) 1 = .ok (.ifCond .lt 15, 3) := by decide +kernel
theorem d169_4 : decode (mcode 169) 4 = .ok (.iload_n 1, 1) := by decide +kernel
theorem d169_5 : decode (mcode 169) 5 = .ok (.aload_n 0, 1) := by decide +kernel
theorem d169_6 : decode (mcode 169) 6 = .ok (.invokevirtual 67, 3) := by decide +kernel
theorem d169_9 : decode (mcode 169) 9 = .ok (.if_icmp .ge 7, 3) := by decide +kernel
theorem d169_12 : decode (mcode 169) 12 = .ok (.iconst 1, 1) := by decide +kernel
theorem d169_13 : decode (mcode 169) 13 = .ok (.goto 4, 3) := by decide +kernel
theorem d169_16 : decode (mcode 169) 16 = .ok (.iconst 0, 1) := by decide +kernel
theorem d169_17 : decode (mcode 169) 17 = .ok (.ireturn, 1) := by decide +kernel
theorem d170_0 : decode (mcode 170) 0 = .ok (.aload_n 0, 1) := by decide +kernel
theorem d170_1 : decode (mcode 170) 1 = .ok (.getfield 7, 3) := by decide +kernel
theorem d170_4 : decode (mcode 170) 4 = .ok (.bipush 10, 2) := by decide +kernel
theorem d170_6 : decode (mcode 170) 6 = .ok (.iload_n 1, 1) := by decide +kernel
theorem d170_7 : decode (mcode 170) 7 = .ok (.iadd, 1) := by decide +kernel
theorem d170_8 : decode (mcode 170) 8 = .ok (.iaload, 1) := by decide +kernel
theorem d170_9 : decode (mcode 170) 9 = .ok (.ireturn, 1) := by decide +kernel
theorem d171_0 : decode (mcode 171) 0 = .ok (.aload_n 0, 1) := by decide +kernel
theorem d171_1 : decode (mcode 171) 1 = .ok (.getfield 7, 3) := by decide +kernel
theorem d171_4 : decode (mcode 171) 4 = .ok (.sipush 154, 3) := by decide +kernel
theorem d171_7 : decode (mcode 171) 7 = .ok (.iload_n 1, 1) := by decide +kernel
theorem d171_8 : decode (mcode 171) 8 = .ok (.iadd, 1) := by decide +kernel
theorem d171_9 : decode (mcode 171) 9 = .ok (.iaload, 1) := by decide +kernel
theorem d171_10 : decode (mcode 171) 10 = .ok (.bipush 50, 2) := by decide +kernel
theorem d171_12 : decode (mcode 171) 12 = .ok (.iadd, 1) := by decide +kernel
theorem d171_13 : decode (mcode 171) 13 = .ok (.ireturn, 1) := by decide +kernel
theorem d172_0 : decode (mcode 172) 0 = .ok (.aload_n 0, 1) := by decide +kernel
theorem d172_1 : decode (mcode 172) 1 = .ok (.getfield 7, 3) := by decide +kernel
theorem d172_4 : decode (mcode 172) 4 = .ok (.sipush 298, 3) := by decide +kernel
theorem d172_7 : decode (mcode 172) 7 = .ok (.iload_n 1, 1) := by decide +kernel
theorem d172_8 : decode (mcode 172) 8 = .ok (.iadd, 1) := by decide +kernel
theorem d172_9 : decode (mcode 172) 9 = .ok (.iaload, 1) := by decide +kernel
theorem d172_10 : decode (mcode 172) 10 = .ok (.iconst 1, 1) := by decide +kernel
theorem d172_11 : decode (mcode 172) 11 = .ok (.if_icmp .ne 7, 3) := by decide +kernel
theorem d172_14 : decode (mcode 172) 14 = .ok (.iconst 1, 1) := by decide +kernel
theorem d172_15 : decode (mcode 172) 15 = .ok (.goto 4, 3) := by decide +kernel
theorem d172_18 : decode (mcode 172) 18 = .ok (.iconst 0, 1) := by decide +kernel
theorem d172_19 : decode (mcode 172) 19 = .ok (.ireturn, 1) := by decide +kernel
theorem d173_0 : decode (mcode 173) 0 = .ok (.aload_n 0, 1) := by decide +kernel
theorem d173_1 : decode (mcode 173) 1 = .ok (.getfield 7, 3) := by decide +kernel
theorem d173_4 : decode (mcode 173) 4 = .ok (.sipush 874, 3) := by decide +kernel
theorem d173_7 : decode (mcode 173) 7 = .ok (.iload_n 1, 1) := by decide +kernel
theorem d173_8 : decode (mcode 173) 8 = .ok (.iadd, 1) := by decide +kernel
theorem d173_9 : decode (mcode 173) 9 = .ok (.iaload, 1) := by decide +kernel
theorem d173_10 : decode (mcode 173) 10 = .ok (.ifCond .le 7, 3) := by decide +kernel
theorem d173_13 : decode (mcode 173) 13 = .ok (.iconst 1, 1) := by decide +kernel
theorem d173_14 : decode (mcode 173) 14 = .ok (.goto 4, 3) := by decide +kernel
theorem d173_17 : decode (mcode 173) 17 = .ok (.iconst 0, 1) := by decide +kernel
theorem d173_18 : decode (mcode 173) 18 = .ok (.ireturn, 1) := by decide +kernel
theorem d174_0 : decode (mcode 174) 0 = .ok (.iload_n 1, 1) := by decide +kernel
theorem d174_1 : decode (mcode 174) 1 = .ok (.aload_n 0, 1) := by decide +kernel
theorem d174_2 : decode (mcode 174) 2 = .ok (.invokevirtual 64, 3) := by decide +kernel
theorem d174_5 : decode (mcode 174) 5 = .ok (.idiv, 1) := by decide +kernel
theorem d174_6 : decode (mcode 174) 6 = .ok (.ireturn, 1) := by decide +kernel
theorem d175_0 : decode (mcode 175) 0 = .ok (.iload_n 1, 1) := by decide +kernel
theorem d175_1 : decode (mcode 175) 1 = .ok (.aload_n 0, 1) := by decide +kernel
theorem d175_2 : decode (mcode 175) 2 = .ok (.invokevirtual 64, 3) := by decide +kernel
theorem d175_5 : decode (mcode 175) 5 = .ok (.irem, 1) := by decide +kernel
theorem d175_6 : decode (mcode 175) 6 = .ok (.ireturn, 1) := by decide +kernel
theorem d176_0 : decode (mcode 176) 0 = .ok (.iload_n 1, 1) := by decide +kernel
theorem d176_1 : decode (mcode 176) 1 = .ok (.ifCond .ge 8, 3) := by decide +kernel
theorem d176_4 : decode (mcode 176) 4 = .ok (.iload_n 1, 1) := by decide +kernel
theorem d176_5 : decode (mcode 176) 5 = .ok (.ineg, 1) := by decide +kernel
theorem d176_6 : decode (mcode 176) 6 = .ok (.goto 4, 3) := by decide +kernel
theorem d176_9 : decode (mcode 176) 9 = .ok (.iload_n 1, 1) := by decide +kernel
theorem d176_10 : decode (mcode 176) 10 = .ok (.ireturn, 1) := by decide +kernel
theorem d177_0 : decode (mcode 177) 0 = .ok (.lload_n 1, 1) := by decide +kernel
theorem d177_1 : decode (mcode 177) 1 = .ok (.ldc2_w 70, 3) := by decide +kernel
theorem d177_4 : decode (mcode 177) 4 = .ok (.lrem, 1) := by decide +kernel
theorem d177_5 : decode (mcode 177) 5 = .ok (.l2i, 1) := by decide +kernel
theorem d177_6 : decode (mcode 177) 6 = .ok (.istore_n 3, 1) := by decide +kernel
theorem d177_7 : decode (mcode 177) 7 = .ok (.iload_n 3, 1) := by decide +kernel
theorem d177_8 : decode (mcode 177) 8 = .ok (.bipush 127, 2) := by decide +kernel
theorem d177_10 : decode (mcode 177) 10 = .ok (.if_icmp .le 11, 3) := by decide +kernel
theorem d177_13 : decode (mcode 177) 13 = .ok (.iload_n 3, 1) := by decide +kernel
theorem d177_14 : decode (mcode 177) 14 = .ok (.sipush 255, 3) := by decide +kernel
theorem d177_17 : decode (mcode 177) 17 = .ok (.isub, 1) := by decide +kernel
theorem d177_18 : decode (mcode 177) 18 = .ok (.goto 18, 3) := by decide +kernel
theorem d177_21 : decode (mcode 177) 21 = .ok (.iload_n 3, 1) := by decide +kernel
theorem d177_22 : decode (mcode 177) 22 = .ok (.bipush (-127), 2) := by decide +kernel
theorem d177_24 : decode (mcode 177) 24 = .ok (.if_icmp .ge 11, 3) := by decide +kernel
theorem d177_27 : decode (mcode 177) 27 = .ok (.iload_n 3, 1) := by decide +kernel
theorem d177_28 : decode (mcode 177) 28 = .ok (.sipush 255, 3) := by decide +kernel
theorem d177_31 : decode (mcode 177) 31 = .ok (.iadd, 1) := by decide +kernel
theorem d177_32 : decode (mcode 177) 32 = .ok (.goto 4, 3) := by decide +kernel
theorem d177_35 : decode (mcode 177) 35 = .ok (.iload_n 3, 1) := by decide +kernel
theorem d177_36 : decode (mcode 177) 36 = .ok (.ireturn, 1) := by decide +kernel
theorem d178_0 : decode (mcode 178) 0 = .ok (.aload_n 0, 1) := by decide +kernel
theorem d178_1 : decode (mcode 178) 1 = .ok (.aload_n 0, 1) := by decide +kernel
theorem d178_2 : decode (mcode 178) 2 = .ok (.iload_n 2, 1) := by decide +kernel
theorem d178_3 : decode (mcode 178) 3 = .ok (.invokevirtual 72, 3) := by decide +kernel
theorem d178_6 : decode (mcode 178) 6 = .ok (.aload_n 0, 1) := by decide +kernel
theorem d178_7 : decode (mcode 178) 7 = .ok (.iload_n 1, 1) := by decide +kernel
theorem d178_8 : decode (mcode 178) 8 = .ok (.invokevirtual 72, 3) := by decide +kernel
theorem d178_11 : decode (mcode 178) 11 = .ok (.isub, 1) := by decide +kernel
theorem d178_12 : decode (mcode 178) 12 = .ok (.i2l, 1) := by decide +kernel
theorem d178_13 : decode (mcode 178) 13 = .ok (.invokevirtual 76, 3) := by decide +kernel
theorem d178_16 : decode (mcode 178) 16 = .ok (.ireturn, 1) := by decide +kernel
theorem d179_0 : decode (mcode 179) 0 = .ok (.iload_n 1, 1) := by decide +kernel
theorem d179_1 : decode (mcode 179) 1 = .ok (.ifCond .lt 13, 3) := by decide +kernel
theorem d179_4 : decode (mcode 179) 4 = .ok (.iload_n 1, 1) := by decide +kernel
theorem d179_5 : decode (mcode 179) 5 = .ok (.iconst 2, 1) := by decide +kernel
theorem d179_6 : decode (mcode 179) 6 = .ok (.aload_n 0, 1) := by decide +kernel
theorem d179_7 : decode (mcode 179) 7 = .ok (.invokevirtual 67, 3) := by decide +kernel
theorem d179_10 : decode (mcode 179) 10 = .ok (.imul, 1) := by decide +kernel
theorem d179_11 : decode (mcode 179) 11 = .ok (.if_icmp .lt 5, 3) := by decide +kernel
theorem d179_14 : decode (mcode 179) 14 = .ok (.iconst 0, 1) := by decide +kernel
theorem d179_15 : decode (mcode 179) 15 = .ok (.ireturn, 1) := by decide +kernel
theorem d179_16 : decode (mcode 179) 16 = .ok (.iload_n 1, 1) := by decide +kernel
theorem d179_17 : decode (mcode 179) 17 = .ok (.iconst 2, 1) := by decide +kernel
theorem d179_18 : decode (mcode 179) 18 = .ok (.irem, 1) := by decide +kernel
theorem d179_19 : decode (mcode 179) 19 = .ok (.ifCond .ne 27, 3) := by decide +kernel
theorem d179_22 : decode (mcode 179) 22 = .ok (.aload_n 0, 1) := by decide +kernel
theorem d179_23 : decode (mcode 179) 23 = .ok (.iload_n 1, 1) := by decide +kernel
theorem d179_24 : decode (mcode 179) 24 = .ok (.iconst 2, 1) := by decide +kernel
theorem d179_25 : decode (mcode 179) 25 = .ok (.idiv, 1) := by decide +kernel
theorem d179_26 : decode (mcode 179) 26 = .ok (.invokevirtual 80, 3) := by decide +kernel
theorem d179_29 : decode (mcode 179) 29 = .ok (.aload_n 0, 1) := by decide +kernel
theorem d179_30 : decode (mcode 179) 30 = .ok (.invokevirtual 64, 3) := by decide +kernel
theorem d179_33 : decode (mcode 179) 33 = .ok (.iconst 1, 1) := by decide +kernel
theorem d179_34 : decode (mcode 179) 34 = .ok (.isub, 1) := by decide +kernel
theorem d179_35 : decode (mcode 179) 35 = .ok (.if_icmp .ge 7, 3) := by decide +kernel
theorem d179_38 : decode (mcode 179) 38 = .ok (.iconst 1, 1) := by decide +kernel
theorem d179_39 : decode (mcode 179) 39 = .ok (.goto 28, 3) := by decide +kernel
theorem d179_42 : decode (mcode 179) 42 = .ok (.iconst 0, 1) := by decide +kernel
theorem d179_43 : decode (mcode 179) 43 = .ok (.goto 24, 3) := by decide +kernel
theorem d179_46 : decode (mcode 179) 46 = .ok (.aload_n 0, 1) := by decide +kernel
theorem d179_47 : decode (mcode 179) 47 = .ok (.iload_n 1, 1) := by decide +kernel
theorem d179_48 : decode (mcode 179) 48 = .ok (.iconst 2, 1) := by decide +kernel
theorem d179_49 : decode (mcode 179) 49 = .ok (.idiv, 1) := by decide +kernel
theorem d179_50 : decode (mcode 179) 50 = .ok (.invokevirtual 83, 3) := by decide +kernel
theorem d179_53 : decode (mcode 179) 53 = .ok (.aload_n 0, 1) := by decide +kernel
theorem d179_54 : decode (mcode 179) 54 = .ok (.invokevirtual 60, 3) := by decide +kernel
theorem d179_57 : decode (mcode 179) 57 = .ok (.iconst 1, 1) := by decide +kernel
theorem d179_58 : decode (mcode 179) 58 = .ok (.isub, 1) := by decide +kernel
theorem d179_59 : decode (mcode 179) 59 = .ok (.if_icmp .ge 7, 3) := by decide +kernel
theorem d179_62 : decode (mcode 179) 62 = .ok (.iconst 1, 1) := by decide +kernel
theorem d179_63 : decode (mcode 179) 63 = .ok (.goto 4, 3) := by decide +kernel
theorem d179_66 : decode (mcode 179) 66 = .ok (.iconst 0, 1) := by decide +kernel
theorem d179_67 : decode (mcode 179) 67 = .ok (.ireturn, 1) := by decide +kernel
theorem d180_0 : decode (mcode 180) 0 = .ok (.iload_n 1, 1) := by decide +kernel
theorem d180_1 : decode (mcode 180) 1 = .ok (.iconst 2, 1) := by decide +kernel
theorem d180_2 : decode (mcode 180) 2 = .ok (.idiv, 1) := by decide +kernel
theorem d180_3 : decode (mcode 180) 3 = .ok (.ireturn, 1) := by decide +kernel
theorem d181_0 : decode (mcode 181) 0 = .ok (.iload_n 1, 1) := by decide +kernel
theorem d181_1 : decode (mcode 181) 1 = .ok (.iconst 2, 1) := by decide +kernel
theorem d181_2 : decode (mcode 181) 2 = .ok (.irem, 1) := by decide +kernel
theorem d181_3 : decode (mcode 181) 3 = .ok (.ifCond .ne 11, 3) := by decide +kernel
theorem d181_6 : decode (mcode 181) 6 = .ok (.iload_n 1, 1) := by decide +kernel
theorem d181_7 : decode (mcode 181) 7 = .ok (.iconst 2, 1) := by decide +kernel
theorem d181_8 : decode (mcode 181) 8 = .ok (.idiv, 1) := by decide +kernel
theorem d181_9 : decode (mcode 181) 9 = .ok (.iconst 1, 1) := by decide +kernel
theorem d181_10 : decode (mcode 181) 10 = .ok (.iadd, 1) := by decide +kernel
theorem d181_11 : decode (mcode 181) 11 = .ok (.goto 11, 3) := by decide +kernel
theorem d181_14 : decode (mcode 181) 14 = .ok (.iload_n 1, 1) := by decide +kernel
theorem d181_15 : decode (mcode 181) 15 = .ok (.iconst 2, 1) := by decide +kernel
theorem d181_16 : decode (mcode 181) 16 = .ok (.idiv, 1) := by decide +kernel
theorem d181_17 : decode (mcode 181) 17 = .ok (.aload_n 0, 1) := by decide +kernel
theorem d181_18 : decode (mcode 181) 18 = .ok (.invokevirtual 64, 3) := by decide +kernel
theorem d181_21 : decode (mcode 181) 21 = .ok (.iadd, 1) := by decide +kernel
theorem d181_22 : decode (mcode 181) 22 = .ok (.ireturn, 1) := by decide +kernel
theorem d182_0 : decode (mcode 182) 0 = .ok (.aload_n 0, 1) := by decide +kernel
theorem d182_1 : decode (mcode 182) 1 = .ok (.aload_n 0, 1) := by decide +kernel
theorem d182_2 : decode (mcode 182) 2 = .ok (.iload_n 1, 1) := by decide +kernel
theorem d182_3 : decode (mcode 182) 3 = .ok (.invokevirtual 86, 3) := by decide +kernel
theorem d182_6 : decode (mcode 182) 6 = .ok (.invokevirtual 89, 3) := by decide +kernel
theorem d182_9 : decode (mcode 182) 9 = .ok (.ifCond .ne 15, 3) := by decide +kernel
theorem d182_12 : decode (mcode 182) 12 = .ok (.aload_n 0, 1) := by decide +kernel
theorem d182_13 : decode (mcode 182) 13 = .ok (.aload_n 0, 1) := by decide +kernel
theorem d182_14 : decode (mcode 182) 14 = .ok (.iload_n 1, 1) := by decide +kernel
theorem d182_15 : decode (mcode 182) 15 = .ok (.invokevirtual 93, 3) := by decide +kernel
theorem d182_18 : decode (mcode 182) 18 = .ok (.invokevirtual 89, 3) := by decide +kernel
theorem d182_21 : decode (mcode 182) 21 = .ok (.ifCond .eq 7, 3) := by decide +kernel
theorem d182_24 : decode (mcode 182) 24 = .ok (.iconst 1, 1) := by decide +kernel
theorem d182_25 : decode (mcode 182) 25 = .ok (.goto 4, 3) := by decide +kernel
theorem d182_28 : decode (mcode 182) 28 = .ok (.iconst 0, 1) := by decide +kernel
theorem d182_29 : decode (mcode 182) 29 = .ok (.ireturn, 1) := by decide +kernel
theorem d183_0 : decode (mcode 183) 0 = .ok (.aload_n 0, 1) := by decide +kernel
theorem d183_1 : decode (mcode 183) 1 = .ok (.getfield 7, 3) := by decide +kernel
theorem d183_4 : decode (mcode 183) 4 = .ok (.sipush 1018, 3) := by decide +kernel
theorem d183_7 : decode (mcode 183) 7 = .ok (.iload_n 1, 1) := by decide +kernel
theorem d183_8 : decode (mcode 183) 8 = .ok (.iadd, 1) := by decide +kernel
theorem d183_9 : decode (mcode 183) 9 = .ok (.iaload, 1) := by decide +kernel
theorem d183_10 : decode (mcode 183) 10 = .ok (.ifCond .gt 16, 3) := by decide +kernel
theorem d183_13 : decode (mcode 183) 13 = .ok (.aload_n 0, 1) := by decide +kernel
theorem d183_14 : decode (mcode 183) 14 = .ok (.getfield 7, 3) := by decide +kernel
theorem d183_17 : decode (mcode 183) 17 = .ok (.sipush 1306, 3) := by decide +kernel
theorem d183_20 : decode (mcode 183) 20 = .ok (.iload_n 1, 1) := by decide +kernel
theorem d183_21 : decode (mcode 183) 21 = .ok (.iadd, 1) := by decide +kernel
theorem d183_22 : decode (mcode 183) 22 = .ok (.iaload, 1) := by decide +kernel
theorem d183_23 : decode (mcode 183) 23 = .ok (.ifCond .le 7, 3) := by decide +kernel
theorem d183_26 : decode (mcode 183) 26 = .ok (.iconst 1, 1) := by decide +kernel
theorem d183_27 : decode (mcode 183) 27 = .ok (.goto 4, 3) := by decide +kernel
theorem d183_30 : decode (mcode 183) 30 = .ok (.iconst 0, 1) := by decide +kernel
theorem d183_31 : decode (mcode 183) 31 = .ok (.ireturn, 1) := by decide +kernel
theorem d184_0 : decode (mcode 184) 0 = .ok (.aload_n 0, 1) := by decide +kernel
theorem d184_1 : decode (mcode 184) 1 = .ok (.aload_n 0, 1) := by decide +kernel
theorem d184_2 : decode (mcode 184) 2 = .ok (.iload_n 1, 1) := by decide +kernel
theorem d184_3 : decode (mcode 184) 3 = .ok (.invokevirtual 86, 3) := by decide +kernel
theorem d184_6 : decode (mcode 184) 6 = .ok (.invokevirtual 96, 3) := by decide +kernel
theorem d184_9 : decode (mcode 184) 9 = .ok (.istore_n 2, 1) := by decide +kernel
theorem d184_10 : decode (mcode 184) 10 = .ok (.aload_n 0, 1) := by decide +kernel
theorem d184_11 : decode (mcode 184) 11 = .ok (.aload_n 0, 1) := by decide +kernel
theorem d184_12 : decode (mcode 184) 12 = .ok (.iload_n 1, 1) := by decide +kernel
theorem d184_13 : decode (mcode 184) 13 = .ok (.invokevirtual 93, 3) := by decide +kernel
theorem d184_16 : decode (mcode 184) 16 = .ok (.invokevirtual 96, 3) := by decide +kernel
theorem d184_19 : decode (mcode 184) 19 = .ok (.istore_n 3, 1) := by decide +kernel
theorem d184_20 : decode (mcode 184) 20 = .ok (.iload_n 2, 1) := by decide +kernel
theorem d184_21 : decode (mcode 184) 21 = .ok (.iload_n 3, 1) := by decide +kernel
theorem d184_22 : decode (mcode 184) 22 = .ok (.if_icmp .ge 7, 3) := by decide +kernel
theorem d184_25 : decode (mcode 184) 25 = .ok (.iload_n 2, 1) := by decide +kernel
theorem d184_26 : decode (mcode 184) 26 = .ok (.goto 4, 3) := by decide +kernel
theorem d184_29 : decode (mcode 184) 29 = .ok (.iload_n 3, 1) := by decide +kernel
theorem d184_30 : decode (mcode 184) 30 = .ok (.ireturn, 1) := by decide +kernel
theorem d185_0 : decode (mcode 185) 0 = .ok (.iconst 3, 1) := by decide +kernel
theorem d185_1 : decode (mcode 185) 1 = .ok (.aload_n 0, 1) := by decide +kernel
theorem d185_2 : decode (mcode 185) 2 = .ok (.getfield 99, 3) := by decide +kernel
theorem d185_5 : decode (mcode 185) 5 = .ok (.bipush 60, 2) := by decide +kernel
theorem d185_7 : decode (mcode 185) 7 = .ok (.irem, 1) := by decide +kernel
theorem d185_8 : decode (mcode 185) 8 = .ok (.imul, 1) := by decide +kernel
theorem d185_9 : decode (mcode 185) 9 = .ok (.istore 4, 2) := by decide +kernel
theorem d185_11 : decode (mcode 185) 11 = .ok (.aload_n 0, 1) := by decide +kernel
theorem d185_12 : decode (mcode 185) 12 = .ok (.getfield 16, 3) := by decide +kernel
theorem d185_15 : decode (mcode 185) 15 = .ok (.iload 4, 2) := by decide +kernel
theorem d185_17 : decode (mcode 185) 17 = .ok (.iload_n 1, 1) := by decide +kernel
theorem d185_18 : decode (mcode 185) 18 = .ok (.iastore, 1) := by decide +kernel
theorem d185_19 : decode (mcode 185) 19 = .ok (.aload_n 0, 1) := by decide +kernel
theorem d185_20 : decode (mcode 185) 20 = .ok (.getfield 16, 3) := by decide +kernel
theorem d185_23 : decode (mcode 185) 23 = .ok (.iload 4, 2) := by decide +kernel
theorem d185_25 : decode (mcode 185) 25 = .ok (.iconst 1, 1) := by decide +kernel
theorem d185_26 : decode (mcode 185) 26 = .ok (.iadd, 1) := by decide +kernel
theorem d185_27 : decode (mcode 185) 27 = .ok (.iload_n 2, 1) := by decide +kernel
theorem d185_28 : decode (mcode 185) 28 = .ok (.iastore, 1) := by decide +kernel
theorem d185_29 : decode (mcode 185) 29 = .ok (.aload_n 0, 1) := by decide +kernel
theorem d185_30 : decode (mcode 185) 30 = .ok (.getfield 16, 3) := by decide +kernel
theorem d185_33 : decode (mcode 185) 33 = .ok (.iload 4, 2) := by decide +kernel
theorem d185_35 : decode (mcode 185) 35 = .ok (.iconst 2, 1) := by decide +kernel
theorem d185_36 : decode (mcode 185) 36 = .ok (.iadd, 1) := by decide +kernel
theorem d185_37 : decode (mcode 185) 37 = .ok (.iload_n 3, 1) := by decide +kernel
theorem d185_38 : decode (mcode 185) 38 = .ok (.iastore, 1) := by decide +kernel
theorem d185_39 : decode (mcode 185) 39 = .ok (.aload_n 0, 1) := by decide +kernel
theorem d185_40 : decode (mcode 185) 40 = .ok (.aload_n 0, 1) := by decide +kernel
theorem d185_41 : decode (mcode 185) 41 = .ok (.getfield 99, 3) := by decide +kernel
theorem d185_44 : decode (mcode 185) 44 = .ok (.iconst 1, 1) := by decide +kernel
theorem d185_45 : decode (mcode 185) 45 = .ok (.iadd, 1) := by decide +kernel
theorem d185_46 : decode (mcode 185) 46 = .ok (.putfield 99, 3) := by decide +kernel
theorem d185_49 : decode (mcode 185) 49 = .ok (.return_, 1) := by decide +kernel
theorem d186_0 : decode (mcode 186) 0 = .ok (.aload_n 0, 1) := by decide +kernel
theorem d186_1 : decode (mcode 186) 1 = .ok (.getfield 102, 3) := by decide +kernel
theorem d186_4 : decode (mcode 186) 4 = .ok (.bipush 12, 2) := by decide +kernel
theorem d186_6 : decode (mcode 186) 6 = .ok (.if_icmp .ne 40, 3) := by decide +kernel
