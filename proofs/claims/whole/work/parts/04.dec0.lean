theorem d0_0 : decode (mcode 0) 0 = .ok (.aload_n 0, 1) := by decide +kernel
theorem d0_1 : decode (mcode 0) 1 = .ok (.invokespecial 3, 3) := by decide +kernel
theorem d0_4 : decode (mcode 0) 4 = .ok (.aload_n 0, 1) := by decide +kernel
theorem d0_5 : decode (mcode 0) 5 = .ok (.bipush 12, 2) := by decide +kernel
theorem d0_7 : decode (mcode 0) 7 = .ok (.anewarray 9, 3) := by decide +kernel
theorem d0_10 : decode (mcode 0) 10 = .ok (.putfield 11, 3) := by decide +kernel
theorem d0_13 : decode (mcode 0) 13 = .ok (.return_, 1) := by decide +kernel
theorem d1_0 : decode (mcode 1) 0 = .ok (.aload_n 0, 1) := by decide +kernel
theorem d1_1 : decode (mcode 1) 1 = .ok (.getfield 11, 3) := by decide +kernel
theorem d1_4 : decode (mcode 1) 4 = .ok (.aload_n 0, 1) := by decide +kernel
theorem d1_5 : decode (mcode 1) 5 = .ok (.getfield 17, 3) := by decide +kernel
theorem d1_8 : decode (mcode 1) 8 = .ok (.aaload, 1) := by decide +kernel
theorem d1_9 : decode (mcode 1) 9 = .ok (.ifnonnull 26, 3) := by decide +kernel
theorem d1_12 : decode (mcode 1) 12 = .ok (.aload_n 0, 1) := by decide +kernel
theorem d1_13 : decode (mcode 1) 13 = .ok (.getfield 11, 3) := by decide +kernel
theorem d1_16 : decode (mcode 1) 16 = .ok (.aload_n 0, 1) := by decide +kernel
theorem d1_17 : decode (mcode 1) 17 = .ok (.getfield 17, 3) := by decide +kernel
theorem d1_20 : decode (mcode 1) 20 = .ok (.new 9, 3) := by decide +kernel
theorem d1_23 : decode (mcode 1) 23 = .ok (.dup, 1) := by decide +kernel
theorem d1_24 : decode (mcode 1) 24 = .ok (.new 21, 3) := by decide +kernel
theorem d1_27 : decode (mcode 1) 27 = .ok (.dup, 1) := by decide +kernel
theorem d1_28 : decode (mcode 1) 28 = .ok (.invokespecial 23, 3) := by decide +kernel
theorem d1_31 : decode (mcode 1) 31 = .ok (.invokespecial 24, 3) := by decide +kernel
theorem d1_34 : decode (mcode 1) 34 = .ok (.aastore, 1) := by decide +kernel
theorem d1_35 : decode (mcode 1) 35 = .ok (.aload_n 0, 1) := by decide +kernel
theorem d1_36 : decode (mcode 1) 36 = .ok (.getfield 11, 3) := by decide +kernel
theorem d1_39 : decode (mcode 1) 39 = .ok (.aload_n 0, 1) := by decide +kernel
theorem d1_40 : decode (mcode 1) 40 = .ok (.getfield 17, 3) := by decide +kernel
theorem d1_43 : decode (mcode 1) 43 = .ok (.aaload, 1) := by decide +kernel
theorem d1_44 : decode (mcode 1) 44 = .ok (.aload_n 1, 1) := by decide +kernel
theorem d1_45 : decode (mcode 1) 45 = .ok (.invokevirtual 27, 3) := by decide +kernel
theorem d1_48 : decode (mcode 1) 48 = .ok (.aload_n 0, 1) := by decide +kernel
theorem d1_49 : decode (mcode 1) 49 = .ok (.aload_n 0, 1) := by decide +kernel
theorem d1_50 : decode (mcode 1) 50 = .ok (.getfield 17, 3) := by decide +kernel
theorem d1_53 : decode (mcode 1) 53 = .ok (.iconst 1, 1) := by decide +kernel
theorem d1_54 : decode (mcode 1) 54 = .ok (.iadd, 1) := by decide +kernel
theorem d1_55 : decode (mcode 1) 55 = .ok (.bipush 12, 2) := by decide +kernel
theorem d1_57 : decode (mcode 1) 57 = .ok (.irem, 1) := by decide +kernel
theorem d1_58 : decode (mcode 1) 58 = .ok (.putfield 17, 3) := by decide +kernel
theorem d1_61 : decode (mcode 1) 61 = .ok (.aload_n 0, 1) := by decide +kernel
theorem d1_62 : decode (mcode 1) 62 = .ok (.bipush 12, 2) := by decide +kernel
theorem d1_64 : decode (mcode 1) 64 = .ok (.aload_n 0, 1) := by decide +kernel
theorem d1_65 : decode (mcode 1) 65 = .ok (.getfield 31, 3) := by decide +kernel
theorem d1_68 : decode (mcode 1) 68 = .ok (.iconst 1, 1) := by decide +kernel
theorem d1_69 : decode (mcode 1) 69 = .ok (.iadd, 1) := by decide +kernel
theorem d1_70 : decode (mcode 1) 70 = .ok (.invokestatic 34, 3) := by decide +kernel
theorem d1_73 : decode (mcode 1) 73 = .ok (.putfield 31, 3) := by decide +kernel
theorem d1_76 : decode (mcode 1) 76 = .ok (.return_, 1) := by decide +kernel
theorem d2_0 : decode (mcode 2) 0 = .ok (.aload_n 0, 1) := by decide +kernel
theorem d2_1 : decode (mcode 2) 1 = .ok (.getfield 17, 3) := by decide +kernel
theorem d2_4 : decode (mcode 2) 4 = .ok (.bipush 12, 2) := by decide +kernel
theorem d2_6 : decode (mcode 2) 6 = .ok (.iadd, 1) := by decide +kernel
theorem d2_7 : decode (mcode 2) 7 = .ok (.iconst 1, 1) := by decide +kernel
theorem d2_8 : decode (mcode 2) 8 = .ok (.isub, 1) := by decide +kernel
theorem d2_9 : decode (mcode 2) 9 = .ok (.bipush 12, 2) := by decide +kernel
theorem d2_11 : decode (mcode 2) 11 = .ok (.irem, 1) := by decide +kernel
theorem d2_12 : decode (mcode 2) 12 = .ok (.istore_n 2, 1) := by decide +kernel
theorem d2_13 : decode (mcode 2) 13 = .ok (.aload_n 0, 1) := by decide +kernel
theorem d2_14 : decode (mcode 2) 14 = .ok (.getfield 31, 3) := by decide +kernel
theorem d2_17 : decode (mcode 2) 17 = .ok (.ifCond .eq 12, 3) := by decide +kernel
theorem d2_20 : decode (mcode 2) 20 = .ok (.aload_n 0, 1) := by decide +kernel
theorem d2_21 : decode (mcode 2) 21 = .ok (.getfield 11, 3) := by decide +kernel
theorem d2_24 : decode (mcode 2) 24 = .ok (.iload_n 2, 1) := by decide +kernel
theorem d2_25 : decode (mcode 2) 25 = .ok (.aaload, 1) := by decide +kernel
theorem d2_26 : decode (mcode 2) 26 = .ok (.ifnonnull 5, 3) := by decide +kernel
theorem d2_29 : decode (mcode 2) 29 = .ok (.iconst 0, 1) := by decide +kernel
theorem d2_30 : decode (mcode 2) 30 = .ok (.ireturn, 1) := by decide +kernel
theorem d2_31 : decode (mcode 2) 31 = .ok (.aload_n 1, 1) := by decide +kernel
theorem d2_32 : decode (mcode 2) 32 = .ok (.aload_n 0, 1) := by decide +kernel
theorem d2_33 : decode (mcode 2) 33 = .ok (.getfield 11, 3) := by decide +kernel
theorem d2_36 : decode (mcode 2) 36 = .ok (.iload_n 2, 1) := by decide +kernel
theorem d2_37 : decode (mcode 2) 37 = .ok (.aaload, 1) := by decide +kernel
theorem d2_38 : decode (mcode 2) 38 = .ok (.invokevirtual 27, 3) := by decide +kernel
theorem d2_41 : decode (mcode 2) 41 = .ok (.aload_n 0, 1) := by decide +kernel
theorem d2_42 : decode (mcode 2) 42 = .ok (.iload_n 2, 1) := by decide +kernel
theorem d2_43 : decode (mcode 2) 43 = .ok (.putfield 17, 3) := by decide +kernel
theorem d2_46 : decode (mcode 2) 46 = .ok (.aload_n 0, 1) := by decide +kernel
theorem d2_47 : decode (mcode 2) 47 = .ok (.dup, 1) := by decide +kernel
theorem d2_48 : decode (mcode 2) 48 = .ok (.getfield 31, 3) := by decide +kernel
theorem d2_51 : decode (mcode 2) 51 = .ok (.iconst 1, 1) := by decide +kernel
theorem d2_52 : decode (mcode 2) 52 = .ok (.isub, 1) := by decide +kernel
theorem d2_53 : decode (mcode 2) 53 = .ok (.putfield 31, 3) := by decide +kernel
theorem d2_56 : decode (mcode 2) 56 = .ok (.iconst 1, 1) := by decide +kernel
theorem d2_57 : decode (mcode 2) 57 = .ok (.ireturn, 1) := by decide +kernel
theorem d3_0 : decode (mcode 3) 0 = .ok (.aload_n 0, 1) := by decide +kernel
theorem d3_1 : decode (mcode 3) 1 = .ok (.invokespecial 3, 3) := by decide +kernel
theorem d3_4 : decode (mcode 3) 4 = .ok (.aload_n 0, 1) := by decide +kernel
theorem d3_5 : decode (mcode 3) 5 = .ok (.sipush 144, 3) := by decide +kernel
theorem d3_8 : decode (mcode 3) 8 = .ok (.newarray .boolean, 2) := by decide +kernel
theorem d3_10 : decode (mcode 3) 10 = .ok (.putfield 9, 3) := by decide +kernel
theorem d3_13 : decode (mcode 3) 13 = .ok (.aload_n 0, 1) := by decide +kernel
theorem d3_14 : decode (mcode 3) 14 = .ok (.sipush 144, 3) := by decide +kernel
theorem d3_17 : decode (mcode 3) 17 = .ok (.newarray .int, 2) := by decide +kernel
theorem d3_19 : decode (mcode 3) 19 = .ok (.putfield 15, 3) := by decide +kernel
theorem d3_22 : decode (mcode 3) 22 = .ok (.return_, 1) := by decide +kernel
theorem d4_0 : decode (mcode 4) 0 = .ok (.aload_n 0, 1) := by decide +kernel
theorem d4_1 : decode (mcode 4) 1 = .ok (.iconst 0, 1) := by decide +kernel
theorem d4_2 : decode (mcode 4) 2 = .ok (.putfield 19, 3) := by decide +kernel
theorem d4_5 : decode (mcode 4) 5 = .ok (.aload_n 0, 1) := by decide +kernel
theorem d4_6 : decode (mcode 4) 6 = .ok (.iconst 0, 1) := by decide +kernel
theorem d4_7 : decode (mcode 4) 7 = .ok (.putfield 23, 3) := by decide +kernel
theorem d4_10 : decode (mcode 4) 10 = .ok (.aload_n 0, 1) := by decide +kernel
theorem d4_11 : decode (mcode 4) 11 = .ok (.iconst (-1), 1) := by decide +kernel
theorem d4_12 : decode (mcode 4) 12 = .ok (.putfield 26, 3) := by decide +kernel
theorem d4_15 : decode (mcode 4) 15 = .ok (.iconst 0, 1) := by decide +kernel
theorem d4_16 : decode (mcode 4) 16 = .ok (.istore 4, 2) := by decide +kernel
theorem d4_18 : decode (mcode 4) 18 = .ok (.iload 4, 2) := by decide +kernel
theorem d4_20 : decode (mcode 4) 20 = .ok (.aload_n 1, 1) := by decide +kernel
theorem d4_21 : decode (mcode 4) 21 = .ok (.invokevirtual 29, 3) := by decide +kernel
theorem d4_24 : decode (mcode 4) 24 = .ok (.if_icmp .ge 41, 3) := by decide +kernel
theorem d4_27 : decode (mcode 4) 27 = .ok (.aload_n 0, 1) := by decide +kernel
theorem d4_28 : decode (mcode 4) 28 = .ok (.getfield 9, 3) := by decide +kernel
theorem d4_31 : decode (mcode 4) 31 = .ok (.iload 4, 2) := by decide +kernel
theorem d4_33 : decode (mcode 4) 33 = .ok (.aload_n 2, 1) := by decide +kernel
theorem d4_34 : decode (mcode 4) 34 = .ok (.iload 4, 2) := by decide +kernel
theorem d4_36 : decode (mcode 4) 36 = .ok (.invokevirtual 35, 3) := by decide +kernel
theorem d4_39 : decode (mcode 4) 39 = .ok (.ifCond .eq 18, 3) := by decide +kernel
theorem d4_42 : decode (mcode 4) 42 = .ok (.aload_n 2, 1) := by decide +kernel
theorem d4_43 : decode (mcode 4) 43 = .ok (.getfield 41, 3) := by decide +kernel
theorem d4_46 : decode (mcode 4) 46 = .ok (.iload 4, 2) := by decide +kernel
theorem d4_48 : decode (mcode 4) 48 = .ok (.iaload, 1) := by decide +kernel
theorem d4_49 : decode (mcode 4) 49 = .ok (.iload_n 3, 1) := by decide +kernel
theorem d4_50 : decode (mcode 4) 50 = .ok (.if_icmp .lt 7, 3) := by decide +kernel
theorem d4_53 : decode (mcode 4) 53 = .ok (.iconst 1, 1) := by decide +kernel
theorem d4_54 : decode (mcode 4) 54 = .ok (.goto 4, 3) := by decide +kernel
theorem d4_57 : decode (mcode 4) 57 = .ok (.iconst 0, 1) := by decide +kernel
theorem d4_58 : decode (mcode 4) 58 = .ok (.bastore, 1) := by decide +kernel
theorem d4_59 : decode (mcode 4) 59 = .ok (.iinc 4 1, 3) := by decide +kernel
theorem d4_62 : decode (mcode 4) 62 = .ok (.goto (-44), 3) := by decide +kernel
theorem d4_65 : decode (mcode 4) 65 = .ok (.iconst 0, 1) := by decide +kernel
theorem d4_66 : decode (mcode 4) 66 = .ok (.istore 4, 2) := by decide +kernel
theorem d4_68 : decode (mcode 4) 68 = .ok (.iload 4, 2) := by decide +kernel
theorem d4_70 : decode (mcode 4) 70 = .ok (.aload_n 1, 1) := by decide +kernel
theorem d4_71 : decode (mcode 4) 71 = .ok (.invokevirtual 29, 3) := by decide +kernel
theorem d4_74 : decode (mcode 4) 74 = .ok (.if_icmp .ge 59, 3) := by decide +kernel
theorem d4_77 : decode (mcode 4) 77 = .ok (.aload_n 0, 1) := by decide +kernel
theorem d4_78 : decode (mcode 4) 78 = .ok (.getfield 9, 3) := by decide +kernel
theorem d4_81 : decode (mcode 4) 81 = .ok (.iload 4, 2) := by decide +kernel
theorem d4_83 : decode (mcode 4) 83 = .ok (.baload, 1) := by decide +kernel
theorem d4_84 : decode (mcode 4) 84 = .ok (.ifCond .eq 43, 3) := by decide +kernel
theorem d4_87 : decode (mcode 4) 87 = .ok (.aload_n 0, 1) := by decide +kernel
theorem d4_88 : decode (mcode 4) 88 = .ok (.aload_n 1, 1) := by decide +kernel
theorem d4_89 : decode (mcode 4) 89 = .ok (.iload 4, 2) := by decide +kernel
theorem d4_91 : decode (mcode 4) 91 = .ok (.invokevirtual 44, 3) := by decide +kernel
theorem d4_94 : decode (mcode 4) 94 = .ok (.istore 5, 2) := by decide +kernel
theorem d4_96 : decode (mcode 4) 96 = .ok (.aload_n 0, 1) := by decide +kernel
theorem d4_97 : decode (mcode 4) 97 = .ok (.dup, 1) := by decide +kernel
theorem d4_98 : decode (mcode 4) 98 = .ok (.getfield 19, 3) := by decide +kernel
theorem d4_101 : decode (mcode 4) 101 = .ok (.iconst 1, 1) := by decide +kernel
theorem d4_102 : decode (mcode 4) 102 = .ok (.iadd, 1) := by decide +kernel
theorem d4_103 : decode (mcode 4) 103 = .ok (.putfield 19, 3) := by decide +kernel
theorem d4_106 : decode (mcode 4) 106 = .ok (.iload 5, 2) := by decide +kernel
theorem d4_108 : decode (mcode 4) 108 = .ok (.aload_n 0, 1) := by decide +kernel
theorem d4_109 : decode (mcode 4) 109 = .ok (.getfield 23, 3) := by decide +kernel
theorem d4_112 : decode (mcode 4) 112 = .ok (.if_icmp .le 15, 3) := by decide +kernel
theorem d4_115 : decode (mcode 4) 115 = .ok (.aload_n 0, 1) := by decide +kernel
theorem d4_116 : decode (mcode 4) 116 = .ok (.iload 5, 2) := by decide +kernel
theorem d4_118 : decode (mcode 4) 118 = .ok (.putfield 23, 3) := by decide +kernel
theorem d4_121 : decode (mcode 4) 121 = .ok (.aload_n 0, 1) := by decide +kernel
theorem d4_122 : decode (mcode 4) 122 = .ok (.iload 4, 2) := by decide +kernel
theorem d4_124 : decode (mcode 4) 124 = .ok (.putfield 26, 3) := by decide +kernel
theorem d4_127 : decode (mcode 4) 127 = .ok (.iinc 4 1, 3) := by decide +kernel
theorem d4_130 : decode (mcode 4) 130 = .ok (.goto (-62), 3) := by decide +kernel
theorem d4_133 : decode (mcode 4) 133 = .ok (.return_, 1) := by decide +kernel
theorem d5_0 : decode (mcode 5) 0 = .ok (.iconst 0, 1) := by decide +kernel
theorem d5_1 : decode (mcode 5) 1 = .ok (.istore_n 3, 1) := by decide +kernel
theorem d5_2 : decode (mcode 5) 2 = .ok (.aload_n 0, 1) := by decide +kernel
theorem d5_3 : decode (mcode 5) 3 = .ok (.iconst 0, 1) := by decide +kernel
theorem d5_4 : decode (mcode 5) 4 = .ok (.putfield 48, 3) := by decide +kernel
theorem d5_7 : decode (mcode 5) 7 = .ok (.aload_n 0, 1) := by decide +kernel
theorem d5_8 : decode (mcode 5) 8 = .ok (.iload_n 2, 1) := by decide +kernel
theorem d5_9 : decode (mcode 5) 9 = .ok (.invokevirtual 51, 3) := by decide +kernel
theorem d5_12 : decode (mcode 5) 12 = .ok (.aload_n 0, 1) := by decide +kernel
theorem d5_13 : decode (mcode 5) 13 = .ok (.getfield 48, 3) := by decide +kernel
theorem d5_16 : decode (mcode 5) 16 = .ok (.ifCond .le 84, 3) := by decide +kernel
theorem d5_19 : decode (mcode 5) 19 = .ok (.iload_n 3, 1) := by decide +kernel
theorem d5_20 : decode (mcode 5) 20 = .ok (.sipush 144, 3) := by decide +kernel
theorem d5_23 : decode (mcode 5) 23 = .ok (.if_icmp .ge 77, 3) := by decide +kernel
theorem d5_26 : decode (mcode 5) 26 = .ok (.aload_n 0, 1) := by decide +kernel
theorem d5_27 : decode (mcode 5) 27 = .ok (.dup, 1) := by decide +kernel
theorem d5_28 : decode (mcode 5) 28 = .ok (.getfield 48, 3) := by decide +kernel
theorem d5_31 : decode (mcode 5) 31 = .ok (.iconst 1, 1) := by decide +kernel
theorem d5_32 : decode (mcode 5) 32 = .ok (.isub, 1) := by decide +kernel
theorem d5_33 : decode (mcode 5) 33 = .ok (.putfield 48, 3) := by decide +kernel
theorem d5_36 : decode (mcode 5) 36 = .ok (.aload_n 0, 1) := by decide +kernel
theorem d5_37 : decode (mcode 5) 37 = .ok (.getfield 15, 3) := by decide +kernel
theorem d5_40 : decode (mcode 5) 40 = .ok (.aload_n 0, 1) := by decide +kernel
theorem d5_41 : decode (mcode 5) 41 = .ok (.getfield 48, 3) := by decide +kernel
theorem d5_44 : decode (mcode 5) 44 = .ok (.iaload, 1) := by decide +kernel
theorem d5_45 : decode (mcode 5) 45 = .ok (.istore 4, 2) := by decide +kernel
theorem d5_47 : decode (mcode 5) 47 = .ok (.iinc 3 1, 3) := by decide +kernel
theorem d5_50 : decode (mcode 5) 50 = .ok (.iconst 0, 1) := by decide +kernel
theorem d5_51 : decode (mcode 5) 51 = .ok (.istore 5, 2) := by decide +kernel
theorem d5_53 : decode (mcode 5) 53 = .ok (.iload 5, 2) := by decide +kernel
theorem d5_55 : decode (mcode 5) 55 = .ok (.iconst 4, 1) := by decide +kernel
theorem d5_56 : decode (mcode 5) 56 = .ok (.if_icmp .ge 41, 3) := by decide +kernel
theorem d5_59 : decode (mcode 5) 59 = .ok (.aload_n 1, 1) := by decide +kernel
theorem d5_60 : decode (mcode 5) 60 = .ok (.iload 4, 2) := by decide +kernel
theorem d5_62 : decode (mcode 5) 62 = .ok (.iload 5, 2) := by decide +kernel
theorem d5_64 : decode (mcode 5) 64 = .ok (.invokevirtual 55, 3) := by decide +kernel
theorem d5_67 : decode (mcode 5) 67 = .ok (.istore 6, 2) := by decide +kernel
theorem d5_69 : decode (mcode 5) 69 = .ok (.iload 6, 2) := by decide +kernel
theorem d5_71 : decode (mcode 5) 71 = .ok (.iconst (-1), 1) := by decide +kernel
theorem d5_72 : decode (mcode 5) 72 = .ok (.if_icmp .eq 19, 3) := by decide +kernel
theorem d5_75 : decode (mcode 5) 75 = .ok (.aload_n 0, 1) := by decide +kernel
theorem d5_76 : decode (mcode 5) 76 = .ok (.getfield 9, 3) := by decide +kernel
theorem d5_79 : decode (mcode 5) 79 = .ok (.iload 6, 2) := by decide +kernel
theorem d5_81 : decode (mcode 5) 81 = .ok (.baload, 1) := by decide +kernel
theorem d5_82 : decode (mcode 5) 82 = .ok (.ifCond .eq 9, 3) := by decide +kernel
theorem d5_85 : decode (mcode 5) 85 = .ok (.aload_n 0, 1) := by decide +kernel
theorem d5_86 : decode (mcode 5) 86 = .ok (.iload 6, 2) := by decide +kernel
theorem d5_88 : decode (mcode 5) 88 = .ok (.invokevirtual 51, 3) := by decide +kernel
theorem d5_91 : decode (mcode 5) 91 = .ok (.iinc 5 1, 3) := by decide +kernel
theorem d5_94 : decode (mcode 5) 94 = .ok (.goto (-41), 3) := by decide +kernel
theorem d5_97 : decode (mcode 5) 97 = .ok (.goto (-85), 3) := by decide +kernel
theorem d5_100 : decode (mcode 5) 100 = .ok (.iload_n 3, 1) := by decide +kernel
theorem d5_101 : decode (mcode 5) 101 = .ok (.ireturn, 1) := by decide +kernel
theorem d6_0 : decode (mcode 6) 0 = .ok (.aload_n 0, 1) := by decide +kernel
theorem d6_1 : decode (mcode 6) 1 = .ok (.getfield 48, 3) := by decide +kernel
theorem d6_4 : decode (mcode 6) 4 = .ok (.sipush 144, 3) := by decide +kernel
theorem d6_7 : decode (mcode 6) 7 = .ok (.if_icmp .ge 30, 3) := by decide +kernel
theorem d6_10 : decode (mcode 6) 10 = .ok (.aload_n 0, 1) := by decide +kernel
theorem d6_11 : decode (mcode 6) 11 = .ok (.getfield 9, 3) := by decide +kernel
theorem d6_14 : decode (mcode 6) 14 = .ok (.iload_n 1, 1) := by decide +kernel
theorem d6_15 : decode (mcode 6) 15 = .ok (.iconst 0, 1) := by decide +kernel
theorem d6_16 : decode (mcode 6) 16 = .ok (.bastore, 1) := by decide +kernel
theorem d6_17 : decode (mcode 6) 17 = .ok (.aload_n 0, 1) := by decide +kernel
theorem d6_18 : decode (mcode 6) 18 = .ok (.getfield 15, 3) := by decide +kernel
theorem d6_21 : decode (mcode 6) 21 = .ok (.aload_n 0, 1) := by decide +kernel
theorem d6_22 : decode (mcode 6) 22 = .ok (.getfield 48, 3) := by decide +kernel
theorem d6_25 : decode (mcode 6) 25 = .ok (.iload_n 1, 1) := by decide +kernel
theorem d6_26 : decode (mcode 6) 26 = .ok (.iastore, 1) := by decide +kernel
theorem d6_27 : decode (mcode 6) 27 = .ok (.aload_n 0, 1) := by decide +kernel
theorem d6_28 : decode (mcode 6) 28 = .ok (.dup, 1) := by decide +kernel
theorem d6_29 : decode (mcode 6) 29 = .ok (.getfield 48, 3) := by decide +kernel
theorem d6_32 : decode (mcode 6) 32 = .ok (.iconst 1, 1) := by decide +kernel
theorem d6_33 : decode (mcode 6) 33 = .ok (.iadd, 1) := by decide +kernel
theorem d6_34 : decode (mcode 6) 34 = .ok (.putfield 48, 3) := by decide +kernel
theorem d6_37 : decode (mcode 6) 37 = .ok (.return_, 1) := by decide +kernel
theorem d7_0 : decode (mcode 7) 0 = .ok (.aload_n 0, 1) := by decide +kernel
theorem d7_1 : decode (mcode 7) 1 = .ok (.invokespecial 3, 3) := by decide +kernel
theorem d7_4 : decode (mcode 7) 4 = .ok (.aload_n 0, 1) := by decide +kernel
theorem d7_5 : decode (mcode 7) 5 = .ok (.sipush 144, 3) := by decide +kernel
theorem d7_8 : decode (mcode 7) 8 = .ok (.newarray .int, 2) := by decide +kernel
theorem d7_10 : decode (mcode 7) 10 = .ok (.putfield 9, 3) := by decide +kernel
theorem d7_13 : decode (mcode 7) 13 = .ok (.aload_n 0, 1) := by decide +kernel
theorem d7_14 : decode (mcode 7) 14 = .ok (.sipush 144, 3) := by decide +kernel
theorem d7_17 : decode (mcode 7) 17 = .ok (.newarray .int, 2) := by decide +kernel
theorem d7_19 : decode (mcode 7) 19 = .ok (.putfield 15, 3) := by decide +kernel
theorem d7_22 : decode (mcode 7) 22 = .ok (.aload_n 0, 1) := by decide +kernel
theorem d7_23 : decode (mcode 7) 23 = .ok (.sipush 144, 3) := by decide +kernel
theorem d7_26 : decode (mcode 7) 26 = .ok (.newarray .boolean, 2) := by decide +kernel
theorem d7_28 : decode (mcode 7) 28 = .ok (.putfield 18, 3) := by decide +kernel
theorem d7_31 : decode (mcode 7) 31 = .ok (.aload_n 0, 1) := by decide +kernel
theorem d7_32 : decode (mcode 7) 32 = .ok (.sipush 288, 3) := by decide +kernel
theorem d7_35 : decode (mcode 7) 35 = .ok (.newarray .boolean, 2) := by decide +kernel
theorem d7_37 : decode (mcode 7) 37 = .ok (.putfield 22, 3) := by decide +kernel
theorem d7_40 : decode (mcode 7) 40 = .ok (.aload_n 0, 1) := by decide +kernel
theorem d7_41 : decode (mcode 7) 41 = .ok (.iconst 4, 1) := by decide +kernel
theorem d7_42 : decode (mcode 7) 42 = .ok (.iconst 4, 1) := by decide +kernel
theorem d7_43 : decode (mcode 7) 43 = .ok (.invokevirtual 25, 3) := by decide +kernel
theorem d7_46 : decode (mcode 7) 46 = .ok (.return_, 1) := by decide +kernel
theorem d8_0 : decode (mcode 8) 0 = .ok (.aload_n 0, 1) := by decide +kernel
theorem d8_1 : decode (mcode 8) 1 = .ok (.iload_n 1, 1) := by decide +kernel
theorem d8_2 : decode (mcode 8) 2 = .ok (.putfield 29, 3) := by decide +kernel
theorem d8_5 : decode (mcode 8) 5 = .ok (.aload_n 0, 1) := by decide +kernel
theorem d8_6 : decode (mcode 8) 6 = .ok (.iload_n 2, 1) := by decide +kernel
theorem d8_7 : decode (mcode 8) 7 = .ok (.putfield 33, 3) := by decide +kernel
theorem d8_10 : decode (mcode 8) 10 = .ok (.iconst 0, 1) := by decide +kernel
theorem d8_11 : decode (mcode 8) 11 = .ok (.istore_n 3, 1) := by decide +kernel
theorem d8_12 : decode (mcode 8) 12 = .ok (.iload_n 3, 1) := by decide +kernel
theorem d8_13 : decode (mcode 8) 13 = .ok (.sipush 144, 3) := by decide +kernel
theorem d8_16 : decode (mcode 8) 16 = .ok (.if_icmp .ge 31, 3) := by decide +kernel
theorem d8_19 : decode (mcode 8) 19 = .ok (.aload_n 0, 1) := by decide +kernel
theorem d8_20 : decode (mcode 8) 20 = .ok (.getfield 9, 3) := by decide +kernel
theorem d8_23 : decode (mcode 8) 23 = .ok (.iload_n 3, 1) := by decide +kernel
theorem d8_24 : decode (mcode 8) 24 = .ok (.iconst 0, 1) := by decide +kernel
theorem d8_25 : decode (mcode 8) 25 = .ok (.iastore, 1) := by decide +kernel
theorem d8_26 : decode (mcode 8) 26 = .ok (.aload_n 0, 1) := by decide +kernel
theorem d8_27 : decode (mcode 8) 27 = .ok (.getfield 15, 3) := by decide +kernel
theorem d8_30 : decode (mcode 8) 30 = .ok (.iload_n 3, 1) := by decide +kernel
theorem d8_31 : decode (mcode 8) 31 = .ok (.bipush 50, 2) := by decide +kernel
theorem d8_33 : decode (mcode 8) 33 = .ok (.iastore, 1) := by decide +kernel
theorem d8_34 : decode (mcode 8) 34 = .ok (.aload_n 0, 1) := by decide +kernel
theorem d8_35 : decode (mcode 8) 35 = .ok (.getfield 18, 3) := by decide +kernel
theorem d8_38 : decode (mcode 8) 38 = .ok (.iload_n 3, 1) := by decide +kernel
theorem d8_39 : decode (mcode 8) 39 = .ok (.iconst 0, 1) := by decide +kernel
theorem d8_40 : decode (mcode 8) 40 = .ok (.bastore, 1) := by decide +kernel
theorem d8_41 : decode (mcode 8) 41 = .ok (.iinc 3 1, 3) := by decide +kernel
theorem d8_44 : decode (mcode 8) 44 = .ok (.goto (-32), 3) := by decide +kernel
theorem d8_47 : decode (mcode 8) 47 = .ok (.iconst 0, 1) := by decide +kernel
theorem d8_48 : decode (mcode 8) 48 = .ok (.istore_n 3, 1) := by decide +kernel
theorem d8_49 : decode (mcode 8) 49 = .ok (.iload_n 3, 1) := by decide +kernel
theorem d8_50 : decode (mcode 8) 50 = .ok (.sipush 288, 3) := by decide +kernel
theorem d8_53 : decode (mcode 8) 53 = .ok (.if_icmp .ge 16, 3) := by decide +kernel
theorem d8_56 : decode (mcode 8) 56 = .ok (.aload_n 0, 1) := by decide +kernel
theorem d8_57 : decode (mcode 8) 57 = .ok (.getfield 22, 3) := by decide +kernel
theorem d8_60 : decode (mcode 8) 60 = .ok (.iload_n 3, 1) := by decide +kernel
theorem d8_61 : decode (mcode 8) 61 = .ok (.iconst 0, 1) := by decide +kernel
theorem d8_62 : decode (mcode 8) 62 = .ok (.bastore, 1) := by decide +kernel
theorem d8_63 : decode (mcode 8) 63 = .ok (.iinc 3 1, 3) := by decide +kernel
theorem d8_66 : decode (mcode 8) 66 = .ok (.goto (-17), 3) := by decide +kernel
theorem d8_69 : decode (mcode 8) 69 = .ok (.return_, 1) := by decide +kernel
theorem d9_0 : decode (mcode 9) 0 = .ok (.aload_n 0, 1) := by decide +kernel
theorem d9_1 : decode (mcode 9) 1 = .ok (.aload_n 1, 1) := by decide +kernel
theorem d9_2 : decode (mcode 9) 2 = .ok (.getfield 29, 3) := by decide +kernel
theorem d9_5 : decode (mcode 9) 5 = .ok (.putfield 29, 3) := by decide +kernel
theorem d9_8 : decode (mcode 9) 8 = .ok (.aload_n 0, 1) := by decide +kernel
theorem d9_9 : decode (mcode 9) 9 = .ok (.aload_n 1, 1) := by decide +kernel
theorem d9_10 : decode (mcode 9) 10 = .ok (.getfield 33, 3) := by decide +kernel
theorem d9_13 : decode (mcode 9) 13 = .ok (.putfield 33, 3) := by decide +kernel
theorem d9_16 : decode (mcode 9) 16 = .ok (.aload_n 1, 1) := by decide +kernel
theorem d9_17 : decode (mcode 9) 17 = .ok (.getfield 9, 3) := by decide +kernel
theorem d9_20 : decode (mcode 9) 20 = .ok (.iconst 0, 1) := by decide +kernel
theorem d9_21 : decode (mcode 9) 21 = .ok (.aload_n 0, 1) := by decide +kernel
theorem d9_22 : decode (mcode 9) 22 = .ok (.getfield 9, 3) := by decide +kernel
theorem d9_25 : decode (mcode 9) 25 = .ok (.iconst 0, 1) := by decide +kernel
theorem d9_26 : decode (mcode 9) 26 = .ok (.sipush 144, 3) := by decide +kernel
theorem d9_29 : decode (mcode 9) 29 = .ok (.invokestatic 36, 3) := by decide +kernel
theorem d9_32 : decode (mcode 9) 32 = .ok (.aload_n 1, 1) := by decide +kernel
theorem d9_33 : decode (mcode 9) 33 = .ok (.getfield 15, 3) := by decide +kernel
theorem d9_36 : decode (mcode 9) 36 = .ok (.iconst 0, 1) := by decide +kernel
theorem d9_37 : decode (mcode 9) 37 = .ok (.aload_n 0, 1) := by decide +kernel
theorem d9_38 : decode (mcode 9) 38 = .ok (.getfield 15, 3) := by decide +kernel
theorem d9_41 : decode (mcode 9) 41 = .ok (.iconst 0, 1) := by decide +kernel
theorem d9_42 : decode (mcode 9) 42 = .ok (.sipush 144, 3) := by decide +kernel
theorem d9_45 : decode (mcode 9) 45 = .ok (.invokestatic 36, 3) := by decide +kernel
theorem d9_48 : decode (mcode 9) 48 = .ok (.aload_n 1, 1) := by decide +kernel
theorem d9_49 : decode (mcode 9) 49 = .ok (.getfield 18, 3) := by decide +kernel
theorem d9_52 : decode (mcode 9) 52 = .ok (.iconst 0, 1) := by decide +kernel
theorem d9_53 : decode (mcode 9) 53 = .ok (.aload_n 0, 1) := by decide +kernel
theorem d9_54 : decode (mcode 9) 54 = .ok (.getfield 18, 3) := by decide +kernel
theorem d9_57 : decode (mcode 9) 57 = .ok (.iconst 0, 1) := by decide +kernel
theorem d9_58 : decode (mcode 9) 58 = .ok (.sipush 144, 3) := by decide +kernel
theorem d9_61 : decode (mcode 9) 61 = .ok (.invokestatic 36, 3) := by decide +kernel
theorem d9_64 : decode (mcode 9) 64 = .ok (.aload_n 1, 1) := by decide +kernel
theorem d9_65 : decode (mcode 9) 65 = .ok (.getfield 22, 3) := by decide +kernel
theorem d9_68 : decode (mcode 9) 68 = .ok (.iconst 0, 1) := by decide +kernel
theorem d9_69 : decode (mcode 9) 69 = .ok (.aload_n 0, 1) := by decide +kernel
theorem d9_70 : decode (mcode 9) 70 = .ok (.getfield 22, 3) := by decide +kernel
theorem d9_73 : decode (mcode 9) 73 = .ok (.iconst 0, 1) := by decide +kernel
theorem d9_74 : decode (mcode 9) 74 = .ok (.sipush 288, 3) := by decide +kernel
theorem d9_77 : decode (mcode 9) 77 = .ok (.invokestatic 36, 3) := by decide +kernel
theorem d9_80 : decode (mcode 9) 80 = .ok (.return_, 1) := by decide +kernel
theorem d10_0 : decode (mcode 10) 0 = .ok (.aload_n 0, 1) := by decide +kernel
theorem d10_1 : decode (mcode 10) 1 = .ok (.getfield 29, 3) := by decide +kernel
theorem d10_4 : decode (mcode 10) 4 = .ok (.aload_n 0, 1) := by decide +kernel
theorem d10_5 : decode (mcode 10) 5 = .ok (.getfield 33, 3) := by decide +kernel
theorem d10_8 : decode (mcode 10) 8 = .ok (.imul, 1) := by decide +kernel
theorem d10_9 : decode (mcode 10) 9 = .ok (.ireturn, 1) := by decide +kernel
theorem d11_0 : decode (mcode 11) 0 = .ok (.iload_n 1, 1) := by decide +kernel
theorem d11_1 : decode (mcode 11) 1 = .ok (.aload_n 0, 1) := by decide +kernel
theorem d11_2 : decode (mcode 11) 2 = .ok (.getfield 33, 3) := by decide +kernel
theorem d11_5 : decode (mcode 11) 5 = .ok (.idiv, 1) := by decide +kernel
theorem d11_6 : decode (mcode 11) 6 = .ok (.ireturn, 1) := by decide +kernel
theorem d12_0 : decode (mcode 12) 0 = .ok (.iload_n 1, 1) := by decide +kernel
theorem d12_1 : decode (mcode 12) 1 = .ok (.aload_n 0, 1) := by decide +kernel
theorem d12_2 : decode (mcode 12) 2 = .ok (.getfield 33, 3) := by decide +kernel
theorem d12_5 : decode (mcode 12) 5 = .ok (.irem, 1) := by decide +kernel
theorem d12_6 : decode (mcode 12) 6 = .ok (.ireturn, 1) := by decide +kernel
theorem d13_0 : decode (mcode 13) 0 = .ok (.iload_n 1, 1) := by decide +kernel
theorem d13_1 : decode (mcode 13) 1 = .ok (.ifCond .lt 15, 3) := by decide +kernel
theorem d13_4 : decode (mcode 13) 4 = .ok (.iload_n 1, 1) := by decide +kernel
theorem d13_5 : decode (mcode 13) 5 = .ok (.aload_n 0, 1) := by decide +kernel
theorem d13_6 : decode (mcode 13) 6 = .ok (.invokevirtual 42, 3) := by decide +kernel
theorem d13_9 : decode (mcode 13) 9 = .ok (.if_icmp .ge 7, 3) := by decide +kernel
theorem d13_12 : decode (mcode 13) 12 = .ok (.iconst 1, 1) := by decide +kernel
theorem d13_13 : decode (mcode 13) 13 = .ok (.goto 4, 3) := by decide +kernel
theorem d13_16 : decode (mcode 13) 16 = .ok (.iconst 0, 1) := by decide +kernel
theorem d13_17 : decode (mcode 13) 17 = .ok (.ireturn, 1) := by decide +kernel
theorem d14_0 : decode (mcode 14) 0 = .ok (.iload_n 1, 1) := by decide +kernel
theorem d14_1 : decode (mcode 14) 1 = .ok (.ifCond .lt 13, 3) := by decide +kernel
theorem d14_4 : decode (mcode 14) 4 = .ok (.iload_n 1, 1) := by decide +kernel
theorem d14_5 : decode (mcode 14) 5 = .ok (.iconst 2, 1) := by decide +kernel
theorem d14_6 : decode (mcode 14) 6 = .ok (.aload_n 0, 1) := by decide +kernel
theorem d14_7 : decode (mcode 14) 7 = .ok (.invokevirtual 42, 3) := by decide +kernel
theorem d14_10 : decode (mcode 14) 10 = .ok (.imul, 1) := by decide +kernel
theorem d14_11 : decode (mcode 14) 11 = .ok (.if_icmp .lt 5, 3) := by decide +kernel
theorem d14_14 : decode (mcode 14) 14 = .ok (.iconst 0, 1) := by decide +kernel
theorem d14_15 : decode (mcode 14) 15 = .ok (.ireturn, 1) := by decide +kernel
theorem d14_16 : decode (mcode 14) 16 = .ok (.iload_n 1, 1) := by decide +kernel
theorem d14_17 : decode (mcode 14) 17 = .ok (.iconst 2, 1) := by decide +kernel
theorem d14_18 : decode (mcode 14) 18 = .ok (.idiv, 1) := by decide +kernel
theorem d14_19 : decode (mcode 14) 19 = .ok (.istore_n 2, 1) := by decide +kernel
theorem d14_20 : decode (mcode 14) 20 = .ok (.iload_n 1, 1) := by decide +kernel
theorem d14_21 : decode (mcode 14) 21 = .ok (.iconst 2, 1) := by decide +kernel
theorem d14_22 : decode (mcode 14) 22 = .ok (.irem, 1) := by decide +kernel
theorem d14_23 : decode (mcode 14) 23 = .ok (.ifCond .ne 25, 3) := by decide +kernel
theorem d14_26 : decode (mcode 14) 26 = .ok (.aload_n 0, 1) := by decide +kernel
theorem d14_27 : decode (mcode 14) 27 = .ok (.iload_n 2, 1) := by decide +kernel
theorem d14_28 : decode (mcode 14) 28 = .ok (.invokevirtual 46, 3) := by decide +kernel
theorem d14_31 : decode (mcode 14) 31 = .ok (.aload_n 0, 1) := by decide +kernel
theorem d14_32 : decode (mcode 14) 32 = .ok (.getfield 33, 3) := by decide +kernel
theorem d14_35 : decode (mcode 14) 35 = .ok (.iconst 1, 1) := by decide +kernel
theorem d14_36 : decode (mcode 14) 36 = .ok (.isub, 1) := by decide +kernel
theorem d14_37 : decode (mcode 14) 37 = .ok (.if_icmp .ge 7, 3) := by decide +kernel
theorem d14_40 : decode (mcode 14) 40 = .ok (.iconst 1, 1) := by decide +kernel
theorem d14_41 : decode (mcode 14) 41 = .ok (.goto 26, 3) := by decide +kernel
theorem d14_44 : decode (mcode 14) 44 = .ok (.iconst 0, 1) := by decide +kernel
theorem d14_45 : decode (mcode 14) 45 = .ok (.goto 22, 3) := by decide +kernel
theorem d14_48 : decode (mcode 14) 48 = .ok (.aload_n 0, 1) := by decide +kernel
theorem d14_49 : decode (mcode 14) 49 = .ok (.iload_n 2, 1) := by decide +kernel
theorem d14_50 : decode (mcode 14) 50 = .ok (.invokevirtual 50, 3) := by decide +kernel
theorem d14_53 : decode (mcode 14) 53 = .ok (.aload_n 0, 1) := by decide +kernel
theorem d14_54 : decode (mcode 14) 54 = .ok (.getfield 29, 3) := by decide +kernel
theorem d14_57 : decode (mcode 14) 57 = .ok (.iconst 1, 1) := by decide +kernel
theorem d14_58 : decode (mcode 14) 58 = .ok (.isub, 1) := by decide +kernel
theorem d14_59 : decode (mcode 14) 59 = .ok (.if_icmp .ge 7, 3) := by decide +kernel
theorem d14_62 : decode (mcode 14) 62 = .ok (.iconst 1, 1) := by decide +kernel
theorem d14_63 : decode (mcode 14) 63 = .ok (.goto 4, 3) := by decide +kernel
theorem d14_66 : decode (mcode 14) 66 = .ok (.iconst 0, 1) := by decide +kernel
theorem d14_67 : decode (mcode 14) 67 = .ok (.ireturn, 1) := by decide +kernel
theorem d15_0 : decode (mcode 15) 0 = .ok (.aload_n 0, 1) := by decide +kernel
theorem d15_1 : decode (mcode 15) 1 = .ok (.iload_n 1, 1) := by decide +kernel
theorem d15_2 : decode (mcode 15) 2 = .ok (.invokevirtual 53, 3) := by decide +kernel
theorem d15_5 : decode (mcode 15) 5 = .ok (.ifCond .eq 35, 3) := by decide +kernel
theorem d15_8 : decode (mcode 15) 8 = .ok (.aload_n 0, 1) := by decide +kernel
theorem d15_9 : decode (mcode 15) 9 = .ok (.iload_n 1, 1) := by decide +kernel
theorem d15_10 : decode (mcode 15) 10 = .ok (.invokevirtual 50, 3) := by decide +kernel
theorem d15_13 : decode (mcode 15) 13 = .ok (.aload_n 0, 1) := by decide +kernel
theorem d15_14 : decode (mcode 15) 14 = .ok (.getfield 29, 3) := by decide +kernel
theorem d15_17 : decode (mcode 15) 17 = .ok (.iconst 1, 1) := by decide +kernel
theorem d15_18 : decode (mcode 15) 18 = .ok (.isub, 1) := by decide +kernel
theorem d15_19 : decode (mcode 15) 19 = .ok (.if_icmp .ge 21, 3) := by decide +kernel
theorem d15_22 : decode (mcode 15) 22 = .ok (.aload_n 0, 1) := by decide +kernel
theorem d15_23 : decode (mcode 15) 23 = .ok (.iload_n 1, 1) := by decide +kernel
theorem d15_24 : decode (mcode 15) 24 = .ok (.invokevirtual 46, 3) := by decide +kernel
theorem d15_27 : decode (mcode 15) 27 = .ok (.aload_n 0, 1) := by decide +kernel
theorem d15_28 : decode (mcode 15) 28 = .ok (.getfield 33, 3) := by decide +kernel
theorem d15_31 : decode (mcode 15) 31 = .ok (.iconst 1, 1) := by decide +kernel
theorem d15_32 : decode (mcode 15) 32 = .ok (.isub, 1) := by decide +kernel
theorem d15_33 : decode (mcode 15) 33 = .ok (.if_icmp .ge 7, 3) := by decide +kernel
theorem d15_36 : decode (mcode 15) 36 = .ok (.iconst 1, 1) := by decide +kernel
theorem d15_37 : decode (mcode 15) 37 = .ok (.goto 4, 3) := by decide +kernel
theorem d15_40 : decode (mcode 15) 40 = .ok (.iconst 0, 1) := by decide +kernel
theorem d15_41 : decode (mcode 15) 41 = .ok (.ireturn, 1) := by decide +kernel
theorem d16_0 : decode (mcode 16) 0 = .ok (.iload_n 1, 1) := by decide +kernel
theorem d16_1 : decode (mcode 16) 1 = .ok (.iconst 2, 1) := by decide +kernel
theorem d16_2 : decode (mcode 16) 2 = .ok (.idiv, 1) := by decide +kernel
theorem d16_3 : decode (mcode 16) 3 = .ok (.ireturn, 1) := by decide +kernel
theorem d17_0 : decode (mcode 17) 0 = .ok (.iload_n 1, 1) := by decide +kernel
theorem d17_1 : decode (mcode 17) 1 = .ok (.iconst 2, 1) := by decide +kernel
theorem d17_2 : decode (mcode 17) 2 = .ok (.irem, 1) := by decide +kernel
theorem d17_3 : decode (mcode 17) 3 = .ok (.ifCond .ne 11, 3) := by decide +kernel
theorem d17_6 : decode (mcode 17) 6 = .ok (.iload_n 1, 1) := by decide +kernel
theorem d17_7 : decode (mcode 17) 7 = .ok (.iconst 2, 1) := by decide +kernel
theorem d17_8 : decode (mcode 17) 8 = .ok (.idiv, 1) := by decide +kernel
theorem d17_9 : decode (mcode 17) 9 = .ok (.iconst 1, 1) := by decide +kernel
theorem d17_10 : decode (mcode 17) 10 = .ok (.iadd, 1) := by decide +kernel
theorem d17_11 : decode (mcode 17) 11 = .ok (.goto 11, 3) := by decide +kernel
theorem d17_14 : decode (mcode 17) 14 = .ok (.iload_n 1, 1) := by decide +kernel
theorem d17_15 : decode (mcode 17) 15 = .ok (.iconst 2, 1) := by decide +kernel
theorem d17_16 : decode (mcode 17) 16 = .ok (.idiv, 1) := by decide +kernel
theorem d17_17 : decode (mcode 17) 17 = .ok (.aload_n 0, 1) := by decide +kernel
theorem d17_18 : decode (mcode 17) 18 = .ok (.getfield 33, 3) := by decide +kernel
theorem d17_21 : decode (mcode 17) 21 = .ok (.iadd, 1) := by decide +kernel
theorem d17_22 : decode (mcode 17) 22 = .ok (.ireturn, 1) := by decide +kernel
theorem d18_0 : decode (mcode 18) 0 = .ok (.aload_n 0, 1) := by decide +kernel
theorem d18_1 : decode (mcode 18) 1 = .ok (.getfield 18, 3) := by decide +kernel
theorem d18_4 : decode (mcode 18) 4 = .ok (.aload_n 0, 1) := by decide +kernel
theorem d18_5 : decode (mcode 18) 5 = .ok (.iload_n 1, 1) := by decide +kernel
theorem d18_6 : decode (mcode 18) 6 = .ok (.invokevirtual 57, 3) := by decide +kernel
theorem d18_9 : decode (mcode 18) 9 = .ok (.baload, 1) := by decide +kernel
theorem d18_10 : decode (mcode 18) 10 = .ok (.ifCond .ne 16, 3) := by decide +kernel
theorem d18_13 : decode (mcode 18) 13 = .ok (.aload_n 0, 1) := by decide +kernel
theorem d18_14 : decode (mcode 18) 14 = .ok (.getfield 18, 3) := by decide +kernel
theorem d18_17 : decode (mcode 18) 17 = .ok (.aload_n 0, 1) := by decide +kernel
theorem d18_18 : decode (mcode 18) 18 = .ok (.iload_n 1, 1) := by decide +kernel
theorem d18_19 : decode (mcode 18) 19 = .ok (.invokevirtual 60, 3) := by decide +kernel
theorem d18_22 : decode (mcode 18) 22 = .ok (.baload, 1) := by decide +kernel
theorem d18_23 : decode (mcode 18) 23 = .ok (.ifCond .eq 7, 3) := by decide +kernel
theorem d18_26 : decode (mcode 18) 26 = .ok (.iconst 1, 1) := by decide +kernel
theorem d18_27 : decode (mcode 18) 27 = .ok (.goto 4, 3) := by decide +kernel
theorem d18_30 : decode (mcode 18) 30 = .ok (.iconst 0, 1) := by decide +kernel
theorem d18_31 : decode (mcode 18) 31 = .ok (.ireturn, 1) := by decide +kernel
theorem d19_0 : decode (mcode 19) 0 = .ok (.iload_n 0, 1) := by decide +kernel
theorem d19_1 : decode (mcode 19) 1 = .ok (.sipush 255, 3) := by decide +kernel
theorem d19_4 : decode (mcode 19) 4 = .ok (.irem, 1) := by decide +kernel
theorem d19_5 : decode (mcode 19) 5 = .ok (.istore_n 1, 1) := by decide +kernel
theorem d19_6 : decode (mcode 19) 6 = .ok (.iload_n 1, 1) := by decide +kernel
theorem d19_7 : decode (mcode 19) 7 = .ok (.bipush 127, 2) := by decide +kernel
theorem d19_9 : decode (mcode 19) 9 = .ok (.if_icmp .le 9, 3) := by decide +kernel
theorem d19_12 : decode (mcode 19) 12 = .ok (.iload_n 1, 1) := by decide +kernel
theorem d19_13 : decode (mcode 19) 13 = .ok (.sipush 255, 3) := by decide +kernel
theorem d19_16 : decode (mcode 19) 16 = .ok (.isub, 1) := by decide +kernel
theorem d19_17 : decode (mcode 19) 17 = .ok (.ireturn, 1) := by decide +kernel
theorem d19_18 : decode (mcode 19) 18 = .ok (.iload_n 1, 1) := by decide +kernel
theorem d19_19 : decode (mcode 19) 19 = .ok (.bipush (-127), 2) := by decide +kernel
theorem d19_21 : decode (mcode 19) 21 = .ok (.if_icmp .ge 11, 3) := by decide +kernel
theorem d19_24 : decode (mcode 19) 24 = .ok (.iload_n 1, 1) := by decide +kernel
theorem d19_25 : decode (mcode 19) 25 = .ok (.sipush 255, 3) := by decide +kernel
theorem d19_28 : decode (mcode 19) 28 = .ok (.iadd, 1) := by decide +kernel
theorem d19_29 : decode (mcode 19) 29 = .ok (.goto 4, 3) := by decide +kernel
theorem d19_32 : decode (mcode 19) 32 = .ok (.iload_n 1, 1) := by decide +kernel
theorem d19_33 : decode (mcode 19) 33 = .ok (.ireturn, 1) := by decide +kernel
theorem d20_0 : decode (mcode 20) 0 = .ok (.aload_n 0, 1) := by decide +kernel
theorem d20_1 : decode (mcode 20) 1 = .ok (.getfield 9, 3) := by decide +kernel
theorem d20_4 : decode (mcode 20) 4 = .ok (.iload_n 2, 1) := by decide +kernel
theorem d20_5 : decode (mcode 20) 5 = .ok (.iaload, 1) := by decide +kernel
theorem d20_6 : decode (mcode 20) 6 = .ok (.aload_n 0, 1) := by decide +kernel
theorem d20_7 : decode (mcode 20) 7 = .ok (.getfield 9, 3) := by decide +kernel
theorem d20_10 : decode (mcode 20) 10 = .ok (.iload_n 1, 1) := by decide +kernel
theorem d20_11 : decode (mcode 20) 11 = .ok (.iaload, 1) := by decide +kernel
theorem d20_12 : decode (mcode 20) 12 = .ok (.isub, 1) := by decide +kernel
theorem d20_13 : decode (mcode 20) 13 = .ok (.invokestatic 63, 3) := by decide +kernel
theorem d20_16 : decode (mcode 20) 16 = .ok (.ireturn, 1) := by decide +kernel
theorem d21_0 : decode (mcode 21) 0 = .ok (.aload_n 0, 1) := by decide +kernel
theorem d21_1 : decode (mcode 21) 1 = .ok (.aload_n 0, 1) := by decide +kernel
theorem d21_2 : decode (mcode 21) 2 = .ok (.iload_n 1, 1) := by decide +kernel
theorem d21_3 : decode (mcode 21) 3 = .ok (.invokevirtual 57, 3) := by decide +kernel
theorem d21_6 : decode (mcode 21) 6 = .ok (.aload_n 0, 1) := by decide +kernel
theorem d21_7 : decode (mcode 21) 7 = .ok (.iload_n 1, 1) := by decide +kernel
theorem d21_8 : decode (mcode 21) 8 = .ok (.invokevirtual 60, 3) := by decide +kernel
theorem d21_11 : decode (mcode 21) 11 = .ok (.invokevirtual 66, 3) := by decide +kernel
theorem d21_14 : decode (mcode 21) 14 = .ok (.ireturn, 1) := by decide +kernel
theorem d22_0 : decode (mcode 22) 0 = .ok (.iload_n 2, 1) := by decide +kernel
theorem d22_1 : decode (mcode 22) 1 = .ok (.tableswitch 84 0 2 #[27, 46, 62], 27) := by decide +kernel
theorem d22_28 : decode (mcode 22) 28 = .ok (.iload_n 1, 1) := by decide +kernel
theorem d22_29 : decode (mcode 22) 29 = .ok (.aload_n 0, 1) := by decide +kernel
theorem d22_30 : decode (mcode 22) 30 = .ok (.getfield 33, 3) := by decide +kernel
theorem d22_33 : decode (mcode 22) 33 = .ok (.if_icmp .lt 12, 3) := by decide +kernel
theorem d22_36 : decode (mcode 22) 36 = .ok (.iload_n 1, 1) := by decide +kernel
theorem d22_37 : decode (mcode 22) 37 = .ok (.aload_n 0, 1) := by decide +kernel
theorem d22_38 : decode (mcode 22) 38 = .ok (.getfield 33, 3) := by decide +kernel
theorem d22_41 : decode (mcode 22) 41 = .ok (.isub, 1) := by decide +kernel
theorem d22_42 : decode (mcode 22) 42 = .ok (.goto 4, 3) := by decide +kernel
theorem d22_45 : decode (mcode 22) 45 = .ok (.iconst (-1), 1) := by decide +kernel
theorem d22_46 : decode (mcode 22) 46 = .ok (.ireturn, 1) := by decide +kernel
theorem d22_47 : decode (mcode 22) 47 = .ok (.aload_n 0, 1) := by decide +kernel
theorem d22_48 : decode (mcode 22) 48 = .ok (.iload_n 1, 1) := by decide +kernel
theorem d22_49 : decode (mcode 22) 49 = .ok (.invokevirtual 46, 3) := by decide +kernel
theorem d22_52 : decode (mcode 22) 52 = .ok (.ifCond .le 9, 3) := by decide +kernel
theorem d22_55 : decode (mcode 22) 55 = .ok (.iload_n 1, 1) := by decide +kernel
theorem d22_56 : decode (mcode 22) 56 = .ok (.iconst 1, 1) := by decide +kernel
theorem d22_57 : decode (mcode 22) 57 = .ok (.isub, 1) := by decide +kernel
theorem d22_58 : decode (mcode 22) 58 = .ok (.goto 4, 3) := by decide +kernel
theorem d22_61 : decode (mcode 22) 61 = .ok (.iconst (-1), 1) := by decide +kernel
theorem d22_62 : decode (mcode 22) 62 = .ok (.ireturn, 1) := by decide +kernel
theorem d22_63 : decode (mcode 22) 63 = .ok (.aload_n 0, 1) := by decide +kernel
theorem d22_64 : decode (mcode 22) 64 = .ok (.iload_n 1, 1) := by decide +kernel
theorem d22_65 : decode (mcode 22) 65 = .ok (.invokevirtual 46, 3) := by decide +kernel
theorem d22_68 : decode (mcode 22) 68 = .ok (.aload_n 0, 1) := by decide +kernel
theorem d22_69 : decode (mcode 22) 69 = .ok (.getfield 33, 3) := by decide +kernel
theorem d22_72 : decode (mcode 22) 72 = .ok (.iconst 1, 1) := by decide +kernel
theorem d22_73 : decode (mcode 22) 73 = .ok (.isub, 1) := by decide +kernel
theorem d22_74 : decode (mcode 22) 74 = .ok (.if_icmp .ge 9, 3) := by decide +kernel
theorem d22_77 : decode (mcode 22) 77 = .ok (.iload_n 1, 1) := by decide +kernel
theorem d22_78 : decode (mcode 22) 78 = .ok (.iconst 1, 1) := by decide +kernel
theorem d22_79 : decode (mcode 22) 79 = .ok (.iadd, 1) := by decide +kernel
theorem d22_80 : decode (mcode 22) 80 = .ok (.goto 4, 3) := by decide +kernel
theorem d22_83 : decode (mcode 22) 83 = .ok (.iconst (-1), 1) := by decide +kernel
theorem d22_84 : decode (mcode 22) 84 = .ok (.ireturn, 1) := by decide +kernel
theorem d22_85 : decode (mcode 22) 85 = .ok (.aload_n 0, 1) := by decide +kernel
theorem d22_86 : decode (mcode 22) 86 = .ok (.iload_n 1, 1) := by decide +kernel
theorem d22_87 : decode (mcode 22) 87 = .ok (.invokevirtual 50, 3) := by decide +kernel
theorem d22_90 : decode (mcode 22) 90 = .ok (.aload_n 0, 1) := by decide +kernel
theorem d22_91 : decode (mcode 22) 91 = .ok (.getfield 29, 3) := by decide +kernel
theorem d22_94 : decode (mcode 22) 94 = .ok (.iconst 1, 1) := by decide +kernel
theorem d22_95 : decode (mcode 22) 95 = .ok (.isub, 1) := by decide +kernel
theorem d22_96 : decode (mcode 22) 96 = .ok (.if_icmp .ge 12, 3) := by decide +kernel
theorem d22_99 : decode (mcode 22) 99 = .ok (.iload_n 1, 1) := by decide +kernel
theorem d22_100 : decode (mcode 22) 100 = .ok (.aload_n 0, 1) := by decide +kernel
theorem d22_101 : decode (mcode 22) 101 = .ok (.getfield 33, 3) := by decide +kernel
theorem d22_104 : decode (mcode 22) 104 = .ok (.iadd, 1) := by decide +kernel
theorem d22_105 : decode (mcode 22) 105 = .ok (.goto 4, 3) := by decide +kernel
theorem d22_108 : decode (mcode 22) 108 = .ok (.iconst (-1), 1) := by decide +kernel
theorem d22_109 : decode (mcode 22) 109 = .ok (.ireturn, 1) := by decide +kernel
theorem d23_0 : decode (mcode 23) 0 = .ok (.iload_n 2, 1) := by decide +kernel
theorem d23_1 : decode (mcode 23) 1 = .ok (.tableswitch 48 0 2 #[27, 38, 44], 27) := by decide +kernel
theorem d23_28 : decode (mcode 23) 28 = .ok (.iconst 2, 1) := by decide +kernel
theorem d23_29 : decode (mcode 23) 29 = .ok (.iload_n 1, 1) := by decide +kernel
theorem d23_30 : decode (mcode 23) 30 = .ok (.aload_n 0, 1) := by decide +kernel
theorem d23_31 : decode (mcode 23) 31 = .ok (.getfield 33, 3) := by decide +kernel
theorem d23_34 : decode (mcode 23) 34 = .ok (.isub, 1) := by decide +kernel
theorem d23_35 : decode (mcode 23) 35 = .ok (.imul, 1) := by decide +kernel
theorem d23_36 : decode (mcode 23) 36 = .ok (.iconst 1, 1) := by decide +kernel
theorem d23_37 : decode (mcode 23) 37 = .ok (.iadd, 1) := by decide +kernel
theorem d23_38 : decode (mcode 23) 38 = .ok (.ireturn, 1) := by decide +kernel
theorem d23_39 : decode (mcode 23) 39 = .ok (.iconst 2, 1) := by decide +kernel
theorem d23_40 : decode (mcode 23) 40 = .ok (.iload_n 1, 1) := by decide +kernel
theorem d23_41 : decode (mcode 23) 41 = .ok (.iconst 1, 1) := by decide +kernel
theorem d23_42 : decode (mcode 23) 42 = .ok (.isub, 1) := by decide +kernel
theorem d23_43 : decode (mcode 23) 43 = .ok (.imul, 1) := by decide +kernel
theorem d23_44 : decode (mcode 23) 44 = .ok (.ireturn, 1) := by decide +kernel
theorem d23_45 : decode (mcode 23) 45 = .ok (.iconst 2, 1) := by decide +kernel
theorem d23_46 : decode (mcode 23) 46 = .ok (.iload_n 1, 1) := by decide +kernel
theorem d23_47 : decode (mcode 23) 47 = .ok (.imul, 1) := by decide +kernel
theorem d23_48 : decode (mcode 23) 48 = .ok (.ireturn, 1) := by decide +kernel
theorem d23_49 : decode (mcode 23) 49 = .ok (.iconst 2, 1) := by decide +kernel
theorem d23_50 : decode (mcode 23) 50 = .ok (.iload_n 1, 1) := by decide +kernel
theorem d23_51 : decode (mcode 23) 51 = .ok (.imul, 1) := by decide +kernel
theorem d23_52 : decode (mcode 23) 52 = .ok (.iconst 1, 1) := by decide +kernel
theorem d23_53 : decode (mcode 23) 53 = .ok (.iadd, 1) := by decide +kernel
theorem d23_54 : decode (mcode 23) 54 = .ok (.ireturn, 1) := by decide +kernel
theorem d24_0 : decode (mcode 24) 0 = .ok (.iconst 0, 1) := by decide +kernel
theorem d24_1 : decode (mcode 24) 1 = .ok (.istore_n 1, 1) := by decide +kernel
theorem d24_2 : decode (mcode 24) 2 = .ok (.iconst 0, 1) := by decide +kernel
theorem d24_3 : decode (mcode 24) 3 = .ok (.istore_n 2, 1) := by decide +kernel
theorem d24_4 : decode (mcode 24) 4 = .ok (.iload_n 2, 1) := by decide +kernel
theorem d24_5 : decode (mcode 24) 5 = .ok (.aload_n 0, 1) := by decide +kernel
theorem d24_6 : decode (mcode 24) 6 = .ok (.invokevirtual 42, 3) := by decide +kernel
theorem d24_9 : decode (mcode 24) 9 = .ok (.if_icmp .ge 21, 3) := by decide +kernel
theorem d24_12 : decode (mcode 24) 12 = .ok (.aload_n 0, 1) := by decide +kernel
theorem d24_13 : decode (mcode 24) 13 = .ok (.getfield 18, 3) := by decide +kernel
theorem d24_16 : decode (mcode 24) 16 = .ok (.iload_n 2, 1) := by decide +kernel
theorem d24_17 : decode (mcode 24) 17 = .ok (.baload, 1) := by decide +kernel
theorem d24_18 : decode (mcode 24) 18 = .ok (.ifCond .eq 6, 3) := by decide +kernel
theorem d24_21 : decode (mcode 24) 21 = .ok (.iinc 1 1, 3) := by decide +kernel
theorem d24_24 : decode (mcode 24) 24 = .ok (.iinc 2 1, 3) := by decide +kernel
theorem d24_27 : decode (mcode 24) 27 = .ok (.goto (-23), 3) := by decide +kernel
theorem d24_30 : decode (mcode 24) 30 = .ok (.iload_n 1, 1) := by decide +kernel
theorem d24_31 : decode (mcode 24) 31 = .ok (.ireturn, 1) := by decide +kernel
theorem d25_0 : decode (mcode 25) 0 = .ok (.iload_n 1, 1) := by decide +kernel
theorem d25_1 : decode (mcode 25) 1 = .ok (.iconst 1, 1) := by decide +kernel
theorem d25_2 : decode (mcode 25) 2 = .ok (.iadd, 1) := by decide +kernel
theorem d25_3 : decode (mcode 25) 3 = .ok (.istore_n 2, 1) := by decide +kernel
theorem d25_4 : decode (mcode 25) 4 = .ok (.iload_n 1, 1) := by decide +kernel
theorem d25_5 : decode (mcode 25) 5 = .ok (.aload_n 0, 1) := by decide +kernel
theorem d25_6 : decode (mcode 25) 6 = .ok (.getfield 33, 3) := by decide +kernel
theorem d25_9 : decode (mcode 25) 9 = .ok (.iadd, 1) := by decide +kernel
theorem d25_10 : decode (mcode 25) 10 = .ok (.istore_n 3, 1) := by decide +kernel
theorem d25_11 : decode (mcode 25) 11 = .ok (.iload_n 3, 1) := by decide +kernel
theorem d25_12 : decode (mcode 25) 12 = .ok (.iconst 1, 1) := by decide +kernel
theorem d25_13 : decode (mcode 25) 13 = .ok (.iadd, 1) := by decide +kernel
theorem d25_14 : decode (mcode 25) 14 = .ok (.istore 4, 2) := by decide +kernel
theorem d25_16 : decode (mcode 25) 16 = .ok (.aload_n 0, 1) := by decide +kernel
theorem d25_17 : decode (mcode 25) 17 = .ok (.getfield 18, 3) := by decide +kernel
theorem d25_20 : decode (mcode 25) 20 = .ok (.iload_n 1, 1) := by decide +kernel
theorem d25_21 : decode (mcode 25) 21 = .ok (.baload, 1) := by decide +kernel
theorem d25_22 : decode (mcode 25) 22 = .ok (.ifCond .ne 31, 3) := by decide +kernel
theorem d25_25 : decode (mcode 25) 25 = .ok (.aload_n 0, 1) := by decide +kernel
theorem d25_26 : decode (mcode 25) 26 = .ok (.getfield 18, 3) := by decide +kernel
theorem d25_29 : decode (mcode 25) 29 = .ok (.iload_n 2, 1) := by decide +kernel
theorem d25_30 : decode (mcode 25) 30 = .ok (.baload, 1) := by decide +kernel
theorem d25_31 : decode (mcode 25) 31 = .ok (.ifCond .ne 22, 3) := by decide +kernel
theorem d25_34 : decode (mcode 25) 34 = .ok (.aload_n 0, 1) := by decide +kernel
theorem d25_35 : decode (mcode 25) 35 = .ok (.getfield 18, 3) := by decide +kernel
theorem d25_38 : decode (mcode 25) 38 = .ok (.iload_n 3, 1) := by decide +kernel
theorem d25_39 : decode (mcode 25) 39 = .ok (.baload, 1) := by decide +kernel
theorem d25_40 : decode (mcode 25) 40 = .ok (.ifCond .ne 13, 3) := by decide +kernel
theorem d25_43 : decode (mcode 25) 43 = .ok (.aload_n 0, 1) := by decide +kernel
theorem d25_44 : decode (mcode 25) 44 = .ok (.getfield 18, 3) := by decide +kernel
theorem d25_47 : decode (mcode 25) 47 = .ok (.iload 4, 2) := by decide +kernel
theorem d25_49 : decode (mcode 25) 49 = .ok (.baload, 1) := by decide +kernel
theorem d25_50 : decode (mcode 25) 50 = .ok (.ifCond .eq 5, 3) := by decide +kernel
theorem d25_53 : decode (mcode 25) 53 = .ok (.iconst 0, 1) := by decide +kernel
theorem d25_54 : decode (mcode 25) 54 = .ok (.ireturn, 1) := by decide +kernel
theorem d25_55 : decode (mcode 25) 55 = .ok (.aload_n 0, 1) := by decide +kernel
theorem d25_56 : decode (mcode 25) 56 = .ok (.iload_n 1, 1) := by decide +kernel
theorem d25_57 : decode (mcode 25) 57 = .ok (.iload_n 2, 1) := by decide +kernel
theorem d25_58 : decode (mcode 25) 58 = .ok (.invokevirtual 66, 3) := by decide +kernel
theorem d25_61 : decode (mcode 25) 61 = .ok (.aload_n 0, 1) := by decide +kernel
theorem d25_62 : decode (mcode 25) 62 = .ok (.iload_n 2, 1) := by decide +kernel
theorem d25_63 : decode (mcode 25) 63 = .ok (.iload 4, 2) := by decide +kernel
theorem d25_65 : decode (mcode 25) 65 = .ok (.invokevirtual 66, 3) := by decide +kernel
theorem d25_68 : decode (mcode 25) 68 = .ok (.iadd, 1) := by decide +kernel
theorem d25_69 : decode (mcode 25) 69 = .ok (.aload_n 0, 1) := by decide +kernel
theorem d25_70 : decode (mcode 25) 70 = .ok (.iload 4, 2) := by decide +kernel
theorem d25_72 : decode (mcode 25) 72 = .ok (.iload_n 3, 1) := by decide +kernel
theorem d25_73 : decode (mcode 25) 73 = .ok (.invokevirtual 66, 3) := by decide +kernel
theorem d25_76 : decode (mcode 25) 76 = .ok (.iadd, 1) := by decide +kernel
theorem d25_77 : decode (mcode 25) 77 = .ok (.aload_n 0, 1) := by decide +kernel
theorem d25_78 : decode (mcode 25) 78 = .ok (.iload_n 3, 1) := by decide +kernel
theorem d25_79 : decode (mcode 25) 79 = .ok (.iload_n 1, 1) := by decide +kernel
theorem d25_80 : decode (mcode 25) 80 = .ok (.invokevirtual 66, 3) := by decide +kernel
theorem d25_83 : decode (mcode 25) 83 = .ok (.iadd, 1) := by decide +kernel
theorem d25_84 : decode (mcode 25) 84 = .ok (.istore 5, 2) := by decide +kernel
theorem d25_86 : decode (mcode 25) 86 = .ok (.iload 5, 2) := by decide +kernel
theorem d25_88 : decode (mcode 25) 88 = .ok (.sipush 255, 3) := by decide +kernel
theorem d25_91 : decode (mcode 25) 91 = .ok (.idiv, 1) := by decide +kernel
theorem d25_92 : decode (mcode 25) 92 = .ok (.ireturn, 1) := by decide +kernel
theorem d26_0 : decode (mcode 26) 0 = .ok (.iconst 0, 1) := by decide +kernel
theorem d26_1 : decode (mcode 26) 1 = .ok (.istore_n 1, 1) := by decide +kernel
theorem d26_2 : decode (mcode 26) 2 = .ok (.iconst 0, 1) := by decide +kernel
theorem d26_3 : decode (mcode 26) 3 = .ok (.istore_n 2, 1) := by decide +kernel
theorem d26_4 : decode (mcode 26) 4 = .ok (.iload_n 2, 1) := by decide +kernel
theorem d26_5 : decode (mcode 26) 5 = .ok (.aload_n 0, 1) := by decide +kernel
theorem d26_6 : decode (mcode 26) 6 = .ok (.invokevirtual 42, 3) := by decide +kernel
theorem d26_9 : decode (mcode 26) 9 = .ok (.if_icmp .ge 25, 3) := by decide +kernel
theorem d26_12 : decode (mcode 26) 12 = .ok (.aload_n 0, 1) := by decide +kernel
theorem d26_13 : decode (mcode 26) 13 = .ok (.iload_n 2, 1) := by decide +kernel
theorem d26_14 : decode (mcode 26) 14 = .ok (.invokevirtual 70, 3) := by decide +kernel
theorem d26_17 : decode (mcode 26) 17 = .ok (.ifCond .eq 11, 3) := by decide +kernel
theorem d26_20 : decode (mcode 26) 20 = .ok (.iload_n 1, 1) := by decide +kernel
theorem d26_21 : decode (mcode 26) 21 = .ok (.aload_n 0, 1) := by decide +kernel
theorem d26_22 : decode (mcode 26) 22 = .ok (.iload_n 2, 1) := by decide +kernel
theorem d26_23 : decode (mcode 26) 23 = .ok (.invokevirtual 73, 3) := by decide +kernel
theorem d26_26 : decode (mcode 26) 26 = .ok (.iadd, 1) := by decide +kernel
theorem d26_27 : decode (mcode 26) 27 = .ok (.istore_n 1, 1) := by decide +kernel
theorem d26_28 : decode (mcode 26) 28 = .ok (.iinc 2 1, 3) := by decide +kernel
theorem d26_31 : decode (mcode 26) 31 = .ok (.goto (-27), 3) := by decide +kernel
theorem d26_34 : decode (mcode 26) 34 = .ok (.iload_n 1, 1) := by decide +kernel
theorem d26_35 : decode (mcode 26) 35 = .ok (.ireturn, 1) := by decide +kernel
theorem d27_0 : decode (mcode 27) 0 = .ok (.aload_n 0, 1) := by decide +kernel
theorem d27_1 : decode (mcode 27) 1 = .ok (.iload_n 1, 1) := by decide +kernel
theorem d27_2 : decode (mcode 27) 2 = .ok (.invokevirtual 50, 3) := by decide +kernel
theorem d27_5 : decode (mcode 27) 5 = .ok (.aload_n 0, 1) := by decide +kernel
theorem d27_6 : decode (mcode 27) 6 = .ok (.iload_n 2, 1) := by decide +kernel
theorem d27_7 : decode (mcode 27) 7 = .ok (.invokevirtual 50, 3) := by decide +kernel
theorem d27_10 : decode (mcode 27) 10 = .ok (.isub, 1) := by decide +kernel
theorem d27_11 : decode (mcode 27) 11 = .ok (.invokestatic 76, 3) := by decide +kernel
theorem d27_14 : decode (mcode 27) 14 = .ok (.aload_n 0, 1) := by decide +kernel
theorem d27_15 : decode (mcode 27) 15 = .ok (.iload_n 1, 1) := by decide +kernel
theorem d27_16 : decode (mcode 27) 16 = .ok (.invokevirtual 46, 3) := by decide +kernel
theorem d27_19 : decode (mcode 27) 19 = .ok (.aload_n 0, 1) := by decide +kernel
theorem d27_20 : decode (mcode 27) 20 = .ok (.iload_n 2, 1) := by decide +kernel
theorem d27_21 : decode (mcode 27) 21 = .ok (.invokevirtual 46, 3) := by decide +kernel
theorem d27_24 : decode (mcode 27) 24 = .ok (.isub, 1) := by decide +kernel
theorem d27_25 : decode (mcode 27) 25 = .ok (.invokestatic 76, 3) := by decide +kernel
theorem d27_28 : decode (mcode 27) 28 = .ok (.iadd, 1) := by decide +kernel
theorem d27_29 : decode (mcode 27) 29 = .ok (.ireturn, 1) := by decide +kernel
theorem d28_0 : decode (mcode 28) 0 = .ok (.aload_n 0, 1) := by decide +kernel
theorem d28_1 : decode (mcode 28) 1 = .ok (.iload_n 1, 1) := by decide +kernel
theorem d28_2 : decode (mcode 28) 2 = .ok (.invokevirtual 50, 3) := by decide +kernel
theorem d28_5 : decode (mcode 28) 5 = .ok (.istore_n 2, 1) := by decide +kernel
theorem d28_6 : decode (mcode 28) 6 = .ok (.aload_n 0, 1) := by decide +kernel
theorem d28_7 : decode (mcode 28) 7 = .ok (.iload_n 1, 1) := by decide +kernel
theorem d28_8 : decode (mcode 28) 8 = .ok (.invokevirtual 46, 3) := by decide +kernel
theorem d28_11 : decode (mcode 28) 11 = .ok (.istore_n 3, 1) := by decide +kernel
theorem d28_12 : decode (mcode 28) 12 = .ok (.iload_n 2, 1) := by decide +kernel
theorem d28_13 : decode (mcode 28) 13 = .ok (.iconst 1, 1) := by decide +kernel
theorem d28_14 : decode (mcode 28) 14 = .ok (.iadd, 1) := by decide +kernel
theorem d28_15 : decode (mcode 28) 15 = .ok (.aload_n 0, 1) := by decide +kernel
theorem d28_16 : decode (mcode 28) 16 = .ok (.getfield 29, 3) := by decide +kernel
theorem d28_19 : decode (mcode 28) 19 = .ok (.iconst 1, 1) := by decide +kernel
theorem d28_20 : decode (mcode 28) 20 = .ok (.isub, 1) := by decide +kernel
theorem d28_21 : decode (mcode 28) 21 = .ok (.iload_n 2, 1) := by decide +kernel
theorem d28_22 : decode (mcode 28) 22 = .ok (.isub, 1) := by decide +kernel
theorem d28_23 : decode (mcode 28) 23 = .ok (.invokestatic 81, 3) := by decide +kernel
theorem d28_26 : decode (mcode 28) 26 = .ok (.istore 4, 2) := by decide +kernel
theorem d28_28 : decode (mcode 28) 28 = .ok (.iload 4, 2) := by decide +kernel
theorem d28_30 : decode (mcode 28) 30 = .ok (.iload_n 3, 1) := by decide +kernel
theorem d28_31 : decode (mcode 28) 31 = .ok (.iconst 1, 1) := by decide +kernel
theorem d28_32 : decode (mcode 28) 32 = .ok (.iadd, 1) := by decide +kernel
theorem d28_33 : decode (mcode 28) 33 = .ok (.aload_n 0, 1) := by decide +kernel
theorem d28_34 : decode (mcode 28) 34 = .ok (.getfield 33, 3) := by decide +kernel
theorem d28_37 : decode (mcode 28) 37 = .ok (.iconst 1, 1) := by decide +kernel
theorem d28_38 : decode (mcode 28) 38 = .ok (.isub, 1) := by decide +kernel
theorem d28_39 : decode (mcode 28) 39 = .ok (.iload_n 3, 1) := by decide +kernel
theorem d28_40 : decode (mcode 28) 40 = .ok (.isub, 1) := by decide +kernel
theorem d28_41 : decode (mcode 28) 41 = .ok (.invokestatic 81, 3) := by decide +kernel
theorem d28_44 : decode (mcode 28) 44 = .ok (.invokestatic 81, 3) := by decide +kernel
theorem d28_47 : decode (mcode 28) 47 = .ok (.ireturn, 1) := by decide +kernel
theorem d29_0 : decode (mcode 29) 0 = .ok (.iload_n 2, 1) := by decide +kernel
theorem d29_1 : decode (mcode 29) 1 = .ok (.iconst (-1), 1) := by decide +kernel
theorem d29_2 : decode (mcode 29) 2 = .ok (.if_icmp .ne 11, 3) := by decide +kernel
theorem d29_5 : decode (mcode 29) 5 = .ok (.aload_n 0, 1) := by decide +kernel
theorem d29_6 : decode (mcode 29) 6 = .ok (.iload_n 1, 1) := by decide +kernel
theorem d29_7 : decode (mcode 29) 7 = .ok (.invokevirtual 84, 3) := by decide +kernel
theorem d29_10 : decode (mcode 29) 10 = .ok (.goto 9, 3) := by decide +kernel
theorem d29_13 : decode (mcode 29) 13 = .ok (.aload_n 0, 1) := by decide +kernel
theorem d29_14 : decode (mcode 29) 14 = .ok (.iload_n 1, 1) := by decide +kernel
theorem d29_15 : decode (mcode 29) 15 = .ok (.iload_n 2, 1) := by decide +kernel
theorem d29_16 : decode (mcode 29) 16 = .ok (.invokevirtual 87, 3) := by decide +kernel
theorem d29_19 : decode (mcode 29) 19 = .ok (.ireturn, 1) := by decide +kernel
theorem d30_0 : decode (mcode 30) 0 = .ok (.iconst 0, 1) := by decide +kernel
theorem d30_1 : decode (mcode 30) 1 = .ok (.istore_n 2, 1) := by decide +kernel
theorem d30_2 : decode (mcode 30) 2 = .ok (.iconst 0, 1) := by decide +kernel
theorem d30_3 : decode (mcode 30) 3 = .ok (.istore_n 3, 1) := by decide +kernel
theorem d30_4 : decode (mcode 30) 4 = .ok (.iconst 0, 1) := by decide +kernel
theorem d30_5 : decode (mcode 30) 5 = .ok (.istore 4, 2) := by decide +kernel
theorem d30_7 : decode (mcode 30) 7 = .ok (.iload 4, 2) := by decide +kernel
theorem d30_9 : decode (mcode 30) 9 = .ok (.iconst 4, 1) := by decide +kernel
theorem d30_10 : decode (mcode 30) 10 = .ok (.if_icmp .ge 50, 3) := by decide +kernel
theorem d30_13 : decode (mcode 30) 13 = .ok (.aload_n 0, 1) := by decide +kernel
theorem d30_14 : decode (mcode 30) 14 = .ok (.iload_n 1, 1) := by decide +kernel
theorem d30_15 : decode (mcode 30) 15 = .ok (.iload 4, 2) := by decide +kernel
theorem d30_17 : decode (mcode 30) 17 = .ok (.invokevirtual 90, 3) := by decide +kernel
theorem d30_20 : decode (mcode 30) 20 = .ok (.istore 5, 2) := by decide +kernel
theorem d30_22 : decode (mcode 30) 22 = .ok (.iload 5, 2) := by decide +kernel
theorem d30_24 : decode (mcode 30) 24 = .ok (.iconst (-1), 1) := by decide +kernel
theorem d30_25 : decode (mcode 30) 25 = .ok (.if_icmp .eq 29, 3) := by decide +kernel
theorem d30_28 : decode (mcode 30) 28 = .ok (.aload_n 0, 1) := by decide +kernel
theorem d30_29 : decode (mcode 30) 29 = .ok (.getfield 18, 3) := by decide +kernel
theorem d30_32 : decode (mcode 30) 32 = .ok (.iload 5, 2) := by decide +kernel
theorem d30_34 : decode (mcode 30) 34 = .ok (.baload, 1) := by decide +kernel
theorem d30_35 : decode (mcode 30) 35 = .ok (.ifCond .ne 19, 3) := by decide +kernel
theorem d30_38 : decode (mcode 30) 38 = .ok (.iload_n 2, 1) := by decide +kernel
theorem d30_39 : decode (mcode 30) 39 = .ok (.aload_n 0, 1) := by decide +kernel
theorem d30_40 : decode (mcode 30) 40 = .ok (.iload_n 1, 1) := by decide +kernel
theorem d30_41 : decode (mcode 30) 41 = .ok (.iload 5, 2) := by decide +kernel
theorem d30_43 : decode (mcode 30) 43 = .ok (.invokevirtual 66, 3) := by decide +kernel
theorem d30_46 : decode (mcode 30) 46 = .ok (.invokestatic 76, 3) := by decide +kernel
theorem d30_49 : decode (mcode 30) 49 = .ok (.iadd, 1) := by decide +kernel
theorem d30_50 : decode (mcode 30) 50 = .ok (.istore_n 2, 1) := by decide +kernel
theorem d30_51 : decode (mcode 30) 51 = .ok (.iinc 3 1, 3) := by decide +kernel
theorem d30_54 : decode (mcode 30) 54 = .ok (.iinc 4 1, 3) := by decide +kernel
theorem d30_57 : decode (mcode 30) 57 = .ok (.goto (-50), 3) := by decide +kernel
theorem d30_60 : decode (mcode 30) 60 = .ok (.iload_n 3, 1) := by decide +kernel
theorem d30_61 : decode (mcode 30) 61 = .ok (.ifCond .ne 7, 3) := by decide +kernel
theorem d30_64 : decode (mcode 30) 64 = .ok (.iconst 0, 1) := by decide +kernel
theorem d30_65 : decode (mcode 30) 65 = .ok (.goto 13, 3) := by decide +kernel
theorem d30_68 : decode (mcode 30) 68 = .ok (.iconst 0, 1) := by decide +kernel
theorem d30_69 : decode (mcode 30) 69 = .ok (.bipush 99, 2) := by decide +kernel
theorem d30_71 : decode (mcode 30) 71 = .ok (.iload_n 2, 1) := by decide +kernel
theorem d30_72 : decode (mcode 30) 72 = .ok (.iload_n 3, 1) := by decide +kernel
theorem d30_73 : decode (mcode 30) 73 = .ok (.idiv, 1) := by decide +kernel
theorem d30_74 : decode (mcode 30) 74 = .ok (.isub, 1) := by decide +kernel
theorem d30_75 : decode (mcode 30) 75 = .ok (.invokestatic 93, 3) := by decide +kernel
theorem d30_78 : decode (mcode 30) 78 = .ok (.ireturn, 1) := by decide +kernel
theorem d31_0 : decode (mcode 31) 0 = .ok (.iload_n 1, 1) := by decide +kernel
theorem d31_1 : decode (mcode 31) 1 = .ok (.istore 5, 2) := by decide +kernel
theorem d31_3 : decode (mcode 31) 3 = .ok (.iload 5, 2) := by decide +kernel
theorem d31_5 : decode (mcode 31) 5 = .ok (.iload_n 2, 1) := by decide +kernel
theorem d31_6 : decode (mcode 31) 6 = .ok (.if_icmp .gt 46, 3) := by decide +kernel
theorem d31_9 : decode (mcode 31) 9 = .ok (.aload_n 0, 1) := by decide +kernel
theorem d31_10 : decode (mcode 31) 10 = .ok (.getfield 18, 3) := by decide +kernel
theorem d31_13 : decode (mcode 31) 13 = .ok (.iload 5, 2) := by decide +kernel
theorem d31_15 : decode (mcode 31) 15 = .ok (.aload_n 0, 1) := by decide +kernel
theorem d31_16 : decode (mcode 31) 16 = .ok (.getfield 33, 3) := by decide +kernel
theorem d31_19 : decode (mcode 31) 19 = .ok (.imul, 1) := by decide +kernel
theorem d31_20 : decode (mcode 31) 20 = .ok (.iload_n 3, 1) := by decide +kernel
theorem d31_21 : decode (mcode 31) 21 = .ok (.iadd, 1) := by decide +kernel
theorem d31_22 : decode (mcode 31) 22 = .ok (.baload, 1) := by decide +kernel
theorem d31_23 : decode (mcode 31) 23 = .ok (.ifCond .ne 21, 3) := by decide +kernel
theorem d31_26 : decode (mcode 31) 26 = .ok (.aload_n 0, 1) := by decide +kernel
theorem d31_27 : decode (mcode 31) 27 = .ok (.getfield 18, 3) := by decide +kernel
theorem d31_30 : decode (mcode 31) 30 = .ok (.iload 5, 2) := by decide +kernel
theorem d31_32 : decode (mcode 31) 32 = .ok (.aload_n 0, 1) := by decide +kernel
theorem d31_33 : decode (mcode 31) 33 = .ok (.getfield 33, 3) := by decide +kernel
theorem d31_36 : decode (mcode 31) 36 = .ok (.imul, 1) := by decide +kernel
theorem d31_37 : decode (mcode 31) 37 = .ok (.iload 4, 2) := by decide +kernel
theorem d31_39 : decode (mcode 31) 39 = .ok (.iadd, 1) := by decide +kernel
theorem d31_40 : decode (mcode 31) 40 = .ok (.baload, 1) := by decide +kernel
theorem d31_41 : decode (mcode 31) 41 = .ok (.ifCond .eq 5, 3) := by decide +kernel
theorem d31_44 : decode (mcode 31) 44 = .ok (.iconst 1, 1) := by decide +kernel
theorem d31_45 : decode (mcode 31) 45 = .ok (.ireturn, 1) := by decide +kernel
theorem d31_46 : decode (mcode 31) 46 = .ok (.iinc 5 1, 3) := by decide +kernel
theorem d31_49 : decode (mcode 31) 49 = .ok (.goto (-46), 3) := by decide +kernel
theorem d31_52 : decode (mcode 31) 52 = .ok (.iload_n 3, 1) := by decide +kernel
theorem d31_53 : decode (mcode 31) 53 = .ok (.istore 5, 2) := by decide +kernel
theorem d31_55 : decode (mcode 31) 55 = .ok (.iload 5, 2) := by decide +kernel
theorem d31_57 : decode (mcode 31) 57 = .ok (.iload 4, 2) := by decide +kernel
theorem d31_59 : decode (mcode 31) 59 = .ok (.if_icmp .gt 45, 3) := by decide +kernel
theorem d31_62 : decode (mcode 31) 62 = .ok (.aload_n 0, 1) := by decide +kernel
theorem d31_63 : decode (mcode 31) 63 = .ok (.getfield 18, 3) := by decide +kernel
theorem d31_66 : decode (mcode 31) 66 = .ok (.iload_n 1, 1) := by decide +kernel
theorem d31_67 : decode (mcode 31) 67 = .ok (.aload_n 0, 1) := by decide +kernel
theorem d31_68 : decode (mcode 31) 68 = .ok (.getfield 33, 3) := by decide +kernel
theorem d31_71 : decode (mcode 31) 71 = .ok (.imul, 1) := by decide +kernel
theorem d31_72 : decode (mcode 31) 72 = .ok (.iload 5, 2) := by decide +kernel
theorem d31_74 : decode (mcode 31) 74 = .ok (.iadd, 1) := by decide +kernel
theorem d31_75 : decode (mcode 31) 75 = .ok (.baload, 1) := by decide +kernel
theorem d31_76 : decode (mcode 31) 76 = .ok (.ifCond .ne 20, 3) := by decide +kernel
theorem d31_79 : decode (mcode 31) 79 = .ok (.aload_n 0, 1) := by decide +kernel
theorem d31_80 : decode (mcode 31) 80 = .ok (.getfield 18, 3) := by decide +kernel
theorem d31_83 : decode (mcode 31) 83 = .ok (.iload_n 2, 1) := by decide +kernel
theorem d31_84 : decode (mcode 31) 84 = .ok (.aload_n 0, 1) := by decide +kernel
theorem d31_85 : decode (mcode 31) 85 = .ok (.getfield 33, 3) := by decide +kernel
theorem d31_88 : decode (mcode 31) 88 = .ok (.imul, 1) := by decide +kernel
theorem d31_89 : decode (mcode 31) 89 = .ok (.iload 5, 2) := by decide +kernel
theorem d31_91 : decode (mcode 31) 91 = .ok (.iadd, 1) := by decide +kernel
theorem d31_92 : decode (mcode 31) 92 = .ok (.baload, 1) := by decide +kernel
theorem d31_93 : decode (mcode 31) 93 = .ok (.ifCond .eq 5, 3) := by decide +kernel
theorem d31_96 : decode (mcode 31) 96 = .ok (.iconst 1, 1) := by decide +kernel
theorem d31_97 : decode (mcode 31) 97 = .ok (.ireturn, 1) := by decide +kernel
theorem d31_98 : decode (mcode 31) 98 = .ok (.iinc 5 1, 3) := by decide +kernel
theorem d31_101 : decode (mcode 31) 101 = .ok (.goto (-46), 3) := by decide +kernel
theorem d31_104 : decode (mcode 31) 104 = .ok (.iconst 0, 1) := by decide +kernel
theorem d31_105 : decode (mcode 31) 105 = .ok (.ireturn, 1) := by decide +kernel
theorem d32_0 : decode (mcode 32) 0 = .ok (.iconst 0, 1) := by decide +kernel
theorem d32_1 : decode (mcode 32) 1 = .ok (.istore 5, 2) := by decide +kernel
theorem d32_3 : decode (mcode 32) 3 = .ok (.iload_n 3, 1) := by decide +kernel
theorem d32_4 : decode (mcode 32) 4 = .ok (.istore 6, 2) := by decide +kernel
theorem d32_6 : decode (mcode 32) 6 = .ok (.iload 6, 2) := by decide +kernel
theorem d32_8 : decode (mcode 32) 8 = .ok (.iload 4, 2) := by decide +kernel
theorem d32_10 : decode (mcode 32) 10 = .ok (.if_icmp .ge 57, 3) := by decide +kernel
theorem d32_13 : decode (mcode 32) 13 = .ok (.iload_n 1, 1) := by decide +kernel
theorem d32_14 : decode (mcode 32) 14 = .ok (.aload_n 0, 1) := by decide +kernel
theorem d32_15 : decode (mcode 32) 15 = .ok (.getfield 33, 3) := by decide +kernel
theorem d32_18 : decode (mcode 32) 18 = .ok (.imul, 1) := by decide +kernel
theorem d32_19 : decode (mcode 32) 19 = .ok (.iload 6, 2) := by decide +kernel
theorem d32_21 : decode (mcode 32) 21 = .ok (.iadd, 1) := by decide +kernel
theorem d32_22 : decode (mcode 32) 22 = .ok (.istore 7, 2) := by decide +kernel
theorem d32_24 : decode (mcode 32) 24 = .ok (.iload_n 2, 1) := by decide +kernel
theorem d32_25 : decode (mcode 32) 25 = .ok (.aload_n 0, 1) := by decide +kernel
theorem d32_26 : decode (mcode 32) 26 = .ok (.getfield 33, 3) := by decide +kernel
theorem d32_29 : decode (mcode 32) 29 = .ok (.imul, 1) := by decide +kernel
theorem d32_30 : decode (mcode 32) 30 = .ok (.iload 6, 2) := by decide +kernel
theorem d32_32 : decode (mcode 32) 32 = .ok (.iadd, 1) := by decide +kernel
theorem d32_33 : decode (mcode 32) 33 = .ok (.istore 8, 2) := by decide +kernel
theorem d32_35 : decode (mcode 32) 35 = .ok (.iload 5, 2) := by decide +kernel
theorem d32_37 : decode (mcode 32) 37 = .ok (.aload_n 0, 1) := by decide +kernel
theorem d32_38 : decode (mcode 32) 38 = .ok (.iload 7, 2) := by decide +kernel
theorem d32_40 : decode (mcode 32) 40 = .ok (.iload 7, 2) := by decide +kernel
theorem d32_42 : decode (mcode 32) 42 = .ok (.iconst 1, 1) := by decide +kernel
theorem d32_43 : decode (mcode 32) 43 = .ok (.iadd, 1) := by decide +kernel
theorem d32_44 : decode (mcode 32) 44 = .ok (.invokevirtual 66, 3) := by decide +kernel
theorem d32_47 : decode (mcode 32) 47 = .ok (.aload_n 0, 1) := by decide +kernel
theorem d32_48 : decode (mcode 32) 48 = .ok (.iload 8, 2) := by decide +kernel
theorem d32_50 : decode (mcode 32) 50 = .ok (.iload 8, 2) := by decide +kernel
theorem d32_52 : decode (mcode 32) 52 = .ok (.iconst 1, 1) := by decide +kernel
theorem d32_53 : decode (mcode 32) 53 = .ok (.iadd, 1) := by decide +kernel
theorem d32_54 : decode (mcode 32) 54 = .ok (.invokevirtual 66, 3) := by decide +kernel
theorem d32_57 : decode (mcode 32) 57 = .ok (.isub, 1) := by decide +kernel
theorem d32_58 : decode (mcode 32) 58 = .ok (.iadd, 1) := by decide +kernel
theorem d32_59 : decode (mcode 32) 59 = .ok (.istore 5, 2) := by decide +kernel
theorem d32_61 : decode (mcode 32) 61 = .ok (.iinc 6 1, 3) := by decide +kernel
theorem d32_64 : decode (mcode 32) 64 = .ok (.goto (-58), 3) := by decide +kernel
theorem d32_67 : decode (mcode 32) 67 = .ok (.iload_n 1, 1) := by decide +kernel
theorem d32_68 : decode (mcode 32) 68 = .ok (.istore 6, 2) := by decide +kernel
theorem d32_70 : decode (mcode 32) 70 = .ok (.iload 6, 2) := by decide +kernel
theorem d32_72 : decode (mcode 32) 72 = .ok (.iload_n 2, 1) := by decide +kernel
theorem d32_73 : decode (mcode 32) 73 = .ok (.if_icmp .ge 64, 3) := by decide +kernel
theorem d32_76 : decode (mcode 32) 76 = .ok (.iload 6, 2) := by decide +kernel
theorem d32_78 : decode (mcode 32) 78 = .ok (.aload_n 0, 1) := by decide +kernel
theorem d32_79 : decode (mcode 32) 79 = .ok (.getfield 33, 3) := by decide +kernel
theorem d32_82 : decode (mcode 32) 82 = .ok (.imul, 1) := by decide +kernel
theorem d32_83 : decode (mcode 32) 83 = .ok (.iload 4, 2) := by decide +kernel
theorem d32_85 : decode (mcode 32) 85 = .ok (.iadd, 1) := by decide +kernel
theorem d32_86 : decode (mcode 32) 86 = .ok (.istore 7, 2) := by decide +kernel
theorem d32_88 : decode (mcode 32) 88 = .ok (.iload 6, 2) := by decide +kernel
theorem d32_90 : decode (mcode 32) 90 = .ok (.aload_n 0, 1) := by decide +kernel
theorem d32_91 : decode (mcode 32) 91 = .ok (.getfield 33, 3) := by decide +kernel
theorem d32_94 : decode (mcode 32) 94 = .ok (.imul, 1) := by decide +kernel
theorem d32_95 : decode (mcode 32) 95 = .ok (.iload_n 3, 1) := by decide +kernel
theorem d32_96 : decode (mcode 32) 96 = .ok (.iadd, 1) := by decide +kernel
theorem d32_97 : decode (mcode 32) 97 = .ok (.istore 8, 2) := by decide +kernel
theorem d32_99 : decode (mcode 32) 99 = .ok (.iload 5, 2) := by decide +kernel
theorem d32_101 : decode (mcode 32) 101 = .ok (.aload_n 0, 1) := by decide +kernel
theorem d32_102 : decode (mcode 32) 102 = .ok (.iload 7, 2) := by decide +kernel
theorem d32_104 : decode (mcode 32) 104 = .ok (.iload 7, 2) := by decide +kernel
theorem d32_106 : decode (mcode 32) 106 = .ok (.aload_n 0, 1) := by decide +kernel
theorem d32_107 : decode (mcode 32) 107 = .ok (.getfield 33, 3) := by decide +kernel
theorem d32_110 : decode (mcode 32) 110 = .ok (.iadd, 1) := by decide +kernel
theorem d32_111 : decode (mcode 32) 111 = .ok (.invokevirtual 66, 3) := by decide +kernel
theorem d32_114 : decode (mcode 32) 114 = .ok (.aload_n 0, 1) := by decide +kernel
theorem d32_115 : decode (mcode 32) 115 = .ok (.iload 8, 2) := by decide +kernel
theorem d32_117 : decode (mcode 32) 117 = .ok (.iload 8, 2) := by decide +kernel
theorem d32_119 : decode (mcode 32) 119 = .ok (.aload_n 0, 1) := by decide +kernel
theorem d32_120 : decode (mcode 32) 120 = .ok (.getfield 33, 3) := by decide +kernel
theorem d32_123 : decode (mcode 32) 123 = .ok (.iadd, 1) := by decide +kernel
theorem d32_124 : decode (mcode 32) 124 = .ok (.invokevirtual 66, 3) := by decide +kernel
theorem d32_127 : decode (mcode 32) 127 = .ok (.isub, 1) := by decide +kernel
theorem d32_128 : decode (mcode 32) 128 = .ok (.iadd, 1) := by decide +kernel
theorem d32_129 : decode (mcode 32) 129 = .ok (.istore 5, 2) := by decide +kernel
theorem d32_131 : decode (mcode 32) 131 = .ok (.iinc 6 1, 3) := by decide +kernel
theorem d32_134 : decode (mcode 32) 134 = .ok (.goto (-64), 3) := by decide +kernel
theorem d32_137 : decode (mcode 32) 137 = .ok (.iload 5, 2) := by decide +kernel
theorem d32_139 : decode (mcode 32) 139 = .ok (.ireturn, 1) := by decide +kernel
theorem d33_0 : decode (mcode 33) 0 = .ok (.aload_n 0, 1) := by decide +kernel
theorem d33_1 : decode (mcode 33) 1 = .ok (.invokespecial 3, 3) := by decide +kernel
theorem d33_4 : decode (mcode 33) 4 = .ok (.aload_n 0, 1) := by decide +kernel
theorem d33_5 : decode (mcode 33) 5 = .ok (.sipush 288, 3) := by decide +kernel
theorem d33_8 : decode (mcode 33) 8 = .ok (.newarray .boolean, 2) := by decide +kernel
theorem d33_10 : decode (mcode 33) 10 = .ok (.putfield 9, 3) := by decide +kernel
theorem d33_13 : decode (mcode 33) 13 = .ok (.aload_n 0, 1) := by decide +kernel
theorem d33_14 : decode (mcode 33) 14 = .ok (.sipush 144, 3) := by decide +kernel
theorem d33_17 : decode (mcode 33) 17 = .ok (.newarray .int, 2) := by decide +kernel
theorem d33_19 : decode (mcode 33) 19 = .ok (.putfield 15, 3) := by decide +kernel
theorem d33_22 : decode (mcode 33) 22 = .ok (.aload_n 0, 1) := by decide +kernel
theorem d33_23 : decode (mcode 33) 23 = .ok (.sipush 144, 3) := by decide +kernel
theorem d33_26 : decode (mcode 33) 26 = .ok (.newarray .int, 2) := by decide +kernel
theorem d33_28 : decode (mcode 33) 28 = .ok (.putfield 19, 3) := by decide +kernel
theorem d33_31 : decode (mcode 33) 31 = .ok (.aload_n 0, 1) := by decide +kernel
theorem d33_32 : decode (mcode 33) 32 = .ok (.sipush 144, 3) := by decide +kernel
theorem d33_35 : decode (mcode 33) 35 = .ok (.newarray .int, 2) := by decide +kernel
theorem d33_37 : decode (mcode 33) 37 = .ok (.putfield 22, 3) := by decide +kernel
theorem d33_40 : decode (mcode 33) 40 = .ok (.return_, 1) := by decide +kernel
theorem d34_0 : decode (mcode 34) 0 = .ok (.iconst 0, 1) := by decide +kernel
theorem d34_1 : decode (mcode 34) 1 = .ok (.istore_n 2, 1) := by decide +kernel
theorem d34_2 : decode (mcode 34) 2 = .ok (.iload_n 2, 1) := by decide +kernel
theorem d34_3 : decode (mcode 34) 3 = .ok (.iconst 2, 1) := by decide +kernel
theorem d34_4 : decode (mcode 34) 4 = .ok (.aload_n 1, 1) := by decide +kernel
theorem d34_5 : decode (mcode 34) 5 = .ok (.getfield 25, 3) := by decide +kernel
theorem d34_8 : decode (mcode 34) 8 = .ok (.invokevirtual 31, 3) := by decide +kernel
theorem d34_11 : decode (mcode 34) 11 = .ok (.imul, 1) := by decide +kernel
theorem d34_12 : decode (mcode 34) 12 = .ok (.if_icmp .ge 50, 3) := by decide +kernel
theorem d34_15 : decode (mcode 34) 15 = .ok (.aload_n 0, 1) := by decide +kernel
theorem d34_16 : decode (mcode 34) 16 = .ok (.getfield 9, 3) := by decide +kernel
theorem d34_19 : decode (mcode 34) 19 = .ok (.iload_n 2, 1) := by decide +kernel
theorem d34_20 : decode (mcode 34) 20 = .ok (.aload_n 1, 1) := by decide +kernel
theorem d34_21 : decode (mcode 34) 21 = .ok (.getfield 25, 3) := by decide +kernel
theorem d34_24 : decode (mcode 34) 24 = .ok (.iload_n 2, 1) := by decide +kernel
theorem d34_25 : decode (mcode 34) 25 = .ok (.invokevirtual 37, 3) := by decide +kernel
theorem d34_28 : decode (mcode 34) 28 = .ok (.ifCond .eq 22, 3) := by decide +kernel
theorem d34_31 : decode (mcode 34) 31 = .ok (.aload_n 1, 1) := by decide +kernel
theorem d34_32 : decode (mcode 34) 32 = .ok (.getfield 25, 3) := by decide +kernel
theorem d34_35 : decode (mcode 34) 35 = .ok (.iload_n 2, 1) := by decide +kernel
theorem d34_36 : decode (mcode 34) 36 = .ok (.invokevirtual 41, 3) := by decide +kernel
theorem d34_39 : decode (mcode 34) 39 = .ok (.ifCond .ne 11, 3) := by decide +kernel
theorem d34_42 : decode (mcode 34) 42 = .ok (.aload_n 1, 1) := by decide +kernel
theorem d34_43 : decode (mcode 34) 43 = .ok (.iload_n 2, 1) := by decide +kernel
theorem d34_44 : decode (mcode 34) 44 = .ok (.invokevirtual 44, 3) := by decide +kernel
theorem d34_47 : decode (mcode 34) 47 = .ok (.ifCond .eq 7, 3) := by decide +kernel
theorem d34_50 : decode (mcode 34) 50 = .ok (.iconst 1, 1) := by decide +kernel
theorem d34_51 : decode (mcode 34) 51 = .ok (.goto 4, 3) := by decide +kernel
theorem d34_54 : decode (mcode 34) 54 = .ok (.iconst 0, 1) := by decide +kernel
theorem d34_55 : decode (mcode 34) 55 = .ok (.bastore, 1) := by decide +kernel
theorem d34_56 : decode (mcode 34) 56 = .ok (.iinc 2 1, 3) := by decide +kernel
theorem d34_59 : decode (mcode 34) 59 = .ok (.goto (-57), 3) := by decide +kernel
theorem d34_62 : decode (mcode 34) 62 = .ok (.return_, 1) := by decide +kernel
theorem d35_0 : decode (mcode 35) 0 = .ok (.aload_n 0, 1) := by decide +kernel
theorem d35_1 : decode (mcode 35) 1 = .ok (.iconst 0, 1) := by decide +kernel
theorem d35_2 : decode (mcode 35) 2 = .ok (.putfield 47, 3) := by decide +kernel
theorem d35_5 : decode (mcode 35) 5 = .ok (.aload_n 0, 1) := by decide +kernel
theorem d35_6 : decode (mcode 35) 6 = .ok (.getfield 15, 3) := by decide +kernel
theorem d35_9 : decode (mcode 35) 9 = .ok (.iconst (-1), 1) := by decide +kernel
theorem d35_10 : decode (mcode 35) 10 = .ok (.invokestatic 51, 3) := by decide +kernel
theorem d35_13 : decode (mcode 35) 13 = .ok (.iconst 0, 1) := by decide +kernel
theorem d35_14 : decode (mcode 35) 14 = .ok (.istore_n 2, 1) := by decide +kernel
theorem d35_15 : decode (mcode 35) 15 = .ok (.iload_n 2, 1) := by decide +kernel
theorem d35_16 : decode (mcode 35) 16 = .ok (.aload_n 1, 1) := by decide +kernel
theorem d35_17 : decode (mcode 35) 17 = .ok (.getfield 25, 3) := by decide +kernel
theorem d35_20 : decode (mcode 35) 20 = .ok (.invokevirtual 31, 3) := by decide +kernel
theorem d35_23 : decode (mcode 35) 23 = .ok (.if_icmp .ge 33, 3) := by decide +kernel
theorem d35_26 : decode (mcode 35) 26 = .ok (.aload_n 1, 1) := by decide +kernel
theorem d35_27 : decode (mcode 35) 27 = .ok (.getfield 57, 3) := by decide +kernel
theorem d35_30 : decode (mcode 35) 30 = .ok (.iload_n 2, 1) := by decide +kernel
theorem d35_31 : decode (mcode 35) 31 = .ok (.invokevirtual 61, 3) := by decide +kernel
theorem d35_34 : decode (mcode 35) 34 = .ok (.ifCond .eq 16, 3) := by decide +kernel
theorem d35_37 : decode (mcode 35) 37 = .ok (.aload_n 0, 1) := by decide +kernel
theorem d35_38 : decode (mcode 35) 38 = .ok (.aload_n 1, 1) := by decide +kernel
theorem d35_39 : decode (mcode 35) 39 = .ok (.getfield 25, 3) := by decide +kernel
theorem d35_42 : decode (mcode 35) 42 = .ok (.aload_n 1, 1) := by decide +kernel
theorem d35_43 : decode (mcode 35) 43 = .ok (.getfield 57, 3) := by decide +kernel
theorem d35_46 : decode (mcode 35) 46 = .ok (.iload_n 2, 1) := by decide +kernel
theorem d35_47 : decode (mcode 35) 47 = .ok (.invokevirtual 66, 3) := by decide +kernel
theorem d35_50 : decode (mcode 35) 50 = .ok (.iinc 2 1, 3) := by decide +kernel
theorem d35_53 : decode (mcode 35) 53 = .ok (.goto (-38), 3) := by decide +kernel
theorem d35_56 : decode (mcode 35) 56 = .ok (.return_, 1) := by decide +kernel
theorem d36_0 : decode (mcode 36) 0 = .ok (.iconst 0, 1) := by decide +kernel
theorem d36_1 : decode (mcode 36) 1 = .ok (.istore 4, 2) := by decide +kernel
theorem d36_3 : decode (mcode 36) 3 = .ok (.iload 4, 2) := by decide +kernel
theorem d36_5 : decode (mcode 36) 5 = .ok (.iconst 4, 1) := by decide +kernel
theorem d36_6 : decode (mcode 36) 6 = .ok (.if_icmp .ge 71, 3) := by decide +kernel
theorem d36_9 : decode (mcode 36) 9 = .ok (.aload_n 1, 1) := by decide +kernel
theorem d36_10 : decode (mcode 36) 10 = .ok (.iload_n 3, 1) := by decide +kernel
theorem d36_11 : decode (mcode 36) 11 = .ok (.iload 4, 2) := by decide +kernel
theorem d36_13 : decode (mcode 36) 13 = .ok (.invokevirtual 70, 3) := by decide +kernel
theorem d36_16 : decode (mcode 36) 16 = .ok (.istore 5, 2) := by decide +kernel
theorem d36_18 : decode (mcode 36) 18 = .ok (.iload 5, 2) := by decide +kernel
theorem d36_20 : decode (mcode 36) 20 = .ok (.iconst (-1), 1) := by decide +kernel
theorem d36_21 : decode (mcode 36) 21 = .ok (.if_icmp .eq 50, 3) := by decide +kernel
theorem d36_24 : decode (mcode 36) 24 = .ok (.aload_n 2, 1) := by decide +kernel
theorem d36_25 : decode (mcode 36) 25 = .ok (.iload 5, 2) := by decide +kernel
theorem d36_27 : decode (mcode 36) 27 = .ok (.invokevirtual 61, 3) := by decide +kernel
theorem d36_30 : decode (mcode 36) 30 = .ok (.ifCond .ne 41, 3) := by decide +kernel
theorem d36_33 : decode (mcode 36) 33 = .ok (.aload_n 0, 1) := by decide +kernel
theorem d36_34 : decode (mcode 36) 34 = .ok (.getfield 9, 3) := by decide +kernel
theorem d36_37 : decode (mcode 36) 37 = .ok (.aload_n 1, 1) := by decide +kernel
theorem d36_38 : decode (mcode 36) 38 = .ok (.iload_n 3, 1) := by decide +kernel
theorem d36_39 : decode (mcode 36) 39 = .ok (.iload 4, 2) := by decide +kernel
theorem d36_41 : decode (mcode 36) 41 = .ok (.invokevirtual 74, 3) := by decide +kernel
theorem d36_44 : decode (mcode 36) 44 = .ok (.baload, 1) := by decide +kernel
theorem d36_45 : decode (mcode 36) 45 = .ok (.ifCond .ne 26, 3) := by decide +kernel
theorem d36_48 : decode (mcode 36) 48 = .ok (.aload_n 0, 1) := by decide +kernel
theorem d36_49 : decode (mcode 36) 49 = .ok (.iload 5, 2) := by decide +kernel
theorem d36_51 : decode (mcode 36) 51 = .ok (.iload_n 3, 1) := by decide +kernel
theorem d36_52 : decode (mcode 36) 52 = .ok (.aload_n 1, 1) := by decide +kernel
theorem d36_53 : decode (mcode 36) 53 = .ok (.getfield 77, 3) := by decide +kernel
theorem d36_56 : decode (mcode 36) 56 = .ok (.iload_n 3, 1) := by decide +kernel
theorem d36_57 : decode (mcode 36) 57 = .ok (.iaload, 1) := by decide +kernel
theorem d36_58 : decode (mcode 36) 58 = .ok (.aload_n 1, 1) := by decide +kernel
theorem d36_59 : decode (mcode 36) 59 = .ok (.getfield 77, 3) := by decide +kernel
theorem d36_62 : decode (mcode 36) 62 = .ok (.iload 5, 2) := by decide +kernel
theorem d36_64 : decode (mcode 36) 64 = .ok (.iaload, 1) := by decide +kernel
theorem d36_65 : decode (mcode 36) 65 = .ok (.invokestatic 80, 3) := by decide +kernel
theorem d36_68 : decode (mcode 36) 68 = .ok (.invokevirtual 85, 3) := by decide +kernel
theorem d36_71 : decode (mcode 36) 71 = .ok (.iinc 4 1, 3) := by decide +kernel
theorem d36_74 : decode (mcode 36) 74 = .ok (.goto (-71), 3) := by decide +kernel
theorem d36_77 : decode (mcode 36) 77 = .ok (.return_, 1) := by decide +kernel
theorem d37_0 : decode (mcode 37) 0 = .ok (.aload_n 0, 1) := by decide +kernel
theorem d37_1 : decode (mcode 37) 1 = .ok (.getfield 15, 3) := by decide +kernel
theorem d37_4 : decode (mcode 37) 4 = .ok (.iload_n 1, 1) := by decide +kernel
theorem d37_5 : decode (mcode 37) 5 = .ok (.iaload, 1) := by decide +kernel
theorem d37_6 : decode (mcode 37) 6 = .ok (.iconst (-1), 1) := by decide +kernel
theorem d37_7 : decode (mcode 37) 7 = .ok (.if_icmp .ne 37, 3) := by decide +kernel
theorem d37_10 : decode (mcode 37) 10 = .ok (.aload_n 0, 1) := by decide +kernel
theorem d37_11 : decode (mcode 37) 11 = .ok (.getfield 47, 3) := by decide +kernel
theorem d37_14 : decode (mcode 37) 14 = .ok (.sipush 144, 3) := by decide +kernel
theorem d37_17 : decode (mcode 37) 17 = .ok (.if_icmp .lt 4, 3) := by decide +kernel
theorem d37_20 : decode (mcode 37) 20 = .ok (.return_, 1) := by decide +kernel
theorem d37_21 : decode (mcode 37) 21 = .ok (.aload_n 0, 1) := by decide +kernel
theorem d37_22 : decode (mcode 37) 22 = .ok (.getfield 22, 3) := by decide +kernel
theorem d37_25 : decode (mcode 37) 25 = .ok (.aload_n 0, 1) := by decide +kernel
theorem d37_26 : decode (mcode 37) 26 = .ok (.getfield 47, 3) := by decide +kernel
theorem d37_29 : decode (mcode 37) 29 = .ok (.iload_n 1, 1) := by decide +kernel
theorem d37_30 : decode (mcode 37) 30 = .ok (.iastore, 1) := by decide +kernel
theorem d37_31 : decode (mcode 37) 31 = .ok (.aload_n 0, 1) := by decide +kernel
theorem d37_32 : decode (mcode 37) 32 = .ok (.dup, 1) := by decide +kernel
theorem d37_33 : decode (mcode 37) 33 = .ok (.getfield 47, 3) := by decide +kernel
theorem d37_36 : decode (mcode 37) 36 = .ok (.iconst 1, 1) := by decide +kernel
theorem d37_37 : decode (mcode 37) 37 = .ok (.iadd, 1) := by decide +kernel
theorem d37_38 : decode (mcode 37) 38 = .ok (.putfield 47, 3) := by decide +kernel
theorem d37_41 : decode (mcode 37) 41 = .ok (.goto 34, 3) := by decide +kernel
theorem d37_44 : decode (mcode 37) 44 = .ok (.iload_n 3, 1) := by decide +kernel
theorem d37_45 : decode (mcode 37) 45 = .ok (.aload_n 0, 1) := by decide +kernel
theorem d37_46 : decode (mcode 37) 46 = .ok (.getfield 19, 3) := by decide +kernel
theorem d37_49 : decode (mcode 37) 49 = .ok (.iload_n 1, 1) := by decide +kernel
theorem d37_50 : decode (mcode 37) 50 = .ok (.iaload, 1) := by decide +kernel
theorem d37_51 : decode (mcode 37) 51 = .ok (.if_icmp .lt 23, 3) := by decide +kernel
theorem d37_54 : decode (mcode 37) 54 = .ok (.iload_n 3, 1) := by decide +kernel
theorem d37_55 : decode (mcode 37) 55 = .ok (.aload_n 0, 1) := by decide +kernel
theorem d37_56 : decode (mcode 37) 56 = .ok (.getfield 19, 3) := by decide +kernel
theorem d37_59 : decode (mcode 37) 59 = .ok (.iload_n 1, 1) := by decide +kernel
theorem d37_60 : decode (mcode 37) 60 = .ok (.iaload, 1) := by decide +kernel
theorem d37_61 : decode (mcode 37) 61 = .ok (.if_icmp .ne 14, 3) := by decide +kernel
theorem d37_64 : decode (mcode 37) 64 = .ok (.iload_n 2, 1) := by decide +kernel
theorem d37_65 : decode (mcode 37) 65 = .ok (.aload_n 0, 1) := by decide +kernel
theorem d37_66 : decode (mcode 37) 66 = .ok (.getfield 15, 3) := by decide +kernel
theorem d37_69 : decode (mcode 37) 69 = .ok (.iload_n 1, 1) := by decide +kernel
theorem d37_70 : decode (mcode 37) 70 = .ok (.iaload, 1) := by decide +kernel
theorem d37_71 : decode (mcode 37) 71 = .ok (.if_icmp .le 4, 3) := by decide +kernel
theorem d37_74 : decode (mcode 37) 74 = .ok (.return_, 1) := by decide +kernel
theorem d37_75 : decode (mcode 37) 75 = .ok (.aload_n 0, 1) := by decide +kernel
theorem d37_76 : decode (mcode 37) 76 = .ok (.getfield 15, 3) := by decide +kernel
theorem d37_79 : decode (mcode 37) 79 = .ok (.iload_n 1, 1) := by decide +kernel
theorem d37_80 : decode (mcode 37) 80 = .ok (.iload_n 2, 1) := by decide +kernel
theorem d37_81 : decode (mcode 37) 81 = .ok (.iastore, 1) := by decide +kernel
theorem d37_82 : decode (mcode 37) 82 = .ok (.aload_n 0, 1) := by decide +kernel
theorem d37_83 : decode (mcode 37) 83 = .ok (.getfield 19, 3) := by decide +kernel
theorem d37_86 : decode (mcode 37) 86 = .ok (.iload_n 1, 1) := by decide +kernel
theorem d37_87 : decode (mcode 37) 87 = .ok (.iload_n 3, 1) := by decide +kernel
theorem d37_88 : decode (mcode 37) 88 = .ok (.iastore, 1) := by decide +kernel
theorem d37_89 : decode (mcode 37) 89 = .ok (.return_, 1) := by decide +kernel
theorem d38_0 : decode (mcode 38) 0 = .ok (.iconst (-1), 1) := by decide +kernel
theorem d38_1 : decode (mcode 38) 1 = .ok (.istore_n 1, 1) := by decide +kernel
theorem d38_2 : decode (mcode 38) 2 = .ok (.iconst 0, 1) := by decide +kernel
theorem d38_3 : decode (mcode 38) 3 = .ok (.istore_n 2, 1) := by decide +kernel
theorem d38_4 : decode (mcode 38) 4 = .ok (.iload_n 2, 1) := by decide +kernel
theorem d38_5 : decode (mcode 38) 5 = .ok (.aload_n 0, 1) := by decide +kernel
theorem d38_6 : decode (mcode 38) 6 = .ok (.getfield 47, 3) := by decide +kernel
theorem d38_9 : decode (mcode 38) 9 = .ok (.if_icmp .ge 35, 3) := by decide +kernel
theorem d38_12 : decode (mcode 38) 12 = .ok (.iload_n 1, 1) := by decide +kernel
theorem d38_13 : decode (mcode 38) 13 = .ok (.iconst (-1), 1) := by decide +kernel
theorem d38_14 : decode (mcode 38) 14 = .ok (.if_icmp .eq 22, 3) := by decide +kernel
theorem d38_17 : decode (mcode 38) 17 = .ok (.aload_n 0, 1) := by decide +kernel
theorem d38_18 : decode (mcode 38) 18 = .ok (.aload_n 0, 1) := by decide +kernel
theorem d38_19 : decode (mcode 38) 19 = .ok (.getfield 22, 3) := by decide +kernel
theorem d38_22 : decode (mcode 38) 22 = .ok (.iload_n 2, 1) := by decide +kernel
theorem d38_23 : decode (mcode 38) 23 = .ok (.iaload, 1) := by decide +kernel
theorem d38_24 : decode (mcode 38) 24 = .ok (.aload_n 0, 1) := by decide +kernel
theorem d38_25 : decode (mcode 38) 25 = .ok (.getfield 22, 3) := by decide +kernel
theorem d38_28 : decode (mcode 38) 28 = .ok (.iload_n 1, 1) := by decide +kernel
theorem d38_29 : decode (mcode 38) 29 = .ok (.iaload, 1) := by decide +kernel
theorem d38_30 : decode (mcode 38) 30 = .ok (.invokevirtual 89, 3) := by decide +kernel
theorem d38_33 : decode (mcode 38) 33 = .ok (.ifCond .eq 5, 3) := by decide +kernel
theorem d38_36 : decode (mcode 38) 36 = .ok (.iload_n 2, 1) := by decide +kernel
theorem d38_37 : decode (mcode 38) 37 = .ok (.istore_n 1, 1) := by decide +kernel
theorem d38_38 : decode (mcode 38) 38 = .ok (.iinc 2 1, 3) := by decide +kernel
theorem d38_41 : decode (mcode 38) 41 = .ok (.goto (-37), 3) := by decide +kernel
theorem d38_44 : decode (mcode 38) 44 = .ok (.iload_n 1, 1) := by decide +kernel
theorem d38_45 : decode (mcode 38) 45 = .ok (.iconst (-1), 1) := by decide +kernel
theorem d38_46 : decode (mcode 38) 46 = .ok (.if_icmp .ne 5, 3) := by decide +kernel
theorem d38_49 : decode (mcode 38) 49 = .ok (.iconst (-1), 1) := by decide +kernel
theorem d38_50 : decode (mcode 38) 50 = .ok (.ireturn, 1) := by decide +kernel
theorem d38_51 : decode (mcode 38) 51 = .ok (.aload_n 0, 1) := by decide +kernel
theorem d38_52 : decode (mcode 38) 52 = .ok (.getfield 22, 3) := by decide +kernel
theorem d38_55 : decode (mcode 38) 55 = .ok (.iload_n 1, 1) := by decide +kernel
theorem d38_56 : decode (mcode 38) 56 = .ok (.iaload, 1) := by decide +kernel
theorem d38_57 : decode (mcode 38) 57 = .ok (.istore_n 2, 1) := by decide +kernel
theorem d38_58 : decode (mcode 38) 58 = .ok (.aload_n 0, 1) := by decide +kernel
theorem d38_59 : decode (mcode 38) 59 = .ok (.dup, 1) := by decide +kernel
theorem d38_60 : decode (mcode 38) 60 = .ok (.getfield 47, 3) := by decide +kernel
theorem d38_63 : decode (mcode 38) 63 = .ok (.iconst 1, 1) := by decide +kernel
theorem d38_64 : decode (mcode 38) 64 = .ok (.isub, 1) := by decide +kernel
theorem d38_65 : decode (mcode 38) 65 = .ok (.putfield 47, 3) := by decide +kernel
theorem d38_68 : decode (mcode 38) 68 = .ok (.aload_n 0, 1) := by decide +kernel
theorem d38_69 : decode (mcode 38) 69 = .ok (.getfield 22, 3) := by decide +kernel
theorem d38_72 : decode (mcode 38) 72 = .ok (.iload_n 1, 1) := by decide +kernel
theorem d38_73 : decode (mcode 38) 73 = .ok (.aload_n 0, 1) := by decide +kernel
theorem d38_74 : decode (mcode 38) 74 = .ok (.getfield 22, 3) := by decide +kernel
theorem d38_77 : decode (mcode 38) 77 = .ok (.aload_n 0, 1) := by decide +kernel
theorem d38_78 : decode (mcode 38) 78 = .ok (.getfield 47, 3) := by decide +kernel
theorem d38_81 : decode (mcode 38) 81 = .ok (.iaload, 1) := by decide +kernel
theorem d38_82 : decode (mcode 38) 82 = .ok (.iastore, 1) := by decide +kernel
theorem d38_83 : decode (mcode 38) 83 = .ok (.iload_n 2, 1) := by decide +kernel
theorem d38_84 : decode (mcode 38) 84 = .ok (.ireturn, 1) := by decide +kernel
theorem d39_0 : decode (mcode 39) 0 = .ok (.aload_n 0, 1) := by decide +kernel
theorem d39_1 : decode (mcode 39) 1 = .ok (.getfield 19, 3) := by decide +kernel
theorem d39_4 : decode (mcode 39) 4 = .ok (.iload_n 1, 1) := by decide +kernel
theorem d39_5 : decode (mcode 39) 5 = .ok (.iaload, 1) := by decide +kernel
theorem d39_6 : decode (mcode 39) 6 = .ok (.aload_n 0, 1) := by decide +kernel
theorem d39_7 : decode (mcode 39) 7 = .ok (.getfield 19, 3) := by decide +kernel
theorem d39_10 : decode (mcode 39) 10 = .ok (.iload_n 2, 1) := by decide +kernel
theorem d39_11 : decode (mcode 39) 11 = .ok (.iaload, 1) := by decide +kernel
theorem d39_12 : decode (mcode 39) 12 = .ok (.if_icmp .gt 23, 3) := by decide +kernel
theorem d39_15 : decode (mcode 39) 15 = .ok (.aload_n 0, 1) := by decide +kernel
theorem d39_16 : decode (mcode 39) 16 = .ok (.getfield 19, 3) := by decide +kernel
theorem d39_19 : decode (mcode 39) 19 = .ok (.iload_n 1, 1) := by decide +kernel
theorem d39_20 : decode (mcode 39) 20 = .ok (.iaload, 1) := by decide +kernel
theorem d39_21 : decode (mcode 39) 21 = .ok (.aload_n 0, 1) := by decide +kernel
theorem d39_22 : decode (mcode 39) 22 = .ok (.getfield 19, 3) := by decide +kernel
theorem d39_25 : decode (mcode 39) 25 = .ok (.iload_n 2, 1) := by decide +kernel
theorem d39_26 : decode (mcode 39) 26 = .ok (.iaload, 1) := by decide +kernel
theorem d39_27 : decode (mcode 39) 27 = .ok (.if_icmp .ne 12, 3) := by decide +kernel
theorem d39_30 : decode (mcode 39) 30 = .ok (.iload_n 1, 1) := by decide +kernel
theorem d39_31 : decode (mcode 39) 31 = .ok (.iload_n 2, 1) := by decide +kernel
theorem d39_32 : decode (mcode 39) 32 = .ok (.if_icmp .ge 7, 3) := by decide +kernel
theorem d39_35 : decode (mcode 39) 35 = .ok (.iconst 1, 1) := by decide +kernel
theorem d39_36 : decode (mcode 39) 36 = .ok (.goto 4, 3) := by decide +kernel
theorem d39_39 : decode (mcode 39) 39 = .ok (.iconst 0, 1) := by decide +kernel
theorem d39_40 : decode (mcode 39) 40 = .ok (.ireturn, 1) := by decide +kernel
theorem d40_0 : decode (mcode 40) 0 = .ok (.aload_n 0, 1) := by decide +kernel
theorem d40_1 : decode (mcode 40) 1 = .ok (.invokespecial 3, 3) := by decide +kernel
theorem d40_4 : decode (mcode 40) 4 = .ok (.aload_n 0, 1) := by decide +kernel
theorem d40_5 : decode (mcode 40) 5 = .ok (.bipush 121, 2) := by decide +kernel
theorem d40_7 : decode (mcode 40) 7 = .ok (.newarray .int, 2) := by decide +kernel
theorem d40_9 : decode (mcode 40) 9 = .ok (.putfield 9, 3) := by decide +kernel
theorem d40_12 : decode (mcode 40) 12 = .ok (.aload_n 0, 1) := by decide +kernel
theorem d40_13 : decode (mcode 40) 13 = .ok (.bipush 121, 2) := by decide +kernel
theorem d40_15 : decode (mcode 40) 15 = .ok (.newarray .int, 2) := by decide +kernel
theorem d40_17 : decode (mcode 40) 17 = .ok (.putfield 15, 3) := by decide +kernel
theorem d40_20 : decode (mcode 40) 20 = .ok (.aload_n 0, 1) := by decide +kernel
theorem d40_21 : decode (mcode 40) 21 = .ok (.sipush 288, 3) := by decide +kernel
theorem d40_24 : decode (mcode 40) 24 = .ok (.newarray .int, 2) := by decide +kernel
theorem d40_26 : decode (mcode 40) 26 = .ok (.putfield 18, 3) := by decide +kernel
theorem d40_29 : decode (mcode 40) 29 = .ok (.return_, 1) := by decide +kernel
theorem d41_0 : decode (mcode 41) 0 = .ok (.aload_n 0, 1) := by decide +kernel
theorem d41_1 : decode (mcode 41) 1 = .ok (.iconst 0, 1) := by decide +kernel
theorem d41_2 : decode (mcode 41) 2 = .ok (.putfield 21, 3) := by decide +kernel
theorem d41_5 : decode (mcode 41) 5 = .ok (.aload_n 0, 1) := by decide +kernel
theorem d41_6 : decode (mcode 41) 6 = .ok (.iconst 0, 1) := by decide +kernel
theorem d41_7 : decode (mcode 41) 7 = .ok (.putfield 25, 3) := by decide +kernel
theorem d41_10 : decode (mcode 41) 10 = .ok (.aload_n 0, 1) := by decide +kernel
theorem d41_11 : decode (mcode 41) 11 = .ok (.getfield 18, 3) := by decide +kernel
theorem d41_14 : decode (mcode 41) 14 = .ok (.iconst 0, 1) := by decide +kernel
theorem d41_15 : decode (mcode 41) 15 = .ok (.invokestatic 28, 3) := by decide +kernel
theorem d41_18 : decode (mcode 41) 18 = .ok (.return_, 1) := by decide +kernel
theorem d42_0 : decode (mcode 42) 0 = .ok (.aload_n 0, 1) := by decide +kernel
theorem d42_1 : decode (mcode 42) 1 = .ok (.aload_n 1, 1) := by decide +kernel
theorem d42_2 : decode (mcode 42) 2 = .ok (.getfield 21, 3) := by decide +kernel
theorem d42_5 : decode (mcode 42) 5 = .ok (.putfield 21, 3) := by decide +kernel
theorem d42_8 : decode (mcode 42) 8 = .ok (.aload_n 0, 1) := by decide +kernel
theorem d42_9 : decode (mcode 42) 9 = .ok (.aload_n 1, 1) := by decide +kernel
theorem d42_10 : decode (mcode 42) 10 = .ok (.getfield 25, 3) := by decide +kernel
theorem d42_13 : decode (mcode 42) 13 = .ok (.putfield 25, 3) := by decide +kernel
theorem d42_16 : decode (mcode 42) 16 = .ok (.aload_n 1, 1) := by decide +kernel
theorem d42_17 : decode (mcode 42) 17 = .ok (.getfield 9, 3) := by decide +kernel
theorem d42_20 : decode (mcode 42) 20 = .ok (.iconst 0, 1) := by decide +kernel
theorem d42_21 : decode (mcode 42) 21 = .ok (.aload_n 0, 1) := by decide +kernel
theorem d42_22 : decode (mcode 42) 22 = .ok (.getfield 9, 3) := by decide +kernel
theorem d42_25 : decode (mcode 42) 25 = .ok (.iconst 0, 1) := by decide +kernel
theorem d42_26 : decode (mcode 42) 26 = .ok (.bipush 121, 2) := by decide +kernel
theorem d42_28 : decode (mcode 42) 28 = .ok (.invokestatic 34, 3) := by decide +kernel
theorem d42_31 : decode (mcode 42) 31 = .ok (.aload_n 1, 1) := by decide +kernel
theorem d42_32 : decode (mcode 42) 32 = .ok (.getfield 15, 3) := by decide +kernel
theorem d42_35 : decode (mcode 42) 35 = .ok (.iconst 0, 1) := by decide +kernel
theorem d42_36 : decode (mcode 42) 36 = .ok (.aload_n 0, 1) := by decide +kernel
theorem d42_37 : decode (mcode 42) 37 = .ok (.getfield 15, 3) := by decide +kernel
theorem d42_40 : decode (mcode 42) 40 = .ok (.iconst 0, 1) := by decide +kernel
theorem d42_41 : decode (mcode 42) 41 = .ok (.bipush 121, 2) := by decide +kernel
theorem d42_43 : decode (mcode 42) 43 = .ok (.invokestatic 34, 3) := by decide +kernel
theorem d42_46 : decode (mcode 42) 46 = .ok (.aload_n 1, 1) := by decide +kernel
theorem d42_47 : decode (mcode 42) 47 = .ok (.getfield 18, 3) := by decide +kernel
theorem d42_50 : decode (mcode 42) 50 = .ok (.iconst 0, 1) := by decide +kernel
theorem d42_51 : decode (mcode 42) 51 = .ok (.aload_n 0, 1) := by decide +kernel
theorem d42_52 : decode (mcode 42) 52 = .ok (.getfield 18, 3) := by decide +kernel
theorem d42_55 : decode (mcode 42) 55 = .ok (.iconst 0, 1) := by decide +kernel
theorem d42_56 : decode (mcode 42) 56 = .ok (.sipush 288, 3) := by decide +kernel
theorem d42_59 : decode (mcode 42) 59 = .ok (.invokestatic 34, 3) := by decide +kernel
theorem d42_62 : decode (mcode 42) 62 = .ok (.return_, 1) := by decide +kernel
theorem d43_0 : decode (mcode 43) 0 = .ok (.aload_n 0, 1) := by decide +kernel
theorem d43_1 : decode (mcode 43) 1 = .ok (.getfield 21, 3) := by decide +kernel
theorem d43_4 : decode (mcode 43) 4 = .ok (.bipush 121, 2) := by decide +kernel
theorem d43_6 : decode (mcode 43) 6 = .ok (.if_icmp .lt 4, 3) := by decide +kernel
theorem d43_9 : decode (mcode 43) 9 = .ok (.return_, 1) := by decide +kernel
theorem d43_10 : decode (mcode 43) 10 = .ok (.aload_n 0, 1) := by decide +kernel
theorem d43_11 : decode (mcode 43) 11 = .ok (.getfield 9, 3) := by decide +kernel
theorem d43_14 : decode (mcode 43) 14 = .ok (.aload_n 0, 1) := by decide +kernel
theorem d43_15 : decode (mcode 43) 15 = .ok (.getfield 21, 3) := by decide +kernel
theorem d43_18 : decode (mcode 43) 18 = .ok (.iload_n 2, 1) := by decide +kernel
theorem d43_19 : decode (mcode 43) 19 = .ok (.iastore, 1) := by decide +kernel
theorem d43_20 : decode (mcode 43) 20 = .ok (.aload_n 0, 1) := by decide +kernel
theorem d43_21 : decode (mcode 43) 21 = .ok (.getfield 15, 3) := by decide +kernel
theorem d43_24 : decode (mcode 43) 24 = .ok (.aload_n 0, 1) := by decide +kernel
theorem d43_25 : decode (mcode 43) 25 = .ok (.getfield 21, 3) := by decide +kernel
theorem d43_28 : decode (mcode 43) 28 = .ok (.iload_n 3, 1) := by decide +kernel
theorem d43_29 : decode (mcode 43) 29 = .ok (.iastore, 1) := by decide +kernel
theorem d43_30 : decode (mcode 43) 30 = .ok (.aload_n 0, 1) := by decide +kernel
theorem d43_31 : decode (mcode 43) 31 = .ok (.dup, 1) := by decide +kernel
theorem d43_32 : decode (mcode 43) 32 = .ok (.getfield 21, 3) := by decide +kernel
theorem d43_35 : decode (mcode 43) 35 = .ok (.iconst 1, 1) := by decide +kernel
theorem d43_36 : decode (mcode 43) 36 = .ok (.iadd, 1) := by decide +kernel
theorem d43_37 : decode (mcode 43) 37 = .ok (.putfield 21, 3) := by decide +kernel
theorem d43_40 : decode (mcode 43) 40 = .ok (.aload_n 0, 1) := by decide +kernel
theorem d43_41 : decode (mcode 43) 41 = .ok (.dup, 1) := by decide +kernel
theorem d43_42 : decode (mcode 43) 42 = .ok (.getfield 25, 3) := by decide +kernel
theorem d43_45 : decode (mcode 43) 45 = .ok (.aload_n 1, 1) := by decide +kernel
theorem d43_46 : decode (mcode 43) 46 = .ok (.iload_n 2, 1) := by decide +kernel
theorem d43_47 : decode (mcode 43) 47 = .ok (.iload_n 3, 1) := by decide +kernel
theorem d43_48 : decode (mcode 43) 48 = .ok (.invokevirtual 40, 3) := by decide +kernel
theorem d43_51 : decode (mcode 43) 51 = .ok (.iadd, 1) := by decide +kernel
theorem d43_52 : decode (mcode 43) 52 = .ok (.putfield 25, 3) := by decide +kernel
theorem d43_55 : decode (mcode 43) 55 = .ok (.iload_n 3, 1) := by decide +kernel
theorem d43_56 : decode (mcode 43) 56 = .ok (.iconst (-1), 1) := by decide +kernel
theorem d43_57 : decode (mcode 43) 57 = .ok (.if_icmp .ne 12, 3) := by decide +kernel
theorem d43_60 : decode (mcode 43) 60 = .ok (.aload_n 0, 1) := by decide +kernel
theorem d43_61 : decode (mcode 43) 61 = .ok (.aload_n 1, 1) := by decide +kernel
theorem d43_62 : decode (mcode 43) 62 = .ok (.iload_n 2, 1) := by decide +kernel
theorem d43_63 : decode (mcode 43) 63 = .ok (.invokevirtual 46, 3) := by decide +kernel
theorem d43_66 : decode (mcode 43) 66 = .ok (.goto 10, 3) := by decide +kernel
theorem d43_69 : decode (mcode 43) 69 = .ok (.aload_n 0, 1) := by decide +kernel
theorem d43_70 : decode (mcode 43) 70 = .ok (.aload_n 1, 1) := by decide +kernel
theorem d43_71 : decode (mcode 43) 71 = .ok (.iload_n 2, 1) := by decide +kernel
theorem d43_72 : decode (mcode 43) 72 = .ok (.iload_n 3, 1) := by decide +kernel
theorem d43_73 : decode (mcode 43) 73 = .ok (.invokevirtual 50, 3) := by decide +kernel
theorem d43_76 : decode (mcode 43) 76 = .ok (.return_, 1) := by decide +kernel
theorem d44_0 : decode (mcode 44) 0 = .ok (.aload_n 1, 1) := by decide +kernel
theorem d44_1 : decode (mcode 44) 1 = .ok (.iload_n 2, 1) := by decide +kernel
theorem d44_2 : decode (mcode 44) 2 = .ok (.invokevirtual 54, 3) := by decide +kernel
theorem d44_5 : decode (mcode 44) 5 = .ok (.istore 4, 2) := by decide +kernel
theorem d44_7 : decode (mcode 44) 7 = .ok (.aload_n 1, 1) := by decide +kernel
theorem d44_8 : decode (mcode 44) 8 = .ok (.iload_n 2, 1) := by decide +kernel
theorem d44_9 : decode (mcode 44) 9 = .ok (.invokevirtual 58, 3) := by decide +kernel
theorem d44_12 : decode (mcode 44) 12 = .ok (.istore 5, 2) := by decide +kernel
theorem d44_14 : decode (mcode 44) 14 = .ok (.aload_n 1, 1) := by decide +kernel
theorem d44_15 : decode (mcode 44) 15 = .ok (.iload_n 3, 1) := by decide +kernel
theorem d44_16 : decode (mcode 44) 16 = .ok (.invokevirtual 54, 3) := by decide +kernel
theorem d44_19 : decode (mcode 44) 19 = .ok (.istore 6, 2) := by decide +kernel
theorem d44_21 : decode (mcode 44) 21 = .ok (.aload_n 1, 1) := by decide +kernel
theorem d44_22 : decode (mcode 44) 22 = .ok (.iload_n 3, 1) := by decide +kernel
theorem d44_23 : decode (mcode 44) 23 = .ok (.invokevirtual 58, 3) := by decide +kernel
theorem d44_26 : decode (mcode 44) 26 = .ok (.istore 7, 2) := by decide +kernel
theorem d44_28 : decode (mcode 44) 28 = .ok (.aload_n 0, 1) := by decide +kernel
theorem d44_29 : decode (mcode 44) 29 = .ok (.aload_n 1, 1) := by decide +kernel
theorem d44_30 : decode (mcode 44) 30 = .ok (.iload 4, 2) := by decide +kernel
theorem d44_32 : decode (mcode 44) 32 = .ok (.iload 5, 2) := by decide +kernel
theorem d44_34 : decode (mcode 44) 34 = .ok (.iload 7, 2) := by decide +kernel
theorem d44_36 : decode (mcode 44) 36 = .ok (.invokestatic 61, 3) := by decide +kernel
theorem d44_39 : decode (mcode 44) 39 = .ok (.iconst 1, 1) := by decide +kernel
theorem d44_40 : decode (mcode 44) 40 = .ok (.iadd, 1) := by decide +kernel
theorem d44_41 : decode (mcode 44) 41 = .ok (.iload 5, 2) := by decide +kernel
theorem d44_43 : decode (mcode 44) 43 = .ok (.iload 7, 2) := by decide +kernel
theorem d44_45 : decode (mcode 44) 45 = .ok (.invokestatic 66, 3) := by decide +kernel
theorem d44_48 : decode (mcode 44) 48 = .ok (.invokevirtual 69, 3) := by decide +kernel
theorem d44_51 : decode (mcode 44) 51 = .ok (.aload_n 0, 1) := by decide +kernel
theorem d44_52 : decode (mcode 44) 52 = .ok (.aload_n 1, 1) := by decide +kernel
theorem d44_53 : decode (mcode 44) 53 = .ok (.iload 7, 2) := by decide +kernel
theorem d44_55 : decode (mcode 44) 55 = .ok (.iload 4, 2) := by decide +kernel
theorem d44_57 : decode (mcode 44) 57 = .ok (.iconst 1, 1) := by decide +kernel
theorem d44_58 : decode (mcode 44) 58 = .ok (.iadd, 1) := by decide +kernel
theorem d44_59 : decode (mcode 44) 59 = .ok (.iload 6, 2) := by decide +kernel
theorem d44_61 : decode (mcode 44) 61 = .ok (.invokevirtual 73, 3) := by decide +kernel
theorem d44_64 : decode (mcode 44) 64 = .ok (.return_, 1) := by decide +kernel
theorem d45_0 : decode (mcode 45) 0 = .ok (.aload_n 1, 1) := by decide +kernel
theorem d45_1 : decode (mcode 45) 1 = .ok (.iload_n 2, 1) := by decide +kernel
theorem d45_2 : decode (mcode 45) 2 = .ok (.invokevirtual 54, 3) := by decide +kernel
theorem d45_5 : decode (mcode 45) 5 = .ok (.istore_n 3, 1) := by decide +kernel
theorem d45_6 : decode (mcode 45) 6 = .ok (.aload_n 1, 1) := by decide +kernel
theorem d45_7 : decode (mcode 45) 7 = .ok (.iload_n 2, 1) := by decide +kernel
theorem d45_8 : decode (mcode 45) 8 = .ok (.invokevirtual 58, 3) := by decide +kernel
theorem d45_11 : decode (mcode 45) 11 = .ok (.istore 4, 2) := by decide +kernel
theorem d45_13 : decode (mcode 45) 13 = .ok (.aload_n 1, 1) := by decide +kernel
theorem d45_14 : decode (mcode 45) 14 = .ok (.iload_n 2, 1) := by decide +kernel
theorem d45_15 : decode (mcode 45) 15 = .ok (.invokevirtual 76, 3) := by decide +kernel
theorem d45_18 : decode (mcode 45) 18 = .ok (.istore 5, 2) := by decide +kernel
theorem d45_20 : decode (mcode 45) 20 = .ok (.iload 5, 2) := by decide +kernel
theorem d45_22 : decode (mcode 45) 22 = .ok (.iload_n 3, 1) := by decide +kernel
theorem d45_23 : decode (mcode 45) 23 = .ok (.iconst 1, 1) := by decide +kernel
theorem d45_24 : decode (mcode 45) 24 = .ok (.iadd, 1) := by decide +kernel
theorem d45_25 : decode (mcode 45) 25 = .ok (.if_icmp .ne 15, 3) := by decide +kernel
theorem d45_28 : decode (mcode 45) 28 = .ok (.aload_n 0, 1) := by decide +kernel
theorem d45_29 : decode (mcode 45) 29 = .ok (.aload_n 1, 1) := by decide +kernel
theorem d45_30 : decode (mcode 45) 30 = .ok (.iload 4, 2) := by decide +kernel
theorem d45_32 : decode (mcode 45) 32 = .ok (.iconst 0, 1) := by decide +kernel
theorem d45_33 : decode (mcode 45) 33 = .ok (.iload_n 3, 1) := by decide +kernel
theorem d45_34 : decode (mcode 45) 34 = .ok (.invokevirtual 73, 3) := by decide +kernel
theorem d45_37 : decode (mcode 45) 37 = .ok (.goto 72, 3) := by decide +kernel
theorem d45_40 : decode (mcode 45) 40 = .ok (.iload 5, 2) := by decide +kernel
theorem d45_42 : decode (mcode 45) 42 = .ok (.aload_n 1, 1) := by decide +kernel
theorem d45_43 : decode (mcode 45) 43 = .ok (.getfield 79, 3) := by decide +kernel
theorem d45_46 : decode (mcode 45) 46 = .ok (.iconst 1, 1) := by decide +kernel
theorem d45_47 : decode (mcode 45) 47 = .ok (.isub, 1) := by decide +kernel
theorem d45_48 : decode (mcode 45) 48 = .ok (.iload_n 3, 1) := by decide +kernel
theorem d45_49 : decode (mcode 45) 49 = .ok (.isub, 1) := by decide +kernel
theorem d45_50 : decode (mcode 45) 50 = .ok (.if_icmp .ne 22, 3) := by decide +kernel
theorem d45_53 : decode (mcode 45) 53 = .ok (.aload_n 0, 1) := by decide +kernel
theorem d45_54 : decode (mcode 45) 54 = .ok (.aload_n 1, 1) := by decide +kernel
theorem d45_55 : decode (mcode 45) 55 = .ok (.iload 4, 2) := by decide +kernel
theorem d45_57 : decode (mcode 45) 57 = .ok (.iload_n 3, 1) := by decide +kernel
theorem d45_58 : decode (mcode 45) 58 = .ok (.iconst 1, 1) := by decide +kernel
theorem d45_59 : decode (mcode 45) 59 = .ok (.iadd, 1) := by decide +kernel
theorem d45_60 : decode (mcode 45) 60 = .ok (.aload_n 1, 1) := by decide +kernel
theorem d45_61 : decode (mcode 45) 61 = .ok (.getfield 79, 3) := by decide +kernel
theorem d45_64 : decode (mcode 45) 64 = .ok (.iconst 1, 1) := by decide +kernel
theorem d45_65 : decode (mcode 45) 65 = .ok (.isub, 1) := by decide +kernel
theorem d45_66 : decode (mcode 45) 66 = .ok (.invokevirtual 73, 3) := by decide +kernel
theorem d45_69 : decode (mcode 45) 69 = .ok (.goto 40, 3) := by decide +kernel
theorem d45_72 : decode (mcode 45) 72 = .ok (.iload 5, 2) := by decide +kernel
theorem d45_74 : decode (mcode 45) 74 = .ok (.iload 4, 2) := by decide +kernel
theorem d45_76 : decode (mcode 45) 76 = .ok (.iconst 1, 1) := by decide +kernel
theorem d45_77 : decode (mcode 45) 77 = .ok (.iadd, 1) := by decide +kernel
theorem d45_78 : decode (mcode 45) 78 = .ok (.if_icmp .ne 15, 3) := by decide +kernel
theorem d45_81 : decode (mcode 45) 81 = .ok (.aload_n 0, 1) := by decide +kernel
theorem d45_82 : decode (mcode 45) 82 = .ok (.aload_n 1, 1) := by decide +kernel
theorem d45_83 : decode (mcode 45) 83 = .ok (.iload_n 3, 1) := by decide +kernel
theorem d45_84 : decode (mcode 45) 84 = .ok (.iconst 0, 1) := by decide +kernel
theorem d45_85 : decode (mcode 45) 85 = .ok (.iload 4, 2) := by decide +kernel
theorem d45_87 : decode (mcode 45) 87 = .ok (.invokevirtual 69, 3) := by decide +kernel
theorem d45_90 : decode (mcode 45) 90 = .ok (.goto 19, 3) := by decide +kernel
theorem d45_93 : decode (mcode 45) 93 = .ok (.aload_n 0, 1) := by decide +kernel
theorem d45_94 : decode (mcode 45) 94 = .ok (.aload_n 1, 1) := by decide +kernel
theorem d45_95 : decode (mcode 45) 95 = .ok (.iload_n 3, 1) := by decide +kernel
theorem d45_96 : decode (mcode 45) 96 = .ok (.iload 4, 2) := by decide +kernel
theorem d45_98 : decode (mcode 45) 98 = .ok (.iconst 1, 1) := by decide +kernel
theorem d45_99 : decode (mcode 45) 99 = .ok (.iadd, 1) := by decide +kernel
theorem d45_100 : decode (mcode 45) 100 = .ok (.aload_n 1, 1) := by decide +kernel
theorem d45_101 : decode (mcode 45) 101 = .ok (.getfield 82, 3) := by decide +kernel
theorem d45_104 : decode (mcode 45) 104 = .ok (.iconst 1, 1) := by decide +kernel
theorem d45_105 : decode (mcode 45) 105 = .ok (.isub, 1) := by decide +kernel
theorem d45_106 : decode (mcode 45) 106 = .ok (.invokevirtual 69, 3) := by decide +kernel
theorem d45_109 : decode (mcode 45) 109 = .ok (.return_, 1) := by decide +kernel
theorem d46_0 : decode (mcode 46) 0 = .ok (.iload_n 3, 1) := by decide +kernel
theorem d46_1 : decode (mcode 46) 1 = .ok (.istore 5, 2) := by decide +kernel
theorem d46_3 : decode (mcode 46) 3 = .ok (.iload 5, 2) := by decide +kernel
theorem d46_5 : decode (mcode 46) 5 = .ok (.iload 4, 2) := by decide +kernel
theorem d46_7 : decode (mcode 46) 7 = .ok (.if_icmp .gt 31, 3) := by decide +kernel
theorem d46_10 : decode (mcode 46) 10 = .ok (.aload_n 0, 1) := by decide +kernel
theorem d46_11 : decode (mcode 46) 11 = .ok (.getfield 18, 3) := by decide +kernel
theorem d46_14 : decode (mcode 46) 14 = .ok (.iconst 2, 1) := by decide +kernel
theorem d46_15 : decode (mcode 46) 15 = .ok (.iload_n 2, 1) := by decide +kernel
theorem d46_16 : decode (mcode 46) 16 = .ok (.aload_n 1, 1) := by decide +kernel
theorem d46_17 : decode (mcode 46) 17 = .ok (.getfield 82, 3) := by decide +kernel
theorem d46_20 : decode (mcode 46) 20 = .ok (.imul, 1) := by decide +kernel
theorem d46_21 : decode (mcode 46) 21 = .ok (.iload 5, 2) := by decide +kernel
theorem d46_23 : decode (mcode 46) 23 = .ok (.iadd, 1) := by decide +kernel
theorem d46_24 : decode (mcode 46) 24 = .ok (.imul, 1) := by decide +kernel
theorem d46_25 : decode (mcode 46) 25 = .ok (.iconst 1, 1) := by decide +kernel
theorem d46_26 : decode (mcode 46) 26 = .ok (.iadd, 1) := by decide +kernel
theorem d46_27 : decode (mcode 46) 27 = .ok (.dup2, 1) := by decide +kernel
theorem d46_28 : decode (mcode 46) 28 = .ok (.iaload, 1) := by decide +kernel
theorem d46_29 : decode (mcode 46) 29 = .ok (.iconst 1, 1) := by decide +kernel
theorem d46_30 : decode (mcode 46) 30 = .ok (.iadd, 1) := by decide +kernel
theorem d46_31 : decode (mcode 46) 31 = .ok (.iastore, 1) := by decide +kernel
theorem d46_32 : decode (mcode 46) 32 = .ok (.iinc 5 1, 3) := by decide +kernel
theorem d46_35 : decode (mcode 46) 35 = .ok (.goto (-32), 3) := by decide +kernel
theorem d46_38 : decode (mcode 46) 38 = .ok (.return_, 1) := by decide +kernel
theorem d47_0 : decode (mcode 47) 0 = .ok (.iload_n 3, 1) := by decide +kernel
theorem d47_1 : decode (mcode 47) 1 = .ok (.istore 5, 2) := by decide +kernel
theorem d47_3 : decode (mcode 47) 3 = .ok (.iload 5, 2) := by decide +kernel
theorem d47_5 : decode (mcode 47) 5 = .ok (.iload 4, 2) := by decide +kernel
theorem d47_7 : decode (mcode 47) 7 = .ok (.if_icmp .gt 29, 3) := by decide +kernel
theorem d47_10 : decode (mcode 47) 10 = .ok (.aload_n 0, 1) := by decide +kernel
theorem d47_11 : decode (mcode 47) 11 = .ok (.getfield 18, 3) := by decide +kernel
theorem d47_14 : decode (mcode 47) 14 = .ok (.iconst 2, 1) := by decide +kernel
theorem d47_15 : decode (mcode 47) 15 = .ok (.iload 5, 2) := by decide +kernel
theorem d47_17 : decode (mcode 47) 17 = .ok (.aload_n 1, 1) := by decide +kernel
theorem d47_18 : decode (mcode 47) 18 = .ok (.getfield 82, 3) := by decide +kernel
theorem d47_21 : decode (mcode 47) 21 = .ok (.imul, 1) := by decide +kernel
theorem d47_22 : decode (mcode 47) 22 = .ok (.iload_n 2, 1) := by decide +kernel
theorem d47_23 : decode (mcode 47) 23 = .ok (.iadd, 1) := by decide +kernel
theorem d47_24 : decode (mcode 47) 24 = .ok (.imul, 1) := by decide +kernel
theorem d47_25 : decode (mcode 47) 25 = .ok (.dup2, 1) := by decide +kernel
theorem d47_26 : decode (mcode 47) 26 = .ok (.iaload, 1) := by decide +kernel
theorem d47_27 : decode (mcode 47) 27 = .ok (.iconst 1, 1) := by decide +kernel
theorem d47_28 : decode (mcode 47) 28 = .ok (.iadd, 1) := by decide +kernel
theorem d47_29 : decode (mcode 47) 29 = .ok (.iastore, 1) := by decide +kernel
theorem d47_30 : decode (mcode 47) 30 = .ok (.iinc 5 1, 3) := by decide +kernel
theorem d47_33 : decode (mcode 47) 33 = .ok (.goto (-30), 3) := by decide +kernel
theorem d47_36 : decode (mcode 47) 36 = .ok (.return_, 1) := by decide +kernel
theorem d48_0 : decode (mcode 48) 0 = .ok (.aload_n 0, 1) := by decide +kernel
theorem d48_1 : decode (mcode 48) 1 = .ok (.invokespecial 3, 3) := by decide +kernel
theorem d48_4 : decode (mcode 48) 4 = .ok (.aload_n 0, 1) := by decide +kernel
theorem d48_5 : decode (mcode 48) 5 = .ok (.sipush 144, 3) := by decide +kernel
theorem d48_8 : decode (mcode 48) 8 = .ok (.newarray .int, 2) := by decide +kernel
theorem d48_10 : decode (mcode 48) 10 = .ok (.putfield 9, 3) := by decide +kernel
theorem d48_13 : decode (mcode 48) 13 = .ok (.aload_n 0, 1) := by decide +kernel
theorem d48_14 : decode (mcode 48) 14 = .ok (.sipush 144, 3) := by decide +kernel
theorem d48_17 : decode (mcode 48) 17 = .ok (.newarray .int, 2) := by decide +kernel
theorem d48_19 : decode (mcode 48) 19 = .ok (.putfield 15, 3) := by decide +kernel
theorem d48_22 : decode (mcode 48) 22 = .ok (.aload_n 0, 1) := by decide +kernel
theorem d48_23 : decode (mcode 48) 23 = .ok (.sipush 144, 3) := by decide +kernel
theorem d48_26 : decode (mcode 48) 26 = .ok (.newarray .int, 2) := by decide +kernel
theorem d48_28 : decode (mcode 48) 28 = .ok (.putfield 18, 3) := by decide +kernel
theorem d48_31 : decode (mcode 48) 31 = .ok (.aload_n 0, 1) := by decide +kernel
theorem d48_32 : decode (mcode 48) 32 = .ok (.sipush 144, 3) := by decide +kernel
theorem d48_35 : decode (mcode 48) 35 = .ok (.newarray .int, 2) := by decide +kernel
theorem d48_37 : decode (mcode 48) 37 = .ok (.putfield 21, 3) := by decide +kernel
theorem d48_40 : decode (mcode 48) 40 = .ok (.aload_n 0, 1) := by decide +kernel
theorem d48_41 : decode (mcode 48) 41 = .ok (.sipush 144, 3) := by decide +kernel
theorem d48_44 : decode (mcode 48) 44 = .ok (.newarray .int, 2) := by decide +kernel
theorem d48_46 : decode (mcode 48) 46 = .ok (.putfield 24, 3) := by decide +kernel
theorem d48_49 : decode (mcode 48) 49 = .ok (.aload_n 0, 1) := by decide +kernel
theorem d48_50 : decode (mcode 48) 50 = .ok (.sipush 144, 3) := by decide +kernel
theorem d48_53 : decode (mcode 48) 53 = .ok (.newarray .int, 2) := by decide +kernel
theorem d48_55 : decode (mcode 48) 55 = .ok (.putfield 27, 3) := by decide +kernel
theorem d48_58 : decode (mcode 48) 58 = .ok (.aload_n 0, 1) := by decide +kernel
theorem d48_59 : decode (mcode 48) 59 = .ok (.getfield 18, 3) := by decide +kernel
theorem d48_62 : decode (mcode 48) 62 = .ok (.iconst (-1), 1) := by decide +kernel
theorem d48_63 : decode (mcode 48) 63 = .ok (.invokestatic 30, 3) := by decide +kernel
theorem d48_66 : decode (mcode 48) 66 = .ok (.return_, 1) := by decide +kernel
theorem d49_0 : decode (mcode 49) 0 = .ok (.aload_n 0, 1) := by decide +kernel
theorem d49_1 : decode (mcode 49) 1 = .ok (.iconst 0, 1) := by decide +kernel
theorem d49_2 : decode (mcode 49) 2 = .ok (.putfield 36, 3) := by decide +kernel
theorem d49_5 : decode (mcode 49) 5 = .ok (.aload_n 0, 1) := by decide +kernel
theorem d49_6 : decode (mcode 49) 6 = .ok (.iconst 0, 1) := by decide +kernel
theorem d49_7 : decode (mcode 49) 7 = .ok (.putfield 40, 3) := by decide +kernel
theorem d49_10 : decode (mcode 49) 10 = .ok (.aload_n 0, 1) := by decide +kernel
theorem d49_11 : decode (mcode 49) 11 = .ok (.iconst 0, 1) := by decide +kernel
theorem d49_12 : decode (mcode 49) 12 = .ok (.putfield 44, 3) := by decide +kernel
theorem d49_15 : decode (mcode 49) 15 = .ok (.aload_n 0, 1) := by decide +kernel
theorem d49_16 : decode (mcode 49) 16 = .ok (.iconst 0, 1) := by decide +kernel
theorem d49_17 : decode (mcode 49) 17 = .ok (.putfield 47, 3) := by decide +kernel
theorem d49_20 : decode (mcode 49) 20 = .ok (.aload_n 0, 1) := by decide +kernel
theorem d49_21 : decode (mcode 49) 21 = .ok (.getfield 18, 3) := by decide +kernel
theorem d49_24 : decode (mcode 49) 24 = .ok (.iconst (-1), 1) := by decide +kernel
theorem d49_25 : decode (mcode 49) 25 = .ok (.invokestatic 30, 3) := by decide +kernel
theorem d49_28 : decode (mcode 49) 28 = .ok (.return_, 1) := by decide +kernel
theorem d50_0 : decode (mcode 50) 0 = .ok (.aload_n 0, 1) := by decide +kernel
theorem d50_1 : decode (mcode 50) 1 = .ok (.aload_n 1, 1) := by decide +kernel
theorem d50_2 : decode (mcode 50) 2 = .ok (.getfield 36, 3) := by decide +kernel
theorem d50_5 : decode (mcode 50) 5 = .ok (.putfield 36, 3) := by decide +kernel
theorem d50_8 : decode (mcode 50) 8 = .ok (.aload_n 0, 1) := by decide +kernel
theorem d50_9 : decode (mcode 50) 9 = .ok (.aload_n 1, 1) := by decide +kernel
theorem d50_10 : decode (mcode 50) 10 = .ok (.getfield 40, 3) := by decide +kernel
theorem d50_13 : decode (mcode 50) 13 = .ok (.putfield 40, 3) := by decide +kernel
theorem d50_16 : decode (mcode 50) 16 = .ok (.aload_n 0, 1) := by decide +kernel
theorem d50_17 : decode (mcode 50) 17 = .ok (.aload_n 1, 1) := by decide +kernel
theorem d50_18 : decode (mcode 50) 18 = .ok (.getfield 44, 3) := by decide +kernel
theorem d50_21 : decode (mcode 50) 21 = .ok (.putfield 44, 3) := by decide +kernel
theorem d50_24 : decode (mcode 50) 24 = .ok (.aload_n 0, 1) := by decide +kernel
theorem d50_25 : decode (mcode 50) 25 = .ok (.aload_n 1, 1) := by decide +kernel
theorem d50_26 : decode (mcode 50) 26 = .ok (.getfield 47, 3) := by decide +kernel
theorem d50_29 : decode (mcode 50) 29 = .ok (.putfield 47, 3) := by decide +kernel
theorem d50_32 : decode (mcode 50) 32 = .ok (.aload_n 1, 1) := by decide +kernel
theorem d50_33 : decode (mcode 50) 33 = .ok (.getfield 9, 3) := by decide +kernel
theorem d50_36 : decode (mcode 50) 36 = .ok (.iconst 0, 1) := by decide +kernel
theorem d50_37 : decode (mcode 50) 37 = .ok (.aload_n 0, 1) := by decide +kernel
theorem d50_38 : decode (mcode 50) 38 = .ok (.getfield 9, 3) := by decide +kernel
theorem d50_41 : decode (mcode 50) 41 = .ok (.iconst 0, 1) := by decide +kernel
theorem d50_42 : decode (mcode 50) 42 = .ok (.sipush 144, 3) := by decide +kernel
theorem d50_45 : decode (mcode 50) 45 = .ok (.invokestatic 50, 3) := by decide +kernel
theorem d50_48 : decode (mcode 50) 48 = .ok (.aload_n 1, 1) := by decide +kernel
theorem d50_49 : decode (mcode 50) 49 = .ok (.getfield 15, 3) := by decide +kernel
theorem d50_52 : decode (mcode 50) 52 = .ok (.iconst 0, 1) := by decide +kernel
theorem d50_53 : decode (mcode 50) 53 = .ok (.aload_n 0, 1) := by decide +kernel
theorem d50_54 : decode (mcode 50) 54 = .ok (.getfield 15, 3) := by decide +kernel
theorem d50_57 : decode (mcode 50) 57 = .ok (.iconst 0, 1) := by decide +kernel
theorem d50_58 : decode (mcode 50) 58 = .ok (.sipush 144, 3) := by decide +kernel
theorem d50_61 : decode (mcode 50) 61 = .ok (.invokestatic 50, 3) := by decide +kernel
theorem d50_64 : decode (mcode 50) 64 = .ok (.aload_n 1, 1) := by decide +kernel
theorem d50_65 : decode (mcode 50) 65 = .ok (.getfield 18, 3) := by decide +kernel
theorem d50_68 : decode (mcode 50) 68 = .ok (.iconst 0, 1) := by decide +kernel
theorem d50_69 : decode (mcode 50) 69 = .ok (.aload_n 0, 1) := by decide +kernel
theorem d50_70 : decode (mcode 50) 70 = .ok (.getfield 18, 3) := by decide +kernel
theorem d50_73 : decode (mcode 50) 73 = .ok (.iconst 0, 1) := by decide +kernel
theorem d50_74 : decode (mcode 50) 74 = .ok (.sipush 144, 3) := by decide +kernel
theorem d50_77 : decode (mcode 50) 77 = .ok (.invokestatic 50, 3) := by decide +kernel
theorem d50_80 : decode (mcode 50) 80 = .ok (.aload_n 1, 1) := by decide +kernel
theorem d50_81 : decode (mcode 50) 81 = .ok (.getfield 21, 3) := by decide +kernel
theorem d50_84 : decode (mcode 50) 84 = .ok (.iconst 0, 1) := by decide +kernel
theorem d50_85 : decode (mcode 50) 85 = .ok (.aload_n 0, 1) := by decide +kernel
theorem d50_86 : decode (mcode 50) 86 = .ok (.getfield 21, 3) := by decide +kernel
theorem d50_89 : decode (mcode 50) 89 = .ok (.iconst 0, 1) := by decide +kernel
theorem d50_90 : decode (mcode 50) 90 = .ok (.sipush 144, 3) := by decide +kernel
theorem d50_93 : decode (mcode 50) 93 = .ok (.invokestatic 50, 3) := by decide +kernel
theorem d50_96 : decode (mcode 50) 96 = .ok (.aload_n 1, 1) := by decide +kernel
theorem d50_97 : decode (mcode 50) 97 = .ok (.getfield 24, 3) := by decide +kernel
theorem d50_100 : decode (mcode 50) 100 = .ok (.iconst 0, 1) := by decide +kernel
theorem d50_101 : decode (mcode 50) 101 = .ok (.aload_n 0, 1) := by decide +kernel
theorem d50_102 : decode (mcode 50) 102 = .ok (.getfield 24, 3) := by decide +kernel
theorem d50_105 : decode (mcode 50) 105 = .ok (.iconst 0, 1) := by decide +kernel
theorem d50_106 : decode (mcode 50) 106 = .ok (.sipush 144, 3) := by decide +kernel
theorem d50_109 : decode (mcode 50) 109 = .ok (.invokestatic 50, 3) := by decide +kernel
theorem d50_112 : decode (mcode 50) 112 = .ok (.aload_n 1, 1) := by decide +kernel
theorem d50_113 : decode (mcode 50) 113 = .ok (.getfield 27, 3) := by decide +kernel
theorem d50_116 : decode (mcode 50) 116 = .ok (.iconst 0, 1) := by decide +kernel
theorem d50_117 : decode (mcode 50) 117 = .ok (.aload_n 0, 1) := by decide +kernel
theorem d50_118 : decode (mcode 50) 118 = .ok (.getfield 27, 3) := by decide +kernel
theorem d50_121 : decode (mcode 50) 121 = .ok (.iconst 0, 1) := by decide +kernel
theorem d50_122 : decode (mcode 50) 122 = .ok (.sipush 144, 3) := by decide +kernel
theorem d50_125 : decode (mcode 50) 125 = .ok (.invokestatic 50, 3) := by decide +kernel
theorem d50_128 : decode (mcode 50) 128 = .ok (.return_, 1) := by decide +kernel
theorem d51_0 : decode (mcode 51) 0 = .ok (.aload_n 0, 1) := by decide +kernel
theorem d51_1 : decode (mcode 51) 1 = .ok (.invokevirtual 56, 3) := by decide +kernel
theorem d51_4 : decode (mcode 51) 4 = .ok (.aload_n 0, 1) := by decide +kernel
theorem d51_5 : decode (mcode 51) 5 = .ok (.aload_n 1, 1) := by decide +kernel
theorem d51_6 : decode (mcode 51) 6 = .ok (.invokevirtual 59, 3) := by decide +kernel
theorem d51_9 : decode (mcode 51) 9 = .ok (.aload_n 1, 1) := by decide +kernel
theorem d51_10 : decode (mcode 51) 10 = .ok (.invokevirtual 65, 3) := by decide +kernel
theorem d51_13 : decode (mcode 51) 13 = .ok (.isub, 1) := by decide +kernel
theorem d51_14 : decode (mcode 51) 14 = .ok (.putfield 40, 3) := by decide +kernel
theorem d51_17 : decode (mcode 51) 17 = .ok (.aload_n 0, 1) := by decide +kernel
theorem d51_18 : decode (mcode 51) 18 = .ok (.aload_n 0, 1) := by decide +kernel
theorem d51_19 : decode (mcode 51) 19 = .ok (.getfield 40, 3) := by decide +kernel
theorem d51_22 : decode (mcode 51) 22 = .ok (.ifCond .le 7, 3) := by decide +kernel
theorem d51_25 : decode (mcode 51) 25 = .ok (.iconst 1, 1) := by decide +kernel
theorem d51_26 : decode (mcode 51) 26 = .ok (.goto 4, 3) := by decide +kernel
theorem d51_29 : decode (mcode 51) 29 = .ok (.iconst 0, 1) := by decide +kernel
theorem d51_30 : decode (mcode 51) 30 = .ok (.putfield 36, 3) := by decide +kernel
theorem d51_33 : decode (mcode 51) 33 = .ok (.return_, 1) := by decide +kernel
theorem d52_0 : decode (mcode 52) 0 = .ok (.aload_n 2, 1) := by decide +kernel
theorem d52_1 : decode (mcode 52) 1 = .ok (.invokevirtual 68, 3) := by decide +kernel
theorem d52_4 : decode (mcode 52) 4 = .ok (.istore_n 3, 1) := by decide +kernel
theorem d52_5 : decode (mcode 52) 5 = .ok (.iload_n 3, 1) := by decide +kernel
theorem d52_6 : decode (mcode 52) 6 = .ok (.iconst (-1), 1) := by decide +kernel
theorem d52_7 : decode (mcode 52) 7 = .ok (.if_icmp .eq 18, 3) := by decide +kernel
theorem d52_10 : decode (mcode 52) 10 = .ok (.aload_n 0, 1) := by decide +kernel
theorem d52_11 : decode (mcode 52) 11 = .ok (.aload_n 1, 1) := by decide +kernel
theorem d52_12 : decode (mcode 52) 12 = .ok (.aload_n 2, 1) := by decide +kernel
theorem d52_13 : decode (mcode 52) 13 = .ok (.getfield 73, 3) := by decide +kernel
theorem d52_16 : decode (mcode 52) 16 = .ok (.iload_n 3, 1) := by decide +kernel
theorem d52_17 : decode (mcode 52) 17 = .ok (.iaload, 1) := by decide +kernel
theorem d52_18 : decode (mcode 52) 18 = .ok (.iload_n 3, 1) := by decide +kernel
theorem d52_19 : decode (mcode 52) 19 = .ok (.invokevirtual 76, 3) := by decide +kernel
theorem d52_22 : decode (mcode 52) 22 = .ok (.goto 36, 3) := by decide +kernel
theorem d52_25 : decode (mcode 52) 25 = .ok (.aload_n 0, 1) := by decide +kernel
theorem d52_26 : decode (mcode 52) 26 = .ok (.aload_n 1, 1) := by decide +kernel
theorem d52_27 : decode (mcode 52) 27 = .ok (.invokevirtual 80, 3) := by decide +kernel
theorem d52_30 : decode (mcode 52) 30 = .ok (.istore_n 3, 1) := by decide +kernel
theorem d52_31 : decode (mcode 52) 31 = .ok (.iload_n 3, 1) := by decide +kernel
theorem d52_32 : decode (mcode 52) 32 = .ok (.iconst (-1), 1) := by decide +kernel
theorem d52_33 : decode (mcode 52) 33 = .ok (.if_icmp .eq 13, 3) := by decide +kernel
theorem d52_36 : decode (mcode 52) 36 = .ok (.aload_n 0, 1) := by decide +kernel
theorem d52_37 : decode (mcode 52) 37 = .ok (.getfield 47, 3) := by decide +kernel
theorem d52_40 : decode (mcode 52) 40 = .ok (.sipush 144, 3) := by decide +kernel
theorem d52_43 : decode (mcode 52) 43 = .ok (.if_icmp .lt 9, 3) := by decide +kernel
theorem d52_46 : decode (mcode 52) 46 = .ok (.aload_n 0, 1) := by decide +kernel
theorem d52_47 : decode (mcode 52) 47 = .ok (.iconst 0, 1) := by decide +kernel
theorem d52_48 : decode (mcode 52) 48 = .ok (.putfield 36, 3) := by decide +kernel
theorem d52_51 : decode (mcode 52) 51 = .ok (.return_, 1) := by decide +kernel
theorem d52_52 : decode (mcode 52) 52 = .ok (.aload_n 0, 1) := by decide +kernel
theorem d52_53 : decode (mcode 52) 53 = .ok (.aload_n 1, 1) := by decide +kernel
theorem d52_54 : decode (mcode 52) 54 = .ok (.iload_n 3, 1) := by decide +kernel
theorem d52_55 : decode (mcode 52) 55 = .ok (.invokevirtual 84, 3) := by decide +kernel
theorem d52_58 : decode (mcode 52) 58 = .ok (.aload_n 0, 1) := by decide +kernel
theorem d52_59 : decode (mcode 52) 59 = .ok (.dup, 1) := by decide +kernel
theorem d52_60 : decode (mcode 52) 60 = .ok (.getfield 44, 3) := by decide +kernel
theorem d52_63 : decode (mcode 52) 63 = .ok (.iconst 1, 1) := by decide +kernel
theorem d52_64 : decode (mcode 52) 64 = .ok (.iadd, 1) := by decide +kernel
theorem d52_65 : decode (mcode 52) 65 = .ok (.putfield 44, 3) := by decide +kernel
theorem d52_68 : decode (mcode 52) 68 = .ok (.aload_n 0, 1) := by decide +kernel
theorem d52_69 : decode (mcode 52) 69 = .ok (.getfield 21, 3) := by decide +kernel
theorem d52_72 : decode (mcode 52) 72 = .ok (.iload_n 3, 1) := by decide +kernel
theorem d52_73 : decode (mcode 52) 73 = .ok (.aload_n 0, 1) := by decide +kernel
theorem d52_74 : decode (mcode 52) 74 = .ok (.getfield 44, 3) := by decide +kernel
theorem d52_77 : decode (mcode 52) 77 = .ok (.iastore, 1) := by decide +kernel
theorem d52_78 : decode (mcode 52) 78 = .ok (.aload_n 0, 1) := by decide +kernel
theorem d52_79 : decode (mcode 52) 79 = .ok (.aload_n 0, 1) := by decide +kernel
theorem d52_80 : decode (mcode 52) 80 = .ok (.getfield 44, 3) := by decide +kernel
theorem d52_83 : decode (mcode 52) 83 = .ok (.aload_n 0, 1) := by decide +kernel
theorem d52_84 : decode (mcode 52) 84 = .ok (.getfield 40, 3) := by decide +kernel
theorem d52_87 : decode (mcode 52) 87 = .ok (.if_icmp .ge 7, 3) := by decide +kernel
theorem d52_90 : decode (mcode 52) 90 = .ok (.iconst 1, 1) := by decide +kernel
theorem d52_91 : decode (mcode 52) 91 = .ok (.goto 4, 3) := by decide +kernel
theorem d52_94 : decode (mcode 52) 94 = .ok (.iconst 0, 1) := by decide +kernel
theorem d52_95 : decode (mcode 52) 95 = .ok (.putfield 36, 3) := by decide +kernel
theorem d52_98 : decode (mcode 52) 98 = .ok (.aload_n 2, 1) := by decide +kernel
theorem d52_99 : decode (mcode 52) 99 = .ok (.aload_n 1, 1) := by decide +kernel
theorem d52_100 : decode (mcode 52) 100 = .ok (.aload_n 0, 1) := by decide +kernel
theorem d52_101 : decode (mcode 52) 101 = .ok (.iload_n 3, 1) := by decide +kernel
theorem d52_102 : decode (mcode 52) 102 = .ok (.invokevirtual 88, 3) := by decide +kernel
theorem d52_105 : decode (mcode 52) 105 = .ok (.return_, 1) := by decide +kernel
theorem d53_0 : decode (mcode 53) 0 = .ok (.aload_n 0, 1) := by decide +kernel
theorem d53_1 : decode (mcode 53) 1 = .ok (.getfield 9, 3) := by decide +kernel
theorem d53_4 : decode (mcode 53) 4 = .ok (.iload_n 3, 1) := by decide +kernel
theorem d53_5 : decode (mcode 53) 5 = .ok (.aload_n 0, 1) := by decide +kernel
theorem d53_6 : decode (mcode 53) 6 = .ok (.getfield 9, 3) := by decide +kernel
theorem d53_9 : decode (mcode 53) 9 = .ok (.iload_n 2, 1) := by decide +kernel
theorem d53_10 : decode (mcode 53) 10 = .ok (.iaload, 1) := by decide +kernel
theorem d53_11 : decode (mcode 53) 11 = .ok (.aload_n 1, 1) := by decide +kernel
theorem d53_12 : decode (mcode 53) 12 = .ok (.iload_n 2, 1) := by decide +kernel
theorem d53_13 : decode (mcode 53) 13 = .ok (.iload_n 3, 1) := by decide +kernel
theorem d53_14 : decode (mcode 53) 14 = .ok (.invokevirtual 92, 3) := by decide +kernel
theorem d53_17 : decode (mcode 53) 17 = .ok (.iadd, 1) := by decide +kernel
theorem d53_18 : decode (mcode 53) 18 = .ok (.iastore, 1) := by decide +kernel
theorem d53_19 : decode (mcode 53) 19 = .ok (.aload_n 0, 1) := by decide +kernel
theorem d53_20 : decode (mcode 53) 20 = .ok (.getfield 15, 3) := by decide +kernel
theorem d53_23 : decode (mcode 53) 23 = .ok (.iload_n 3, 1) := by decide +kernel
theorem d53_24 : decode (mcode 53) 24 = .ok (.iload_n 2, 1) := by decide +kernel
theorem d53_25 : decode (mcode 53) 25 = .ok (.iastore, 1) := by decide +kernel
theorem d53_26 : decode (mcode 53) 26 = .ok (.aload_n 0, 1) := by decide +kernel
theorem d53_27 : decode (mcode 53) 27 = .ok (.getfield 18, 3) := by decide +kernel
theorem d53_30 : decode (mcode 53) 30 = .ok (.iload_n 3, 1) := by decide +kernel
theorem d53_31 : decode (mcode 53) 31 = .ok (.aload_n 0, 1) := by decide +kernel
theorem d53_32 : decode (mcode 53) 32 = .ok (.getfield 18, 3) := by decide +kernel
theorem d53_35 : decode (mcode 53) 35 = .ok (.iload_n 2, 1) := by decide +kernel
theorem d53_36 : decode (mcode 53) 36 = .ok (.iaload, 1) := by decide +kernel
theorem d53_37 : decode (mcode 53) 37 = .ok (.iastore, 1) := by decide +kernel
theorem d53_38 : decode (mcode 53) 38 = .ok (.return_, 1) := by decide +kernel
theorem d54_0 : decode (mcode 54) 0 = .ok (.aload_n 0, 1) := by decide +kernel
theorem d54_1 : decode (mcode 54) 1 = .ok (.getfield 9, 3) := by decide +kernel
theorem d54_4 : decode (mcode 54) 4 = .ok (.iload_n 2, 1) := by decide +kernel
theorem d54_5 : decode (mcode 54) 5 = .ok (.aload_n 1, 1) := by decide +kernel
theorem d54_6 : decode (mcode 54) 6 = .ok (.getfield 96, 3) := by decide +kernel
theorem d54_9 : decode (mcode 54) 9 = .ok (.iload_n 2, 1) := by decide +kernel
theorem d54_10 : decode (mcode 54) 10 = .ok (.iaload, 1) := by decide +kernel
theorem d54_11 : decode (mcode 54) 11 = .ok (.iastore, 1) := by decide +kernel
theorem d54_12 : decode (mcode 54) 12 = .ok (.aload_n 0, 1) := by decide +kernel
theorem d54_13 : decode (mcode 54) 13 = .ok (.getfield 15, 3) := by decide +kernel
theorem d54_16 : decode (mcode 54) 16 = .ok (.iload_n 2, 1) := by decide +kernel
theorem d54_17 : decode (mcode 54) 17 = .ok (.iconst (-1), 1) := by decide +kernel
theorem d54_18 : decode (mcode 54) 18 = .ok (.iastore, 1) := by decide +kernel
theorem d54_19 : decode (mcode 54) 19 = .ok (.aload_n 0, 1) := by decide +kernel
theorem d54_20 : decode (mcode 54) 20 = .ok (.getfield 18, 3) := by decide +kernel
theorem d54_23 : decode (mcode 54) 23 = .ok (.iload_n 2, 1) := by decide +kernel
theorem d54_24 : decode (mcode 54) 24 = .ok (.aload_n 0, 1) := by decide +kernel
theorem d54_25 : decode (mcode 54) 25 = .ok (.getfield 47, 3) := by decide +kernel
theorem d54_28 : decode (mcode 54) 28 = .ok (.iastore, 1) := by decide +kernel
theorem d54_29 : decode (mcode 54) 29 = .ok (.aload_n 0, 1) := by decide +kernel
theorem d54_30 : decode (mcode 54) 30 = .ok (.getfield 24, 3) := by decide +kernel
theorem d54_33 : decode (mcode 54) 33 = .ok (.aload_n 0, 1) := by decide +kernel
theorem d54_34 : decode (mcode 54) 34 = .ok (.getfield 47, 3) := by decide +kernel
theorem d54_37 : decode (mcode 54) 37 = .ok (.iload_n 2, 1) := by decide +kernel
theorem d54_38 : decode (mcode 54) 38 = .ok (.iastore, 1) := by decide +kernel
theorem d54_39 : decode (mcode 54) 39 = .ok (.aload_n 0, 1) := by decide +kernel
theorem d54_40 : decode (mcode 54) 40 = .ok (.getfield 27, 3) := by decide +kernel
theorem d54_43 : decode (mcode 54) 43 = .ok (.aload_n 0, 1) := by decide +kernel
theorem d54_44 : decode (mcode 54) 44 = .ok (.getfield 47, 3) := by decide +kernel
theorem d54_47 : decode (mcode 54) 47 = .ok (.iconst 0, 1) := by decide +kernel
theorem d54_48 : decode (mcode 54) 48 = .ok (.iastore, 1) := by decide +kernel
theorem d54_49 : decode (mcode 54) 49 = .ok (.aload_n 0, 1) := by decide +kernel
theorem d54_50 : decode (mcode 54) 50 = .ok (.dup, 1) := by decide +kernel
theorem d54_51 : decode (mcode 54) 51 = .ok (.getfield 47, 3) := by decide +kernel
theorem d54_54 : decode (mcode 54) 54 = .ok (.iconst 1, 1) := by decide +kernel
theorem d54_55 : decode (mcode 54) 55 = .ok (.iadd, 1) := by decide +kernel
theorem d54_56 : decode (mcode 54) 56 = .ok (.putfield 47, 3) := by decide +kernel
theorem d54_59 : decode (mcode 54) 59 = .ok (.return_, 1) := by decide +kernel
theorem d55_0 : decode (mcode 55) 0 = .ok (.iconst (-1), 1) := by decide +kernel
theorem d55_1 : decode (mcode 55) 1 = .ok (.istore_n 2, 1) := by decide +kernel
theorem d55_2 : decode (mcode 55) 2 = .ok (.iconst 0, 1) := by decide +kernel
theorem d55_3 : decode (mcode 55) 3 = .ok (.istore_n 3, 1) := by decide +kernel
theorem d55_4 : decode (mcode 55) 4 = .ok (.iload_n 3, 1) := by decide +kernel
theorem d55_5 : decode (mcode 55) 5 = .ok (.aload_n 1, 1) := by decide +kernel
theorem d55_6 : decode (mcode 55) 6 = .ok (.invokevirtual 59, 3) := by decide +kernel
theorem d55_9 : decode (mcode 55) 9 = .ok (.if_icmp .ge 48, 3) := by decide +kernel
theorem d55_12 : decode (mcode 55) 12 = .ok (.aload_n 0, 1) := by decide +kernel
theorem d55_13 : decode (mcode 55) 13 = .ok (.iload_n 3, 1) := by decide +kernel
theorem d55_14 : decode (mcode 55) 14 = .ok (.invokevirtual 99, 3) := by decide +kernel
theorem d55_17 : decode (mcode 55) 17 = .ok (.ifCond .ne 34, 3) := by decide +kernel
theorem d55_20 : decode (mcode 55) 20 = .ok (.aload_n 1, 1) := by decide +kernel
theorem d55_21 : decode (mcode 55) 21 = .ok (.getfield 103, 3) := by decide +kernel
theorem d55_24 : decode (mcode 55) 24 = .ok (.iload_n 3, 1) := by decide +kernel
theorem d55_25 : decode (mcode 55) 25 = .ok (.baload, 1) := by decide +kernel
theorem d55_26 : decode (mcode 55) 26 = .ok (.ifCond .ne 25, 3) := by decide +kernel
theorem d55_29 : decode (mcode 55) 29 = .ok (.iload_n 2, 1) := by decide +kernel
theorem d55_30 : decode (mcode 55) 30 = .ok (.iconst (-1), 1) := by decide +kernel
theorem d55_31 : decode (mcode 55) 31 = .ok (.if_icmp .eq 18, 3) := by decide +kernel
theorem d55_34 : decode (mcode 55) 34 = .ok (.aload_n 1, 1) := by decide +kernel
theorem d55_35 : decode (mcode 55) 35 = .ok (.getfield 107, 3) := by decide +kernel
theorem d55_38 : decode (mcode 55) 38 = .ok (.iload_n 3, 1) := by decide +kernel
theorem d55_39 : decode (mcode 55) 39 = .ok (.iaload, 1) := by decide +kernel
theorem d55_40 : decode (mcode 55) 40 = .ok (.aload_n 1, 1) := by decide +kernel
theorem d55_41 : decode (mcode 55) 41 = .ok (.getfield 107, 3) := by decide +kernel
theorem d55_44 : decode (mcode 55) 44 = .ok (.iload_n 2, 1) := by decide +kernel
theorem d55_45 : decode (mcode 55) 45 = .ok (.iaload, 1) := by decide +kernel
theorem d55_46 : decode (mcode 55) 46 = .ok (.if_icmp .le 5, 3) := by decide +kernel
theorem d55_49 : decode (mcode 55) 49 = .ok (.iload_n 3, 1) := by decide +kernel
theorem d55_50 : decode (mcode 55) 50 = .ok (.istore_n 2, 1) := by decide +kernel
theorem d55_51 : decode (mcode 55) 51 = .ok (.iinc 3 1, 3) := by decide +kernel
theorem d55_54 : decode (mcode 55) 54 = .ok (.goto (-50), 3) := by decide +kernel
theorem d55_57 : decode (mcode 55) 57 = .ok (.iload_n 2, 1) := by decide +kernel
theorem d55_58 : decode (mcode 55) 58 = .ok (.ireturn, 1) := by decide +kernel
theorem d56_0 : decode (mcode 56) 0 = .ok (.aload_n 0, 1) := by decide +kernel
theorem d56_1 : decode (mcode 56) 1 = .ok (.getfield 18, 3) := by decide +kernel
theorem d56_4 : decode (mcode 56) 4 = .ok (.iload_n 1, 1) := by decide +kernel
theorem d56_5 : decode (mcode 56) 5 = .ok (.iaload, 1) := by decide +kernel
theorem d56_6 : decode (mcode 56) 6 = .ok (.iconst (-1), 1) := by decide +kernel
theorem d56_7 : decode (mcode 56) 7 = .ok (.if_icmp .eq 7, 3) := by decide +kernel
theorem d56_10 : decode (mcode 56) 10 = .ok (.iconst 1, 1) := by decide +kernel
theorem d56_11 : decode (mcode 56) 11 = .ok (.goto 4, 3) := by decide +kernel
theorem d56_14 : decode (mcode 56) 14 = .ok (.iconst 0, 1) := by decide +kernel
theorem d56_15 : decode (mcode 56) 15 = .ok (.ireturn, 1) := by decide +kernel
theorem d57_0 : decode (mcode 57) 0 = .ok (.iload_n 1, 1) := by decide +kernel
theorem d57_1 : decode (mcode 57) 1 = .ok (.ifCond .lt 15, 3) := by decide +kernel
theorem d57_4 : decode (mcode 57) 4 = .ok (.iload_n 1, 1) := by decide +kernel
theorem d57_5 : decode (mcode 57) 5 = .ok (.aload_n 0, 1) := by decide +kernel
theorem d57_6 : decode (mcode 57) 6 = .ok (.getfield 47, 3) := by decide +kernel
theorem d57_9 : decode (mcode 57) 9 = .ok (.if_icmp .ge 7, 3) := by decide +kernel
theorem d57_12 : decode (mcode 57) 12 = .ok (.iconst 1, 1) := by decide +kernel
theorem d57_13 : decode (mcode 57) 13 = .ok (.goto 4, 3) := by decide +kernel
theorem d57_16 : decode (mcode 57) 16 = .ok (.iconst 0, 1) := by decide +kernel
theorem d57_17 : decode (mcode 57) 17 = .ok (.ireturn, 1) := by decide +kernel
theorem d58_0 : decode (mcode 58) 0 = .ok (.iconst 0, 1) := by decide +kernel
theorem d58_1 : decode (mcode 58) 1 = .ok (.istore_n 3, 1) := by decide +kernel
theorem d58_2 : decode (mcode 58) 2 = .ok (.iconst 0, 1) := by decide +kernel
theorem d58_3 : decode (mcode 58) 3 = .ok (.istore 4, 2) := by decide +kernel
theorem d58_5 : decode (mcode 58) 5 = .ok (.iload 4, 2) := by decide +kernel
theorem d58_7 : decode (mcode 58) 7 = .ok (.aload_n 1, 1) := by decide +kernel
theorem d58_8 : decode (mcode 58) 8 = .ok (.invokevirtual 59, 3) := by decide +kernel
theorem d58_11 : decode (mcode 58) 11 = .ok (.if_icmp .ge 23, 3) := by decide +kernel
theorem d58_14 : decode (mcode 58) 14 = .ok (.aload_n 0, 1) := by decide +kernel
theorem d58_15 : decode (mcode 58) 15 = .ok (.getfield 18, 3) := by decide +kernel
theorem d58_18 : decode (mcode 58) 18 = .ok (.iload 4, 2) := by decide +kernel
theorem d58_20 : decode (mcode 58) 20 = .ok (.iaload, 1) := by decide +kernel
theorem d58_21 : decode (mcode 58) 21 = .ok (.iload_n 2, 1) := by decide +kernel
theorem d58_22 : decode (mcode 58) 22 = .ok (.if_icmp .ne 6, 3) := by decide +kernel
theorem d58_25 : decode (mcode 58) 25 = .ok (.iinc 3 1, 3) := by decide +kernel
theorem d58_28 : decode (mcode 58) 28 = .ok (.iinc 4 1, 3) := by decide +kernel
theorem d58_31 : decode (mcode 58) 31 = .ok (.goto (-26), 3) := by decide +kernel
theorem d58_34 : decode (mcode 58) 34 = .ok (.iload_n 3, 1) := by decide +kernel
theorem d58_35 : decode (mcode 58) 35 = .ok (.ireturn, 1) := by decide +kernel
theorem d59_0 : decode (mcode 59) 0 = .ok (.aload_n 0, 1) := by decide +kernel
theorem d59_1 : decode (mcode 59) 1 = .ok (.iload_n 1, 1) := by decide +kernel
theorem d59_2 : decode (mcode 59) 2 = .ok (.invokevirtual 99, 3) := by decide +kernel
theorem d59_5 : decode (mcode 59) 5 = .ok (.ifCond .ne 5, 3) := by decide +kernel
theorem d59_8 : decode (mcode 59) 8 = .ok (.iconst (-1), 1) := by decide +kernel
theorem d59_9 : decode (mcode 59) 9 = .ok (.ireturn, 1) := by decide +kernel
theorem d59_10 : decode (mcode 59) 10 = .ok (.iconst 0, 1) := by decide +kernel
theorem d59_11 : decode (mcode 59) 11 = .ok (.istore_n 2, 1) := by decide +kernel
theorem d59_12 : decode (mcode 59) 12 = .ok (.aload_n 0, 1) := by decide +kernel
theorem d59_13 : decode (mcode 59) 13 = .ok (.getfield 15, 3) := by decide +kernel
theorem d59_16 : decode (mcode 59) 16 = .ok (.iload_n 1, 1) := by decide +kernel
theorem d59_17 : decode (mcode 59) 17 = .ok (.iaload, 1) := by decide +kernel
theorem d59_18 : decode (mcode 59) 18 = .ok (.istore_n 3, 1) := by decide +kernel
theorem d59_19 : decode (mcode 59) 19 = .ok (.iload_n 3, 1) := by decide +kernel
theorem d59_20 : decode (mcode 59) 20 = .ok (.iconst (-1), 1) := by decide +kernel
theorem d59_21 : decode (mcode 59) 21 = .ok (.if_icmp .eq 23, 3) := by decide +kernel
theorem d59_24 : decode (mcode 59) 24 = .ok (.iload_n 2, 1) := by decide +kernel
theorem d59_25 : decode (mcode 59) 25 = .ok (.sipush 144, 3) := by decide +kernel
theorem d59_28 : decode (mcode 59) 28 = .ok (.if_icmp .ge 16, 3) := by decide +kernel
theorem d59_31 : decode (mcode 59) 31 = .ok (.iinc 2 1, 3) := by decide +kernel
theorem d59_34 : decode (mcode 59) 34 = .ok (.aload_n 0, 1) := by decide +kernel
theorem d59_35 : decode (mcode 59) 35 = .ok (.getfield 15, 3) := by decide +kernel
theorem d59_38 : decode (mcode 59) 38 = .ok (.iload_n 3, 1) := by decide +kernel
theorem d59_39 : decode (mcode 59) 39 = .ok (.iaload, 1) := by decide +kernel
theorem d59_40 : decode (mcode 59) 40 = .ok (.istore_n 3, 1) := by decide +kernel
theorem d59_41 : decode (mcode 59) 41 = .ok (.goto (-22), 3) := by decide +kernel
theorem d59_44 : decode (mcode 59) 44 = .ok (.iload_n 2, 1) := by decide +kernel
theorem d59_45 : decode (mcode 59) 45 = .ok (.ireturn, 1) := by decide +kernel
theorem d60_0 : decode (mcode 60) 0 = .ok (.iconst 0, 1) := by decide +kernel
theorem d60_1 : decode (mcode 60) 1 = .ok (.istore 4, 2) := by decide +kernel
theorem d60_3 : decode (mcode 60) 3 = .ok (.iload 4, 2) := by decide +kernel
theorem d60_5 : decode (mcode 60) 5 = .ok (.aload_n 1, 1) := by decide +kernel
theorem d60_6 : decode (mcode 60) 6 = .ok (.invokevirtual 59, 3) := by decide +kernel
theorem d60_9 : decode (mcode 60) 9 = .ok (.if_icmp .ge 57, 3) := by decide +kernel
theorem d60_12 : decode (mcode 60) 12 = .ok (.aload_n 0, 1) := by decide +kernel
theorem d60_13 : decode (mcode 60) 13 = .ok (.getfield 18, 3) := by decide +kernel
theorem d60_16 : decode (mcode 60) 16 = .ok (.iload 4, 2) := by decide +kernel
theorem d60_18 : decode (mcode 60) 18 = .ok (.iaload, 1) := by decide +kernel
theorem d60_19 : decode (mcode 60) 19 = .ok (.iload_n 2, 1) := by decide +kernel
theorem d60_20 : decode (mcode 60) 20 = .ok (.if_icmp .ne 40, 3) := by decide +kernel
theorem d60_23 : decode (mcode 60) 23 = .ok (.aload_n 0, 1) := by decide +kernel
theorem d60_24 : decode (mcode 60) 24 = .ok (.getfield 9, 3) := by decide +kernel
theorem d60_27 : decode (mcode 60) 27 = .ok (.iload 4, 2) := by decide +kernel
theorem d60_29 : decode (mcode 60) 29 = .ok (.iaload, 1) := by decide +kernel
theorem d60_30 : decode (mcode 60) 30 = .ok (.i2l, 1) := by decide +kernel
theorem d60_31 : decode (mcode 60) 31 = .ok (.iload_n 3, 1) := by decide +kernel
theorem d60_32 : decode (mcode 60) 32 = .ok (.i2l, 1) := by decide +kernel
theorem d60_33 : decode (mcode 60) 33 = .ok (.ldc2_w 110, 3) := by decide +kernel
theorem d60_36 : decode (mcode 60) 36 = .ok (.lmul, 1) := by decide +kernel
theorem d60_37 : decode (mcode 60) 37 = .ok (.ladd, 1) := by decide +kernel
theorem d60_38 : decode (mcode 60) 38 = .ok (.lstore 5, 2) := by decide +kernel
theorem d60_40 : decode (mcode 60) 40 = .ok (.lload 5, 2) := by decide +kernel
theorem d60_42 : decode (mcode 60) 42 = .ok (.ldc2_w 114, 3) := by decide +kernel
theorem d60_45 : decode (mcode 60) 45 = .ok (.lcmp, 1) := by decide +kernel
theorem d60_46 : decode (mcode 60) 46 = .ok (.ifCond .lt 12, 3) := by decide +kernel
theorem d60_49 : decode (mcode 60) 49 = .ok (.lload 5, 2) := by decide +kernel
theorem d60_51 : decode (mcode 60) 51 = .ok (.ldc2_w 116, 3) := by decide +kernel
theorem d60_54 : decode (mcode 60) 54 = .ok (.lcmp, 1) := by decide +kernel
theorem d60_55 : decode (mcode 60) 55 = .ok (.ifCond .le 5, 3) := by decide +kernel
theorem d60_58 : decode (mcode 60) 58 = .ok (.iconst 0, 1) := by decide +kernel
theorem d60_59 : decode (mcode 60) 59 = .ok (.ireturn, 1) := by decide +kernel
theorem d60_60 : decode (mcode 60) 60 = .ok (.iinc 4 1, 3) := by decide +kernel
theorem d60_63 : decode (mcode 60) 63 = .ok (.goto (-60), 3) := by decide +kernel
theorem d60_66 : decode (mcode 60) 66 = .ok (.iconst 1, 1) := by decide +kernel
theorem d60_67 : decode (mcode 60) 67 = .ok (.ireturn, 1) := by decide +kernel
theorem d61_0 : decode (mcode 61) 0 = .ok (.iconst 0, 1) := by decide +kernel
theorem d61_1 : decode (mcode 61) 1 = .ok (.istore 4, 2) := by decide +kernel
theorem d61_3 : decode (mcode 61) 3 = .ok (.iload 4, 2) := by decide +kernel
theorem d61_5 : decode (mcode 61) 5 = .ok (.aload_n 1, 1) := by decide +kernel
theorem d61_6 : decode (mcode 61) 6 = .ok (.invokevirtual 59, 3) := by decide +kernel
theorem d61_9 : decode (mcode 61) 9 = .ok (.if_icmp .ge 35, 3) := by decide +kernel
theorem d61_12 : decode (mcode 61) 12 = .ok (.aload_n 0, 1) := by decide +kernel
theorem d61_13 : decode (mcode 61) 13 = .ok (.getfield 18, 3) := by decide +kernel
theorem d61_16 : decode (mcode 61) 16 = .ok (.iload 4, 2) := by decide +kernel
theorem d61_18 : decode (mcode 61) 18 = .ok (.iaload, 1) := by decide +kernel
theorem d61_19 : decode (mcode 61) 19 = .ok (.iload_n 2, 1) := by decide +kernel
theorem d61_20 : decode (mcode 61) 20 = .ok (.if_icmp .ne 18, 3) := by decide +kernel
theorem d61_23 : decode (mcode 61) 23 = .ok (.aload_n 0, 1) := by decide +kernel
theorem d61_24 : decode (mcode 61) 24 = .ok (.getfield 9, 3) := by decide +kernel
theorem d61_27 : decode (mcode 61) 27 = .ok (.iload 4, 2) := by decide +kernel
theorem d61_29 : decode (mcode 61) 29 = .ok (.dup2, 1) := by decide +kernel
theorem d61_30 : decode (mcode 61) 30 = .ok (.iaload, 1) := by decide +kernel
theorem d61_31 : decode (mcode 61) 31 = .ok (.iload_n 3, 1) := by decide +kernel
theorem d61_32 : decode (mcode 61) 32 = .ok (.sipush 255, 3) := by decide +kernel
theorem d61_35 : decode (mcode 61) 35 = .ok (.imul, 1) := by decide +kernel
theorem d61_36 : decode (mcode 61) 36 = .ok (.iadd, 1) := by decide +kernel
theorem d61_37 : decode (mcode 61) 37 = .ok (.iastore, 1) := by decide +kernel
theorem d61_38 : decode (mcode 61) 38 = .ok (.iinc 4 1, 3) := by decide +kernel
theorem d61_41 : decode (mcode 61) 41 = .ok (.goto (-38), 3) := by decide +kernel
theorem d61_44 : decode (mcode 61) 44 = .ok (.aload_n 0, 1) := by decide +kernel
theorem d61_45 : decode (mcode 61) 45 = .ok (.getfield 27, 3) := by decide +kernel
theorem d61_48 : decode (mcode 61) 48 = .ok (.iload_n 2, 1) := by decide +kernel
theorem d61_49 : decode (mcode 61) 49 = .ok (.dup2, 1) := by decide +kernel
theorem d61_50 : decode (mcode 61) 50 = .ok (.iaload, 1) := by decide +kernel
theorem d61_51 : decode (mcode 61) 51 = .ok (.iload_n 3, 1) := by decide +kernel
theorem d61_52 : decode (mcode 61) 52 = .ok (.iadd, 1) := by decide +kernel
theorem d61_53 : decode (mcode 61) 53 = .ok (.iastore, 1) := by decide +kernel
theorem d61_54 : decode (mcode 61) 54 = .ok (.return_, 1) := by decide +kernel
theorem d62_0 : decode (mcode 62) 0 = .ok (.lconst 0, 1) := by decide +kernel
theorem d62_1 : decode (mcode 62) 1 = .ok (.lstore_n 3, 1) := by decide +kernel
theorem d62_2 : decode (mcode 62) 2 = .ok (.iconst 0, 1) := by decide +kernel
theorem d62_3 : decode (mcode 62) 3 = .ok (.istore 5, 2) := by decide +kernel
theorem d62_5 : decode (mcode 62) 5 = .ok (.iload 5, 2) := by decide +kernel
theorem d62_7 : decode (mcode 62) 7 = .ok (.aload_n 1, 1) := by decide +kernel
theorem d62_8 : decode (mcode 62) 8 = .ok (.invokevirtual 59, 3) := by decide +kernel
theorem d62_11 : decode (mcode 62) 11 = .ok (.if_icmp .ge 69, 3) := by decide +kernel
theorem d62_14 : decode (mcode 62) 14 = .ok (.aload_n 0, 1) := by decide +kernel
theorem d62_15 : decode (mcode 62) 15 = .ok (.iload 5, 2) := by decide +kernel
theorem d62_17 : decode (mcode 62) 17 = .ok (.invokevirtual 99, 3) := by decide +kernel
theorem d62_20 : decode (mcode 62) 20 = .ok (.ifCond .eq 54, 3) := by decide +kernel
theorem d62_23 : decode (mcode 62) 23 = .ok (.aload_n 0, 1) := by decide +kernel
theorem d62_24 : decode (mcode 62) 24 = .ok (.getfield 9, 3) := by decide +kernel
theorem d62_27 : decode (mcode 62) 27 = .ok (.iload 5, 2) := by decide +kernel
theorem d62_29 : decode (mcode 62) 29 = .ok (.iaload, 1) := by decide +kernel
theorem d62_30 : decode (mcode 62) 30 = .ok (.i2l, 1) := by decide +kernel
theorem d62_31 : decode (mcode 62) 31 = .ok (.iload_n 2, 1) := by decide +kernel
theorem d62_32 : decode (mcode 62) 32 = .ok (.i2l, 1) := by decide +kernel
theorem d62_33 : decode (mcode 62) 33 = .ok (.lsub, 1) := by decide +kernel
theorem d62_34 : decode (mcode 62) 34 = .ok (.invokestatic 118, 3) := by decide +kernel
theorem d62_37 : decode (mcode 62) 37 = .ok (.lstore 6, 2) := by decide +kernel
theorem d62_39 : decode (mcode 62) 39 = .ok (.lload 6, 2) := by decide +kernel
theorem d62_41 : decode (mcode 62) 41 = .ok (.ldc2_w 124, 3) := by decide +kernel
theorem d62_44 : decode (mcode 62) 44 = .ok (.lcmp, 1) := by decide +kernel
theorem d62_45 : decode (mcode 62) 45 = .ok (.ifCond .gt 17, 3) := by decide +kernel
theorem d62_48 : decode (mcode 62) 48 = .ok (.lload 6, 2) := by decide +kernel
theorem d62_50 : decode (mcode 62) 50 = .ok (.lload 6, 2) := by decide +kernel
theorem d62_52 : decode (mcode 62) 52 = .ok (.lmul, 1) := by decide +kernel
theorem d62_53 : decode (mcode 62) 53 = .ok (.ldc2_w 128, 3) := by decide +kernel
theorem d62_56 : decode (mcode 62) 56 = .ok (.lload_n 3, 1) := by decide +kernel
theorem d62_57 : decode (mcode 62) 57 = .ok (.lsub, 1) := by decide +kernel
theorem d62_58 : decode (mcode 62) 58 = .ok (.lcmp, 1) := by decide +kernel
theorem d62_59 : decode (mcode 62) 59 = .ok (.ifCond .le 7, 3) := by decide +kernel
theorem d62_62 : decode (mcode 62) 62 = .ok (.ldc2_w 130, 3) := by decide +kernel
theorem d62_65 : decode (mcode 62) 65 = .ok (.lreturn, 1) := by decide +kernel
theorem d62_66 : decode (mcode 62) 66 = .ok (.lload_n 3, 1) := by decide +kernel
theorem d62_67 : decode (mcode 62) 67 = .ok (.lload 6, 2) := by decide +kernel
theorem d62_69 : decode (mcode 62) 69 = .ok (.lload 6, 2) := by decide +kernel
theorem d62_71 : decode (mcode 62) 71 = .ok (.lmul, 1) := by decide +kernel
theorem d62_72 : decode (mcode 62) 72 = .ok (.ladd, 1) := by decide +kernel
theorem d62_73 : decode (mcode 62) 73 = .ok (.lstore_n 3, 1) := by decide +kernel
theorem d62_74 : decode (mcode 62) 74 = .ok (.iinc 5 1, 3) := by decide +kernel
theorem d62_77 : decode (mcode 62) 77 = .ok (.goto (-72), 3) := by decide +kernel
theorem d62_80 : decode (mcode 62) 80 = .ok (.lload_n 3, 1) := by decide +kernel
theorem d62_81 : decode (mcode 62) 81 = .ok (.lreturn, 1) := by decide +kernel
theorem d63_0 : decode (mcode 63) 0 = .ok (.iconst (-1), 1) := by decide +kernel
theorem d63_1 : decode (mcode 63) 1 = .ok (.istore_n 2, 1) := by decide +kernel
theorem d63_2 : decode (mcode 63) 2 = .ok (.iconst 0, 1) := by decide +kernel
theorem d63_3 : decode (mcode 63) 3 = .ok (.istore_n 3, 1) := by decide +kernel
theorem d63_4 : decode (mcode 63) 4 = .ok (.iload_n 3, 1) := by decide +kernel
theorem d63_5 : decode (mcode 63) 5 = .ok (.aload_n 1, 1) := by decide +kernel
theorem d63_6 : decode (mcode 63) 6 = .ok (.invokevirtual 59, 3) := by decide +kernel
theorem d63_9 : decode (mcode 63) 9 = .ok (.if_icmp .ge 39, 3) := by decide +kernel
theorem d63_12 : decode (mcode 63) 12 = .ok (.aload_n 0, 1) := by decide +kernel
theorem d63_13 : decode (mcode 63) 13 = .ok (.iload_n 3, 1) := by decide +kernel
theorem d63_14 : decode (mcode 63) 14 = .ok (.invokevirtual 99, 3) := by decide +kernel
theorem d63_17 : decode (mcode 63) 17 = .ok (.ifCond .eq 25, 3) := by decide +kernel
theorem d63_20 : decode (mcode 63) 20 = .ok (.iload_n 2, 1) := by decide +kernel
theorem d63_21 : decode (mcode 63) 21 = .ok (.iconst (-1), 1) := by decide +kernel
theorem d63_22 : decode (mcode 63) 22 = .ok (.if_icmp .eq 18, 3) := by decide +kernel
theorem d63_25 : decode (mcode 63) 25 = .ok (.aload_n 0, 1) := by decide +kernel
theorem d63_26 : decode (mcode 63) 26 = .ok (.getfield 9, 3) := by decide +kernel
theorem d63_29 : decode (mcode 63) 29 = .ok (.iload_n 3, 1) := by decide +kernel
theorem d63_30 : decode (mcode 63) 30 = .ok (.iaload, 1) := by decide +kernel
theorem d63_31 : decode (mcode 63) 31 = .ok (.aload_n 0, 1) := by decide +kernel
theorem d63_32 : decode (mcode 63) 32 = .ok (.getfield 9, 3) := by decide +kernel
theorem d63_35 : decode (mcode 63) 35 = .ok (.iload_n 2, 1) := by decide +kernel
theorem d63_36 : decode (mcode 63) 36 = .ok (.iaload, 1) := by decide +kernel
theorem d63_37 : decode (mcode 63) 37 = .ok (.if_icmp .ge 5, 3) := by decide +kernel
theorem d63_40 : decode (mcode 63) 40 = .ok (.iload_n 3, 1) := by decide +kernel
theorem d63_41 : decode (mcode 63) 41 = .ok (.istore_n 2, 1) := by decide +kernel
theorem d63_42 : decode (mcode 63) 42 = .ok (.iinc 3 1, 3) := by decide +kernel
theorem d63_45 : decode (mcode 63) 45 = .ok (.goto (-41), 3) := by decide +kernel
theorem d63_48 : decode (mcode 63) 48 = .ok (.iload_n 2, 1) := by decide +kernel
theorem d63_49 : decode (mcode 63) 49 = .ok (.ireturn, 1) := by decide +kernel
theorem d64_0 : decode (mcode 64) 0 = .ok (.iconst (-1), 1) := by decide +kernel
theorem d64_1 : decode (mcode 64) 1 = .ok (.istore_n 2, 1) := by decide +kernel
theorem d64_2 : decode (mcode 64) 2 = .ok (.iconst 0, 1) := by decide +kernel
theorem d64_3 : decode (mcode 64) 3 = .ok (.istore_n 3, 1) := by decide +kernel
theorem d64_4 : decode (mcode 64) 4 = .ok (.iload_n 3, 1) := by decide +kernel
theorem d64_5 : decode (mcode 64) 5 = .ok (.aload_n 1, 1) := by decide +kernel
theorem d64_6 : decode (mcode 64) 6 = .ok (.invokevirtual 59, 3) := by decide +kernel
theorem d64_9 : decode (mcode 64) 9 = .ok (.if_icmp .ge 39, 3) := by decide +kernel
theorem d64_12 : decode (mcode 64) 12 = .ok (.aload_n 0, 1) := by decide +kernel
theorem d64_13 : decode (mcode 64) 13 = .ok (.iload_n 3, 1) := by decide +kernel
theorem d64_14 : decode (mcode 64) 14 = .ok (.invokevirtual 99, 3) := by decide +kernel
theorem d64_17 : decode (mcode 64) 17 = .ok (.ifCond .eq 25, 3) := by decide +kernel
theorem d64_20 : decode (mcode 64) 20 = .ok (.iload_n 2, 1) := by decide +kernel
theorem d64_21 : decode (mcode 64) 21 = .ok (.iconst (-1), 1) := by decide +kernel
theorem d64_22 : decode (mcode 64) 22 = .ok (.if_icmp .eq 18, 3) := by decide +kernel
theorem d64_25 : decode (mcode 64) 25 = .ok (.aload_n 0, 1) := by decide +kernel
theorem d64_26 : decode (mcode 64) 26 = .ok (.getfield 9, 3) := by decide +kernel
theorem d64_29 : decode (mcode 64) 29 = .ok (.iload_n 3, 1) := by decide +kernel
theorem d64_30 : decode (mcode 64) 30 = .ok (.iaload, 1) := by decide +kernel
theorem d64_31 : decode (mcode 64) 31 = .ok (.aload_n 0, 1) := by decide +kernel
theorem d64_32 : decode (mcode 64) 32 = .ok (.getfield 9, 3) := by decide +kernel
theorem d64_35 : decode (mcode 64) 35 = .ok (.iload_n 2, 1) := by decide +kernel
theorem d64_36 : decode (mcode 64) 36 = .ok (.iaload, 1) := by decide +kernel
theorem d64_37 : decode (mcode 64) 37 = .ok (.if_icmp .le 5, 3) := by decide +kernel
theorem d64_40 : decode (mcode 64) 40 = .ok (.iload_n 3, 1) := by decide +kernel
theorem d64_41 : decode (mcode 64) 41 = .ok (.istore_n 2, 1) := by decide +kernel
theorem d64_42 : decode (mcode 64) 42 = .ok (.iinc 3 1, 3) := by decide +kernel
theorem d64_45 : decode (mcode 64) 45 = .ok (.goto (-41), 3) := by decide +kernel
theorem d64_48 : decode (mcode 64) 48 = .ok (.iload_n 2, 1) := by decide +kernel
theorem d64_49 : decode (mcode 64) 49 = .ok (.ireturn, 1) := by decide +kernel
theorem d65_0 : decode (mcode 65) 0 = .ok (.aload_n 0, 1) := by decide +kernel
theorem d65_1 : decode (mcode 65) 1 = .ok (.iload_n 2, 1) := by decide +kernel
theorem d65_2 : decode (mcode 65) 2 = .ok (.invokevirtual 99, 3) := by decide +kernel
theorem d65_5 : decode (mcode 65) 5 = .ok (.ifCond .ne 5, 3) := by decide +kernel
theorem d65_8 : decode (mcode 65) 8 = .ok (.iconst 0, 1) := by decide +kernel
theorem d65_9 : decode (mcode 65) 9 = .ok (.ireturn, 1) := by decide +kernel
theorem d65_10 : decode (mcode 65) 10 = .ok (.iconst 0, 1) := by decide +kernel
theorem d65_11 : decode (mcode 65) 11 = .ok (.istore_n 3, 1) := by decide +kernel
theorem d65_12 : decode (mcode 65) 12 = .ok (.iload_n 3, 1) := by decide +kernel
theorem d65_13 : decode (mcode 65) 13 = .ok (.iconst 4, 1) := by decide +kernel
theorem d65_14 : decode (mcode 65) 14 = .ok (.if_icmp .ge 50, 3) := by decide +kernel
theorem d65_17 : decode (mcode 65) 17 = .ok (.aload_n 1, 1) := by decide +kernel
theorem d65_18 : decode (mcode 65) 18 = .ok (.iload_n 2, 1) := by decide +kernel
theorem d65_19 : decode (mcode 65) 19 = .ok (.iload_n 3, 1) := by decide +kernel
theorem d65_20 : decode (mcode 65) 20 = .ok (.invokevirtual 132, 3) := by decide +kernel
theorem d65_23 : decode (mcode 65) 23 = .ok (.istore 4, 2) := by decide +kernel
theorem d65_25 : decode (mcode 65) 25 = .ok (.iload 4, 2) := by decide +kernel
theorem d65_27 : decode (mcode 65) 27 = .ok (.iconst (-1), 1) := by decide +kernel
theorem d65_28 : decode (mcode 65) 28 = .ok (.if_icmp .eq 30, 3) := by decide +kernel
theorem d65_31 : decode (mcode 65) 31 = .ok (.aload_n 0, 1) := by decide +kernel
theorem d65_32 : decode (mcode 65) 32 = .ok (.iload 4, 2) := by decide +kernel
theorem d65_34 : decode (mcode 65) 34 = .ok (.invokevirtual 99, 3) := by decide +kernel
theorem d65_37 : decode (mcode 65) 37 = .ok (.ifCond .eq 21, 3) := by decide +kernel
theorem d65_40 : decode (mcode 65) 40 = .ok (.aload_n 0, 1) := by decide +kernel
theorem d65_41 : decode (mcode 65) 41 = .ok (.getfield 9, 3) := by decide +kernel
theorem d65_44 : decode (mcode 65) 44 = .ok (.iload 4, 2) := by decide +kernel
theorem d65_46 : decode (mcode 65) 46 = .ok (.iaload, 1) := by decide +kernel
theorem d65_47 : decode (mcode 65) 47 = .ok (.aload_n 0, 1) := by decide +kernel
theorem d65_48 : decode (mcode 65) 48 = .ok (.getfield 9, 3) := by decide +kernel
theorem d65_51 : decode (mcode 65) 51 = .ok (.iload_n 2, 1) := by decide +kernel
theorem d65_52 : decode (mcode 65) 52 = .ok (.iaload, 1) := by decide +kernel
theorem d65_53 : decode (mcode 65) 53 = .ok (.if_icmp .lt 5, 3) := by decide +kernel
theorem d65_56 : decode (mcode 65) 56 = .ok (.iconst 0, 1) := by decide +kernel
theorem d65_57 : decode (mcode 65) 57 = .ok (.ireturn, 1) := by decide +kernel
theorem d65_58 : decode (mcode 65) 58 = .ok (.iinc 3 1, 3) := by decide +kernel
theorem d65_61 : decode (mcode 65) 61 = .ok (.goto (-49), 3) := by decide +kernel
theorem d65_64 : decode (mcode 65) 64 = .ok (.iconst 1, 1) := by decide +kernel
theorem d65_65 : decode (mcode 65) 65 = .ok (.ireturn, 1) := by decide +kernel
theorem d66_0 : decode (mcode 66) 0 = .ok (.iconst 0, 1) := by decide +kernel
theorem d66_1 : decode (mcode 66) 1 = .ok (.istore_n 3, 1) := by decide +kernel
theorem d66_2 : decode (mcode 66) 2 = .ok (.iconst 0, 1) := by decide +kernel
theorem d66_3 : decode (mcode 66) 3 = .ok (.istore 4, 2) := by decide +kernel
theorem d66_5 : decode (mcode 66) 5 = .ok (.iload 4, 2) := by decide +kernel
theorem d66_7 : decode (mcode 66) 7 = .ok (.aload_n 1, 1) := by decide +kernel
theorem d66_8 : decode (mcode 66) 8 = .ok (.invokevirtual 59, 3) := by decide +kernel
theorem d66_11 : decode (mcode 66) 11 = .ok (.if_icmp .ge 38, 3) := by decide +kernel
theorem d66_14 : decode (mcode 66) 14 = .ok (.aload_n 0, 1) := by decide +kernel
theorem d66_15 : decode (mcode 66) 15 = .ok (.iload 4, 2) := by decide +kernel
theorem d66_17 : decode (mcode 66) 17 = .ok (.invokevirtual 99, 3) := by decide +kernel
theorem d66_20 : decode (mcode 66) 20 = .ok (.ifCond .eq 23, 3) := by decide +kernel
theorem d66_23 : decode (mcode 66) 23 = .ok (.aload_n 0, 1) := by decide +kernel
theorem d66_24 : decode (mcode 66) 24 = .ok (.getfield 9, 3) := by decide +kernel
theorem d66_27 : decode (mcode 66) 27 = .ok (.iload 4, 2) := by decide +kernel
theorem d66_29 : decode (mcode 66) 29 = .ok (.iaload, 1) := by decide +kernel
theorem d66_30 : decode (mcode 66) 30 = .ok (.aload_n 2, 1) := by decide +kernel
theorem d66_31 : decode (mcode 66) 31 = .ok (.getfield 9, 3) := by decide +kernel
theorem d66_34 : decode (mcode 66) 34 = .ok (.iload 4, 2) := by decide +kernel
theorem d66_36 : decode (mcode 66) 36 = .ok (.iaload, 1) := by decide +kernel
theorem d66_37 : decode (mcode 66) 37 = .ok (.if_icmp .eq 6, 3) := by decide +kernel
theorem d66_40 : decode (mcode 66) 40 = .ok (.iinc 3 1, 3) := by decide +kernel
theorem d66_43 : decode (mcode 66) 43 = .ok (.iinc 4 1, 3) := by decide +kernel
theorem d66_46 : decode (mcode 66) 46 = .ok (.goto (-41), 3) := by decide +kernel
theorem d66_49 : decode (mcode 66) 49 = .ok (.iload_n 3, 1) := by decide +kernel
theorem d66_50 : decode (mcode 66) 50 = .ok (.ireturn, 1) := by decide +kernel
theorem d67_0 : decode (mcode 67) 0 = .ok (.aload_n 0, 1) := by decide +kernel
theorem d67_1 : decode (mcode 67) 1 = .ok (.invokespecial 3, 3) := by decide +kernel
theorem d67_4 : decode (mcode 67) 4 = .ok (.aload_n 0, 1) := by decide +kernel
theorem d67_5 : decode (mcode 67) 5 = .ok (.sipush 180, 3) := by decide +kernel
theorem d67_8 : decode (mcode 67) 8 = .ok (.newarray .int, 2) := by decide +kernel
theorem d67_10 : decode (mcode 67) 10 = .ok (.putfield 9, 3) := by decide +kernel
theorem d67_13 : decode (mcode 67) 13 = .ok (.return_, 1) := by decide +kernel
theorem d68_0 : decode (mcode 68) 0 = .ok (.aload_n 0, 1) := by decide +kernel
theorem d68_1 : decode (mcode 68) 1 = .ok (.aload_n 1, 1) := by decide +kernel
theorem d68_2 : decode (mcode 68) 2 = .ok (.getfield 15, 3) := by decide +kernel
theorem d68_5 : decode (mcode 68) 5 = .ok (.putfield 15, 3) := by decide +kernel
theorem d68_8 : decode (mcode 68) 8 = .ok (.aload_n 1, 1) := by decide +kernel
theorem d68_9 : decode (mcode 68) 9 = .ok (.getfield 9, 3) := by decide +kernel
theorem d68_12 : decode (mcode 68) 12 = .ok (.iconst 0, 1) := by decide +kernel
theorem d68_13 : decode (mcode 68) 13 = .ok (.aload_n 0, 1) := by decide +kernel
theorem d68_14 : decode (mcode 68) 14 = .ok (.getfield 9, 3) := by decide +kernel
theorem d68_17 : decode (mcode 68) 17 = .ok (.iconst 0, 1) := by decide +kernel
theorem d68_18 : decode (mcode 68) 18 = .ok (.sipush 180, 3) := by decide +kernel
theorem d68_21 : decode (mcode 68) 21 = .ok (.invokestatic 19, 3) := by decide +kernel
theorem d68_24 : decode (mcode 68) 24 = .ok (.return_, 1) := by decide +kernel
theorem d69_0 : decode (mcode 69) 0 = .ok (.aload_n 0, 1) := by decide +kernel
theorem d69_1 : decode (mcode 69) 1 = .ok (.getfield 15, 3) := by decide +kernel
theorem d69_4 : decode (mcode 69) 4 = .ok (.bipush 60, 2) := by decide +kernel
theorem d69_6 : decode (mcode 69) 6 = .ok (.irem, 1) := by decide +kernel
theorem d69_7 : decode (mcode 69) 7 = .ok (.iconst 3, 1) := by decide +kernel
theorem d69_8 : decode (mcode 69) 8 = .ok (.imul, 1) := by decide +kernel
theorem d69_9 : decode (mcode 69) 9 = .ok (.istore 4, 2) := by decide +kernel
theorem d69_11 : decode (mcode 69) 11 = .ok (.aload_n 0, 1) := by decide +kernel
theorem d69_12 : decode (mcode 69) 12 = .ok (.getfield 9, 3) := by decide +kernel
theorem d69_15 : decode (mcode 69) 15 = .ok (.iload 4, 2) := by decide +kernel
theorem d69_17 : decode (mcode 69) 17 = .ok (.iload_n 1, 1) := by decide +kernel
theorem d69_18 : decode (mcode 69) 18 = .ok (.iastore, 1) := by decide +kernel
theorem d69_19 : decode (mcode 69) 19 = .ok (.aload_n 0, 1) := by decide +kernel
theorem d69_20 : decode (mcode 69) 20 = .ok (.getfield 9, 3) := by decide +kernel
theorem d69_23 : decode (mcode 69) 23 = .ok (.iload 4, 2) := by decide +kernel
theorem d69_25 : decode (mcode 69) 25 = .ok (.iconst 1, 1) := by decide +kernel
theorem d69_26 : decode (mcode 69) 26 = .ok (.iadd, 1) := by decide +kernel
theorem d69_27 : decode (mcode 69) 27 = .ok (.iload_n 2, 1) := by decide +kernel
theorem d69_28 : decode (mcode 69) 28 = .ok (.iastore, 1) := by decide +kernel
theorem d69_29 : decode (mcode 69) 29 = .ok (.aload_n 0, 1) := by decide +kernel
theorem d69_30 : decode (mcode 69) 30 = .ok (.getfield 9, 3) := by decide +kernel
theorem d69_33 : decode (mcode 69) 33 = .ok (.iload 4, 2) := by decide +kernel
theorem d69_35 : decode (mcode 69) 35 = .ok (.iconst 2, 1) := by decide +kernel
theorem d69_36 : decode (mcode 69) 36 = .ok (.iadd, 1) := by decide +kernel
theorem d69_37 : decode (mcode 69) 37 = .ok (.iload_n 3, 1) := by decide +kernel
theorem d69_38 : decode (mcode 69) 38 = .ok (.iastore, 1) := by decide +kernel
theorem d69_39 : decode (mcode 69) 39 = .ok (.aload_n 0, 1) := by decide +kernel
theorem d69_40 : decode (mcode 69) 40 = .ok (.dup, 1) := by decide +kernel
theorem d69_41 : decode (mcode 69) 41 = .ok (.getfield 15, 3) := by decide +kernel
theorem d69_44 : decode (mcode 69) 44 = .ok (.iconst 1, 1) := by decide +kernel
theorem d69_45 : decode (mcode 69) 45 = .ok (.iadd, 1) := by decide +kernel
theorem d69_46 : decode (mcode 69) 46 = .ok (.putfield 15, 3) := by decide +kernel
theorem d69_49 : decode (mcode 69) 49 = .ok (.return_, 1) := by decide +kernel
theorem d70_0 : decode (mcode 70) 0 = .ok (.iload_n 1, 1) := by decide +kernel
theorem d70_1 : decode (mcode 70) 1 = .ok (.ifCond .lt 20, 3) := by decide +kernel
theorem d70_4 : decode (mcode 70) 4 = .ok (.iload_n 1, 1) := by decide +kernel
theorem d70_5 : decode (mcode 70) 5 = .ok (.aload_n 0, 1) := by decide +kernel
theorem d70_6 : decode (mcode 70) 6 = .ok (.getfield 15, 3) := by decide +kernel
theorem d70_9 : decode (mcode 70) 9 = .ok (.bipush 60, 2) := by decide +kernel
theorem d70_11 : decode (mcode 70) 11 = .ok (.invokestatic 25, 3) := by decide +kernel
theorem d70_14 : decode (mcode 70) 14 = .ok (.if_icmp .ge 7, 3) := by decide +kernel
theorem d70_17 : decode (mcode 70) 17 = .ok (.iconst 1, 1) := by decide +kernel
theorem d70_18 : decode (mcode 70) 18 = .ok (.goto 4, 3) := by decide +kernel
theorem d70_21 : decode (mcode 70) 21 = .ok (.iconst 0, 1) := by decide +kernel
theorem d70_22 : decode (mcode 70) 22 = .ok (.ireturn, 1) := by decide +kernel
theorem d71_0 : decode (mcode 71) 0 = .ok (.aload_n 0, 1) := by decide +kernel
theorem d71_1 : decode (mcode 71) 1 = .ok (.getfield 9, 3) := by decide +kernel
theorem d71_4 : decode (mcode 71) 4 = .ok (.aload_n 0, 1) := by decide +kernel
theorem d71_5 : decode (mcode 71) 5 = .ok (.getfield 15, 3) := by decide +kernel
theorem d71_8 : decode (mcode 71) 8 = .ok (.iconst 1, 1) := by decide +kernel
theorem d71_9 : decode (mcode 71) 9 = .ok (.isub, 1) := by decide +kernel
theorem d71_10 : decode (mcode 71) 10 = .ok (.iload_n 1, 1) := by decide +kernel
theorem d71_11 : decode (mcode 71) 11 = .ok (.isub, 1) := by decide +kernel
theorem d71_12 : decode (mcode 71) 12 = .ok (.bipush 60, 2) := by decide +kernel
theorem d71_14 : decode (mcode 71) 14 = .ok (.irem, 1) := by decide +kernel
theorem d71_15 : decode (mcode 71) 15 = .ok (.iconst 3, 1) := by decide +kernel
theorem d71_16 : decode (mcode 71) 16 = .ok (.imul, 1) := by decide +kernel
theorem d71_17 : decode (mcode 71) 17 = .ok (.iload_n 2, 1) := by decide +kernel
theorem d71_18 : decode (mcode 71) 18 = .ok (.iadd, 1) := by decide +kernel
theorem d71_19 : decode (mcode 71) 19 = .ok (.iaload, 1) := by decide +kernel
theorem d71_20 : decode (mcode 71) 20 = .ok (.ireturn, 1) := by decide +kernel
theorem d72_0 : decode (mcode 72) 0 = .ok (.aload_n 0, 1) := by decide +kernel
theorem d72_1 : decode (mcode 72) 1 = .ok (.invokespecial 3, 3) := by decide +kernel
theorem d72_4 : decode (mcode 72) 4 = .ok (.aload_n 0, 1) := by decide +kernel
theorem d72_5 : decode (mcode 72) 5 = .ok (.bipush 121, 2) := by decide +kernel
theorem d72_7 : decode (mcode 72) 7 = .ok (.newarray .int, 2) := by decide +kernel
theorem d72_9 : decode (mcode 72) 9 = .ok (.putfield 9, 3) := by decide +kernel
theorem d72_12 : decode (mcode 72) 12 = .ok (.aload_n 0, 1) := by decide +kernel
theorem d72_13 : decode (mcode 72) 13 = .ok (.bipush 121, 2) := by decide +kernel
theorem d72_15 : decode (mcode 72) 15 = .ok (.newarray .int, 2) := by decide +kernel
theorem d72_17 : decode (mcode 72) 17 = .ok (.putfield 15, 3) := by decide +kernel
theorem d72_20 : decode (mcode 72) 20 = .ok (.aload_n 0, 1) := by decide +kernel
theorem d72_21 : decode (mcode 72) 21 = .ok (.bipush 121, 2) := by decide +kernel
theorem d72_23 : decode (mcode 72) 23 = .ok (.newarray .int, 2) := by decide +kernel
theorem d72_25 : decode (mcode 72) 25 = .ok (.putfield 18, 3) := by decide +kernel
theorem d72_28 : decode (mcode 72) 28 = .ok (.aload_n 0, 1) := by decide +kernel
theorem d72_29 : decode (mcode 72) 29 = .ok (.sipush 4096, 3) := by decide +kernel
theorem d72_32 : decode (mcode 72) 32 = .ok (.newarray .int, 2) := by decide +kernel
theorem d72_34 : decode (mcode 72) 34 = .ok (.putfield 21, 3) := by decide +kernel
theorem d72_37 : decode (mcode 72) 37 = .ok (.return_, 1) := by decide +kernel
theorem d73_0 : decode (mcode 73) 0 = .ok (.aload_n 0, 1) := by decide +kernel
theorem d73_1 : decode (mcode 73) 1 = .ok (.iconst 0, 1) := by decide +kernel
theorem d73_2 : decode (mcode 73) 2 = .ok (.putfield 24, 3) := by decide +kernel
theorem d73_5 : decode (mcode 73) 5 = .ok (.iconst 0, 1) := by decide +kernel
theorem d73_6 : decode (mcode 73) 6 = .ok (.istore_n 2, 1) := by decide +kernel
theorem d73_7 : decode (mcode 73) 7 = .ok (.iload_n 2, 1) := by decide +kernel
theorem d73_8 : decode (mcode 73) 8 = .ok (.aload_n 1, 1) := by decide +kernel
theorem d73_9 : decode (mcode 73) 9 = .ok (.invokevirtual 28, 3) := by decide +kernel
theorem d73_12 : decode (mcode 73) 12 = .ok (.if_icmp .ge 81, 3) := by decide +kernel
theorem d73_15 : decode (mcode 73) 15 = .ok (.aload_n 1, 1) := by decide +kernel
theorem d73_16 : decode (mcode 73) 16 = .ok (.iload_n 2, 1) := by decide +kernel
theorem d73_17 : decode (mcode 73) 17 = .ok (.invokevirtual 34, 3) := by decide +kernel
theorem d73_20 : decode (mcode 73) 20 = .ok (.ifCond .eq 11, 3) := by decide +kernel
theorem d73_23 : decode (mcode 73) 23 = .ok (.aload_n 1, 1) := by decide +kernel
theorem d73_24 : decode (mcode 73) 24 = .ok (.iload_n 2, 1) := by decide +kernel
theorem d73_25 : decode (mcode 73) 25 = .ok (.invokevirtual 38, 3) := by decide +kernel
theorem d73_28 : decode (mcode 73) 28 = .ok (.goto 4, 3) := by decide +kernel
theorem d73_31 : decode (mcode 73) 31 = .ok (.iconst 0, 1) := by decide +kernel
theorem d73_32 : decode (mcode 73) 32 = .ok (.istore_n 3, 1) := by decide +kernel
theorem d73_33 : decode (mcode 73) 33 = .ok (.iload_n 3, 1) := by decide +kernel
theorem d73_34 : decode (mcode 73) 34 = .ok (.ifCond .eq 53, 3) := by decide +kernel
theorem d73_37 : decode (mcode 73) 37 = .ok (.aload_n 0, 1) := by decide +kernel
theorem d73_38 : decode (mcode 73) 38 = .ok (.getfield 24, 3) := by decide +kernel
theorem d73_41 : decode (mcode 73) 41 = .ok (.bipush 121, 2) := by decide +kernel
theorem d73_43 : decode (mcode 73) 43 = .ok (.if_icmp .ge 44, 3) := by decide +kernel
theorem d73_46 : decode (mcode 73) 46 = .ok (.aload_n 0, 1) := by decide +kernel
theorem d73_47 : decode (mcode 73) 47 = .ok (.getfield 9, 3) := by decide +kernel
theorem d73_50 : decode (mcode 73) 50 = .ok (.aload_n 0, 1) := by decide +kernel
theorem d73_51 : decode (mcode 73) 51 = .ok (.getfield 24, 3) := by decide +kernel
theorem d73_54 : decode (mcode 73) 54 = .ok (.iload_n 2, 1) := by decide +kernel
theorem d73_55 : decode (mcode 73) 55 = .ok (.iastore, 1) := by decide +kernel
theorem d73_56 : decode (mcode 73) 56 = .ok (.aload_n 0, 1) := by decide +kernel
theorem d73_57 : decode (mcode 73) 57 = .ok (.getfield 15, 3) := by decide +kernel
theorem d73_60 : decode (mcode 73) 60 = .ok (.aload_n 0, 1) := by decide +kernel
theorem d73_61 : decode (mcode 73) 61 = .ok (.getfield 24, 3) := by decide +kernel
theorem d73_64 : decode (mcode 73) 64 = .ok (.iload_n 3, 1) := by decide +kernel
theorem d73_65 : decode (mcode 73) 65 = .ok (.iastore, 1) := by decide +kernel
theorem d73_66 : decode (mcode 73) 66 = .ok (.aload_n 0, 1) := by decide +kernel
theorem d73_67 : decode (mcode 73) 67 = .ok (.getfield 18, 3) := by decide +kernel
theorem d73_70 : decode (mcode 73) 70 = .ok (.aload_n 0, 1) := by decide +kernel
theorem d73_71 : decode (mcode 73) 71 = .ok (.getfield 24, 3) := by decide +kernel
theorem d73_74 : decode (mcode 73) 74 = .ok (.bipush (-2), 2) := by decide +kernel
theorem d73_76 : decode (mcode 73) 76 = .ok (.iastore, 1) := by decide +kernel
theorem d73_77 : decode (mcode 73) 77 = .ok (.aload_n 0, 1) := by decide +kernel
theorem d73_78 : decode (mcode 73) 78 = .ok (.dup, 1) := by decide +kernel
theorem d73_79 : decode (mcode 73) 79 = .ok (.getfield 24, 3) := by decide +kernel
theorem d73_82 : decode (mcode 73) 82 = .ok (.iconst 1, 1) := by decide +kernel
theorem d73_83 : decode (mcode 73) 83 = .ok (.iadd, 1) := by decide +kernel
theorem d73_84 : decode (mcode 73) 84 = .ok (.putfield 24, 3) := by decide +kernel
theorem d73_87 : decode (mcode 73) 87 = .ok (.iinc 2 1, 3) := by decide +kernel
theorem d73_90 : decode (mcode 73) 90 = .ok (.goto (-83), 3) := by decide +kernel
theorem d73_93 : decode (mcode 73) 93 = .ok (.return_, 1) := by decide +kernel
theorem d74_0 : decode (mcode 74) 0 = .ok (.bipush 99, 2) := by decide +kernel
theorem d74_2 : decode (mcode 74) 2 = .ok (.istore_n 3, 1) := by decide +kernel
theorem d74_3 : decode (mcode 74) 3 = .ok (.iconst 0, 1) := by decide +kernel
theorem d74_4 : decode (mcode 74) 4 = .ok (.istore 4, 2) := by decide +kernel
theorem d74_6 : decode (mcode 74) 6 = .ok (.iload 4, 2) := by decide +kernel
theorem d74_8 : decode (mcode 74) 8 = .ok (.aload_n 0, 1) := by decide +kernel
theorem d74_9 : decode (mcode 74) 9 = .ok (.getfield 24, 3) := by decide +kernel
theorem d74_12 : decode (mcode 74) 12 = .ok (.if_icmp .ge 26, 3) := by decide +kernel
theorem d74_15 : decode (mcode 74) 15 = .ok (.iload_n 3, 1) := by decide +kernel
theorem d74_16 : decode (mcode 74) 16 = .ok (.aload_n 1, 1) := by decide +kernel
theorem d74_17 : decode (mcode 74) 17 = .ok (.iload_n 2, 1) := by decide +kernel
theorem d74_18 : decode (mcode 74) 18 = .ok (.aload_n 0, 1) := by decide +kernel
theorem d74_19 : decode (mcode 74) 19 = .ok (.getfield 9, 3) := by decide +kernel
theorem d74_22 : decode (mcode 74) 22 = .ok (.iload 4, 2) := by decide +kernel
theorem d74_24 : decode (mcode 74) 24 = .ok (.iaload, 1) := by decide +kernel
theorem d74_25 : decode (mcode 74) 25 = .ok (.invokevirtual 42, 3) := by decide +kernel
theorem d74_28 : decode (mcode 74) 28 = .ok (.invokestatic 46, 3) := by decide +kernel
theorem d74_31 : decode (mcode 74) 31 = .ok (.istore_n 3, 1) := by decide +kernel
theorem d74_32 : decode (mcode 74) 32 = .ok (.iinc 4 1, 3) := by decide +kernel
theorem d74_35 : decode (mcode 74) 35 = .ok (.goto (-29), 3) := by decide +kernel
theorem d74_38 : decode (mcode 74) 38 = .ok (.iload_n 3, 1) := by decide +kernel
theorem d74_39 : decode (mcode 74) 39 = .ok (.ireturn, 1) := by decide +kernel
theorem d75_0 : decode (mcode 75) 0 = .ok (.aload_n 0, 1) := by decide +kernel
theorem d75_1 : decode (mcode 75) 1 = .ok (.aload_n 1, 1) := by decide +kernel
theorem d75_2 : decode (mcode 75) 2 = .ok (.invokevirtual 51, 3) := by decide +kernel
theorem d75_5 : decode (mcode 75) 5 = .ok (.iload_n 2, 1) := by decide +kernel
theorem d75_6 : decode (mcode 75) 6 = .ok (.iconst 1, 1) := by decide +kernel
theorem d75_7 : decode (mcode 75) 7 = .ok (.if_icmp .eq 16, 3) := by decide +kernel
theorem d75_10 : decode (mcode 75) 10 = .ok (.iload_n 2, 1) := by decide +kernel
theorem d75_11 : decode (mcode 75) 11 = .ok (.ifCond .ne 16, 3) := by decide +kernel
theorem d75_14 : decode (mcode 75) 14 = .ok (.aload_n 0, 1) := by decide +kernel
theorem d75_15 : decode (mcode 75) 15 = .ok (.getfield 24, 3) := by decide +kernel
theorem d75_18 : decode (mcode 75) 18 = .ok (.bipush 12, 2) := by decide +kernel
theorem d75_20 : decode (mcode 75) 20 = .ok (.if_icmp .gt 7, 3) := by decide +kernel
theorem d75_23 : decode (mcode 75) 23 = .ok (.iconst 1, 1) := by decide +kernel
theorem d75_24 : decode (mcode 75) 24 = .ok (.goto 4, 3) := by decide +kernel
theorem d75_27 : decode (mcode 75) 27 = .ok (.iconst 0, 1) := by decide +kernel
theorem d75_28 : decode (mcode 75) 28 = .ok (.ireturn, 1) := by decide +kernel
theorem d76_0 : decode (mcode 76) 0 = .ok (.iload_n 2, 1) := by decide +kernel
theorem d76_1 : decode (mcode 76) 1 = .ok (.iconst 1, 1) := by decide +kernel
theorem d76_2 : decode (mcode 76) 2 = .ok (.if_icmp .ne 11, 3) := by decide +kernel
theorem d76_5 : decode (mcode 76) 5 = .ok (.aload_n 0, 1) := by decide +kernel
theorem d76_6 : decode (mcode 76) 6 = .ok (.aload_n 1, 1) := by decide +kernel
theorem d76_7 : decode (mcode 76) 7 = .ok (.invokevirtual 55, 3) := by decide +kernel
theorem d76_10 : decode (mcode 76) 10 = .ok (.goto 17, 3) := by decide +kernel
theorem d76_13 : decode (mcode 76) 13 = .ok (.aload_n 0, 1) := by decide +kernel
theorem d76_14 : decode (mcode 76) 14 = .ok (.getfield 24, 3) := by decide +kernel
theorem d76_17 : decode (mcode 76) 17 = .ok (.bipush 12, 2) := by decide +kernel
theorem d76_19 : decode (mcode 76) 19 = .ok (.if_icmp .gt 8, 3) := by decide +kernel
theorem d76_22 : decode (mcode 76) 22 = .ok (.aload_n 0, 1) := by decide +kernel
theorem d76_23 : decode (mcode 76) 23 = .ok (.aload_n 1, 1) := by decide +kernel
theorem d76_24 : decode (mcode 76) 24 = .ok (.invokevirtual 58, 3) := by decide +kernel
theorem d76_27 : decode (mcode 76) 27 = .ok (.return_, 1) := by decide +kernel
theorem d77_0 : decode (mcode 77) 0 = .ok (.aload_n 2, 1) := by decide +kernel
theorem d77_1 : decode (mcode 77) 1 = .ok (.invokevirtual 61, 3) := by decide +kernel
theorem d77_4 : decode (mcode 77) 4 = .ok (.iconst 0, 1) := by decide +kernel
theorem d77_5 : decode (mcode 77) 5 = .ok (.istore_n 3, 1) := by decide +kernel
theorem d77_6 : decode (mcode 77) 6 = .ok (.iload_n 3, 1) := by decide +kernel
theorem d77_7 : decode (mcode 77) 7 = .ok (.aload_n 0, 1) := by decide +kernel
theorem d77_8 : decode (mcode 77) 8 = .ok (.getfield 24, 3) := by decide +kernel
theorem d77_11 : decode (mcode 77) 11 = .ok (.if_icmp .ge 79, 3) := by decide +kernel
theorem d77_14 : decode (mcode 77) 14 = .ok (.aload_n 0, 1) := by decide +kernel
theorem d77_15 : decode (mcode 77) 15 = .ok (.getfield 18, 3) := by decide +kernel
theorem d77_18 : decode (mcode 77) 18 = .ok (.iload_n 3, 1) := by decide +kernel
theorem d77_19 : decode (mcode 77) 19 = .ok (.iaload, 1) := by decide +kernel
theorem d77_20 : decode (mcode 77) 20 = .ok (.iconst (-1), 1) := by decide +kernel
theorem d77_21 : decode (mcode 77) 21 = .ok (.if_icmp .ne 18, 3) := by decide +kernel
theorem d77_24 : decode (mcode 77) 24 = .ok (.aload_n 2, 1) := by decide +kernel
theorem d77_25 : decode (mcode 77) 25 = .ok (.aload_n 1, 1) := by decide +kernel
theorem d77_26 : decode (mcode 77) 26 = .ok (.aload_n 0, 1) := by decide +kernel
theorem d77_27 : decode (mcode 77) 27 = .ok (.getfield 9, 3) := by decide +kernel
theorem d77_30 : decode (mcode 77) 30 = .ok (.iload_n 3, 1) := by decide +kernel
theorem d77_31 : decode (mcode 77) 31 = .ok (.iaload, 1) := by decide +kernel
theorem d77_32 : decode (mcode 77) 32 = .ok (.iconst (-1), 1) := by decide +kernel
theorem d77_33 : decode (mcode 77) 33 = .ok (.invokevirtual 66, 3) := by decide +kernel
theorem d77_36 : decode (mcode 77) 36 = .ok (.goto 48, 3) := by decide +kernel
theorem d77_39 : decode (mcode 77) 39 = .ok (.aload_n 0, 1) := by decide +kernel
theorem d77_40 : decode (mcode 77) 40 = .ok (.getfield 18, 3) := by decide +kernel
theorem d77_43 : decode (mcode 77) 43 = .ok (.iload_n 3, 1) := by decide +kernel
theorem d77_44 : decode (mcode 77) 44 = .ok (.iaload, 1) := by decide +kernel
theorem d77_45 : decode (mcode 77) 45 = .ok (.iload_n 3, 1) := by decide +kernel
theorem d77_46 : decode (mcode 77) 46 = .ok (.if_icmp .le 38, 3) := by decide +kernel
theorem d77_49 : decode (mcode 77) 49 = .ok (.aload_n 0, 1) := by decide +kernel
theorem d77_50 : decode (mcode 77) 50 = .ok (.getfield 18, 3) := by decide +kernel
theorem d77_53 : decode (mcode 77) 53 = .ok (.iload_n 3, 1) := by decide +kernel
theorem d77_54 : decode (mcode 77) 54 = .ok (.iaload, 1) := by decide +kernel
theorem d77_55 : decode (mcode 77) 55 = .ok (.aload_n 0, 1) := by decide +kernel
theorem d77_56 : decode (mcode 77) 56 = .ok (.getfield 24, 3) := by decide +kernel
theorem d77_59 : decode (mcode 77) 59 = .ok (.if_icmp .ge 25, 3) := by decide +kernel
theorem d77_62 : decode (mcode 77) 62 = .ok (.aload_n 2, 1) := by decide +kernel
theorem d77_63 : decode (mcode 77) 63 = .ok (.aload_n 1, 1) := by decide +kernel
theorem d77_64 : decode (mcode 77) 64 = .ok (.aload_n 0, 1) := by decide +kernel
theorem d77_65 : decode (mcode 77) 65 = .ok (.getfield 9, 3) := by decide +kernel
theorem d77_68 : decode (mcode 77) 68 = .ok (.iload_n 3, 1) := by decide +kernel
theorem d77_69 : decode (mcode 77) 69 = .ok (.iaload, 1) := by decide +kernel
theorem d77_70 : decode (mcode 77) 70 = .ok (.aload_n 0, 1) := by decide +kernel
theorem d77_71 : decode (mcode 77) 71 = .ok (.getfield 9, 3) := by decide +kernel
theorem d77_74 : decode (mcode 77) 74 = .ok (.aload_n 0, 1) := by decide +kernel
theorem d77_75 : decode (mcode 77) 75 = .ok (.getfield 18, 3) := by decide +kernel
theorem d77_78 : decode (mcode 77) 78 = .ok (.iload_n 3, 1) := by decide +kernel
theorem d77_79 : decode (mcode 77) 79 = .ok (.iaload, 1) := by decide +kernel
theorem d77_80 : decode (mcode 77) 80 = .ok (.iaload, 1) := by decide +kernel
theorem d77_81 : decode (mcode 77) 81 = .ok (.invokevirtual 66, 3) := by decide +kernel
theorem d77_84 : decode (mcode 77) 84 = .ok (.iinc 3 1, 3) := by decide +kernel
theorem d77_87 : decode (mcode 77) 87 = .ok (.goto (-81), 3) := by decide +kernel
theorem d77_90 : decode (mcode 77) 90 = .ok (.return_, 1) := by decide +kernel
theorem d78_0 : decode (mcode 78) 0 = .ok (.iconst 1, 1) := by decide +kernel
theorem d78_1 : decode (mcode 78) 1 = .ok (.istore_n 2, 1) := by decide +kernel
theorem d78_2 : decode (mcode 78) 2 = .ok (.iload_n 2, 1) := by decide +kernel
theorem d78_3 : decode (mcode 78) 3 = .ok (.bipush 12, 2) := by decide +kernel
theorem d78_5 : decode (mcode 78) 5 = .ok (.if_icmp .gt 43, 3) := by decide +kernel
theorem d78_8 : decode (mcode 78) 8 = .ok (.iconst 0, 1) := by decide +kernel
theorem d78_9 : decode (mcode 78) 9 = .ok (.istore_n 3, 1) := by decide +kernel
theorem d78_10 : decode (mcode 78) 10 = .ok (.iload_n 3, 1) := by decide +kernel
theorem d78_11 : decode (mcode 78) 11 = .ok (.aload_n 0, 1) := by decide +kernel
theorem d78_12 : decode (mcode 78) 12 = .ok (.getfield 24, 3) := by decide +kernel
theorem d78_15 : decode (mcode 78) 15 = .ok (.if_icmp .ge 27, 3) := by decide +kernel
theorem d78_18 : decode (mcode 78) 18 = .ok (.aload_n 0, 1) := by decide +kernel
theorem d78_19 : decode (mcode 78) 19 = .ok (.getfield 18, 3) := by decide +kernel
theorem d78_22 : decode (mcode 78) 22 = .ok (.iload_n 3, 1) := by decide +kernel
theorem d78_23 : decode (mcode 78) 23 = .ok (.iaload, 1) := by decide +kernel
theorem d78_24 : decode (mcode 78) 24 = .ok (.bipush (-2), 2) := by decide +kernel
theorem d78_26 : decode (mcode 78) 26 = .ok (.if_icmp .ne 10, 3) := by decide +kernel
theorem d78_29 : decode (mcode 78) 29 = .ok (.aload_n 0, 1) := by decide +kernel
theorem d78_30 : decode (mcode 78) 30 = .ok (.aload_n 1, 1) := by decide +kernel
theorem d78_31 : decode (mcode 78) 31 = .ok (.iload_n 3, 1) := by decide +kernel
theorem d78_32 : decode (mcode 78) 32 = .ok (.iload_n 2, 1) := by decide +kernel
theorem d78_33 : decode (mcode 78) 33 = .ok (.invokevirtual 70, 3) := by decide +kernel
theorem d78_36 : decode (mcode 78) 36 = .ok (.iinc 3 1, 3) := by decide +kernel
theorem d78_39 : decode (mcode 78) 39 = .ok (.goto (-29), 3) := by decide +kernel
theorem d78_42 : decode (mcode 78) 42 = .ok (.iinc 2 1, 3) := by decide +kernel
theorem d78_45 : decode (mcode 78) 45 = .ok (.goto (-43), 3) := by decide +kernel
theorem d78_48 : decode (mcode 78) 48 = .ok (.return_, 1) := by decide +kernel
theorem d79_0 : decode (mcode 79) 0 = .ok (.aload_n 1, 1) := by decide +kernel
theorem d79_1 : decode (mcode 79) 1 = .ok (.aload_n 0, 1) := by decide +kernel
theorem d79_2 : decode (mcode 79) 2 = .ok (.getfield 9, 3) := by decide +kernel
theorem d79_5 : decode (mcode 79) 5 = .ok (.iload_n 2, 1) := by decide +kernel
theorem d79_6 : decode (mcode 79) 6 = .ok (.iaload, 1) := by decide +kernel
theorem d79_7 : decode (mcode 79) 7 = .ok (.invokevirtual 73, 3) := by decide +kernel
theorem d79_10 : decode (mcode 79) 10 = .ok (.iload_n 3, 1) := by decide +kernel
theorem d79_11 : decode (mcode 79) 11 = .ok (.if_icmp .ne 11, 3) := by decide +kernel
theorem d79_14 : decode (mcode 79) 14 = .ok (.aload_n 0, 1) := by decide +kernel
theorem d79_15 : decode (mcode 79) 15 = .ok (.getfield 18, 3) := by decide +kernel
theorem d79_18 : decode (mcode 79) 18 = .ok (.iload_n 2, 1) := by decide +kernel
theorem d79_19 : decode (mcode 79) 19 = .ok (.iconst (-1), 1) := by decide +kernel
theorem d79_20 : decode (mcode 79) 20 = .ok (.iastore, 1) := by decide +kernel
theorem d79_21 : decode (mcode 79) 21 = .ok (.return_, 1) := by decide +kernel
theorem d79_22 : decode (mcode 79) 22 = .ok (.iload_n 2, 1) := by decide +kernel
theorem d79_23 : decode (mcode 79) 23 = .ok (.iconst 1, 1) := by decide +kernel
theorem d79_24 : decode (mcode 79) 24 = .ok (.iadd, 1) := by decide +kernel
theorem d79_25 : decode (mcode 79) 25 = .ok (.istore 4, 2) := by decide +kernel
theorem d79_27 : decode (mcode 79) 27 = .ok (.iload 4, 2) := by decide +kernel
theorem d79_29 : decode (mcode 79) 29 = .ok (.aload_n 0, 1) := by decide +kernel
theorem d79_30 : decode (mcode 79) 30 = .ok (.getfield 24, 3) := by decide +kernel
theorem d79_33 : decode (mcode 79) 33 = .ok (.if_icmp .ge 75, 3) := by decide +kernel
theorem d79_36 : decode (mcode 79) 36 = .ok (.aload_n 0, 1) := by decide +kernel
theorem d79_37 : decode (mcode 79) 37 = .ok (.getfield 18, 3) := by decide +kernel
theorem d79_40 : decode (mcode 79) 40 = .ok (.iload 4, 2) := by decide +kernel
theorem d79_42 : decode (mcode 79) 42 = .ok (.iaload, 1) := by decide +kernel
theorem d79_43 : decode (mcode 79) 43 = .ok (.bipush (-2), 2) := by decide +kernel
theorem d79_45 : decode (mcode 79) 45 = .ok (.if_icmp .ne 57, 3) := by decide +kernel
theorem d79_48 : decode (mcode 79) 48 = .ok (.aload_n 0, 1) := by decide +kernel
theorem d79_49 : decode (mcode 79) 49 = .ok (.getfield 15, 3) := by decide +kernel
theorem d79_52 : decode (mcode 79) 52 = .ok (.iload 4, 2) := by decide +kernel
theorem d79_54 : decode (mcode 79) 54 = .ok (.iaload, 1) := by decide +kernel
theorem d79_55 : decode (mcode 79) 55 = .ok (.aload_n 0, 1) := by decide +kernel
theorem d79_56 : decode (mcode 79) 56 = .ok (.getfield 15, 3) := by decide +kernel
theorem d79_59 : decode (mcode 79) 59 = .ok (.iload_n 2, 1) := by decide +kernel
theorem d79_60 : decode (mcode 79) 60 = .ok (.iaload, 1) := by decide +kernel
theorem d79_61 : decode (mcode 79) 61 = .ok (.if_icmp .eq 41, 3) := by decide +kernel
theorem d79_64 : decode (mcode 79) 64 = .ok (.aload_n 1, 1) := by decide +kernel
theorem d79_65 : decode (mcode 79) 65 = .ok (.aload_n 0, 1) := by decide +kernel
theorem d79_66 : decode (mcode 79) 66 = .ok (.getfield 9, 3) := by decide +kernel
theorem d79_69 : decode (mcode 79) 69 = .ok (.iload_n 2, 1) := by decide +kernel
theorem d79_70 : decode (mcode 79) 70 = .ok (.iaload, 1) := by decide +kernel
theorem d79_71 : decode (mcode 79) 71 = .ok (.aload_n 0, 1) := by decide +kernel
theorem d79_72 : decode (mcode 79) 72 = .ok (.getfield 9, 3) := by decide +kernel
theorem d79_75 : decode (mcode 79) 75 = .ok (.iload 4, 2) := by decide +kernel
theorem d79_77 : decode (mcode 79) 77 = .ok (.iaload, 1) := by decide +kernel
theorem d79_78 : decode (mcode 79) 78 = .ok (.invokevirtual 42, 3) := by decide +kernel
theorem d79_81 : decode (mcode 79) 81 = .ok (.iload_n 3, 1) := by decide +kernel
theorem d79_82 : decode (mcode 79) 82 = .ok (.if_icmp .ne 20, 3) := by decide +kernel
theorem d79_85 : decode (mcode 79) 85 = .ok (.aload_n 0, 1) := by decide +kernel
theorem d79_86 : decode (mcode 79) 86 = .ok (.getfield 18, 3) := by decide +kernel
theorem d79_89 : decode (mcode 79) 89 = .ok (.iload_n 2, 1) := by decide +kernel
theorem d79_90 : decode (mcode 79) 90 = .ok (.iload 4, 2) := by decide +kernel
theorem d79_92 : decode (mcode 79) 92 = .ok (.iastore, 1) := by decide +kernel
theorem d79_93 : decode (mcode 79) 93 = .ok (.aload_n 0, 1) := by decide +kernel
theorem d79_94 : decode (mcode 79) 94 = .ok (.getfield 18, 3) := by decide +kernel
theorem d79_97 : decode (mcode 79) 97 = .ok (.iload 4, 2) := by decide +kernel
theorem d79_99 : decode (mcode 79) 99 = .ok (.iload_n 2, 1) := by decide +kernel
theorem d79_100 : decode (mcode 79) 100 = .ok (.iastore, 1) := by decide +kernel
theorem d79_101 : decode (mcode 79) 101 = .ok (.return_, 1) := by decide +kernel
theorem d79_102 : decode (mcode 79) 102 = .ok (.iinc 4 1, 3) := by decide +kernel
theorem d79_105 : decode (mcode 79) 105 = .ok (.goto (-78), 3) := by decide +kernel
theorem d79_108 : decode (mcode 79) 108 = .ok (.return_, 1) := by decide +kernel
theorem d80_0 : decode (mcode 80) 0 = .ok (.iconst 1, 1) := by decide +kernel
theorem d80_1 : decode (mcode 80) 1 = .ok (.aload_n 0, 1) := by decide +kernel
theorem d80_2 : decode (mcode 80) 2 = .ok (.getfield 24, 3) := by decide +kernel
theorem d80_5 : decode (mcode 80) 5 = .ok (.ishl, 1) := by decide +kernel
theorem d80_6 : decode (mcode 80) 6 = .ok (.iconst 1, 1) := by decide +kernel
theorem d80_7 : decode (mcode 80) 7 = .ok (.isub, 1) := by decide +kernel
theorem d80_8 : decode (mcode 80) 8 = .ok (.istore_n 2, 1) := by decide +kernel
theorem d80_9 : decode (mcode 80) 9 = .ok (.aload_n 0, 1) := by decide +kernel
theorem d80_10 : decode (mcode 80) 10 = .ok (.getfield 21, 3) := by decide +kernel
theorem d80_13 : decode (mcode 80) 13 = .ok (.iconst 0, 1) := by decide +kernel
theorem d80_14 : decode (mcode 80) 14 = .ok (.iload_n 2, 1) := by decide +kernel
theorem d80_15 : decode (mcode 80) 15 = .ok (.iconst 1, 1) := by decide +kernel
theorem d80_16 : decode (mcode 80) 16 = .ok (.iadd, 1) := by decide +kernel
theorem d80_17 : decode (mcode 80) 17 = .ok (.iconst (-1), 1) := by decide +kernel
theorem d80_18 : decode (mcode 80) 18 = .ok (.invokestatic 76, 3) := by decide +kernel
theorem d80_21 : decode (mcode 80) 21 = .ok (.iconst 0, 1) := by decide +kernel
theorem d80_22 : decode (mcode 80) 22 = .ok (.istore_n 3, 1) := by decide +kernel
theorem d80_23 : decode (mcode 80) 23 = .ok (.iload_n 3, 1) := by decide +kernel
theorem d80_24 : decode (mcode 80) 24 = .ok (.aload_n 0, 1) := by decide +kernel
theorem d80_25 : decode (mcode 80) 25 = .ok (.getfield 24, 3) := by decide +kernel
theorem d80_28 : decode (mcode 80) 28 = .ok (.if_icmp .ge 61, 3) := by decide +kernel
theorem d80_31 : decode (mcode 80) 31 = .ok (.iload_n 2, 1) := by decide +kernel
theorem d80_32 : decode (mcode 80) 32 = .ok (.iload_n 3, 1) := by decide +kernel
theorem d80_33 : decode (mcode 80) 33 = .ok (.invokestatic 82, 3) := by decide +kernel
theorem d80_36 : decode (mcode 80) 36 = .ok (.ifCond .eq 47, 3) := by decide +kernel
theorem d80_39 : decode (mcode 80) 39 = .ok (.aload_n 0, 1) := by decide +kernel
theorem d80_40 : decode (mcode 80) 40 = .ok (.aload_n 1, 1) := by decide +kernel
theorem d80_41 : decode (mcode 80) 41 = .ok (.iload_n 2, 1) := by decide +kernel
theorem d80_42 : decode (mcode 80) 42 = .ok (.iload_n 3, 1) := by decide +kernel
theorem d80_43 : decode (mcode 80) 43 = .ok (.invokevirtual 86, 3) := by decide +kernel
theorem d80_46 : decode (mcode 80) 46 = .ok (.istore 4, 2) := by decide +kernel
theorem d80_48 : decode (mcode 80) 48 = .ok (.aload_n 0, 1) := by decide +kernel
theorem d80_49 : decode (mcode 80) 49 = .ok (.getfield 18, 3) := by decide +kernel
theorem d80_52 : decode (mcode 80) 52 = .ok (.iload_n 3, 1) := by decide +kernel
theorem d80_53 : decode (mcode 80) 53 = .ok (.iload 4, 2) := by decide +kernel
theorem d80_55 : decode (mcode 80) 55 = .ok (.iastore, 1) := by decide +kernel
theorem d80_56 : decode (mcode 80) 56 = .ok (.iload_n 2, 1) := by decide +kernel
theorem d80_57 : decode (mcode 80) 57 = .ok (.iload_n 3, 1) := by decide +kernel
theorem d80_58 : decode (mcode 80) 58 = .ok (.invokestatic 90, 3) := by decide +kernel
theorem d80_61 : decode (mcode 80) 61 = .ok (.istore_n 2, 1) := by decide +kernel
theorem d80_62 : decode (mcode 80) 62 = .ok (.iload 4, 2) := by decide +kernel
theorem d80_64 : decode (mcode 80) 64 = .ok (.iconst (-1), 1) := by decide +kernel
theorem d80_65 : decode (mcode 80) 65 = .ok (.if_icmp .eq 18, 3) := by decide +kernel
theorem d80_68 : decode (mcode 80) 68 = .ok (.aload_n 0, 1) := by decide +kernel
theorem d80_69 : decode (mcode 80) 69 = .ok (.getfield 18, 3) := by decide +kernel
theorem d80_72 : decode (mcode 80) 72 = .ok (.iload 4, 2) := by decide +kernel
theorem d80_74 : decode (mcode 80) 74 = .ok (.iload_n 3, 1) := by decide +kernel
theorem d80_75 : decode (mcode 80) 75 = .ok (.iastore, 1) := by decide +kernel
theorem d80_76 : decode (mcode 80) 76 = .ok (.iload_n 2, 1) := by decide +kernel
theorem d80_77 : decode (mcode 80) 77 = .ok (.iload 4, 2) := by decide +kernel
theorem d80_79 : decode (mcode 80) 79 = .ok (.invokestatic 90, 3) := by decide +kernel
theorem d80_82 : decode (mcode 80) 82 = .ok (.istore_n 2, 1) := by decide +kernel
theorem d80_83 : decode (mcode 80) 83 = .ok (.iinc 3 1, 3) := by decide +kernel
theorem d80_86 : decode (mcode 80) 86 = .ok (.goto (-63), 3) := by decide +kernel
theorem d80_89 : decode (mcode 80) 89 = .ok (.return_, 1) := by decide +kernel
theorem d81_0 : decode (mcode 81) 0 = .ok (.aload_n 0, 1) := by decide +kernel
theorem d81_1 : decode (mcode 81) 1 = .ok (.aload_n 1, 1) := by decide +kernel
theorem d81_2 : decode (mcode 81) 2 = .ok (.iload_n 2, 1) := by decide +kernel
theorem d81_3 : decode (mcode 81) 3 = .ok (.iconst 0, 1) := by decide +kernel
theorem d81_4 : decode (mcode 81) 4 = .ok (.invokestatic 93, 3) := by decide +kernel
theorem d81_7 : decode (mcode 81) 7 = .ok (.istore 4, 2) := by decide +kernel
theorem d81_9 : decode (mcode 81) 9 = .ok (.iload_n 2, 1) := by decide +kernel
theorem d81_10 : decode (mcode 81) 10 = .ok (.iload_n 3, 1) := by decide +kernel
theorem d81_11 : decode (mcode 81) 11 = .ok (.invokestatic 90, 3) := by decide +kernel
theorem d81_14 : decode (mcode 81) 14 = .ok (.istore 5, 2) := by decide +kernel
theorem d81_16 : decode (mcode 81) 16 = .ok (.aload_n 1, 1) := by decide +kernel
theorem d81_17 : decode (mcode 81) 17 = .ok (.aload_n 0, 1) := by decide +kernel
theorem d81_18 : decode (mcode 81) 18 = .ok (.getfield 9, 3) := by decide +kernel
theorem d81_21 : decode (mcode 81) 21 = .ok (.iload_n 3, 1) := by decide +kernel
theorem d81_22 : decode (mcode 81) 22 = .ok (.iaload, 1) := by decide +kernel
theorem d81_23 : decode (mcode 81) 23 = .ok (.invokevirtual 73, 3) := by decide +kernel
theorem d81_26 : decode (mcode 81) 26 = .ok (.aload_n 0, 1) := by decide +kernel
theorem d81_27 : decode (mcode 81) 27 = .ok (.aload_n 1, 1) := by decide +kernel
theorem d81_28 : decode (mcode 81) 28 = .ok (.iload 5, 2) := by decide +kernel
theorem d81_30 : decode (mcode 81) 30 = .ok (.iconst 0, 1) := by decide +kernel
theorem d81_31 : decode (mcode 81) 31 = .ok (.invokestatic 93, 3) := by decide +kernel
theorem d81_34 : decode (mcode 81) 34 = .ok (.iadd, 1) := by decide +kernel
theorem d81_35 : decode (mcode 81) 35 = .ok (.iload 4, 2) := by decide +kernel
theorem d81_37 : decode (mcode 81) 37 = .ok (.if_icmp .ne 5, 3) := by decide +kernel
theorem d81_40 : decode (mcode 81) 40 = .ok (.iconst (-1), 1) := by decide +kernel
theorem d81_41 : decode (mcode 81) 41 = .ok (.ireturn, 1) := by decide +kernel
theorem d81_42 : decode (mcode 81) 42 = .ok (.iload_n 3, 1) := by decide +kernel
theorem d81_43 : decode (mcode 81) 43 = .ok (.iconst 1, 1) := by decide +kernel
theorem d81_44 : decode (mcode 81) 44 = .ok (.iadd, 1) := by decide +kernel
theorem d81_45 : decode (mcode 81) 45 = .ok (.istore 6, 2) := by decide +kernel
theorem d81_47 : decode (mcode 81) 47 = .ok (.iload 6, 2) := by decide +kernel
theorem d81_49 : decode (mcode 81) 49 = .ok (.aload_n 0, 1) := by decide +kernel
theorem d81_50 : decode (mcode 81) 50 = .ok (.getfield 24, 3) := by decide +kernel
theorem d81_53 : decode (mcode 81) 53 = .ok (.if_icmp .ge 73, 3) := by decide +kernel
theorem d81_56 : decode (mcode 81) 56 = .ok (.iload_n 2, 1) := by decide +kernel
theorem d81_57 : decode (mcode 81) 57 = .ok (.iload 6, 2) := by decide +kernel
theorem d81_59 : decode (mcode 81) 59 = .ok (.invokestatic 82, 3) := by decide +kernel
theorem d81_62 : decode (mcode 81) 62 = .ok (.ifCond .eq 58, 3) := by decide +kernel
theorem d81_65 : decode (mcode 81) 65 = .ok (.aload_n 0, 1) := by decide +kernel
theorem d81_66 : decode (mcode 81) 66 = .ok (.getfield 15, 3) := by decide +kernel
theorem d81_69 : decode (mcode 81) 69 = .ok (.iload 6, 2) := by decide +kernel
theorem d81_71 : decode (mcode 81) 71 = .ok (.iaload, 1) := by decide +kernel
theorem d81_72 : decode (mcode 81) 72 = .ok (.aload_n 0, 1) := by decide +kernel
theorem d81_73 : decode (mcode 81) 73 = .ok (.getfield 15, 3) := by decide +kernel
theorem d81_76 : decode (mcode 81) 76 = .ok (.iload_n 3, 1) := by decide +kernel
theorem d81_77 : decode (mcode 81) 77 = .ok (.iaload, 1) := by decide +kernel
theorem d81_78 : decode (mcode 81) 78 = .ok (.if_icmp .eq 42, 3) := by decide +kernel
theorem d81_81 : decode (mcode 81) 81 = .ok (.aload_n 1, 1) := by decide +kernel
theorem d81_82 : decode (mcode 81) 82 = .ok (.aload_n 0, 1) := by decide +kernel
theorem d81_83 : decode (mcode 81) 83 = .ok (.getfield 9, 3) := by decide +kernel
theorem d81_86 : decode (mcode 81) 86 = .ok (.iload_n 3, 1) := by decide +kernel
theorem d81_87 : decode (mcode 81) 87 = .ok (.iaload, 1) := by decide +kernel
theorem d81_88 : decode (mcode 81) 88 = .ok (.aload_n 0, 1) := by decide +kernel
theorem d81_89 : decode (mcode 81) 89 = .ok (.getfield 9, 3) := by decide +kernel
theorem d81_92 : decode (mcode 81) 92 = .ok (.iload 6, 2) := by decide +kernel
theorem d81_94 : decode (mcode 81) 94 = .ok (.iaload, 1) := by decide +kernel
theorem d81_95 : decode (mcode 81) 95 = .ok (.invokevirtual 42, 3) := by decide +kernel
theorem d81_98 : decode (mcode 81) 98 = .ok (.aload_n 0, 1) := by decide +kernel
theorem d81_99 : decode (mcode 81) 99 = .ok (.aload_n 1, 1) := by decide +kernel
theorem d81_100 : decode (mcode 81) 100 = .ok (.iload 5, 2) := by decide +kernel
theorem d81_102 : decode (mcode 81) 102 = .ok (.iload 6, 2) := by decide +kernel
theorem d81_104 : decode (mcode 81) 104 = .ok (.invokestatic 90, 3) := by decide +kernel
theorem d81_107 : decode (mcode 81) 107 = .ok (.iconst 0, 1) := by decide +kernel
theorem d81_108 : decode (mcode 81) 108 = .ok (.invokestatic 93, 3) := by decide +kernel
theorem d81_111 : decode (mcode 81) 111 = .ok (.iadd, 1) := by decide +kernel
theorem d81_112 : decode (mcode 81) 112 = .ok (.iload 4, 2) := by decide +kernel
theorem d81_114 : decode (mcode 81) 114 = .ok (.if_icmp .ne 6, 3) := by decide +kernel
theorem d81_117 : decode (mcode 81) 117 = .ok (.iload 6, 2) := by decide +kernel
theorem d81_119 : decode (mcode 81) 119 = .ok (.ireturn, 1) := by decide +kernel
theorem d81_120 : decode (mcode 81) 120 = .ok (.iinc 6 1, 3) := by decide +kernel
theorem d81_123 : decode (mcode 81) 123 = .ok (.goto (-76), 3) := by decide +kernel
theorem d81_126 : decode (mcode 81) 126 = .ok (.iconst (-1), 1) := by decide +kernel
theorem d81_127 : decode (mcode 81) 127 = .ok (.ireturn, 1) := by decide +kernel
theorem d82_0 : decode (mcode 82) 0 = .ok (.iload_n 2, 1) := by decide +kernel
theorem d82_1 : decode (mcode 82) 1 = .ok (.ifCond .le 18, 3) := by decide +kernel
theorem d82_4 : decode (mcode 82) 4 = .ok (.iload_n 2, 1) := by decide +kernel
theorem d82_5 : decode (mcode 82) 5 = .ok (.aload_n 0, 1) := by decide +kernel
theorem d82_6 : decode (mcode 82) 6 = .ok (.getfield 21, 3) := by decide +kernel
theorem d82_9 : decode (mcode 82) 9 = .ok (.arraylength, 1) := by decide +kernel
theorem d82_10 : decode (mcode 82) 10 = .ok (.if_icmp .ge 9, 3) := by decide +kernel
theorem d82_13 : decode (mcode 82) 13 = .ok (.iload_n 3, 1) := by decide +kernel
theorem d82_14 : decode (mcode 82) 14 = .ok (.bipush 12, 2) := by decide +kernel
theorem d82_16 : decode (mcode 82) 16 = .ok (.if_icmp .le 5, 3) := by decide +kernel
theorem d82_19 : decode (mcode 82) 19 = .ok (.iconst 0, 1) := by decide +kernel
theorem d82_20 : decode (mcode 82) 20 = .ok (.ireturn, 1) := by decide +kernel
theorem d82_21 : decode (mcode 82) 21 = .ok (.aload_n 0, 1) := by decide +kernel
theorem d82_22 : decode (mcode 82) 22 = .ok (.getfield 21, 3) := by decide +kernel
theorem d82_25 : decode (mcode 82) 25 = .ok (.iload_n 2, 1) := by decide +kernel
theorem d82_26 : decode (mcode 82) 26 = .ok (.iaload, 1) := by decide +kernel
theorem d82_27 : decode (mcode 82) 27 = .ok (.iconst (-1), 1) := by decide +kernel
theorem d82_28 : decode (mcode 82) 28 = .ok (.if_icmp .eq 10, 3) := by decide +kernel
theorem d82_31 : decode (mcode 82) 31 = .ok (.aload_n 0, 1) := by decide +kernel
theorem d82_32 : decode (mcode 82) 32 = .ok (.getfield 21, 3) := by decide +kernel
theorem d82_35 : decode (mcode 82) 35 = .ok (.iload_n 2, 1) := by decide +kernel
theorem d82_36 : decode (mcode 82) 36 = .ok (.iaload, 1) := by decide +kernel
theorem d82_37 : decode (mcode 82) 37 = .ok (.ireturn, 1) := by decide +kernel
theorem d82_38 : decode (mcode 82) 38 = .ok (.iconst 0, 1) := by decide +kernel
theorem d82_39 : decode (mcode 82) 39 = .ok (.istore 4, 2) := by decide +kernel
theorem d82_41 : decode (mcode 82) 41 = .ok (.iload 4, 2) := by decide +kernel
theorem d82_43 : decode (mcode 82) 43 = .ok (.bipush 11, 2) := by decide +kernel
theorem d82_45 : decode (mcode 82) 45 = .ok (.if_icmp .ge 18, 3) := by decide +kernel
theorem d82_48 : decode (mcode 82) 48 = .ok (.iload_n 2, 1) := by decide +kernel
theorem d82_49 : decode (mcode 82) 49 = .ok (.iload 4, 2) := by decide +kernel
theorem d82_51 : decode (mcode 82) 51 = .ok (.invokestatic 82, 3) := by decide +kernel
theorem d82_54 : decode (mcode 82) 54 = .ok (.ifCond .ne 9, 3) := by decide +kernel
theorem d82_57 : decode (mcode 82) 57 = .ok (.iinc 4 1, 3) := by decide +kernel
theorem d82_60 : decode (mcode 82) 60 = .ok (.goto (-19), 3) := by decide +kernel
theorem d82_63 : decode (mcode 82) 63 = .ok (.iload_n 2, 1) := by decide +kernel
theorem d82_64 : decode (mcode 82) 64 = .ok (.iload 4, 2) := by decide +kernel
theorem d82_66 : decode (mcode 82) 66 = .ok (.invokestatic 90, 3) := by decide +kernel
theorem d82_69 : decode (mcode 82) 69 = .ok (.istore 5, 2) := by decide +kernel
theorem d82_71 : decode (mcode 82) 71 = .ok (.aload_n 1, 1) := by decide +kernel
theorem d82_72 : decode (mcode 82) 72 = .ok (.aload_n 0, 1) := by decide +kernel
theorem d82_73 : decode (mcode 82) 73 = .ok (.getfield 9, 3) := by decide +kernel
theorem d82_76 : decode (mcode 82) 76 = .ok (.iload 4, 2) := by decide +kernel
theorem d82_78 : decode (mcode 82) 78 = .ok (.iaload, 1) := by decide +kernel
theorem d82_79 : decode (mcode 82) 79 = .ok (.invokevirtual 73, 3) := by decide +kernel
theorem d82_82 : decode (mcode 82) 82 = .ok (.aload_n 0, 1) := by decide +kernel
theorem d82_83 : decode (mcode 82) 83 = .ok (.aload_n 1, 1) := by decide +kernel
theorem d82_84 : decode (mcode 82) 84 = .ok (.iload 5, 2) := by decide +kernel
theorem d82_86 : decode (mcode 82) 86 = .ok (.iload_n 3, 1) := by decide +kernel
theorem d82_87 : decode (mcode 82) 87 = .ok (.iconst 1, 1) := by decide +kernel
theorem d82_88 : decode (mcode 82) 88 = .ok (.iadd, 1) := by decide +kernel
theorem d82_89 : decode (mcode 82) 89 = .ok (.invokestatic 93, 3) := by decide +kernel
theorem d82_92 : decode (mcode 82) 92 = .ok (.iadd, 1) := by decide +kernel
theorem d82_93 : decode (mcode 82) 93 = .ok (.istore 6, 2) := by decide +kernel
theorem d82_95 : decode (mcode 82) 95 = .ok (.iload 4, 2) := by decide +kernel
theorem d82_97 : decode (mcode 82) 97 = .ok (.iconst 1, 1) := by decide +kernel
theorem d82_98 : decode (mcode 82) 98 = .ok (.iadd, 1) := by decide +kernel
theorem d82_99 : decode (mcode 82) 99 = .ok (.istore 7, 2) := by decide +kernel
theorem d82_101 : decode (mcode 82) 101 = .ok (.iload 7, 2) := by decide +kernel
theorem d82_103 : decode (mcode 82) 103 = .ok (.aload_n 0, 1) := by decide +kernel
theorem d82_104 : decode (mcode 82) 104 = .ok (.getfield 24, 3) := by decide +kernel
theorem d82_107 : decode (mcode 82) 107 = .ok (.if_icmp .ge 80, 3) := by decide +kernel
theorem d82_110 : decode (mcode 82) 110 = .ok (.iload_n 2, 1) := by decide +kernel
theorem d82_111 : decode (mcode 82) 111 = .ok (.iload 7, 2) := by decide +kernel
theorem d82_113 : decode (mcode 82) 113 = .ok (.invokestatic 82, 3) := by decide +kernel
theorem d82_116 : decode (mcode 82) 116 = .ok (.ifCond .eq 65, 3) := by decide +kernel
theorem d82_119 : decode (mcode 82) 119 = .ok (.aload_n 0, 1) := by decide +kernel
theorem d82_120 : decode (mcode 82) 120 = .ok (.getfield 15, 3) := by decide +kernel
theorem d82_123 : decode (mcode 82) 123 = .ok (.iload 7, 2) := by decide +kernel
theorem d82_125 : decode (mcode 82) 125 = .ok (.iaload, 1) := by decide +kernel
theorem d82_126 : decode (mcode 82) 126 = .ok (.aload_n 0, 1) := by decide +kernel
theorem d82_127 : decode (mcode 82) 127 = .ok (.getfield 15, 3) := by decide +kernel
theorem d82_130 : decode (mcode 82) 130 = .ok (.iload 4, 2) := by decide +kernel
theorem d82_132 : decode (mcode 82) 132 = .ok (.iaload, 1) := by decide +kernel
theorem d82_133 : decode (mcode 82) 133 = .ok (.if_icmp .eq 48, 3) := by decide +kernel
theorem d82_136 : decode (mcode 82) 136 = .ok (.aload_n 1, 1) := by decide +kernel
theorem d82_137 : decode (mcode 82) 137 = .ok (.aload_n 0, 1) := by decide +kernel
theorem d82_138 : decode (mcode 82) 138 = .ok (.getfield 9, 3) := by decide +kernel
theorem d82_141 : decode (mcode 82) 141 = .ok (.iload 4, 2) := by decide +kernel
theorem d82_143 : decode (mcode 82) 143 = .ok (.iaload, 1) := by decide +kernel
theorem d82_144 : decode (mcode 82) 144 = .ok (.aload_n 0, 1) := by decide +kernel
theorem d82_145 : decode (mcode 82) 145 = .ok (.getfield 9, 3) := by decide +kernel
theorem d82_148 : decode (mcode 82) 148 = .ok (.iload 7, 2) := by decide +kernel
theorem d82_150 : decode (mcode 82) 150 = .ok (.iaload, 1) := by decide +kernel
theorem d82_151 : decode (mcode 82) 151 = .ok (.invokevirtual 42, 3) := by decide +kernel
theorem d82_154 : decode (mcode 82) 154 = .ok (.istore 8, 2) := by decide +kernel
theorem d82_156 : decode (mcode 82) 156 = .ok (.iload 6, 2) := by decide +kernel
theorem d82_158 : decode (mcode 82) 158 = .ok (.iload 8, 2) := by decide +kernel
theorem d82_160 : decode (mcode 82) 160 = .ok (.aload_n 0, 1) := by decide +kernel
theorem d82_161 : decode (mcode 82) 161 = .ok (.aload_n 1, 1) := by decide +kernel
theorem d82_162 : decode (mcode 82) 162 = .ok (.iload 5, 2) := by decide +kernel
theorem d82_164 : decode (mcode 82) 164 = .ok (.iload 7, 2) := by decide +kernel
theorem d82_166 : decode (mcode 82) 166 = .ok (.invokestatic 90, 3) := by decide +kernel
theorem d82_169 : decode (mcode 82) 169 = .ok (.iload_n 3, 1) := by decide +kernel
theorem d82_170 : decode (mcode 82) 170 = .ok (.iconst 1, 1) := by decide +kernel
theorem d82_171 : decode (mcode 82) 171 = .ok (.iadd, 1) := by decide +kernel
theorem d82_172 : decode (mcode 82) 172 = .ok (.invokestatic 93, 3) := by decide +kernel
theorem d82_175 : decode (mcode 82) 175 = .ok (.iadd, 1) := by decide +kernel
theorem d82_176 : decode (mcode 82) 176 = .ok (.invokestatic 46, 3) := by decide +kernel
theorem d82_179 : decode (mcode 82) 179 = .ok (.istore 6, 2) := by decide +kernel
theorem d82_181 : decode (mcode 82) 181 = .ok (.iinc 7 1, 3) := by decide +kernel
theorem d82_184 : decode (mcode 82) 184 = .ok (.goto (-83), 3) := by decide +kernel
theorem d82_187 : decode (mcode 82) 187 = .ok (.aload_n 0, 1) := by decide +kernel
theorem d82_188 : decode (mcode 82) 188 = .ok (.getfield 21, 3) := by decide +kernel
theorem d82_191 : decode (mcode 82) 191 = .ok (.iload_n 2, 1) := by decide +kernel
theorem d82_192 : decode (mcode 82) 192 = .ok (.iload 6, 2) := by decide +kernel
theorem d82_194 : decode (mcode 82) 194 = .ok (.iastore, 1) := by decide +kernel
theorem d82_195 : decode (mcode 82) 195 = .ok (.iload 6, 2) := by decide +kernel
theorem d82_197 : decode (mcode 82) 197 = .ok (.ireturn, 1) := by decide +kernel
theorem d83_0 : decode (mcode 83) 0 = .ok (.iload_n 0, 1) := by decide +kernel
theorem d83_1 : decode (mcode 83) 1 = .ok (.iload_n 1, 1) := by decide +kernel
theorem d83_2 : decode (mcode 83) 2 = .ok (.ishr, 1) := by decide +kernel
theorem d83_3 : decode (mcode 83) 3 = .ok (.iconst 1, 1) := by decide +kernel
theorem d83_4 : decode (mcode 83) 4 = .ok (.iand, 1) := by decide +kernel
theorem d83_5 : decode (mcode 83) 5 = .ok (.iconst 1, 1) := by decide +kernel
theorem d83_6 : decode (mcode 83) 6 = .ok (.if_icmp .ne 7, 3) := by decide +kernel
theorem d83_9 : decode (mcode 83) 9 = .ok (.iconst 1, 1) := by decide +kernel
theorem d83_10 : decode (mcode 83) 10 = .ok (.goto 4, 3) := by decide +kernel
theorem d83_13 : decode (mcode 83) 13 = .ok (.iconst 0, 1) := by decide +kernel
theorem d83_14 : decode (mcode 83) 14 = .ok (.ireturn, 1) := by decide +kernel
theorem d84_0 : decode (mcode 84) 0 = .ok (.iload_n 0, 1) := by decide +kernel
theorem d84_1 : decode (mcode 84) 1 = .ok (.iconst 1, 1) := by decide +kernel
theorem d84_2 : decode (mcode 84) 2 = .ok (.iload_n 1, 1) := by decide +kernel
theorem d84_3 : decode (mcode 84) 3 = .ok (.ishl, 1) := by decide +kernel
theorem d84_4 : decode (mcode 84) 4 = .ok (.iconst (-1), 1) := by decide +kernel
theorem d84_5 : decode (mcode 84) 5 = .ok (.ixor, 1) := by decide +kernel
theorem d84_6 : decode (mcode 84) 6 = .ok (.iand, 1) := by decide +kernel
theorem d84_7 : decode (mcode 84) 7 = .ok (.ireturn, 1) := by decide +kernel
theorem d85_0 : decode (mcode 85) 0 = .ok (.aload_n 0, 1) := by decide +kernel
theorem d85_1 : decode (mcode 85) 1 = .ok (.invokespecial 5, 3) := by decide +kernel
theorem d85_4 : decode (mcode 85) 4 = .ok (.aload_n 0, 1) := by decide +kernel
theorem d85_5 : decode (mcode 85) 5 = .ok (.sipush 288, 3) := by decide +kernel
theorem d85_8 : decode (mcode 85) 8 = .ok (.newarray .int, 2) := by decide +kernel
theorem d85_10 : decode (mcode 85) 10 = .ok (.putfield 11, 3) := by decide +kernel
theorem d85_13 : decode (mcode 85) 13 = .ok (.aload_n 0, 1) := by decide +kernel
theorem d85_14 : decode (mcode 85) 14 = .ok (.sipush 288, 3) := by decide +kernel
theorem d85_17 : decode (mcode 85) 17 = .ok (.newarray .int, 2) := by decide +kernel
theorem d85_19 : decode (mcode 85) 19 = .ok (.putfield 17, 3) := by decide +kernel
theorem d85_22 : decode (mcode 85) 22 = .ok (.aload_n 0, 1) := by decide +kernel
theorem d85_23 : decode (mcode 85) 23 = .ok (.sipush 144, 3) := by decide +kernel
theorem d85_26 : decode (mcode 85) 26 = .ok (.newarray .int, 2) := by decide +kernel
theorem d85_28 : decode (mcode 85) 28 = .ok (.putfield 20, 3) := by decide +kernel
theorem d85_31 : decode (mcode 85) 31 = .ok (.return_, 1) := by decide +kernel
theorem d86_0 : decode (mcode 86) 0 = .ok (.aload_n 0, 1) := by decide +kernel
theorem d86_1 : decode (mcode 86) 1 = .ok (.iconst 0, 1) := by decide +kernel
theorem d86_2 : decode (mcode 86) 2 = .ok (.putfield 23, 3) := by decide +kernel
theorem d86_5 : decode (mcode 86) 5 = .ok (.iconst 0, 1) := by decide +kernel
theorem d86_6 : decode (mcode 86) 6 = .ok (.istore_n 3, 1) := by decide +kernel
theorem d86_7 : decode (mcode 86) 7 = .ok (.iload_n 3, 1) := by decide +kernel
theorem d86_8 : decode (mcode 86) 8 = .ok (.iconst 2, 1) := by decide +kernel
theorem d86_9 : decode (mcode 86) 9 = .ok (.aload_n 1, 1) := by decide +kernel
theorem d86_10 : decode (mcode 86) 10 = .ok (.invokevirtual 27, 3) := by decide +kernel
theorem d86_13 : decode (mcode 86) 13 = .ok (.imul, 1) := by decide +kernel
theorem d86_14 : decode (mcode 86) 14 = .ok (.if_icmp .ge 33, 3) := by decide +kernel
theorem d86_17 : decode (mcode 86) 17 = .ok (.aload_n 1, 1) := by decide +kernel
theorem d86_18 : decode (mcode 86) 18 = .ok (.iload_n 3, 1) := by decide +kernel
theorem d86_19 : decode (mcode 86) 19 = .ok (.invokevirtual 33, 3) := by decide +kernel
theorem d86_22 : decode (mcode 86) 22 = .ok (.ifCond .eq 19, 3) := by decide +kernel
theorem d86_25 : decode (mcode 86) 25 = .ok (.aload_n 0, 1) := by decide +kernel
theorem d86_26 : decode (mcode 86) 26 = .ok (.aload_n 1, 1) := by decide +kernel
theorem d86_27 : decode (mcode 86) 27 = .ok (.aload_n 2, 1) := by decide +kernel
theorem d86_28 : decode (mcode 86) 28 = .ok (.aload_n 1, 1) := by decide +kernel
theorem d86_29 : decode (mcode 86) 29 = .ok (.iload_n 3, 1) := by decide +kernel
theorem d86_30 : decode (mcode 86) 30 = .ok (.invokevirtual 37, 3) := by decide +kernel
theorem d86_33 : decode (mcode 86) 33 = .ok (.aload_n 1, 1) := by decide +kernel
theorem d86_34 : decode (mcode 86) 34 = .ok (.iload_n 3, 1) := by decide +kernel
theorem d86_35 : decode (mcode 86) 35 = .ok (.invokevirtual 41, 3) := by decide +kernel
theorem d86_38 : decode (mcode 86) 38 = .ok (.invokevirtual 44, 3) := by decide +kernel
theorem d86_41 : decode (mcode 86) 41 = .ok (.iinc 3 1, 3) := by decide +kernel
theorem d86_44 : decode (mcode 86) 44 = .ok (.goto (-37), 3) := by decide +kernel
theorem d86_47 : decode (mcode 86) 47 = .ok (.return_, 1) := by decide +kernel
theorem d87_0 : decode (mcode 87) 0 = .ok (.aload_n 2, 1) := by decide +kernel
theorem d87_1 : decode (mcode 87) 1 = .ok (.iload_n 3, 1) := by decide +kernel
theorem d87_2 : decode (mcode 87) 2 = .ok (.invokevirtual 48, 3) := by decide +kernel
theorem d87_5 : decode (mcode 87) 5 = .ok (.ifCond .eq 28, 3) := by decide +kernel
theorem d87_8 : decode (mcode 87) 8 = .ok (.aload_n 2, 1) := by decide +kernel
theorem d87_9 : decode (mcode 87) 9 = .ok (.iload 4, 2) := by decide +kernel
theorem d87_11 : decode (mcode 87) 11 = .ok (.invokevirtual 48, 3) := by decide +kernel
theorem d87_14 : decode (mcode 87) 14 = .ok (.ifCond .eq 19, 3) := by decide +kernel
theorem d87_17 : decode (mcode 87) 17 = .ok (.aload_n 2, 1) := by decide +kernel
theorem d87_18 : decode (mcode 87) 18 = .ok (.getfield 53, 3) := by decide +kernel
theorem d87_21 : decode (mcode 87) 21 = .ok (.iload_n 3, 1) := by decide +kernel
theorem d87_22 : decode (mcode 87) 22 = .ok (.iaload, 1) := by decide +kernel
theorem d87_23 : decode (mcode 87) 23 = .ok (.aload_n 2, 1) := by decide +kernel
theorem d87_24 : decode (mcode 87) 24 = .ok (.getfield 53, 3) := by decide +kernel
theorem d87_27 : decode (mcode 87) 27 = .ok (.iload 4, 2) := by decide +kernel
theorem d87_29 : decode (mcode 87) 29 = .ok (.iaload, 1) := by decide +kernel
theorem d87_30 : decode (mcode 87) 30 = .ok (.if_icmp .ne 4, 3) := by decide +kernel
theorem d87_33 : decode (mcode 87) 33 = .ok (.return_, 1) := by decide +kernel
theorem d87_34 : decode (mcode 87) 34 = .ok (.aload_n 2, 1) := by decide +kernel
theorem d87_35 : decode (mcode 87) 35 = .ok (.getfield 53, 3) := by decide +kernel
theorem d87_38 : decode (mcode 87) 38 = .ok (.iload_n 3, 1) := by decide +kernel
theorem d87_39 : decode (mcode 87) 39 = .ok (.iaload, 1) := by decide +kernel
theorem d87_40 : decode (mcode 87) 40 = .ok (.aload_n 2, 1) := by decide +kernel
theorem d87_41 : decode (mcode 87) 41 = .ok (.getfield 53, 3) := by decide +kernel
theorem d87_44 : decode (mcode 87) 44 = .ok (.iload 4, 2) := by decide +kernel
theorem d87_46 : decode (mcode 87) 46 = .ok (.iaload, 1) := by decide +kernel
theorem d87_47 : decode (mcode 87) 47 = .ok (.if_icmp .ge 7, 3) := by decide +kernel
theorem d87_50 : decode (mcode 87) 50 = .ok (.iconst 1, 1) := by decide +kernel
theorem d87_51 : decode (mcode 87) 51 = .ok (.goto 4, 3) := by decide +kernel
theorem d87_54 : decode (mcode 87) 54 = .ok (.iconst 0, 1) := by decide +kernel
theorem d87_55 : decode (mcode 87) 55 = .ok (.istore 5, 2) := by decide +kernel
theorem d87_57 : decode (mcode 87) 57 = .ok (.iload 5, 2) := by decide +kernel
theorem d87_59 : decode (mcode 87) 59 = .ok (.ifCond .eq 7, 3) := by decide +kernel
theorem d87_62 : decode (mcode 87) 62 = .ok (.iload_n 3, 1) := by decide +kernel
theorem d87_63 : decode (mcode 87) 63 = .ok (.goto 5, 3) := by decide +kernel
theorem d87_66 : decode (mcode 87) 66 = .ok (.iload 4, 2) := by decide +kernel
theorem d87_68 : decode (mcode 87) 68 = .ok (.istore 6, 2) := by decide +kernel
theorem d87_70 : decode (mcode 87) 70 = .ok (.iload 5, 2) := by decide +kernel
theorem d87_72 : decode (mcode 87) 72 = .ok (.ifCond .eq 8, 3) := by decide +kernel
theorem d87_75 : decode (mcode 87) 75 = .ok (.iload 4, 2) := by decide +kernel
theorem d87_77 : decode (mcode 87) 77 = .ok (.goto 4, 3) := by decide +kernel
theorem d87_80 : decode (mcode 87) 80 = .ok (.iload_n 3, 1) := by decide +kernel
theorem d87_81 : decode (mcode 87) 81 = .ok (.istore 7, 2) := by decide +kernel
theorem d87_83 : decode (mcode 87) 83 = .ok (.aload_n 0, 1) := by decide +kernel
theorem d87_84 : decode (mcode 87) 84 = .ok (.aload_n 2, 1) := by decide +kernel
theorem d87_85 : decode (mcode 87) 85 = .ok (.getfield 53, 3) := by decide +kernel
theorem d87_88 : decode (mcode 87) 88 = .ok (.iload 6, 2) := by decide +kernel
theorem d87_90 : decode (mcode 87) 90 = .ok (.iaload, 1) := by decide +kernel
theorem d87_91 : decode (mcode 87) 91 = .ok (.aload_n 2, 1) := by decide +kernel
theorem d87_92 : decode (mcode 87) 92 = .ok (.getfield 53, 3) := by decide +kernel
theorem d87_95 : decode (mcode 87) 95 = .ok (.iload 7, 2) := by decide +kernel
theorem d87_97 : decode (mcode 87) 97 = .ok (.iaload, 1) := by decide +kernel
theorem d87_98 : decode (mcode 87) 98 = .ok (.invokestatic 56, 3) := by decide +kernel
theorem d87_101 : decode (mcode 87) 101 = .ok (.aload_n 1, 1) := by decide +kernel
theorem d87_102 : decode (mcode 87) 102 = .ok (.aload_n 2, 1) := by decide +kernel
theorem d87_103 : decode (mcode 87) 103 = .ok (.iload 6, 2) := by decide +kernel
theorem d87_105 : decode (mcode 87) 105 = .ok (.iload 7, 2) := by decide +kernel
theorem d87_107 : decode (mcode 87) 107 = .ok (.invokestatic 60, 3) := by decide +kernel
theorem d87_110 : decode (mcode 87) 110 = .ok (.invokevirtual 64, 3) := by decide +kernel
theorem d87_113 : decode (mcode 87) 113 = .ok (.return_, 1) := by decide +kernel
theorem d88_0 : decode (mcode 88) 0 = .ok (.aload_n 0, 1) := by decide +kernel
theorem d88_1 : decode (mcode 88) 1 = .ok (.getfield 23, 3) := by decide +kernel
theorem d88_4 : decode (mcode 88) 4 = .ok (.sipush 288, 3) := by decide +kernel
theorem d88_7 : decode (mcode 88) 7 = .ok (.if_icmp .lt 4, 3) := by decide +kernel
theorem d88_10 : decode (mcode 88) 10 = .ok (.return_, 1) := by decide +kernel
theorem d88_11 : decode (mcode 88) 11 = .ok (.aload_n 0, 1) := by decide +kernel
theorem d88_12 : decode (mcode 88) 12 = .ok (.getfield 23, 3) := by decide +kernel
theorem d88_15 : decode (mcode 88) 15 = .ok (.istore_n 3, 1) := by decide +kernel
theorem d88_16 : decode (mcode 88) 16 = .ok (.iload_n 3, 1) := by decide +kernel
theorem d88_17 : decode (mcode 88) 17 = .ok (.ifCond .le 49, 3) := by decide +kernel
theorem d88_20 : decode (mcode 88) 20 = .ok (.aload_n 0, 1) := by decide +kernel
theorem d88_21 : decode (mcode 88) 21 = .ok (.getfield 11, 3) := by decide +kernel
theorem d88_24 : decode (mcode 88) 24 = .ok (.iload_n 3, 1) := by decide +kernel
theorem d88_25 : decode (mcode 88) 25 = .ok (.iconst 1, 1) := by decide +kernel
theorem d88_26 : decode (mcode 88) 26 = .ok (.isub, 1) := by decide +kernel
theorem d88_27 : decode (mcode 88) 27 = .ok (.iaload, 1) := by decide +kernel
theorem d88_28 : decode (mcode 88) 28 = .ok (.iload_n 1, 1) := by decide +kernel
theorem d88_29 : decode (mcode 88) 29 = .ok (.if_icmp .le 37, 3) := by decide +kernel
theorem d88_32 : decode (mcode 88) 32 = .ok (.aload_n 0, 1) := by decide +kernel
theorem d88_33 : decode (mcode 88) 33 = .ok (.getfield 11, 3) := by decide +kernel
theorem d88_36 : decode (mcode 88) 36 = .ok (.iload_n 3, 1) := by decide +kernel
theorem d88_37 : decode (mcode 88) 37 = .ok (.aload_n 0, 1) := by decide +kernel
theorem d88_38 : decode (mcode 88) 38 = .ok (.getfield 11, 3) := by decide +kernel
theorem d88_41 : decode (mcode 88) 41 = .ok (.iload_n 3, 1) := by decide +kernel
theorem d88_42 : decode (mcode 88) 42 = .ok (.iconst 1, 1) := by decide +kernel
theorem d88_43 : decode (mcode 88) 43 = .ok (.isub, 1) := by decide +kernel
theorem d88_44 : decode (mcode 88) 44 = .ok (.iaload, 1) := by decide +kernel
theorem d88_45 : decode (mcode 88) 45 = .ok (.iastore, 1) := by decide +kernel
theorem d88_46 : decode (mcode 88) 46 = .ok (.aload_n 0, 1) := by decide +kernel
theorem d88_47 : decode (mcode 88) 47 = .ok (.getfield 17, 3) := by decide +kernel
theorem d88_50 : decode (mcode 88) 50 = .ok (.iload_n 3, 1) := by decide +kernel
theorem d88_51 : decode (mcode 88) 51 = .ok (.aload_n 0, 1) := by decide +kernel
theorem d88_52 : decode (mcode 88) 52 = .ok (.getfield 17, 3) := by decide +kernel
theorem d88_55 : decode (mcode 88) 55 = .ok (.iload_n 3, 1) := by decide +kernel
theorem d88_56 : decode (mcode 88) 56 = .ok (.iconst 1, 1) := by decide +kernel
theorem d88_57 : decode (mcode 88) 57 = .ok (.isub, 1) := by decide +kernel
theorem d88_58 : decode (mcode 88) 58 = .ok (.iaload, 1) := by decide +kernel
theorem d88_59 : decode (mcode 88) 59 = .ok (.iastore, 1) := by decide +kernel
theorem d88_60 : decode (mcode 88) 60 = .ok (.iinc 3 (-1), 3) := by decide +kernel
theorem d88_63 : decode (mcode 88) 63 = .ok (.goto (-47), 3) := by decide +kernel
theorem d88_66 : decode (mcode 88) 66 = .ok (.aload_n 0, 1) := by decide +kernel
theorem d88_67 : decode (mcode 88) 67 = .ok (.getfield 11, 3) := by decide +kernel
theorem d88_70 : decode (mcode 88) 70 = .ok (.iload_n 3, 1) := by decide +kernel
theorem d88_71 : decode (mcode 88) 71 = .ok (.iload_n 1, 1) := by decide +kernel
theorem d88_72 : decode (mcode 88) 72 = .ok (.iastore, 1) := by decide +kernel
theorem d88_73 : decode (mcode 88) 73 = .ok (.aload_n 0, 1) := by decide +kernel
theorem d88_74 : decode (mcode 88) 74 = .ok (.getfield 17, 3) := by decide +kernel
theorem d88_77 : decode (mcode 88) 77 = .ok (.iload_n 3, 1) := by decide +kernel
theorem d88_78 : decode (mcode 88) 78 = .ok (.iload_n 2, 1) := by decide +kernel
theorem d88_79 : decode (mcode 88) 79 = .ok (.iastore, 1) := by decide +kernel
theorem d88_80 : decode (mcode 88) 80 = .ok (.aload_n 0, 1) := by decide +kernel
theorem d88_81 : decode (mcode 88) 81 = .ok (.dup, 1) := by decide +kernel
theorem d88_82 : decode (mcode 88) 82 = .ok (.getfield 23, 3) := by decide +kernel
theorem d88_85 : decode (mcode 88) 85 = .ok (.iconst 1, 1) := by decide +kernel
theorem d88_86 : decode (mcode 88) 86 = .ok (.iadd, 1) := by decide +kernel
theorem d88_87 : decode (mcode 88) 87 = .ok (.putfield 23, 3) := by decide +kernel
theorem d88_90 : decode (mcode 88) 90 = .ok (.return_, 1) := by decide +kernel
theorem d89_0 : decode (mcode 89) 0 = .ok (.iload_n 0, 1) := by decide +kernel
theorem d89_1 : decode (mcode 89) 1 = .ok (.sipush 144, 3) := by decide +kernel
theorem d89_4 : decode (mcode 89) 4 = .ok (.imul, 1) := by decide +kernel
theorem d89_5 : decode (mcode 89) 5 = .ok (.iload_n 1, 1) := by decide +kernel
theorem d89_6 : decode (mcode 89) 6 = .ok (.iadd, 1) := by decide +kernel
theorem d89_7 : decode (mcode 89) 7 = .ok (.ireturn, 1) := by decide +kernel
theorem d90_0 : decode (mcode 90) 0 = .ok (.aload_n 0, 1) := by decide +kernel
theorem d90_1 : decode (mcode 90) 1 = .ok (.iload_n 2, 1) := by decide +kernel
theorem d90_2 : decode (mcode 90) 2 = .ok (.iload_n 3, 1) := by decide +kernel
theorem d90_3 : decode (mcode 90) 3 = .ok (.invokevirtual 68, 3) := by decide +kernel
theorem d90_6 : decode (mcode 90) 6 = .ok (.i2l, 1) := by decide +kernel
theorem d90_7 : decode (mcode 90) 7 = .ok (.aload_n 1, 1) := by decide +kernel
theorem d90_8 : decode (mcode 90) 8 = .ok (.getfield 71, 3) := by decide +kernel
theorem d90_11 : decode (mcode 90) 11 = .ok (.iload_n 3, 1) := by decide +kernel
theorem d90_12 : decode (mcode 90) 12 = .ok (.iaload, 1) := by decide +kernel
theorem d90_13 : decode (mcode 90) 13 = .ok (.i2l, 1) := by decide +kernel
theorem d90_14 : decode (mcode 90) 14 = .ok (.aload_n 1, 1) := by decide +kernel
theorem d90_15 : decode (mcode 90) 15 = .ok (.getfield 71, 3) := by decide +kernel
theorem d90_18 : decode (mcode 90) 18 = .ok (.iload_n 2, 1) := by decide +kernel
theorem d90_19 : decode (mcode 90) 19 = .ok (.iaload, 1) := by decide +kernel
theorem d90_20 : decode (mcode 90) 20 = .ok (.i2l, 1) := by decide +kernel
theorem d90_21 : decode (mcode 90) 21 = .ok (.lsub, 1) := by decide +kernel
theorem d90_22 : decode (mcode 90) 22 = .ok (.lsub, 1) := by decide +kernel
theorem d90_23 : decode (mcode 90) 23 = .ok (.lstore 4, 2) := by decide +kernel
theorem d90_25 : decode (mcode 90) 25 = .ok (.lload 4, 2) := by decide +kernel
theorem d90_27 : decode (mcode 90) 27 = .ok (.ldc2_w 74, 3) := by decide +kernel
theorem d90_30 : decode (mcode 90) 30 = .ok (.lrem, 1) := by decide +kernel
theorem d90_31 : decode (mcode 90) 31 = .ok (.lconst 0, 1) := by decide +kernel
theorem d90_32 : decode (mcode 90) 32 = .ok (.lcmp, 1) := by decide +kernel
theorem d90_33 : decode (mcode 90) 33 = .ok (.ifCond .ne 13, 3) := by decide +kernel
theorem d90_36 : decode (mcode 90) 36 = .ok (.lload 4, 2) := by decide +kernel
theorem d90_38 : decode (mcode 90) 38 = .ok (.ldc2_w 74, 3) := by decide +kernel
theorem d90_41 : decode (mcode 90) 41 = .ok (.ldiv, 1) := by decide +kernel
theorem d90_42 : decode (mcode 90) 42 = .ok (.l2i, 1) := by decide +kernel
theorem d90_43 : decode (mcode 90) 43 = .ok (.goto 5, 3) := by decide +kernel
theorem d90_46 : decode (mcode 90) 46 = .ok (.ldc 76, 2) := by decide +kernel
theorem d90_48 : decode (mcode 90) 48 = .ok (.ireturn, 1) := by decide +kernel
theorem d91_0 : decode (mcode 91) 0 = .ok (.iload_n 1, 1) := by decide +kernel
theorem d91_1 : decode (mcode 91) 1 = .ok (.iload_n 2, 1) := by decide +kernel
theorem d91_2 : decode (mcode 91) 2 = .ok (.invokestatic 77, 3) := by decide +kernel
theorem d91_5 : decode (mcode 91) 5 = .ok (.iload_n 1, 1) := by decide +kernel
theorem d91_6 : decode (mcode 91) 6 = .ok (.iload_n 2, 1) := by decide +kernel
theorem d91_7 : decode (mcode 91) 7 = .ok (.invokestatic 82, 3) := by decide +kernel
theorem d91_10 : decode (mcode 91) 10 = .ok (.invokestatic 56, 3) := by decide +kernel
theorem d91_13 : decode (mcode 91) 13 = .ok (.istore_n 3, 1) := by decide +kernel
theorem d91_14 : decode (mcode 91) 14 = .ok (.iconst 0, 1) := by decide +kernel
theorem d91_15 : decode (mcode 91) 15 = .ok (.istore 4, 2) := by decide +kernel
theorem d91_17 : decode (mcode 91) 17 = .ok (.iload 4, 2) := by decide +kernel
theorem d91_19 : decode (mcode 91) 19 = .ok (.aload_n 0, 1) := by decide +kernel
theorem d91_20 : decode (mcode 91) 20 = .ok (.getfield 23, 3) := by decide +kernel
theorem d91_23 : decode (mcode 91) 23 = .ok (.if_icmp .ge 20, 3) := by decide +kernel
theorem d91_26 : decode (mcode 91) 26 = .ok (.aload_n 0, 1) := by decide +kernel
theorem d91_27 : decode (mcode 91) 27 = .ok (.getfield 11, 3) := by decide +kernel
theorem d91_30 : decode (mcode 91) 30 = .ok (.iload 4, 2) := by decide +kernel
theorem d91_32 : decode (mcode 91) 32 = .ok (.iaload, 1) := by decide +kernel
theorem d91_33 : decode (mcode 91) 33 = .ok (.iload_n 3, 1) := by decide +kernel
theorem d91_34 : decode (mcode 91) 34 = .ok (.if_icmp .ge 9, 3) := by decide +kernel
theorem d91_37 : decode (mcode 91) 37 = .ok (.iinc 4 1, 3) := by decide +kernel
theorem d91_40 : decode (mcode 91) 40 = .ok (.goto (-23), 3) := by decide +kernel
theorem d91_43 : decode (mcode 91) 43 = .ok (.aload_n 0, 1) := by decide +kernel
theorem d91_44 : decode (mcode 91) 44 = .ok (.iload 4, 2) := by decide +kernel
theorem d91_46 : decode (mcode 91) 46 = .ok (.aload_n 0, 1) := by decide +kernel
theorem d91_47 : decode (mcode 91) 47 = .ok (.iload 4, 2) := by decide +kernel
theorem d91_49 : decode (mcode 91) 49 = .ok (.iload_n 3, 1) := by decide +kernel
theorem d91_50 : decode (mcode 91) 50 = .ok (.invokevirtual 85, 3) := by decide +kernel
theorem d91_53 : decode (mcode 91) 53 = .ok (.iload_n 1, 1) := by decide +kernel
theorem d91_54 : decode (mcode 91) 54 = .ok (.iload_n 2, 1) := by decide +kernel
theorem d91_55 : decode (mcode 91) 55 = .ok (.if_icmp .ge 7, 3) := by decide +kernel
theorem d91_58 : decode (mcode 91) 58 = .ok (.iconst 1, 1) := by decide +kernel
theorem d91_59 : decode (mcode 91) 59 = .ok (.goto 4, 3) := by decide +kernel
theorem d91_62 : decode (mcode 91) 62 = .ok (.iconst (-1), 1) := by decide +kernel
theorem d91_63 : decode (mcode 91) 63 = .ok (.invokevirtual 88, 3) := by decide +kernel
theorem d91_66 : decode (mcode 91) 66 = .ok (.return_, 1) := by decide +kernel
theorem d92_0 : decode (mcode 92) 0 = .ok (.iload_n 1, 1) := by decide +kernel
theorem d92_1 : decode (mcode 92) 1 = .ok (.istore_n 3, 1) := by decide +kernel
theorem d92_2 : decode (mcode 92) 2 = .ok (.iload_n 3, 1) := by decide +kernel
theorem d92_3 : decode (mcode 92) 3 = .ok (.aload_n 0, 1) := by decide +kernel
theorem d92_4 : decode (mcode 92) 4 = .ok (.getfield 23, 3) := by decide +kernel
theorem d92_7 : decode (mcode 92) 7 = .ok (.if_icmp .ge 19, 3) := by decide +kernel
theorem d92_10 : decode (mcode 92) 10 = .ok (.aload_n 0, 1) := by decide +kernel
theorem d92_11 : decode (mcode 92) 11 = .ok (.getfield 11, 3) := by decide +kernel
theorem d92_14 : decode (mcode 92) 14 = .ok (.iload_n 3, 1) := by decide +kernel
theorem d92_15 : decode (mcode 92) 15 = .ok (.iaload, 1) := by decide +kernel
theorem d92_16 : decode (mcode 92) 16 = .ok (.iload_n 2, 1) := by decide +kernel
theorem d92_17 : decode (mcode 92) 17 = .ok (.if_icmp .ne 9, 3) := by decide +kernel
theorem d92_20 : decode (mcode 92) 20 = .ok (.iinc 3 1, 3) := by decide +kernel
theorem d92_23 : decode (mcode 92) 23 = .ok (.goto (-21), 3) := by decide +kernel
theorem d92_26 : decode (mcode 92) 26 = .ok (.iload_n 3, 1) := by decide +kernel
theorem d92_27 : decode (mcode 92) 27 = .ok (.ireturn, 1) := by decide +kernel
theorem d93_0 : decode (mcode 93) 0 = .ok (.aload_n 0, 1) := by decide +kernel
theorem d93_1 : decode (mcode 93) 1 = .ok (.iconst 0, 1) := by decide +kernel
theorem d93_2 : decode (mcode 93) 2 = .ok (.putfield 92, 3) := by decide +kernel
theorem d93_5 : decode (mcode 93) 5 = .ok (.aload_n 0, 1) := by decide +kernel
theorem d93_6 : decode (mcode 93) 6 = .ok (.iconst 0, 1) := by decide +kernel
theorem d93_7 : decode (mcode 93) 7 = .ok (.putfield 95, 3) := by decide +kernel
theorem d93_10 : decode (mcode 93) 10 = .ok (.iload_n 1, 1) := by decide +kernel
theorem d93_11 : decode (mcode 93) 11 = .ok (.istore 4, 2) := by decide +kernel
theorem d93_13 : decode (mcode 93) 13 = .ok (.iload 4, 2) := by decide +kernel
theorem d93_15 : decode (mcode 93) 15 = .ok (.iload_n 2, 1) := by decide +kernel
theorem d93_16 : decode (mcode 93) 16 = .ok (.if_icmp .ge 118, 3) := by decide +kernel
theorem d93_19 : decode (mcode 93) 19 = .ok (.iconst 0, 1) := by decide +kernel
theorem d93_20 : decode (mcode 93) 20 = .ok (.istore 5, 2) := by decide +kernel
theorem d93_22 : decode (mcode 93) 22 = .ok (.iload 4, 2) := by decide +kernel
theorem d93_24 : decode (mcode 93) 24 = .ok (.istore 6, 2) := by decide +kernel
theorem d93_26 : decode (mcode 93) 26 = .ok (.iload 6, 2) := by decide +kernel
