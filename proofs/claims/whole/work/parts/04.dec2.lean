theorem d186_9 : decode (mcode 186) 9 = .ok (.iconst 0, 1) := by decide +kernel
theorem d186_10 : decode (mcode 186) 10 = .ok (.istore_n 1, 1) := by decide +kernel
theorem d186_11 : decode (mcode 186) 11 = .ok (.iload_n 1, 1) := by decide +kernel
theorem d186_12 : decode (mcode 186) 12 = .ok (.sipush 25454, 3) := by decide +kernel
theorem d186_15 : decode (mcode 186) 15 = .ok (.if_icmp .ge 25, 3) := by decide +kernel
theorem d186_18 : decode (mcode 186) 18 = .ok (.aload_n 0, 1) := by decide +kernel
theorem d186_19 : decode (mcode 186) 19 = .ok (.getfield 19, 3) := by decide +kernel
theorem d186_22 : decode (mcode 186) 22 = .ok (.iload_n 1, 1) := by decide +kernel
theorem d186_23 : decode (mcode 186) 23 = .ok (.aload_n 0, 1) := by decide +kernel
theorem d186_24 : decode (mcode 186) 24 = .ok (.getfield 19, 3) := by decide +kernel
theorem d186_27 : decode (mcode 186) 27 = .ok (.iload_n 1, 1) := by decide +kernel
theorem d186_28 : decode (mcode 186) 28 = .ok (.sipush 2314, 3) := by decide +kernel
theorem d186_31 : decode (mcode 186) 31 = .ok (.iadd, 1) := by decide +kernel
theorem d186_32 : decode (mcode 186) 32 = .ok (.iaload, 1) := by decide +kernel
theorem d186_33 : decode (mcode 186) 33 = .ok (.iastore, 1) := by decide +kernel
theorem d186_34 : decode (mcode 186) 34 = .ok (.iinc 1 1, 3) := by decide +kernel
theorem d186_37 : decode (mcode 186) 37 = .ok (.goto (-26), 3) := by decide +kernel
theorem d186_40 : decode (mcode 186) 40 = .ok (.aload_n 0, 1) := by decide +kernel
theorem d186_41 : decode (mcode 186) 41 = .ok (.bipush 11, 2) := by decide +kernel
theorem d186_43 : decode (mcode 186) 43 = .ok (.putfield 102, 3) := by decide +kernel
theorem d186_46 : decode (mcode 186) 46 = .ok (.iconst 0, 1) := by decide +kernel
theorem d186_47 : decode (mcode 186) 47 = .ok (.istore_n 1, 1) := by decide +kernel
theorem d186_48 : decode (mcode 186) 48 = .ok (.iload_n 1, 1) := by decide +kernel
theorem d186_49 : decode (mcode 186) 49 = .ok (.sipush 2314, 3) := by decide +kernel
theorem d186_52 : decode (mcode 186) 52 = .ok (.if_icmp .ge 30, 3) := by decide +kernel
theorem d186_55 : decode (mcode 186) 55 = .ok (.aload_n 0, 1) := by decide +kernel
theorem d186_56 : decode (mcode 186) 56 = .ok (.getfield 19, 3) := by decide +kernel
theorem d186_59 : decode (mcode 186) 59 = .ok (.aload_n 0, 1) := by decide +kernel
theorem d186_60 : decode (mcode 186) 60 = .ok (.getfield 102, 3) := by decide +kernel
theorem d186_63 : decode (mcode 186) 63 = .ok (.sipush 2314, 3) := by decide +kernel
theorem d186_66 : decode (mcode 186) 66 = .ok (.imul, 1) := by decide +kernel
theorem d186_67 : decode (mcode 186) 67 = .ok (.iload_n 1, 1) := by decide +kernel
theorem d186_68 : decode (mcode 186) 68 = .ok (.iadd, 1) := by decide +kernel
theorem d186_69 : decode (mcode 186) 69 = .ok (.aload_n 0, 1) := by decide +kernel
theorem d186_70 : decode (mcode 186) 70 = .ok (.getfield 7, 3) := by decide +kernel
theorem d186_73 : decode (mcode 186) 73 = .ok (.iload_n 1, 1) := by decide +kernel
theorem d186_74 : decode (mcode 186) 74 = .ok (.iaload, 1) := by decide +kernel
theorem d186_75 : decode (mcode 186) 75 = .ok (.iastore, 1) := by decide +kernel
theorem d186_76 : decode (mcode 186) 76 = .ok (.iinc 1 1, 3) := by decide +kernel
theorem d186_79 : decode (mcode 186) 79 = .ok (.goto (-31), 3) := by decide +kernel
theorem d186_82 : decode (mcode 186) 82 = .ok (.aload_n 0, 1) := by decide +kernel
theorem d186_83 : decode (mcode 186) 83 = .ok (.aload_n 0, 1) := by decide +kernel
theorem d186_84 : decode (mcode 186) 84 = .ok (.getfield 102, 3) := by decide +kernel
theorem d186_87 : decode (mcode 186) 87 = .ok (.iconst 1, 1) := by decide +kernel
theorem d186_88 : decode (mcode 186) 88 = .ok (.iadd, 1) := by decide +kernel
theorem d186_89 : decode (mcode 186) 89 = .ok (.putfield 102, 3) := by decide +kernel
theorem d186_92 : decode (mcode 186) 92 = .ok (.return_, 1) := by decide +kernel
theorem d187_0 : decode (mcode 187) 0 = .ok (.iconst 0, 1) := by decide +kernel
theorem d187_1 : decode (mcode 187) 1 = .ok (.istore_n 1, 1) := by decide +kernel
theorem d187_2 : decode (mcode 187) 2 = .ok (.iload_n 1, 1) := by decide +kernel
theorem d187_3 : decode (mcode 187) 3 = .ok (.sipush 144, 3) := by decide +kernel
theorem d187_6 : decode (mcode 187) 6 = .ok (.if_icmp .ge 75, 3) := by decide +kernel
theorem d187_9 : decode (mcode 187) 9 = .ok (.aload_n 0, 1) := by decide +kernel
theorem d187_10 : decode (mcode 187) 10 = .ok (.getfield 7, 3) := by decide +kernel
theorem d187_13 : decode (mcode 187) 13 = .ok (.sipush 874, 3) := by decide +kernel
theorem d187_16 : decode (mcode 187) 16 = .ok (.iload_n 1, 1) := by decide +kernel
theorem d187_17 : decode (mcode 187) 17 = .ok (.iadd, 1) := by decide +kernel
theorem d187_18 : decode (mcode 187) 18 = .ok (.iconst 0, 1) := by decide +kernel
theorem d187_19 : decode (mcode 187) 19 = .ok (.iastore, 1) := by decide +kernel
theorem d187_20 : decode (mcode 187) 20 = .ok (.aload_n 0, 1) := by decide +kernel
theorem d187_21 : decode (mcode 187) 21 = .ok (.getfield 7, 3) := by decide +kernel
theorem d187_24 : decode (mcode 187) 24 = .ok (.sipush 442, 3) := by decide +kernel
theorem d187_27 : decode (mcode 187) 27 = .ok (.iload_n 1, 1) := by decide +kernel
theorem d187_28 : decode (mcode 187) 28 = .ok (.iadd, 1) := by decide +kernel
theorem d187_29 : decode (mcode 187) 29 = .ok (.iconst 0, 1) := by decide +kernel
theorem d187_30 : decode (mcode 187) 30 = .ok (.iastore, 1) := by decide +kernel
theorem d187_31 : decode (mcode 187) 31 = .ok (.aload_n 0, 1) := by decide +kernel
theorem d187_32 : decode (mcode 187) 32 = .ok (.getfield 7, 3) := by decide +kernel
theorem d187_35 : decode (mcode 187) 35 = .ok (.sipush 586, 3) := by decide +kernel
theorem d187_38 : decode (mcode 187) 38 = .ok (.iload_n 1, 1) := by decide +kernel
theorem d187_39 : decode (mcode 187) 39 = .ok (.iadd, 1) := by decide +kernel
theorem d187_40 : decode (mcode 187) 40 = .ok (.iconst 0, 1) := by decide +kernel
theorem d187_41 : decode (mcode 187) 41 = .ok (.iastore, 1) := by decide +kernel
theorem d187_42 : decode (mcode 187) 42 = .ok (.aload_n 0, 1) := by decide +kernel
theorem d187_43 : decode (mcode 187) 43 = .ok (.getfield 7, 3) := by decide +kernel
theorem d187_46 : decode (mcode 187) 46 = .ok (.sipush 730, 3) := by decide +kernel
theorem d187_49 : decode (mcode 187) 49 = .ok (.iload_n 1, 1) := by decide +kernel
theorem d187_50 : decode (mcode 187) 50 = .ok (.iadd, 1) := by decide +kernel
theorem d187_51 : decode (mcode 187) 51 = .ok (.iconst 0, 1) := by decide +kernel
theorem d187_52 : decode (mcode 187) 52 = .ok (.iastore, 1) := by decide +kernel
theorem d187_53 : decode (mcode 187) 53 = .ok (.aload_n 0, 1) := by decide +kernel
theorem d187_54 : decode (mcode 187) 54 = .ok (.getfield 7, 3) := by decide +kernel
theorem d187_57 : decode (mcode 187) 57 = .ok (.sipush 2026, 3) := by decide +kernel
theorem d187_60 : decode (mcode 187) 60 = .ok (.iload_n 1, 1) := by decide +kernel
theorem d187_61 : decode (mcode 187) 61 = .ok (.iadd, 1) := by decide +kernel
theorem d187_62 : decode (mcode 187) 62 = .ok (.iconst 0, 1) := by decide +kernel
theorem d187_63 : decode (mcode 187) 63 = .ok (.iastore, 1) := by decide +kernel
theorem d187_64 : decode (mcode 187) 64 = .ok (.aload_n 0, 1) := by decide +kernel
theorem d187_65 : decode (mcode 187) 65 = .ok (.getfield 7, 3) := by decide +kernel
theorem d187_68 : decode (mcode 187) 68 = .ok (.sipush 2170, 3) := by decide +kernel
theorem d187_71 : decode (mcode 187) 71 = .ok (.iload_n 1, 1) := by decide +kernel
theorem d187_72 : decode (mcode 187) 72 = .ok (.iadd, 1) := by decide +kernel
theorem d187_73 : decode (mcode 187) 73 = .ok (.iconst 0, 1) := by decide +kernel
theorem d187_74 : decode (mcode 187) 74 = .ok (.iastore, 1) := by decide +kernel
theorem d187_75 : decode (mcode 187) 75 = .ok (.iinc 1 1, 3) := by decide +kernel
theorem d187_78 : decode (mcode 187) 78 = .ok (.goto (-76), 3) := by decide +kernel
theorem d187_81 : decode (mcode 187) 81 = .ok (.aload_n 0, 1) := by decide +kernel
theorem d187_82 : decode (mcode 187) 82 = .ok (.getfield 7, 3) := by decide +kernel
theorem d187_85 : decode (mcode 187) 85 = .ok (.iconst 2, 1) := by decide +kernel
theorem d187_86 : decode (mcode 187) 86 = .ok (.iconst 0, 1) := by decide +kernel
theorem d187_87 : decode (mcode 187) 87 = .ok (.iastore, 1) := by decide +kernel
theorem d187_88 : decode (mcode 187) 88 = .ok (.aload_n 0, 1) := by decide +kernel
theorem d187_89 : decode (mcode 187) 89 = .ok (.getfield 7, 3) := by decide +kernel
theorem d187_92 : decode (mcode 187) 92 = .ok (.iconst 3, 1) := by decide +kernel
theorem d187_93 : decode (mcode 187) 93 = .ok (.iconst 0, 1) := by decide +kernel
theorem d187_94 : decode (mcode 187) 94 = .ok (.iastore, 1) := by decide +kernel
theorem d187_95 : decode (mcode 187) 95 = .ok (.aload_n 0, 1) := by decide +kernel
theorem d187_96 : decode (mcode 187) 96 = .ok (.getfield 7, 3) := by decide +kernel
theorem d187_99 : decode (mcode 187) 99 = .ok (.iconst 4, 1) := by decide +kernel
theorem d187_100 : decode (mcode 187) 100 = .ok (.iconst 0, 1) := by decide +kernel
theorem d187_101 : decode (mcode 187) 101 = .ok (.iastore, 1) := by decide +kernel
theorem d187_102 : decode (mcode 187) 102 = .ok (.return_, 1) := by decide +kernel
theorem d188_0 : decode (mcode 188) 0 = .ok (.aload_n 0, 1) := by decide +kernel
theorem d188_1 : decode (mcode 188) 1 = .ok (.invokevirtual 105, 3) := by decide +kernel
theorem d188_4 : decode (mcode 188) 4 = .ok (.aload_n 0, 1) := by decide +kernel
theorem d188_5 : decode (mcode 188) 5 = .ok (.invokevirtual 108, 3) := by decide +kernel
theorem d188_8 : decode (mcode 188) 8 = .ok (.return_, 1) := by decide +kernel
theorem d189_0 : decode (mcode 189) 0 = .ok (.aload_n 0, 1) := by decide +kernel
theorem d189_1 : decode (mcode 189) 1 = .ok (.iconst 0, 1) := by decide +kernel
theorem d189_2 : decode (mcode 189) 2 = .ok (.putfield 57, 3) := by decide +kernel
theorem d189_5 : decode (mcode 189) 5 = .ok (.aload_n 0, 1) := by decide +kernel
theorem d189_6 : decode (mcode 189) 6 = .ok (.getfield 102, 3) := by decide +kernel
theorem d189_9 : decode (mcode 189) 9 = .ok (.ifCond .ne 5, 3) := by decide +kernel
theorem d189_12 : decode (mcode 189) 12 = .ok (.iconst (-1), 1) := by decide +kernel
theorem d189_13 : decode (mcode 189) 13 = .ok (.ireturn, 1) := by decide +kernel
theorem d189_14 : decode (mcode 189) 14 = .ok (.aload_n 0, 1) := by decide +kernel
theorem d189_15 : decode (mcode 189) 15 = .ok (.aload_n 0, 1) := by decide +kernel
theorem d189_16 : decode (mcode 189) 16 = .ok (.getfield 102, 3) := by decide +kernel
theorem d189_19 : decode (mcode 189) 19 = .ok (.iconst 1, 1) := by decide +kernel
theorem d189_20 : decode (mcode 189) 20 = .ok (.isub, 1) := by decide +kernel
theorem d189_21 : decode (mcode 189) 21 = .ok (.putfield 102, 3) := by decide +kernel
theorem d189_24 : decode (mcode 189) 24 = .ok (.iconst 0, 1) := by decide +kernel
theorem d189_25 : decode (mcode 189) 25 = .ok (.istore_n 1, 1) := by decide +kernel
theorem d189_26 : decode (mcode 189) 26 = .ok (.iload_n 1, 1) := by decide +kernel
theorem d189_27 : decode (mcode 189) 27 = .ok (.sipush 2314, 3) := by decide +kernel
theorem d189_30 : decode (mcode 189) 30 = .ok (.if_icmp .ge 30, 3) := by decide +kernel
theorem d189_33 : decode (mcode 189) 33 = .ok (.aload_n 0, 1) := by decide +kernel
theorem d189_34 : decode (mcode 189) 34 = .ok (.getfield 7, 3) := by decide +kernel
theorem d189_37 : decode (mcode 189) 37 = .ok (.iload_n 1, 1) := by decide +kernel
theorem d189_38 : decode (mcode 189) 38 = .ok (.aload_n 0, 1) := by decide +kernel
theorem d189_39 : decode (mcode 189) 39 = .ok (.getfield 19, 3) := by decide +kernel
theorem d189_42 : decode (mcode 189) 42 = .ok (.aload_n 0, 1) := by decide +kernel
theorem d189_43 : decode (mcode 189) 43 = .ok (.getfield 102, 3) := by decide +kernel
theorem d189_46 : decode (mcode 189) 46 = .ok (.sipush 2314, 3) := by decide +kernel
theorem d189_49 : decode (mcode 189) 49 = .ok (.imul, 1) := by decide +kernel
theorem d189_50 : decode (mcode 189) 50 = .ok (.iload_n 1, 1) := by decide +kernel
theorem d189_51 : decode (mcode 189) 51 = .ok (.iadd, 1) := by decide +kernel
theorem d189_52 : decode (mcode 189) 52 = .ok (.iaload, 1) := by decide +kernel
theorem d189_53 : decode (mcode 189) 53 = .ok (.iastore, 1) := by decide +kernel
theorem d189_54 : decode (mcode 189) 54 = .ok (.iinc 1 1, 3) := by decide +kernel
theorem d189_57 : decode (mcode 189) 57 = .ok (.goto (-31), 3) := by decide +kernel
theorem d189_60 : decode (mcode 189) 60 = .ok (.aload_n 0, 1) := by decide +kernel
theorem d189_61 : decode (mcode 189) 61 = .ok (.iconst 4, 1) := by decide +kernel
theorem d189_62 : decode (mcode 189) 62 = .ok (.aload_n 0, 1) := by decide +kernel
theorem d189_63 : decode (mcode 189) 63 = .ok (.getfield 102, 3) := by decide +kernel
theorem d189_66 : decode (mcode 189) 66 = .ok (.iconst 0, 1) := by decide +kernel
theorem d189_67 : decode (mcode 189) 67 = .ok (.invokevirtual 111, 3) := by decide +kernel
theorem d189_70 : decode (mcode 189) 70 = .ok (.aload_n 0, 1) := by decide +kernel
theorem d189_71 : decode (mcode 189) 71 = .ok (.getfield 102, 3) := by decide +kernel
theorem d189_74 : decode (mcode 189) 74 = .ok (.ireturn, 1) := by decide +kernel
theorem d190_0 : decode (mcode 190) 0 = .ok (.iconst 0, 1) := by decide +kernel
theorem d190_1 : decode (mcode 190) 1 = .ok (.istore_n 3, 1) := by decide +kernel
theorem d190_2 : decode (mcode 190) 2 = .ok (.iload_n 3, 1) := by decide +kernel
theorem d190_3 : decode (mcode 190) 3 = .ok (.sipush 2314, 3) := by decide +kernel
theorem d190_6 : decode (mcode 190) 6 = .ok (.if_icmp .ge 16, 3) := by decide +kernel
theorem d190_9 : decode (mcode 190) 9 = .ok (.aload_n 0, 1) := by decide +kernel
theorem d190_10 : decode (mcode 190) 10 = .ok (.getfield 7, 3) := by decide +kernel
theorem d190_13 : decode (mcode 190) 13 = .ok (.iload_n 3, 1) := by decide +kernel
theorem d190_14 : decode (mcode 190) 14 = .ok (.iconst 0, 1) := by decide +kernel
theorem d190_15 : decode (mcode 190) 15 = .ok (.iastore, 1) := by decide +kernel
theorem d190_16 : decode (mcode 190) 16 = .ok (.iinc 3 1, 3) := by decide +kernel
theorem d190_19 : decode (mcode 190) 19 = .ok (.goto (-17), 3) := by decide +kernel
theorem d190_22 : decode (mcode 190) 22 = .ok (.aload_n 0, 1) := by decide +kernel
theorem d190_23 : decode (mcode 190) 23 = .ok (.getfield 7, 3) := by decide +kernel
theorem d190_26 : decode (mcode 190) 26 = .ok (.iconst 0, 1) := by decide +kernel
theorem d190_27 : decode (mcode 190) 27 = .ok (.iload_n 1, 1) := by decide +kernel
theorem d190_28 : decode (mcode 190) 28 = .ok (.iconst 4, 1) := by decide +kernel
theorem d190_29 : decode (mcode 190) 29 = .ok (.isub, 1) := by decide +kernel
theorem d190_30 : decode (mcode 190) 30 = .ok (.iastore, 1) := by decide +kernel
theorem d190_31 : decode (mcode 190) 31 = .ok (.aload_n 0, 1) := by decide +kernel
theorem d190_32 : decode (mcode 190) 32 = .ok (.getfield 7, 3) := by decide +kernel
theorem d190_35 : decode (mcode 190) 35 = .ok (.iconst 1, 1) := by decide +kernel
theorem d190_36 : decode (mcode 190) 36 = .ok (.iload_n 2, 1) := by decide +kernel
theorem d190_37 : decode (mcode 190) 37 = .ok (.iconst 4, 1) := by decide +kernel
theorem d190_38 : decode (mcode 190) 38 = .ok (.isub, 1) := by decide +kernel
theorem d190_39 : decode (mcode 190) 39 = .ok (.iastore, 1) := by decide +kernel
theorem d190_40 : decode (mcode 190) 40 = .ok (.return_, 1) := by decide +kernel
theorem d191_0 : decode (mcode 191) 0 = .ok (.aload_n 0, 1) := by decide +kernel
theorem d191_1 : decode (mcode 191) 1 = .ok (.iconst 0, 1) := by decide +kernel
theorem d191_2 : decode (mcode 191) 2 = .ok (.putfield 57, 3) := by decide +kernel
theorem d191_5 : decode (mcode 191) 5 = .ok (.aload_n 0, 1) := by decide +kernel
theorem d191_6 : decode (mcode 191) 6 = .ok (.iload_n 1, 1) := by decide +kernel
theorem d191_7 : decode (mcode 191) 7 = .ok (.iconst 2, 1) := by decide +kernel
theorem d191_8 : decode (mcode 191) 8 = .ok (.bipush 12, 2) := by decide +kernel
theorem d191_10 : decode (mcode 191) 10 = .ok (.invokevirtual 115, 3) := by decide +kernel
theorem d191_13 : decode (mcode 191) 13 = .ok (.ifCond .eq 14, 3) := by decide +kernel
theorem d191_16 : decode (mcode 191) 16 = .ok (.aload_n 0, 1) := by decide +kernel
theorem d191_17 : decode (mcode 191) 17 = .ok (.iload_n 2, 1) := by decide +kernel
theorem d191_18 : decode (mcode 191) 18 = .ok (.iconst 2, 1) := by decide +kernel
theorem d191_19 : decode (mcode 191) 19 = .ok (.bipush 12, 2) := by decide +kernel
theorem d191_21 : decode (mcode 191) 21 = .ok (.invokevirtual 115, 3) := by decide +kernel
theorem d191_24 : decode (mcode 191) 24 = .ok (.ifCond .ne 5, 3) := by decide +kernel
theorem d191_27 : decode (mcode 191) 27 = .ok (.iconst 0, 1) := by decide +kernel
theorem d191_28 : decode (mcode 191) 28 = .ok (.ireturn, 1) := by decide +kernel
theorem d191_29 : decode (mcode 191) 29 = .ok (.aload_n 0, 1) := by decide +kernel
theorem d191_30 : decode (mcode 191) 30 = .ok (.invokevirtual 105, 3) := by decide +kernel
theorem d191_33 : decode (mcode 191) 33 = .ok (.aload_n 0, 1) := by decide +kernel
theorem d191_34 : decode (mcode 191) 34 = .ok (.iload_n 1, 1) := by decide +kernel
theorem d191_35 : decode (mcode 191) 35 = .ok (.iload_n 2, 1) := by decide +kernel
theorem d191_36 : decode (mcode 191) 36 = .ok (.invokevirtual 119, 3) := by decide +kernel
theorem d191_39 : decode (mcode 191) 39 = .ok (.iconst 1, 1) := by decide +kernel
theorem d191_40 : decode (mcode 191) 40 = .ok (.ireturn, 1) := by decide +kernel
theorem d192_0 : decode (mcode 192) 0 = .ok (.aload_n 0, 1) := by decide +kernel
theorem d192_1 : decode (mcode 192) 1 = .ok (.iconst 0, 1) := by decide +kernel
theorem d192_2 : decode (mcode 192) 2 = .ok (.putfield 57, 3) := by decide +kernel
theorem d192_5 : decode (mcode 192) 5 = .ok (.aload_n 0, 1) := by decide +kernel
theorem d192_6 : decode (mcode 192) 6 = .ok (.iload_n 1, 1) := by decide +kernel
theorem d192_7 : decode (mcode 192) 7 = .ok (.invokevirtual 123, 3) := by decide +kernel
theorem d192_10 : decode (mcode 192) 10 = .ok (.ifCond .ne 7, 3) := by decide +kernel
theorem d192_13 : decode (mcode 192) 13 = .ok (.sipush (-1000), 3) := by decide +kernel
theorem d192_16 : decode (mcode 192) 16 = .ok (.ireturn, 1) := by decide +kernel
theorem d192_17 : decode (mcode 192) 17 = .ok (.aload_n 0, 1) := by decide +kernel
theorem d192_18 : decode (mcode 192) 18 = .ok (.invokevirtual 126, 3) := by decide +kernel
theorem d192_21 : decode (mcode 192) 21 = .ok (.aload_n 0, 1) := by decide +kernel
theorem d192_22 : decode (mcode 192) 22 = .ok (.getfield 7, 3) := by decide +kernel
theorem d192_25 : decode (mcode 192) 25 = .ok (.bipush 10, 2) := by decide +kernel
theorem d192_27 : decode (mcode 192) 27 = .ok (.iload_n 1, 1) := by decide +kernel
theorem d192_28 : decode (mcode 192) 28 = .ok (.iadd, 1) := by decide +kernel
theorem d192_29 : decode (mcode 192) 29 = .ok (.aload_n 0, 1) := by decide +kernel
theorem d192_30 : decode (mcode 192) 30 = .ok (.iload_n 2, 1) := by decide +kernel
theorem d192_31 : decode (mcode 192) 31 = .ok (.i2l, 1) := by decide +kernel
theorem d192_32 : decode (mcode 192) 32 = .ok (.invokevirtual 76, 3) := by decide +kernel
theorem d192_35 : decode (mcode 192) 35 = .ok (.iastore, 1) := by decide +kernel
theorem d192_36 : decode (mcode 192) 36 = .ok (.aload_n 0, 1) := by decide +kernel
theorem d192_37 : decode (mcode 192) 37 = .ok (.iload_n 1, 1) := by decide +kernel
theorem d192_38 : decode (mcode 192) 38 = .ok (.invokevirtual 72, 3) := by decide +kernel
theorem d192_41 : decode (mcode 192) 41 = .ok (.ireturn, 1) := by decide +kernel
theorem d193_0 : decode (mcode 193) 0 = .ok (.aload_n 0, 1) := by decide +kernel
theorem d193_1 : decode (mcode 193) 1 = .ok (.iconst 0, 1) := by decide +kernel
theorem d193_2 : decode (mcode 193) 2 = .ok (.putfield 57, 3) := by decide +kernel
theorem d193_5 : decode (mcode 193) 5 = .ok (.aload_n 0, 1) := by decide +kernel
theorem d193_6 : decode (mcode 193) 6 = .ok (.iload_n 1, 1) := by decide +kernel
theorem d193_7 : decode (mcode 193) 7 = .ok (.invokevirtual 123, 3) := by decide +kernel
theorem d193_10 : decode (mcode 193) 10 = .ok (.ifCond .eq 12, 3) := by decide +kernel
theorem d193_13 : decode (mcode 193) 13 = .ok (.aload_n 0, 1) := by decide +kernel
theorem d193_14 : decode (mcode 193) 14 = .ok (.iload_n 1, 1) := by decide +kernel
theorem d193_15 : decode (mcode 193) 15 = .ok (.invokevirtual 89, 3) := by decide +kernel
theorem d193_18 : decode (mcode 193) 18 = .ok (.iload_n 2, 1) := by decide +kernel
theorem d193_19 : decode (mcode 193) 19 = .ok (.if_icmp .ne 5, 3) := by decide +kernel
theorem d193_22 : decode (mcode 193) 22 = .ok (.iconst 0, 1) := by decide +kernel
theorem d193_23 : decode (mcode 193) 23 = .ok (.ireturn, 1) := by decide +kernel
theorem d193_24 : decode (mcode 193) 24 = .ok (.aload_n 0, 1) := by decide +kernel
theorem d193_25 : decode (mcode 193) 25 = .ok (.invokevirtual 126, 3) := by decide +kernel
theorem d193_28 : decode (mcode 193) 28 = .ok (.aload_n 0, 1) := by decide +kernel
theorem d193_29 : decode (mcode 193) 29 = .ok (.getfield 7, 3) := by decide +kernel
theorem d193_32 : decode (mcode 193) 32 = .ok (.sipush 298, 3) := by decide +kernel
theorem d193_35 : decode (mcode 193) 35 = .ok (.iload_n 1, 1) := by decide +kernel
theorem d193_36 : decode (mcode 193) 36 = .ok (.iadd, 1) := by decide +kernel
theorem d193_37 : decode (mcode 193) 37 = .ok (.iload_n 2, 1) := by decide +kernel
theorem d193_38 : decode (mcode 193) 38 = .ok (.ifCond .eq 7, 3) := by decide +kernel
theorem d193_41 : decode (mcode 193) 41 = .ok (.iconst 1, 1) := by decide +kernel
theorem d193_42 : decode (mcode 193) 42 = .ok (.goto 4, 3) := by decide +kernel
theorem d193_45 : decode (mcode 193) 45 = .ok (.iconst 0, 1) := by decide +kernel
theorem d193_46 : decode (mcode 193) 46 = .ok (.iastore, 1) := by decide +kernel
theorem d193_47 : decode (mcode 193) 47 = .ok (.iconst 1, 1) := by decide +kernel
theorem d193_48 : decode (mcode 193) 48 = .ok (.ireturn, 1) := by decide +kernel
theorem d194_0 : decode (mcode 194) 0 = .ok (.aload_n 0, 1) := by decide +kernel
theorem d194_1 : decode (mcode 194) 1 = .ok (.iconst 0, 1) := by decide +kernel
theorem d194_2 : decode (mcode 194) 2 = .ok (.putfield 57, 3) := by decide +kernel
theorem d194_5 : decode (mcode 194) 5 = .ok (.aload_n 0, 1) := by decide +kernel
theorem d194_6 : decode (mcode 194) 6 = .ok (.iload_n 1, 1) := by decide +kernel
theorem d194_7 : decode (mcode 194) 7 = .ok (.invokevirtual 123, 3) := by decide +kernel
theorem d194_10 : decode (mcode 194) 10 = .ok (.ifCond .eq 14, 3) := by decide +kernel
theorem d194_13 : decode (mcode 194) 13 = .ok (.aload_n 0, 1) := by decide +kernel
theorem d194_14 : decode (mcode 194) 14 = .ok (.iload_n 2, 1) := by decide +kernel
theorem d194_15 : decode (mcode 194) 15 = .ok (.iconst 0, 1) := by decide +kernel
theorem d194_16 : decode (mcode 194) 16 = .ok (.bipush 99, 2) := by decide +kernel
theorem d194_18 : decode (mcode 194) 18 = .ok (.invokevirtual 115, 3) := by decide +kernel
theorem d194_21 : decode (mcode 194) 21 = .ok (.ifCond .ne 5, 3) := by decide +kernel
theorem d194_24 : decode (mcode 194) 24 = .ok (.iconst 0, 1) := by decide +kernel
theorem d194_25 : decode (mcode 194) 25 = .ok (.ireturn, 1) := by decide +kernel
theorem d194_26 : decode (mcode 194) 26 = .ok (.aload_n 0, 1) := by decide +kernel
theorem d194_27 : decode (mcode 194) 27 = .ok (.invokevirtual 105, 3) := by decide +kernel
theorem d194_30 : decode (mcode 194) 30 = .ok (.aload_n 0, 1) := by decide +kernel
theorem d194_31 : decode (mcode 194) 31 = .ok (.getfield 7, 3) := by decide +kernel
theorem d194_34 : decode (mcode 194) 34 = .ok (.sipush 154, 3) := by decide +kernel
theorem d194_37 : decode (mcode 194) 37 = .ok (.iload_n 1, 1) := by decide +kernel
theorem d194_38 : decode (mcode 194) 38 = .ok (.iadd, 1) := by decide +kernel
theorem d194_39 : decode (mcode 194) 39 = .ok (.iload_n 2, 1) := by decide +kernel
theorem d194_40 : decode (mcode 194) 40 = .ok (.bipush 50, 2) := by decide +kernel
theorem d194_42 : decode (mcode 194) 42 = .ok (.isub, 1) := by decide +kernel
theorem d194_43 : decode (mcode 194) 43 = .ok (.iastore, 1) := by decide +kernel
theorem d194_44 : decode (mcode 194) 44 = .ok (.iconst 1, 1) := by decide +kernel
theorem d194_45 : decode (mcode 194) 45 = .ok (.ireturn, 1) := by decide +kernel
theorem d195_0 : decode (mcode 195) 0 = .ok (.iload_n 2, 1) := by decide +kernel
theorem d195_1 : decode (mcode 195) 1 = .ok (.ifCond .ne 25, 3) := by decide +kernel
theorem d195_4 : decode (mcode 195) 4 = .ok (.aload_n 0, 1) := by decide +kernel
theorem d195_5 : decode (mcode 195) 5 = .ok (.iload_n 1, 1) := by decide +kernel
theorem d195_6 : decode (mcode 195) 6 = .ok (.invokevirtual 80, 3) := by decide +kernel
theorem d195_9 : decode (mcode 195) 9 = .ok (.aload_n 0, 1) := by decide +kernel
theorem d195_10 : decode (mcode 195) 10 = .ok (.invokevirtual 64, 3) := by decide +kernel
theorem d195_13 : decode (mcode 195) 13 = .ok (.iconst 1, 1) := by decide +kernel
theorem d195_14 : decode (mcode 195) 14 = .ok (.isub, 1) := by decide +kernel
theorem d195_15 : decode (mcode 195) 15 = .ok (.if_icmp .ge 9, 3) := by decide +kernel
theorem d195_18 : decode (mcode 195) 18 = .ok (.iload_n 1, 1) := by decide +kernel
theorem d195_19 : decode (mcode 195) 19 = .ok (.iconst 1, 1) := by decide +kernel
theorem d195_20 : decode (mcode 195) 20 = .ok (.iadd, 1) := by decide +kernel
theorem d195_21 : decode (mcode 195) 21 = .ok (.goto 4, 3) := by decide +kernel
theorem d195_24 : decode (mcode 195) 24 = .ok (.iconst (-1), 1) := by decide +kernel
theorem d195_25 : decode (mcode 195) 25 = .ok (.ireturn, 1) := by decide +kernel
theorem d195_26 : decode (mcode 195) 26 = .ok (.iload_n 2, 1) := by decide +kernel
theorem d195_27 : decode (mcode 195) 27 = .ok (.iconst 1, 1) := by decide +kernel
theorem d195_28 : decode (mcode 195) 28 = .ok (.if_icmp .ne 28, 3) := by decide +kernel
theorem d195_31 : decode (mcode 195) 31 = .ok (.aload_n 0, 1) := by decide +kernel
theorem d195_32 : decode (mcode 195) 32 = .ok (.iload_n 1, 1) := by decide +kernel
theorem d195_33 : decode (mcode 195) 33 = .ok (.invokevirtual 83, 3) := by decide +kernel
theorem d195_36 : decode (mcode 195) 36 = .ok (.aload_n 0, 1) := by decide +kernel
theorem d195_37 : decode (mcode 195) 37 = .ok (.invokevirtual 60, 3) := by decide +kernel
theorem d195_40 : decode (mcode 195) 40 = .ok (.iconst 1, 1) := by decide +kernel
theorem d195_41 : decode (mcode 195) 41 = .ok (.isub, 1) := by decide +kernel
theorem d195_42 : decode (mcode 195) 42 = .ok (.if_icmp .ge 12, 3) := by decide +kernel
theorem d195_45 : decode (mcode 195) 45 = .ok (.iload_n 1, 1) := by decide +kernel
theorem d195_46 : decode (mcode 195) 46 = .ok (.aload_n 0, 1) := by decide +kernel
theorem d195_47 : decode (mcode 195) 47 = .ok (.invokevirtual 64, 3) := by decide +kernel
theorem d195_50 : decode (mcode 195) 50 = .ok (.iadd, 1) := by decide +kernel
theorem d195_51 : decode (mcode 195) 51 = .ok (.goto 4, 3) := by decide +kernel
theorem d195_54 : decode (mcode 195) 54 = .ok (.iconst (-1), 1) := by decide +kernel
theorem d195_55 : decode (mcode 195) 55 = .ok (.ireturn, 1) := by decide +kernel
theorem d195_56 : decode (mcode 195) 56 = .ok (.iload_n 2, 1) := by decide +kernel
theorem d195_57 : decode (mcode 195) 57 = .ok (.iconst 2, 1) := by decide +kernel
theorem d195_58 : decode (mcode 195) 58 = .ok (.if_icmp .ne 19, 3) := by decide +kernel
theorem d195_61 : decode (mcode 195) 61 = .ok (.aload_n 0, 1) := by decide +kernel
theorem d195_62 : decode (mcode 195) 62 = .ok (.iload_n 1, 1) := by decide +kernel
theorem d195_63 : decode (mcode 195) 63 = .ok (.invokevirtual 80, 3) := by decide +kernel
theorem d195_66 : decode (mcode 195) 66 = .ok (.ifCond .le 9, 3) := by decide +kernel
theorem d195_69 : decode (mcode 195) 69 = .ok (.iload_n 1, 1) := by decide +kernel
theorem d195_70 : decode (mcode 195) 70 = .ok (.iconst 1, 1) := by decide +kernel
theorem d195_71 : decode (mcode 195) 71 = .ok (.isub, 1) := by decide +kernel
theorem d195_72 : decode (mcode 195) 72 = .ok (.goto 4, 3) := by decide +kernel
theorem d195_75 : decode (mcode 195) 75 = .ok (.iconst (-1), 1) := by decide +kernel
theorem d195_76 : decode (mcode 195) 76 = .ok (.ireturn, 1) := by decide +kernel
theorem d195_77 : decode (mcode 195) 77 = .ok (.aload_n 0, 1) := by decide +kernel
theorem d195_78 : decode (mcode 195) 78 = .ok (.iload_n 1, 1) := by decide +kernel
theorem d195_79 : decode (mcode 195) 79 = .ok (.invokevirtual 83, 3) := by decide +kernel
theorem d195_82 : decode (mcode 195) 82 = .ok (.ifCond .le 12, 3) := by decide +kernel
theorem d195_85 : decode (mcode 195) 85 = .ok (.iload_n 1, 1) := by decide +kernel
theorem d195_86 : decode (mcode 195) 86 = .ok (.aload_n 0, 1) := by decide +kernel
theorem d195_87 : decode (mcode 195) 87 = .ok (.invokevirtual 64, 3) := by decide +kernel
theorem d195_90 : decode (mcode 195) 90 = .ok (.isub, 1) := by decide +kernel
theorem d195_91 : decode (mcode 195) 91 = .ok (.goto 4, 3) := by decide +kernel
theorem d195_94 : decode (mcode 195) 94 = .ok (.iconst (-1), 1) := by decide +kernel
theorem d195_95 : decode (mcode 195) 95 = .ok (.ireturn, 1) := by decide +kernel
theorem d196_0 : decode (mcode 196) 0 = .ok (.iload_n 2, 1) := by decide +kernel
theorem d196_1 : decode (mcode 196) 1 = .ok (.ifCond .ne 9, 3) := by decide +kernel
theorem d196_4 : decode (mcode 196) 4 = .ok (.iconst 2, 1) := by decide +kernel
theorem d196_5 : decode (mcode 196) 5 = .ok (.iload_n 1, 1) := by decide +kernel
theorem d196_6 : decode (mcode 196) 6 = .ok (.imul, 1) := by decide +kernel
theorem d196_7 : decode (mcode 196) 7 = .ok (.goto 39, 3) := by decide +kernel
theorem d196_10 : decode (mcode 196) 10 = .ok (.iload_n 2, 1) := by decide +kernel
theorem d196_11 : decode (mcode 196) 11 = .ok (.iconst 1, 1) := by decide +kernel
theorem d196_12 : decode (mcode 196) 12 = .ok (.if_icmp .ne 11, 3) := by decide +kernel
theorem d196_15 : decode (mcode 196) 15 = .ok (.iconst 2, 1) := by decide +kernel
theorem d196_16 : decode (mcode 196) 16 = .ok (.iload_n 1, 1) := by decide +kernel
theorem d196_17 : decode (mcode 196) 17 = .ok (.imul, 1) := by decide +kernel
theorem d196_18 : decode (mcode 196) 18 = .ok (.iconst 1, 1) := by decide +kernel
theorem d196_19 : decode (mcode 196) 19 = .ok (.iadd, 1) := by decide +kernel
theorem d196_20 : decode (mcode 196) 20 = .ok (.goto 26, 3) := by decide +kernel
theorem d196_23 : decode (mcode 196) 23 = .ok (.iload_n 2, 1) := by decide +kernel
theorem d196_24 : decode (mcode 196) 24 = .ok (.iconst 2, 1) := by decide +kernel
theorem d196_25 : decode (mcode 196) 25 = .ok (.if_icmp .ne 11, 3) := by decide +kernel
theorem d196_28 : decode (mcode 196) 28 = .ok (.iconst 2, 1) := by decide +kernel
theorem d196_29 : decode (mcode 196) 29 = .ok (.iload_n 1, 1) := by decide +kernel
theorem d196_30 : decode (mcode 196) 30 = .ok (.iconst 1, 1) := by decide +kernel
theorem d196_31 : decode (mcode 196) 31 = .ok (.isub, 1) := by decide +kernel
theorem d196_32 : decode (mcode 196) 32 = .ok (.imul, 1) := by decide +kernel
theorem d196_33 : decode (mcode 196) 33 = .ok (.goto 13, 3) := by decide +kernel
theorem d196_36 : decode (mcode 196) 36 = .ok (.iconst 2, 1) := by decide +kernel
theorem d196_37 : decode (mcode 196) 37 = .ok (.iload_n 1, 1) := by decide +kernel
theorem d196_38 : decode (mcode 196) 38 = .ok (.aload_n 0, 1) := by decide +kernel
theorem d196_39 : decode (mcode 196) 39 = .ok (.invokevirtual 64, 3) := by decide +kernel
theorem d196_42 : decode (mcode 196) 42 = .ok (.isub, 1) := by decide +kernel
theorem d196_43 : decode (mcode 196) 43 = .ok (.imul, 1) := by decide +kernel
theorem d196_44 : decode (mcode 196) 44 = .ok (.iconst 1, 1) := by decide +kernel
theorem d196_45 : decode (mcode 196) 45 = .ok (.iadd, 1) := by decide +kernel
theorem d196_46 : decode (mcode 196) 46 = .ok (.ireturn, 1) := by decide +kernel
theorem d197_0 : decode (mcode 197) 0 = .ok (.iconst 0, 1) := by decide +kernel
theorem d197_1 : decode (mcode 197) 1 = .ok (.istore_n 2, 1) := by decide +kernel
theorem d197_2 : decode (mcode 197) 2 = .ok (.iconst 0, 1) := by decide +kernel
theorem d197_3 : decode (mcode 197) 3 = .ok (.istore_n 3, 1) := by decide +kernel
theorem d197_4 : decode (mcode 197) 4 = .ok (.iconst 0, 1) := by decide +kernel
theorem d197_5 : decode (mcode 197) 5 = .ok (.istore 4, 2) := by decide +kernel
theorem d197_7 : decode (mcode 197) 7 = .ok (.iload 4, 2) := by decide +kernel
theorem d197_9 : decode (mcode 197) 9 = .ok (.iconst 4, 1) := by decide +kernel
theorem d197_10 : decode (mcode 197) 10 = .ok (.if_icmp .ge 54, 3) := by decide +kernel
theorem d197_13 : decode (mcode 197) 13 = .ok (.aload_n 0, 1) := by decide +kernel
theorem d197_14 : decode (mcode 197) 14 = .ok (.iload_n 1, 1) := by decide +kernel
theorem d197_15 : decode (mcode 197) 15 = .ok (.iload 4, 2) := by decide +kernel
theorem d197_17 : decode (mcode 197) 17 = .ok (.invokevirtual 129, 3) := by decide +kernel
theorem d197_20 : decode (mcode 197) 20 = .ok (.istore 5, 2) := by decide +kernel
theorem d197_22 : decode (mcode 197) 22 = .ok (.iload 5, 2) := by decide +kernel
theorem d197_24 : decode (mcode 197) 24 = .ok (.iconst (-1), 1) := by decide +kernel
theorem d197_25 : decode (mcode 197) 25 = .ok (.if_icmp .eq 33, 3) := by decide +kernel
theorem d197_28 : decode (mcode 197) 28 = .ok (.aload_n 0, 1) := by decide +kernel
theorem d197_29 : decode (mcode 197) 29 = .ok (.iload 5, 2) := by decide +kernel
theorem d197_31 : decode (mcode 197) 31 = .ok (.invokevirtual 89, 3) := by decide +kernel
theorem d197_34 : decode (mcode 197) 34 = .ok (.ifCond .eq 6, 3) := by decide +kernel
theorem d197_37 : decode (mcode 197) 37 = .ok (.goto 21, 3) := by decide +kernel
theorem d197_40 : decode (mcode 197) 40 = .ok (.iload_n 2, 1) := by decide +kernel
theorem d197_41 : decode (mcode 197) 41 = .ok (.iconst 1, 1) := by decide +kernel
theorem d197_42 : decode (mcode 197) 42 = .ok (.iadd, 1) := by decide +kernel
theorem d197_43 : decode (mcode 197) 43 = .ok (.istore_n 2, 1) := by decide +kernel
theorem d197_44 : decode (mcode 197) 44 = .ok (.iload_n 3, 1) := by decide +kernel
theorem d197_45 : decode (mcode 197) 45 = .ok (.aload_n 0, 1) := by decide +kernel
theorem d197_46 : decode (mcode 197) 46 = .ok (.aload_n 0, 1) := by decide +kernel
theorem d197_47 : decode (mcode 197) 47 = .ok (.iload_n 1, 1) := by decide +kernel
theorem d197_48 : decode (mcode 197) 48 = .ok (.iload 5, 2) := by decide +kernel
theorem d197_50 : decode (mcode 197) 50 = .ok (.invokevirtual 133, 3) := by decide +kernel
theorem d197_53 : decode (mcode 197) 53 = .ok (.invokevirtual 136, 3) := by decide +kernel
theorem d197_56 : decode (mcode 197) 56 = .ok (.iadd, 1) := by decide +kernel
theorem d197_57 : decode (mcode 197) 57 = .ok (.istore_n 3, 1) := by decide +kernel
theorem d197_58 : decode (mcode 197) 58 = .ok (.iinc 4 1, 3) := by decide +kernel
theorem d197_61 : decode (mcode 197) 61 = .ok (.goto (-54), 3) := by decide +kernel
theorem d197_64 : decode (mcode 197) 64 = .ok (.iload_n 2, 1) := by decide +kernel
theorem d197_65 : decode (mcode 197) 65 = .ok (.ifCond .ne 5, 3) := by decide +kernel
theorem d197_68 : decode (mcode 197) 68 = .ok (.iconst 0, 1) := by decide +kernel
theorem d197_69 : decode (mcode 197) 69 = .ok (.ireturn, 1) := by decide +kernel
theorem d197_70 : decode (mcode 197) 70 = .ok (.iload_n 3, 1) := by decide +kernel
theorem d197_71 : decode (mcode 197) 71 = .ok (.iload_n 2, 1) := by decide +kernel
theorem d197_72 : decode (mcode 197) 72 = .ok (.idiv, 1) := by decide +kernel
theorem d197_73 : decode (mcode 197) 73 = .ok (.bipush 99, 2) := by decide +kernel
theorem d197_75 : decode (mcode 197) 75 = .ok (.if_icmp .le 7, 3) := by decide +kernel
theorem d197_78 : decode (mcode 197) 78 = .ok (.iconst 0, 1) := by decide +kernel
theorem d197_79 : decode (mcode 197) 79 = .ok (.goto 9, 3) := by decide +kernel
theorem d197_82 : decode (mcode 197) 82 = .ok (.bipush 99, 2) := by decide +kernel
theorem d197_84 : decode (mcode 197) 84 = .ok (.iload_n 3, 1) := by decide +kernel
theorem d197_85 : decode (mcode 197) 85 = .ok (.iload_n 2, 1) := by decide +kernel
theorem d197_86 : decode (mcode 197) 86 = .ok (.idiv, 1) := by decide +kernel
theorem d197_87 : decode (mcode 197) 87 = .ok (.isub, 1) := by decide +kernel
theorem d197_88 : decode (mcode 197) 88 = .ok (.ireturn, 1) := by decide +kernel
theorem d198_0 : decode (mcode 198) 0 = .ok (.aload_n 0, 1) := by decide +kernel
theorem d198_1 : decode (mcode 198) 1 = .ok (.aload_n 0, 1) := by decide +kernel
theorem d198_2 : decode (mcode 198) 2 = .ok (.iload_n 1, 1) := by decide +kernel
theorem d198_3 : decode (mcode 198) 3 = .ok (.invokevirtual 83, 3) := by decide +kernel
theorem d198_6 : decode (mcode 198) 6 = .ok (.aload_n 0, 1) := by decide +kernel
theorem d198_7 : decode (mcode 198) 7 = .ok (.iload_n 2, 1) := by decide +kernel
theorem d198_8 : decode (mcode 198) 8 = .ok (.invokevirtual 83, 3) := by decide +kernel
theorem d198_11 : decode (mcode 198) 11 = .ok (.isub, 1) := by decide +kernel
theorem d198_12 : decode (mcode 198) 12 = .ok (.invokevirtual 136, 3) := by decide +kernel
theorem d198_15 : decode (mcode 198) 15 = .ok (.aload_n 0, 1) := by decide +kernel
theorem d198_16 : decode (mcode 198) 16 = .ok (.aload_n 0, 1) := by decide +kernel
theorem d198_17 : decode (mcode 198) 17 = .ok (.iload_n 1, 1) := by decide +kernel
theorem d198_18 : decode (mcode 198) 18 = .ok (.invokevirtual 80, 3) := by decide +kernel
theorem d198_21 : decode (mcode 198) 21 = .ok (.aload_n 0, 1) := by decide +kernel
theorem d198_22 : decode (mcode 198) 22 = .ok (.iload_n 2, 1) := by decide +kernel
theorem d198_23 : decode (mcode 198) 23 = .ok (.invokevirtual 80, 3) := by decide +kernel
theorem d198_26 : decode (mcode 198) 26 = .ok (.isub, 1) := by decide +kernel
theorem d198_27 : decode (mcode 198) 27 = .ok (.invokevirtual 136, 3) := by decide +kernel
theorem d198_30 : decode (mcode 198) 30 = .ok (.iadd, 1) := by decide +kernel
theorem d198_31 : decode (mcode 198) 31 = .ok (.ireturn, 1) := by decide +kernel
theorem d199_0 : decode (mcode 199) 0 = .ok (.bipush 99, 2) := by decide +kernel
theorem d199_2 : decode (mcode 199) 2 = .ok (.istore_n 2, 1) := by decide +kernel
theorem d199_3 : decode (mcode 199) 3 = .ok (.iconst 0, 1) := by decide +kernel
theorem d199_4 : decode (mcode 199) 4 = .ok (.istore_n 3, 1) := by decide +kernel
theorem d199_5 : decode (mcode 199) 5 = .ok (.iload_n 3, 1) := by decide +kernel
theorem d199_6 : decode (mcode 199) 6 = .ok (.aload_n 0, 1) := by decide +kernel
theorem d199_7 : decode (mcode 199) 7 = .ok (.invokevirtual 67, 3) := by decide +kernel
theorem d199_10 : decode (mcode 199) 10 = .ok (.if_icmp .ge 40, 3) := by decide +kernel
theorem d199_13 : decode (mcode 199) 13 = .ok (.aload_n 0, 1) := by decide +kernel
theorem d199_14 : decode (mcode 199) 14 = .ok (.iload_n 3, 1) := by decide +kernel
theorem d199_15 : decode (mcode 199) 15 = .ok (.invokevirtual 139, 3) := by decide +kernel
theorem d199_18 : decode (mcode 199) 18 = .ok (.ifCond .eq 26, 3) := by decide +kernel
theorem d199_21 : decode (mcode 199) 21 = .ok (.bipush 9, 2) := by decide +kernel
theorem d199_23 : decode (mcode 199) 23 = .ok (.aload_n 0, 1) := by decide +kernel
theorem d199_24 : decode (mcode 199) 24 = .ok (.iload_n 1, 1) := by decide +kernel
theorem d199_25 : decode (mcode 199) 25 = .ok (.iload_n 3, 1) := by decide +kernel
theorem d199_26 : decode (mcode 199) 26 = .ok (.invokevirtual 142, 3) := by decide +kernel
theorem d199_29 : decode (mcode 199) 29 = .ok (.imul, 1) := by decide +kernel
theorem d199_30 : decode (mcode 199) 30 = .ok (.iload_n 2, 1) := by decide +kernel
theorem d199_31 : decode (mcode 199) 31 = .ok (.if_icmp .ge 13, 3) := by decide +kernel
theorem d199_34 : decode (mcode 199) 34 = .ok (.bipush 9, 2) := by decide +kernel
theorem d199_36 : decode (mcode 199) 36 = .ok (.aload_n 0, 1) := by decide +kernel
theorem d199_37 : decode (mcode 199) 37 = .ok (.iload_n 1, 1) := by decide +kernel
theorem d199_38 : decode (mcode 199) 38 = .ok (.iload_n 3, 1) := by decide +kernel
theorem d199_39 : decode (mcode 199) 39 = .ok (.invokevirtual 142, 3) := by decide +kernel
theorem d199_42 : decode (mcode 199) 42 = .ok (.imul, 1) := by decide +kernel
theorem d199_43 : decode (mcode 199) 43 = .ok (.istore_n 2, 1) := by decide +kernel
theorem d199_44 : decode (mcode 199) 44 = .ok (.iinc 3 1, 3) := by decide +kernel
theorem d199_47 : decode (mcode 199) 47 = .ok (.goto (-42), 3) := by decide +kernel
theorem d199_50 : decode (mcode 199) 50 = .ok (.iload_n 2, 1) := by decide +kernel
theorem d199_51 : decode (mcode 199) 51 = .ok (.ireturn, 1) := by decide +kernel
theorem d200_0 : decode (mcode 200) 0 = .ok (.aload_n 0, 1) := by decide +kernel
theorem d200_1 : decode (mcode 200) 1 = .ok (.iconst 0, 1) := by decide +kernel
theorem d200_2 : decode (mcode 200) 2 = .ok (.putfield 57, 3) := by decide +kernel
theorem d200_5 : decode (mcode 200) 5 = .ok (.aload_n 0, 1) := by decide +kernel
theorem d200_6 : decode (mcode 200) 6 = .ok (.iload_n 1, 1) := by decide +kernel
theorem d200_7 : decode (mcode 200) 7 = .ok (.iconst 0, 1) := by decide +kernel
theorem d200_8 : decode (mcode 200) 8 = .ok (.iconst 2, 1) := by decide +kernel
theorem d200_9 : decode (mcode 200) 9 = .ok (.invokevirtual 115, 3) := by decide +kernel
theorem d200_12 : decode (mcode 200) 12 = .ok (.ifCond .ne 5, 3) := by decide +kernel
theorem d200_15 : decode (mcode 200) 15 = .ok (.iconst (-1), 1) := by decide +kernel
theorem d200_16 : decode (mcode 200) 16 = .ok (.ireturn, 1) := by decide +kernel
theorem d200_17 : decode (mcode 200) 17 = .ok (.aload_n 0, 1) := by decide +kernel
theorem d200_18 : decode (mcode 200) 18 = .ok (.invokevirtual 105, 3) := by decide +kernel
theorem d200_21 : decode (mcode 200) 21 = .ok (.iconst 0, 1) := by decide +kernel
theorem d200_22 : decode (mcode 200) 22 = .ok (.istore_n 2, 1) := by decide +kernel
theorem d200_23 : decode (mcode 200) 23 = .ok (.iconst 0, 1) := by decide +kernel
theorem d200_24 : decode (mcode 200) 24 = .ok (.istore_n 3, 1) := by decide +kernel
theorem d200_25 : decode (mcode 200) 25 = .ok (.iload_n 3, 1) := by decide +kernel
theorem d200_26 : decode (mcode 200) 26 = .ok (.aload_n 0, 1) := by decide +kernel
theorem d200_27 : decode (mcode 200) 27 = .ok (.invokevirtual 67, 3) := by decide +kernel
theorem d200_30 : decode (mcode 200) 30 = .ok (.if_icmp .ge 70, 3) := by decide +kernel
theorem d200_33 : decode (mcode 200) 33 = .ok (.iload_n 1, 1) := by decide +kernel
theorem d200_34 : decode (mcode 200) 34 = .ok (.ifCond .ne 8, 3) := by decide +kernel
theorem d200_37 : decode (mcode 200) 37 = .ok (.bipush 50, 2) := by decide +kernel
theorem d200_39 : decode (mcode 200) 39 = .ok (.goto 33, 3) := by decide +kernel
theorem d200_42 : decode (mcode 200) 42 = .ok (.aload_n 0, 1) := by decide +kernel
theorem d200_43 : decode (mcode 200) 43 = .ok (.iload_n 3, 1) := by decide +kernel
theorem d200_44 : decode (mcode 200) 44 = .ok (.invokevirtual 89, 3) := by decide +kernel
theorem d200_47 : decode (mcode 200) 47 = .ok (.ifCond .eq 7, 3) := by decide +kernel
theorem d200_50 : decode (mcode 200) 50 = .ok (.iconst 0, 1) := by decide +kernel
theorem d200_51 : decode (mcode 200) 51 = .ok (.goto 21, 3) := by decide +kernel
theorem d200_54 : decode (mcode 200) 54 = .ok (.iload_n 1, 1) := by decide +kernel
theorem d200_55 : decode (mcode 200) 55 = .ok (.iconst 1, 1) := by decide +kernel
theorem d200_56 : decode (mcode 200) 56 = .ok (.if_icmp .ne 11, 3) := by decide +kernel
theorem d200_59 : decode (mcode 200) 59 = .ok (.aload_n 0, 1) := by decide +kernel
theorem d200_60 : decode (mcode 200) 60 = .ok (.iload_n 3, 1) := by decide +kernel
theorem d200_61 : decode (mcode 200) 61 = .ok (.invokevirtual 145, 3) := by decide +kernel
theorem d200_64 : decode (mcode 200) 64 = .ok (.goto 8, 3) := by decide +kernel
theorem d200_67 : decode (mcode 200) 67 = .ok (.aload_n 0, 1) := by decide +kernel
theorem d200_68 : decode (mcode 200) 68 = .ok (.iload_n 3, 1) := by decide +kernel
theorem d200_69 : decode (mcode 200) 69 = .ok (.invokevirtual 148, 3) := by decide +kernel
theorem d200_72 : decode (mcode 200) 72 = .ok (.istore 4, 2) := by decide +kernel
theorem d200_74 : decode (mcode 200) 74 = .ok (.aload_n 0, 1) := by decide +kernel
theorem d200_75 : decode (mcode 200) 75 = .ok (.getfield 7, 3) := by decide +kernel
theorem d200_78 : decode (mcode 200) 78 = .ok (.sipush 154, 3) := by decide +kernel
theorem d200_81 : decode (mcode 200) 81 = .ok (.iload_n 3, 1) := by decide +kernel
theorem d200_82 : decode (mcode 200) 82 = .ok (.iadd, 1) := by decide +kernel
theorem d200_83 : decode (mcode 200) 83 = .ok (.iload 4, 2) := by decide +kernel
theorem d200_85 : decode (mcode 200) 85 = .ok (.bipush 50, 2) := by decide +kernel
theorem d200_87 : decode (mcode 200) 87 = .ok (.isub, 1) := by decide +kernel
theorem d200_88 : decode (mcode 200) 88 = .ok (.iastore, 1) := by decide +kernel
theorem d200_89 : decode (mcode 200) 89 = .ok (.iload_n 2, 1) := by decide +kernel
theorem d200_90 : decode (mcode 200) 90 = .ok (.iload 4, 2) := by decide +kernel
theorem d200_92 : decode (mcode 200) 92 = .ok (.iadd, 1) := by decide +kernel
theorem d200_93 : decode (mcode 200) 93 = .ok (.istore_n 2, 1) := by decide +kernel
theorem d200_94 : decode (mcode 200) 94 = .ok (.iinc 3 1, 3) := by decide +kernel
theorem d200_97 : decode (mcode 200) 97 = .ok (.goto (-72), 3) := by decide +kernel
theorem d200_100 : decode (mcode 200) 100 = .ok (.iload_n 2, 1) := by decide +kernel
theorem d200_101 : decode (mcode 200) 101 = .ok (.ireturn, 1) := by decide +kernel
theorem d201_0 : decode (mcode 201) 0 = .ok (.aload_n 0, 1) := by decide +kernel
theorem d201_1 : decode (mcode 201) 1 = .ok (.iconst 0, 1) := by decide +kernel
theorem d201_2 : decode (mcode 201) 2 = .ok (.putfield 57, 3) := by decide +kernel
theorem d201_5 : decode (mcode 201) 5 = .ok (.aload_n 0, 1) := by decide +kernel
theorem d201_6 : decode (mcode 201) 6 = .ok (.iload_n 1, 1) := by decide +kernel
theorem d201_7 : decode (mcode 201) 7 = .ok (.sipush (-999), 3) := by decide +kernel
theorem d201_10 : decode (mcode 201) 10 = .ok (.sipush 999, 3) := by decide +kernel
theorem d201_13 : decode (mcode 201) 13 = .ok (.invokevirtual 115, 3) := by decide +kernel
theorem d201_16 : decode (mcode 201) 16 = .ok (.ifCond .eq 17, 3) := by decide +kernel
theorem d201_19 : decode (mcode 201) 19 = .ok (.aload_n 0, 1) := by decide +kernel
theorem d201_20 : decode (mcode 201) 20 = .ok (.iload_n 2, 1) := by decide +kernel
theorem d201_21 : decode (mcode 201) 21 = .ok (.sipush (-999), 3) := by decide +kernel
theorem d201_24 : decode (mcode 201) 24 = .ok (.sipush 999, 3) := by decide +kernel
theorem d201_27 : decode (mcode 201) 27 = .ok (.invokevirtual 115, 3) := by decide +kernel
theorem d201_30 : decode (mcode 201) 30 = .ok (.ifCond .ne 5, 3) := by decide +kernel
theorem d201_33 : decode (mcode 201) 33 = .ok (.iconst 0, 1) := by decide +kernel
theorem d201_34 : decode (mcode 201) 34 = .ok (.ireturn, 1) := by decide +kernel
theorem d201_35 : decode (mcode 201) 35 = .ok (.aload_n 0, 1) := by decide +kernel
theorem d201_36 : decode (mcode 201) 36 = .ok (.invokevirtual 126, 3) := by decide +kernel
theorem d201_39 : decode (mcode 201) 39 = .ok (.iconst 0, 1) := by decide +kernel
theorem d201_40 : decode (mcode 201) 40 = .ok (.istore_n 3, 1) := by decide +kernel
theorem d201_41 : decode (mcode 201) 41 = .ok (.iload_n 3, 1) := by decide +kernel
theorem d201_42 : decode (mcode 201) 42 = .ok (.aload_n 0, 1) := by decide +kernel
theorem d201_43 : decode (mcode 201) 43 = .ok (.invokevirtual 67, 3) := by decide +kernel
theorem d201_46 : decode (mcode 201) 46 = .ok (.if_icmp .ge 44, 3) := by decide +kernel
theorem d201_49 : decode (mcode 201) 49 = .ok (.aload_n 0, 1) := by decide +kernel
theorem d201_50 : decode (mcode 201) 50 = .ok (.getfield 7, 3) := by decide +kernel
theorem d201_53 : decode (mcode 201) 53 = .ok (.bipush 10, 2) := by decide +kernel
theorem d201_55 : decode (mcode 201) 55 = .ok (.iload_n 3, 1) := by decide +kernel
theorem d201_56 : decode (mcode 201) 56 = .ok (.iadd, 1) := by decide +kernel
theorem d201_57 : decode (mcode 201) 57 = .ok (.aload_n 0, 1) := by decide +kernel
theorem d201_58 : decode (mcode 201) 58 = .ok (.aload_n 0, 1) := by decide +kernel
theorem d201_59 : decode (mcode 201) 59 = .ok (.iload_n 3, 1) := by decide +kernel
theorem d201_60 : decode (mcode 201) 60 = .ok (.invokevirtual 72, 3) := by decide +kernel
theorem d201_63 : decode (mcode 201) 63 = .ok (.iload_n 1, 1) := by decide +kernel
theorem d201_64 : decode (mcode 201) 64 = .ok (.aload_n 0, 1) := by decide +kernel
theorem d201_65 : decode (mcode 201) 65 = .ok (.iload_n 3, 1) := by decide +kernel
theorem d201_66 : decode (mcode 201) 66 = .ok (.invokevirtual 83, 3) := by decide +kernel
theorem d201_69 : decode (mcode 201) 69 = .ok (.imul, 1) := by decide +kernel
theorem d201_70 : decode (mcode 201) 70 = .ok (.iadd, 1) := by decide +kernel
theorem d201_71 : decode (mcode 201) 71 = .ok (.iload_n 2, 1) := by decide +kernel
theorem d201_72 : decode (mcode 201) 72 = .ok (.aload_n 0, 1) := by decide +kernel
theorem d201_73 : decode (mcode 201) 73 = .ok (.iload_n 3, 1) := by decide +kernel
theorem d201_74 : decode (mcode 201) 74 = .ok (.invokevirtual 80, 3) := by decide +kernel
theorem d201_77 : decode (mcode 201) 77 = .ok (.imul, 1) := by decide +kernel
theorem d201_78 : decode (mcode 201) 78 = .ok (.iadd, 1) := by decide +kernel
theorem d201_79 : decode (mcode 201) 79 = .ok (.i2l, 1) := by decide +kernel
theorem d201_80 : decode (mcode 201) 80 = .ok (.invokevirtual 76, 3) := by decide +kernel
theorem d201_83 : decode (mcode 201) 83 = .ok (.iastore, 1) := by decide +kernel
theorem d201_84 : decode (mcode 201) 84 = .ok (.iinc 3 1, 3) := by decide +kernel
theorem d201_87 : decode (mcode 201) 87 = .ok (.goto (-46), 3) := by decide +kernel
theorem d201_90 : decode (mcode 201) 90 = .ok (.iconst 1, 1) := by decide +kernel
theorem d201_91 : decode (mcode 201) 91 = .ok (.ireturn, 1) := by decide +kernel
theorem d202_0 : decode (mcode 202) 0 = .ok (.aload_n 0, 1) := by decide +kernel
theorem d202_1 : decode (mcode 202) 1 = .ok (.ldc 151, 2) := by decide +kernel
theorem d202_3 : decode (mcode 202) 3 = .ok (.aload_n 0, 1) := by decide +kernel
theorem d202_4 : decode (mcode 202) 4 = .ok (.getfield 152, 3) := by decide +kernel
theorem d202_7 : decode (mcode 202) 7 = .ok (.imul, 1) := by decide +kernel
theorem d202_8 : decode (mcode 202) 8 = .ok (.ldc 155, 2) := by decide +kernel
theorem d202_10 : decode (mcode 202) 10 = .ok (.iadd, 1) := by decide +kernel
theorem d202_11 : decode (mcode 202) 11 = .ok (.putfield 152, 3) := by decide +kernel
theorem d202_14 : decode (mcode 202) 14 = .ok (.aload_n 0, 1) := by decide +kernel
theorem d202_15 : decode (mcode 202) 15 = .ok (.getfield 152, 3) := by decide +kernel
theorem d202_18 : decode (mcode 202) 18 = .ok (.bipush 8, 2) := by decide +kernel
theorem d202_20 : decode (mcode 202) 20 = .ok (.iushr, 1) := by decide +kernel
theorem d202_21 : decode (mcode 202) 21 = .ok (.iload_n 1, 1) := by decide +kernel
theorem d202_22 : decode (mcode 202) 22 = .ok (.irem, 1) := by decide +kernel
theorem d202_23 : decode (mcode 202) 23 = .ok (.ireturn, 1) := by decide +kernel
theorem d203_0 : decode (mcode 203) 0 = .ok (.aload_n 0, 1) := by decide +kernel
theorem d203_1 : decode (mcode 203) 1 = .ok (.iconst 0, 1) := by decide +kernel
theorem d203_2 : decode (mcode 203) 2 = .ok (.putfield 57, 3) := by decide +kernel
theorem d203_5 : decode (mcode 203) 5 = .ok (.aload_n 0, 1) := by decide +kernel
theorem d203_6 : decode (mcode 203) 6 = .ok (.iload_n 1, 1) := by decide +kernel
theorem d203_7 : decode (mcode 203) 7 = .ok (.iconst 1, 1) := by decide +kernel
theorem d203_8 : decode (mcode 203) 8 = .ok (.bipush 60, 2) := by decide +kernel
theorem d203_10 : decode (mcode 203) 10 = .ok (.invokevirtual 115, 3) := by decide +kernel
theorem d203_13 : decode (mcode 203) 13 = .ok (.ifCond .ne 5, 3) := by decide +kernel
theorem d203_16 : decode (mcode 203) 16 = .ok (.iconst 0, 1) := by decide +kernel
theorem d203_17 : decode (mcode 203) 17 = .ok (.ireturn, 1) := by decide +kernel
theorem d203_18 : decode (mcode 203) 18 = .ok (.aload_n 0, 1) := by decide +kernel
theorem d203_19 : decode (mcode 203) 19 = .ok (.invokevirtual 126, 3) := by decide +kernel
theorem d203_22 : decode (mcode 203) 22 = .ok (.iconst 0, 1) := by decide +kernel
theorem d203_23 : decode (mcode 203) 23 = .ok (.istore_n 2, 1) := by decide +kernel
theorem d203_24 : decode (mcode 203) 24 = .ok (.iload_n 2, 1) := by decide +kernel
theorem d203_25 : decode (mcode 203) 25 = .ok (.iload_n 1, 1) := by decide +kernel
theorem d203_26 : decode (mcode 203) 26 = .ok (.if_icmp .ge 47, 3) := by decide +kernel
theorem d203_29 : decode (mcode 203) 29 = .ok (.aload_n 0, 1) := by decide +kernel
theorem d203_30 : decode (mcode 203) 30 = .ok (.aload_n 0, 1) := by decide +kernel
theorem d203_31 : decode (mcode 203) 31 = .ok (.invokevirtual 67, 3) := by decide +kernel
theorem d203_34 : decode (mcode 203) 34 = .ok (.invokevirtual 156, 3) := by decide +kernel
theorem d203_37 : decode (mcode 203) 37 = .ok (.istore_n 3, 1) := by decide +kernel
theorem d203_38 : decode (mcode 203) 38 = .ok (.aload_n 0, 1) := by decide +kernel
theorem d203_39 : decode (mcode 203) 39 = .ok (.getfield 7, 3) := by decide +kernel
theorem d203_42 : decode (mcode 203) 42 = .ok (.bipush 10, 2) := by decide +kernel
theorem d203_44 : decode (mcode 203) 44 = .ok (.iload_n 3, 1) := by decide +kernel
theorem d203_45 : decode (mcode 203) 45 = .ok (.iadd, 1) := by decide +kernel
theorem d203_46 : decode (mcode 203) 46 = .ok (.aload_n 0, 1) := by decide +kernel
theorem d203_47 : decode (mcode 203) 47 = .ok (.aload_n 0, 1) := by decide +kernel
theorem d203_48 : decode (mcode 203) 48 = .ok (.iload_n 3, 1) := by decide +kernel
theorem d203_49 : decode (mcode 203) 49 = .ok (.invokevirtual 72, 3) := by decide +kernel
theorem d203_52 : decode (mcode 203) 52 = .ok (.aload_n 0, 1) := by decide +kernel
theorem d203_53 : decode (mcode 203) 53 = .ok (.bipush 65, 2) := by decide +kernel
theorem d203_55 : decode (mcode 203) 55 = .ok (.invokevirtual 156, 3) := by decide +kernel
theorem d203_58 : decode (mcode 203) 58 = .ok (.iadd, 1) := by decide +kernel
theorem d203_59 : decode (mcode 203) 59 = .ok (.bipush 32, 2) := by decide +kernel
theorem d203_61 : decode (mcode 203) 61 = .ok (.isub, 1) := by decide +kernel
theorem d203_62 : decode (mcode 203) 62 = .ok (.i2l, 1) := by decide +kernel
theorem d203_63 : decode (mcode 203) 63 = .ok (.invokevirtual 76, 3) := by decide +kernel
theorem d203_66 : decode (mcode 203) 66 = .ok (.iastore, 1) := by decide +kernel
theorem d203_67 : decode (mcode 203) 67 = .ok (.iinc 2 1, 3) := by decide +kernel
theorem d203_70 : decode (mcode 203) 70 = .ok (.goto (-46), 3) := by decide +kernel
theorem d203_73 : decode (mcode 203) 73 = .ok (.iconst 1, 1) := by decide +kernel
theorem d203_74 : decode (mcode 203) 74 = .ok (.ireturn, 1) := by decide +kernel
theorem d204_0 : decode (mcode 204) 0 = .ok (.aload_n 0, 1) := by decide +kernel
theorem d204_1 : decode (mcode 204) 1 = .ok (.iconst 0, 1) := by decide +kernel
theorem d204_2 : decode (mcode 204) 2 = .ok (.putfield 57, 3) := by decide +kernel
theorem d204_5 : decode (mcode 204) 5 = .ok (.aload_n 0, 1) := by decide +kernel
theorem d204_6 : decode (mcode 204) 6 = .ok (.getfield 152, 3) := by decide +kernel
theorem d204_9 : decode (mcode 204) 9 = .ok (.istore_n 2, 1) := by decide +kernel
theorem d204_10 : decode (mcode 204) 10 = .ok (.aload_n 0, 1) := by decide +kernel
theorem d204_11 : decode (mcode 204) 11 = .ok (.iload_n 1, 1) := by decide +kernel
theorem d204_12 : decode (mcode 204) 12 = .ok (.putfield 152, 3) := by decide +kernel
theorem d204_15 : decode (mcode 204) 15 = .ok (.iload_n 2, 1) := by decide +kernel
theorem d204_16 : decode (mcode 204) 16 = .ok (.ireturn, 1) := by decide +kernel
theorem d205_0 : decode (mcode 205) 0 = .ok (.aload_n 0, 1) := by decide +kernel
theorem d205_1 : decode (mcode 205) 1 = .ok (.iload_n 1, 1) := by decide +kernel
theorem d205_2 : decode (mcode 205) 2 = .ok (.invokevirtual 123, 3) := by decide +kernel
theorem d205_5 : decode (mcode 205) 5 = .ok (.ifCond .eq 35, 3) := by decide +kernel
theorem d205_8 : decode (mcode 205) 8 = .ok (.aload_n 0, 1) := by decide +kernel
theorem d205_9 : decode (mcode 205) 9 = .ok (.iload_n 1, 1) := by decide +kernel
theorem d205_10 : decode (mcode 205) 10 = .ok (.invokevirtual 83, 3) := by decide +kernel
theorem d205_13 : decode (mcode 205) 13 = .ok (.aload_n 0, 1) := by decide +kernel
theorem d205_14 : decode (mcode 205) 14 = .ok (.invokevirtual 60, 3) := by decide +kernel
theorem d205_17 : decode (mcode 205) 17 = .ok (.iconst 1, 1) := by decide +kernel
theorem d205_18 : decode (mcode 205) 18 = .ok (.isub, 1) := by decide +kernel
theorem d205_19 : decode (mcode 205) 19 = .ok (.if_icmp .ge 21, 3) := by decide +kernel
theorem d205_22 : decode (mcode 205) 22 = .ok (.aload_n 0, 1) := by decide +kernel
theorem d205_23 : decode (mcode 205) 23 = .ok (.iload_n 1, 1) := by decide +kernel
theorem d205_24 : decode (mcode 205) 24 = .ok (.invokevirtual 80, 3) := by decide +kernel
theorem d205_27 : decode (mcode 205) 27 = .ok (.aload_n 0, 1) := by decide +kernel
theorem d205_28 : decode (mcode 205) 28 = .ok (.invokevirtual 64, 3) := by decide +kernel
theorem d205_31 : decode (mcode 205) 31 = .ok (.iconst 1, 1) := by decide +kernel
theorem d205_32 : decode (mcode 205) 32 = .ok (.isub, 1) := by decide +kernel
theorem d205_33 : decode (mcode 205) 33 = .ok (.if_icmp .ge 7, 3) := by decide +kernel
theorem d205_36 : decode (mcode 205) 36 = .ok (.iconst 1, 1) := by decide +kernel
theorem d205_37 : decode (mcode 205) 37 = .ok (.goto 4, 3) := by decide +kernel
theorem d205_40 : decode (mcode 205) 40 = .ok (.iconst 0, 1) := by decide +kernel
theorem d205_41 : decode (mcode 205) 41 = .ok (.ireturn, 1) := by decide +kernel
theorem d206_0 : decode (mcode 206) 0 = .ok (.aload_n 0, 1) := by decide +kernel
theorem d206_1 : decode (mcode 206) 1 = .ok (.iload_n 1, 1) := by decide +kernel
theorem d206_2 : decode (mcode 206) 2 = .ok (.invokevirtual 159, 3) := by decide +kernel
theorem d206_5 : decode (mcode 206) 5 = .ok (.ifCond .ne 5, 3) := by decide +kernel
theorem d206_8 : decode (mcode 206) 8 = .ok (.iconst 0, 1) := by decide +kernel
theorem d206_9 : decode (mcode 206) 9 = .ok (.ireturn, 1) := by decide +kernel
theorem d206_10 : decode (mcode 206) 10 = .ok (.iload_n 1, 1) := by decide +kernel
theorem d206_11 : decode (mcode 206) 11 = .ok (.iconst 1, 1) := by decide +kernel
theorem d206_12 : decode (mcode 206) 12 = .ok (.iadd, 1) := by decide +kernel
theorem d206_13 : decode (mcode 206) 13 = .ok (.istore_n 2, 1) := by decide +kernel
theorem d206_14 : decode (mcode 206) 14 = .ok (.iload_n 1, 1) := by decide +kernel
theorem d206_15 : decode (mcode 206) 15 = .ok (.aload_n 0, 1) := by decide +kernel
theorem d206_16 : decode (mcode 206) 16 = .ok (.invokevirtual 64, 3) := by decide +kernel
theorem d206_19 : decode (mcode 206) 19 = .ok (.iadd, 1) := by decide +kernel
theorem d206_20 : decode (mcode 206) 20 = .ok (.istore_n 3, 1) := by decide +kernel
theorem d206_21 : decode (mcode 206) 21 = .ok (.aload_n 0, 1) := by decide +kernel
theorem d206_22 : decode (mcode 206) 22 = .ok (.iload_n 1, 1) := by decide +kernel
theorem d206_23 : decode (mcode 206) 23 = .ok (.invokevirtual 89, 3) := by decide +kernel
theorem d206_26 : decode (mcode 206) 26 = .ok (.ifCond .ne 29, 3) := by decide +kernel
theorem d206_29 : decode (mcode 206) 29 = .ok (.aload_n 0, 1) := by decide +kernel
theorem d206_30 : decode (mcode 206) 30 = .ok (.iload_n 2, 1) := by decide +kernel
theorem d206_31 : decode (mcode 206) 31 = .ok (.invokevirtual 89, 3) := by decide +kernel
theorem d206_34 : decode (mcode 206) 34 = .ok (.ifCond .ne 21, 3) := by decide +kernel
theorem d206_37 : decode (mcode 206) 37 = .ok (.aload_n 0, 1) := by decide +kernel
theorem d206_38 : decode (mcode 206) 38 = .ok (.iload_n 3, 1) := by decide +kernel
theorem d206_39 : decode (mcode 206) 39 = .ok (.invokevirtual 89, 3) := by decide +kernel
theorem d206_42 : decode (mcode 206) 42 = .ok (.ifCond .ne 13, 3) := by decide +kernel
theorem d206_45 : decode (mcode 206) 45 = .ok (.aload_n 0, 1) := by decide +kernel
theorem d206_46 : decode (mcode 206) 46 = .ok (.iload_n 3, 1) := by decide +kernel
theorem d206_47 : decode (mcode 206) 47 = .ok (.iconst 1, 1) := by decide +kernel
theorem d206_48 : decode (mcode 206) 48 = .ok (.iadd, 1) := by decide +kernel
theorem d206_49 : decode (mcode 206) 49 = .ok (.invokevirtual 89, 3) := by decide +kernel
theorem d206_52 : decode (mcode 206) 52 = .ok (.ifCond .eq 5, 3) := by decide +kernel
theorem d206_55 : decode (mcode 206) 55 = .ok (.iconst 0, 1) := by decide +kernel
theorem d206_56 : decode (mcode 206) 56 = .ok (.ireturn, 1) := by decide +kernel
theorem d206_57 : decode (mcode 206) 57 = .ok (.aload_n 0, 1) := by decide +kernel
theorem d206_58 : decode (mcode 206) 58 = .ok (.iload_n 1, 1) := by decide +kernel
theorem d206_59 : decode (mcode 206) 59 = .ok (.iload_n 2, 1) := by decide +kernel
theorem d206_60 : decode (mcode 206) 60 = .ok (.invokevirtual 133, 3) := by decide +kernel
theorem d206_63 : decode (mcode 206) 63 = .ok (.aload_n 0, 1) := by decide +kernel
theorem d206_64 : decode (mcode 206) 64 = .ok (.iload_n 2, 1) := by decide +kernel
theorem d206_65 : decode (mcode 206) 65 = .ok (.iload_n 3, 1) := by decide +kernel
theorem d206_66 : decode (mcode 206) 66 = .ok (.iconst 1, 1) := by decide +kernel
theorem d206_67 : decode (mcode 206) 67 = .ok (.iadd, 1) := by decide +kernel
theorem d206_68 : decode (mcode 206) 68 = .ok (.invokevirtual 133, 3) := by decide +kernel
theorem d206_71 : decode (mcode 206) 71 = .ok (.iadd, 1) := by decide +kernel
theorem d206_72 : decode (mcode 206) 72 = .ok (.aload_n 0, 1) := by decide +kernel
theorem d206_73 : decode (mcode 206) 73 = .ok (.iload_n 3, 1) := by decide +kernel
theorem d206_74 : decode (mcode 206) 74 = .ok (.iconst 1, 1) := by decide +kernel
theorem d206_75 : decode (mcode 206) 75 = .ok (.iadd, 1) := by decide +kernel
theorem d206_76 : decode (mcode 206) 76 = .ok (.iload_n 3, 1) := by decide +kernel
theorem d206_77 : decode (mcode 206) 77 = .ok (.invokevirtual 133, 3) := by decide +kernel
theorem d206_80 : decode (mcode 206) 80 = .ok (.iadd, 1) := by decide +kernel
theorem d206_81 : decode (mcode 206) 81 = .ok (.aload_n 0, 1) := by decide +kernel
theorem d206_82 : decode (mcode 206) 82 = .ok (.iload_n 3, 1) := by decide +kernel
theorem d206_83 : decode (mcode 206) 83 = .ok (.iload_n 1, 1) := by decide +kernel
theorem d206_84 : decode (mcode 206) 84 = .ok (.invokevirtual 133, 3) := by decide +kernel
theorem d206_87 : decode (mcode 206) 87 = .ok (.iadd, 1) := by decide +kernel
theorem d206_88 : decode (mcode 206) 88 = .ok (.sipush 255, 3) := by decide +kernel
theorem d206_91 : decode (mcode 206) 91 = .ok (.idiv, 1) := by decide +kernel
theorem d206_92 : decode (mcode 206) 92 = .ok (.ireturn, 1) := by decide +kernel
theorem d207_0 : decode (mcode 207) 0 = .ok (.iload_n 2, 1) := by decide +kernel
theorem d207_1 : decode (mcode 207) 1 = .ok (.ifCond .ne 11, 3) := by decide +kernel
theorem d207_4 : decode (mcode 207) 4 = .ok (.aload_n 0, 1) := by decide +kernel
theorem d207_5 : decode (mcode 207) 5 = .ok (.iload_n 1, 1) := by decide +kernel
theorem d207_6 : decode (mcode 207) 6 = .ok (.invokevirtual 83, 3) := by decide +kernel
theorem d207_9 : decode (mcode 207) 9 = .ok (.iconst 1, 1) := by decide +kernel
theorem d207_10 : decode (mcode 207) 10 = .ok (.iadd, 1) := by decide +kernel
theorem d207_11 : decode (mcode 207) 11 = .ok (.ireturn, 1) := by decide +kernel
theorem d207_12 : decode (mcode 207) 12 = .ok (.iload_n 2, 1) := by decide +kernel
theorem d207_13 : decode (mcode 207) 13 = .ok (.iconst 1, 1) := by decide +kernel
theorem d207_14 : decode (mcode 207) 14 = .ok (.if_icmp .ne 16, 3) := by decide +kernel
theorem d207_17 : decode (mcode 207) 17 = .ok (.aload_n 0, 1) := by decide +kernel
theorem d207_18 : decode (mcode 207) 18 = .ok (.invokevirtual 60, 3) := by decide +kernel
theorem d207_21 : decode (mcode 207) 21 = .ok (.iconst 1, 1) := by decide +kernel
theorem d207_22 : decode (mcode 207) 22 = .ok (.isub, 1) := by decide +kernel
theorem d207_23 : decode (mcode 207) 23 = .ok (.aload_n 0, 1) := by decide +kernel
theorem d207_24 : decode (mcode 207) 24 = .ok (.iload_n 1, 1) := by decide +kernel
theorem d207_25 : decode (mcode 207) 25 = .ok (.invokevirtual 83, 3) := by decide +kernel
theorem d207_28 : decode (mcode 207) 28 = .ok (.isub, 1) := by decide +kernel
theorem d207_29 : decode (mcode 207) 29 = .ok (.ireturn, 1) := by decide +kernel
theorem d207_30 : decode (mcode 207) 30 = .ok (.iload_n 2, 1) := by decide +kernel
theorem d207_31 : decode (mcode 207) 31 = .ok (.iconst 2, 1) := by decide +kernel
theorem d207_32 : decode (mcode 207) 32 = .ok (.if_icmp .ne 13, 3) := by decide +kernel
theorem d207_35 : decode (mcode 207) 35 = .ok (.aload_n 0, 1) := by decide +kernel
theorem d207_36 : decode (mcode 207) 36 = .ok (.iload_n 1, 1) := by decide +kernel
theorem d207_37 : decode (mcode 207) 37 = .ok (.invokevirtual 80, 3) := by decide +kernel
theorem d207_40 : decode (mcode 207) 40 = .ok (.iconst 1, 1) := by decide +kernel
theorem d207_41 : decode (mcode 207) 41 = .ok (.iadd, 1) := by decide +kernel
theorem d207_42 : decode (mcode 207) 42 = .ok (.goto 15, 3) := by decide +kernel
theorem d207_45 : decode (mcode 207) 45 = .ok (.aload_n 0, 1) := by decide +kernel
theorem d207_46 : decode (mcode 207) 46 = .ok (.invokevirtual 64, 3) := by decide +kernel
theorem d207_49 : decode (mcode 207) 49 = .ok (.iconst 1, 1) := by decide +kernel
theorem d207_50 : decode (mcode 207) 50 = .ok (.isub, 1) := by decide +kernel
theorem d207_51 : decode (mcode 207) 51 = .ok (.aload_n 0, 1) := by decide +kernel
theorem d207_52 : decode (mcode 207) 52 = .ok (.iload_n 1, 1) := by decide +kernel
theorem d207_53 : decode (mcode 207) 53 = .ok (.invokevirtual 80, 3) := by decide +kernel
theorem d207_56 : decode (mcode 207) 56 = .ok (.isub, 1) := by decide +kernel
theorem d207_57 : decode (mcode 207) 57 = .ok (.ireturn, 1) := by decide +kernel
theorem d208_0 : decode (mcode 208) 0 = .ok (.iconst 0, 1) := by decide +kernel
theorem d208_1 : decode (mcode 208) 1 = .ok (.istore_n 2, 1) := by decide +kernel
theorem d208_2 : decode (mcode 208) 2 = .ok (.iconst 1, 1) := by decide +kernel
theorem d208_3 : decode (mcode 208) 3 = .ok (.istore_n 3, 1) := by decide +kernel
theorem d208_4 : decode (mcode 208) 4 = .ok (.iload_n 3, 1) := by decide +kernel
theorem d208_5 : decode (mcode 208) 5 = .ok (.iconst 4, 1) := by decide +kernel
theorem d208_6 : decode (mcode 208) 6 = .ok (.if_icmp .ge 26, 3) := by decide +kernel
theorem d208_9 : decode (mcode 208) 9 = .ok (.aload_n 0, 1) := by decide +kernel
theorem d208_10 : decode (mcode 208) 10 = .ok (.iload_n 1, 1) := by decide +kernel
theorem d208_11 : decode (mcode 208) 11 = .ok (.iload_n 3, 1) := by decide +kernel
theorem d208_12 : decode (mcode 208) 12 = .ok (.invokevirtual 162, 3) := by decide +kernel
theorem d208_15 : decode (mcode 208) 15 = .ok (.aload_n 0, 1) := by decide +kernel
theorem d208_16 : decode (mcode 208) 16 = .ok (.iload_n 1, 1) := by decide +kernel
theorem d208_17 : decode (mcode 208) 17 = .ok (.iload_n 2, 1) := by decide +kernel
theorem d208_18 : decode (mcode 208) 18 = .ok (.invokevirtual 162, 3) := by decide +kernel
theorem d208_21 : decode (mcode 208) 21 = .ok (.if_icmp .ge 5, 3) := by decide +kernel
theorem d208_24 : decode (mcode 208) 24 = .ok (.iload_n 3, 1) := by decide +kernel
theorem d208_25 : decode (mcode 208) 25 = .ok (.istore_n 2, 1) := by decide +kernel
theorem d208_26 : decode (mcode 208) 26 = .ok (.iinc 3 1, 3) := by decide +kernel
theorem d208_29 : decode (mcode 208) 29 = .ok (.goto (-25), 3) := by decide +kernel
theorem d208_32 : decode (mcode 208) 32 = .ok (.iload_n 2, 1) := by decide +kernel
theorem d208_33 : decode (mcode 208) 33 = .ok (.ireturn, 1) := by decide +kernel
theorem d209_0 : decode (mcode 209) 0 = .ok (.aload_n 0, 1) := by decide +kernel
theorem d209_1 : decode (mcode 209) 1 = .ok (.iload_n 1, 1) := by decide +kernel
theorem d209_2 : decode (mcode 209) 2 = .ok (.aload_n 0, 1) := by decide +kernel
theorem d209_3 : decode (mcode 209) 3 = .ok (.iload_n 1, 1) := by decide +kernel
theorem d209_4 : decode (mcode 209) 4 = .ok (.invokevirtual 165, 3) := by decide +kernel
theorem d209_7 : decode (mcode 209) 7 = .ok (.invokevirtual 162, 3) := by decide +kernel
theorem d209_10 : decode (mcode 209) 10 = .ok (.ireturn, 1) := by decide +kernel
theorem d210_0 : decode (mcode 210) 0 = .ok (.aload_n 0, 1) := by decide +kernel
theorem d210_1 : decode (mcode 210) 1 = .ok (.iconst 0, 1) := by decide +kernel
theorem d210_2 : decode (mcode 210) 2 = .ok (.putfield 168, 3) := by decide +kernel
theorem d210_5 : decode (mcode 210) 5 = .ok (.iconst 0, 1) := by decide +kernel
theorem d210_6 : decode (mcode 210) 6 = .ok (.istore_n 1, 1) := by decide +kernel
theorem d210_7 : decode (mcode 210) 7 = .ok (.iload_n 1, 1) := by decide +kernel
theorem d210_8 : decode (mcode 210) 8 = .ok (.aload_n 0, 1) := by decide +kernel
theorem d210_9 : decode (mcode 210) 9 = .ok (.invokevirtual 67, 3) := by decide +kernel
theorem d210_12 : decode (mcode 210) 12 = .ok (.if_icmp .ge 40, 3) := by decide +kernel
theorem d210_15 : decode (mcode 210) 15 = .ok (.aload_n 0, 1) := by decide +kernel
theorem d210_16 : decode (mcode 210) 16 = .ok (.iload_n 1, 1) := by decide +kernel
theorem d210_17 : decode (mcode 210) 17 = .ok (.invokevirtual 139, 3) := by decide +kernel
theorem d210_20 : decode (mcode 210) 20 = .ok (.ifCond .ne 6, 3) := by decide +kernel
theorem d210_23 : decode (mcode 210) 23 = .ok (.goto 23, 3) := by decide +kernel
theorem d210_26 : decode (mcode 210) 26 = .ok (.aload_n 0, 1) := by decide +kernel
theorem d210_27 : decode (mcode 210) 27 = .ok (.getfield 22, 3) := by decide +kernel
theorem d210_30 : decode (mcode 210) 30 = .ok (.aload_n 0, 1) := by decide +kernel
theorem d210_31 : decode (mcode 210) 31 = .ok (.getfield 168, 3) := by decide +kernel
theorem d210_34 : decode (mcode 210) 34 = .ok (.iload_n 1, 1) := by decide +kernel
theorem d210_35 : decode (mcode 210) 35 = .ok (.iastore, 1) := by decide +kernel
theorem d210_36 : decode (mcode 210) 36 = .ok (.aload_n 0, 1) := by decide +kernel
theorem d210_37 : decode (mcode 210) 37 = .ok (.aload_n 0, 1) := by decide +kernel
theorem d210_38 : decode (mcode 210) 38 = .ok (.getfield 168, 3) := by decide +kernel
theorem d210_41 : decode (mcode 210) 41 = .ok (.iconst 1, 1) := by decide +kernel
theorem d210_42 : decode (mcode 210) 42 = .ok (.iadd, 1) := by decide +kernel
theorem d210_43 : decode (mcode 210) 43 = .ok (.putfield 168, 3) := by decide +kernel
theorem d210_46 : decode (mcode 210) 46 = .ok (.iinc 1 1, 3) := by decide +kernel
theorem d210_49 : decode (mcode 210) 49 = .ok (.goto (-42), 3) := by decide +kernel
theorem d210_52 : decode (mcode 210) 52 = .ok (.return_, 1) := by decide +kernel
theorem d211_0 : decode (mcode 211) 0 = .ok (.aload_n 0, 1) := by decide +kernel
theorem d211_1 : decode (mcode 211) 1 = .ok (.aload_n 0, 1) := by decide +kernel
theorem d211_2 : decode (mcode 211) 2 = .ok (.getfield 22, 3) := by decide +kernel
theorem d211_5 : decode (mcode 211) 5 = .ok (.iload_n 1, 1) := by decide +kernel
theorem d211_6 : decode (mcode 211) 6 = .ok (.iaload, 1) := by decide +kernel
theorem d211_7 : decode (mcode 211) 7 = .ok (.invokevirtual 139, 3) := by decide +kernel
theorem d211_10 : decode (mcode 211) 10 = .ok (.aload_n 0, 1) := by decide +kernel
theorem d211_11 : decode (mcode 211) 11 = .ok (.aload_n 0, 1) := by decide +kernel
theorem d211_12 : decode (mcode 211) 12 = .ok (.getfield 22, 3) := by decide +kernel
theorem d211_15 : decode (mcode 211) 15 = .ok (.iload_n 2, 1) := by decide +kernel
theorem d211_16 : decode (mcode 211) 16 = .ok (.iaload, 1) := by decide +kernel
theorem d211_17 : decode (mcode 211) 17 = .ok (.invokevirtual 139, 3) := by decide +kernel
theorem d211_20 : decode (mcode 211) 20 = .ok (.iadd, 1) := by decide +kernel
theorem d211_21 : decode (mcode 211) 21 = .ok (.ifCond .ne 7, 3) := by decide +kernel
theorem d211_24 : decode (mcode 211) 24 = .ok (.iconst 1, 1) := by decide +kernel
theorem d211_25 : decode (mcode 211) 25 = .ok (.goto 4, 3) := by decide +kernel
theorem d211_28 : decode (mcode 211) 28 = .ok (.iconst 0, 1) := by decide +kernel
theorem d211_29 : decode (mcode 211) 29 = .ok (.ireturn, 1) := by decide +kernel
theorem d212_0 : decode (mcode 212) 0 = .ok (.aload_n 0, 1) := by decide +kernel
theorem d212_1 : decode (mcode 212) 1 = .ok (.getfield 28, 3) := by decide +kernel
theorem d212_4 : decode (mcode 212) 4 = .ok (.iconst 0, 1) := by decide +kernel
theorem d212_5 : decode (mcode 212) 5 = .ok (.iconst 0, 1) := by decide +kernel
theorem d212_6 : decode (mcode 212) 6 = .ok (.iastore, 1) := by decide +kernel
theorem d212_7 : decode (mcode 212) 7 = .ok (.iconst 1, 1) := by decide +kernel
theorem d212_8 : decode (mcode 212) 8 = .ok (.istore_n 1, 1) := by decide +kernel
theorem d212_9 : decode (mcode 212) 9 = .ok (.iload_n 1, 1) := by decide +kernel
theorem d212_10 : decode (mcode 212) 10 = .ok (.iconst 1, 1) := by decide +kernel
theorem d212_11 : decode (mcode 212) 11 = .ok (.aload_n 0, 1) := by decide +kernel
theorem d212_12 : decode (mcode 212) 12 = .ok (.getfield 168, 3) := by decide +kernel
theorem d212_15 : decode (mcode 212) 15 = .ok (.ishl, 1) := by decide +kernel
theorem d212_16 : decode (mcode 212) 16 = .ok (.if_icmp .ge 151, 3) := by decide +kernel
theorem d212_19 : decode (mcode 212) 19 = .ok (.iconst 0, 1) := by decide +kernel
theorem d212_20 : decode (mcode 212) 20 = .ok (.istore_n 2, 1) := by decide +kernel
theorem d212_21 : decode (mcode 212) 21 = .ok (.iload_n 1, 1) := by decide +kernel
theorem d212_22 : decode (mcode 212) 22 = .ok (.iload_n 2, 1) := by decide +kernel
theorem d212_23 : decode (mcode 212) 23 = .ok (.ishr, 1) := by decide +kernel
theorem d212_24 : decode (mcode 212) 24 = .ok (.iconst 1, 1) := by decide +kernel
theorem d212_25 : decode (mcode 212) 25 = .ok (.iand, 1) := by decide +kernel
theorem d212_26 : decode (mcode 212) 26 = .ok (.ifCond .ne 10, 3) := by decide +kernel
theorem d212_29 : decode (mcode 212) 29 = .ok (.iload_n 2, 1) := by decide +kernel
theorem d212_30 : decode (mcode 212) 30 = .ok (.iconst 1, 1) := by decide +kernel
theorem d212_31 : decode (mcode 212) 31 = .ok (.iadd, 1) := by decide +kernel
theorem d212_32 : decode (mcode 212) 32 = .ok (.istore_n 2, 1) := by decide +kernel
theorem d212_33 : decode (mcode 212) 33 = .ok (.goto (-12), 3) := by decide +kernel
theorem d212_36 : decode (mcode 212) 36 = .ok (.iload_n 1, 1) := by decide +kernel
theorem d212_37 : decode (mcode 212) 37 = .ok (.iconst 1, 1) := by decide +kernel
theorem d212_38 : decode (mcode 212) 38 = .ok (.iload_n 2, 1) := by decide +kernel
theorem d212_39 : decode (mcode 212) 39 = .ok (.ishl, 1) := by decide +kernel
theorem d212_40 : decode (mcode 212) 40 = .ok (.iconst (-1), 1) := by decide +kernel
theorem d212_41 : decode (mcode 212) 41 = .ok (.ixor, 1) := by decide +kernel
theorem d212_42 : decode (mcode 212) 42 = .ok (.iand, 1) := by decide +kernel
theorem d212_43 : decode (mcode 212) 43 = .ok (.istore_n 3, 1) := by decide +kernel
theorem d212_44 : decode (mcode 212) 44 = .ok (.aload_n 0, 1) := by decide +kernel
theorem d212_45 : decode (mcode 212) 45 = .ok (.getfield 28, 3) := by decide +kernel
theorem d212_48 : decode (mcode 212) 48 = .ok (.iload_n 1, 1) := by decide +kernel
theorem d212_49 : decode (mcode 212) 49 = .ok (.aload_n 0, 1) := by decide +kernel
theorem d212_50 : decode (mcode 212) 50 = .ok (.aload_n 0, 1) := by decide +kernel
theorem d212_51 : decode (mcode 212) 51 = .ok (.getfield 22, 3) := by decide +kernel
theorem d212_54 : decode (mcode 212) 54 = .ok (.iload_n 2, 1) := by decide +kernel
theorem d212_55 : decode (mcode 212) 55 = .ok (.iaload, 1) := by decide +kernel
theorem d212_56 : decode (mcode 212) 56 = .ok (.invokevirtual 171, 3) := by decide +kernel
theorem d212_59 : decode (mcode 212) 59 = .ok (.aload_n 0, 1) := by decide +kernel
theorem d212_60 : decode (mcode 212) 60 = .ok (.getfield 28, 3) := by decide +kernel
theorem d212_63 : decode (mcode 212) 63 = .ok (.iload_n 3, 1) := by decide +kernel
theorem d212_64 : decode (mcode 212) 64 = .ok (.iaload, 1) := by decide +kernel
theorem d212_65 : decode (mcode 212) 65 = .ok (.iadd, 1) := by decide +kernel
theorem d212_66 : decode (mcode 212) 66 = .ok (.iastore, 1) := by decide +kernel
theorem d212_67 : decode (mcode 212) 67 = .ok (.iload_n 2, 1) := by decide +kernel
theorem d212_68 : decode (mcode 212) 68 = .ok (.iconst 1, 1) := by decide +kernel
theorem d212_69 : decode (mcode 212) 69 = .ok (.iadd, 1) := by decide +kernel
theorem d212_70 : decode (mcode 212) 70 = .ok (.istore 4, 2) := by decide +kernel
theorem d212_72 : decode (mcode 212) 72 = .ok (.iload 4, 2) := by decide +kernel
theorem d212_74 : decode (mcode 212) 74 = .ok (.aload_n 0, 1) := by decide +kernel
theorem d212_75 : decode (mcode 212) 75 = .ok (.getfield 168, 3) := by decide +kernel
theorem d212_78 : decode (mcode 212) 78 = .ok (.if_icmp .ge 83, 3) := by decide +kernel
theorem d212_81 : decode (mcode 212) 81 = .ok (.iload_n 3, 1) := by decide +kernel
theorem d212_82 : decode (mcode 212) 82 = .ok (.iload 4, 2) := by decide +kernel
theorem d212_84 : decode (mcode 212) 84 = .ok (.ishr, 1) := by decide +kernel
theorem d212_85 : decode (mcode 212) 85 = .ok (.iconst 1, 1) := by decide +kernel
theorem d212_86 : decode (mcode 212) 86 = .ok (.iand, 1) := by decide +kernel
theorem d212_87 : decode (mcode 212) 87 = .ok (.ifCond .eq 68, 3) := by decide +kernel
theorem d212_90 : decode (mcode 212) 90 = .ok (.aload_n 0, 1) := by decide +kernel
theorem d212_91 : decode (mcode 212) 91 = .ok (.iload_n 2, 1) := by decide +kernel
theorem d212_92 : decode (mcode 212) 92 = .ok (.iload 4, 2) := by decide +kernel
theorem d212_94 : decode (mcode 212) 94 = .ok (.invokevirtual 174, 3) := by decide +kernel
theorem d212_97 : decode (mcode 212) 97 = .ok (.ifCond .ne 6, 3) := by decide +kernel
theorem d212_100 : decode (mcode 212) 100 = .ok (.goto 55, 3) := by decide +kernel
theorem d212_103 : decode (mcode 212) 103 = .ok (.aload_n 0, 1) := by decide +kernel
theorem d212_104 : decode (mcode 212) 104 = .ok (.aload_n 0, 1) := by decide +kernel
theorem d212_105 : decode (mcode 212) 105 = .ok (.getfield 22, 3) := by decide +kernel
theorem d212_108 : decode (mcode 212) 108 = .ok (.iload_n 2, 1) := by decide +kernel
theorem d212_109 : decode (mcode 212) 109 = .ok (.iaload, 1) := by decide +kernel
theorem d212_110 : decode (mcode 212) 110 = .ok (.aload_n 0, 1) := by decide +kernel
theorem d212_111 : decode (mcode 212) 111 = .ok (.getfield 22, 3) := by decide +kernel
theorem d212_114 : decode (mcode 212) 114 = .ok (.iload 4, 2) := by decide +kernel
theorem d212_116 : decode (mcode 212) 116 = .ok (.iaload, 1) := by decide +kernel
theorem d212_117 : decode (mcode 212) 117 = .ok (.invokevirtual 142, 3) := by decide +kernel
theorem d212_120 : decode (mcode 212) 120 = .ok (.aload_n 0, 1) := by decide +kernel
theorem d212_121 : decode (mcode 212) 121 = .ok (.getfield 28, 3) := by decide +kernel
theorem d212_124 : decode (mcode 212) 124 = .ok (.iload_n 3, 1) := by decide +kernel
theorem d212_125 : decode (mcode 212) 125 = .ok (.iconst 1, 1) := by decide +kernel
theorem d212_126 : decode (mcode 212) 126 = .ok (.iload 4, 2) := by decide +kernel
theorem d212_128 : decode (mcode 212) 128 = .ok (.ishl, 1) := by decide +kernel
theorem d212_129 : decode (mcode 212) 129 = .ok (.iconst (-1), 1) := by decide +kernel
theorem d212_130 : decode (mcode 212) 130 = .ok (.ixor, 1) := by decide +kernel
theorem d212_131 : decode (mcode 212) 131 = .ok (.iand, 1) := by decide +kernel
theorem d212_132 : decode (mcode 212) 132 = .ok (.iaload, 1) := by decide +kernel
theorem d212_133 : decode (mcode 212) 133 = .ok (.iadd, 1) := by decide +kernel
theorem d212_134 : decode (mcode 212) 134 = .ok (.istore 5, 2) := by decide +kernel
theorem d212_136 : decode (mcode 212) 136 = .ok (.iload 5, 2) := by decide +kernel
theorem d212_138 : decode (mcode 212) 138 = .ok (.aload_n 0, 1) := by decide +kernel
theorem d212_139 : decode (mcode 212) 139 = .ok (.getfield 28, 3) := by decide +kernel
theorem d212_142 : decode (mcode 212) 142 = .ok (.iload_n 1, 1) := by decide +kernel
theorem d212_143 : decode (mcode 212) 143 = .ok (.iaload, 1) := by decide +kernel
theorem d212_144 : decode (mcode 212) 144 = .ok (.if_icmp .ge 11, 3) := by decide +kernel
theorem d212_147 : decode (mcode 212) 147 = .ok (.aload_n 0, 1) := by decide +kernel
theorem d212_148 : decode (mcode 212) 148 = .ok (.getfield 28, 3) := by decide +kernel
theorem d212_151 : decode (mcode 212) 151 = .ok (.iload_n 1, 1) := by decide +kernel
theorem d212_152 : decode (mcode 212) 152 = .ok (.iload 5, 2) := by decide +kernel
theorem d212_154 : decode (mcode 212) 154 = .ok (.iastore, 1) := by decide +kernel
theorem d212_155 : decode (mcode 212) 155 = .ok (.iinc 4 1, 3) := by decide +kernel
theorem d212_158 : decode (mcode 212) 158 = .ok (.goto (-86), 3) := by decide +kernel
theorem d212_161 : decode (mcode 212) 161 = .ok (.iinc 1 1, 3) := by decide +kernel
theorem d212_164 : decode (mcode 212) 164 = .ok (.goto (-155), 3) := by decide +kernel
theorem d212_167 : decode (mcode 212) 167 = .ok (.return_, 1) := by decide +kernel
theorem d213_0 : decode (mcode 213) 0 = .ok (.aload_n 0, 1) := by decide +kernel
theorem d213_1 : decode (mcode 213) 1 = .ok (.invokevirtual 178, 3) := by decide +kernel
theorem d213_4 : decode (mcode 213) 4 = .ok (.iconst 1, 1) := by decide +kernel
theorem d213_5 : decode (mcode 213) 5 = .ok (.aload_n 0, 1) := by decide +kernel
theorem d213_6 : decode (mcode 213) 6 = .ok (.getfield 168, 3) := by decide +kernel
theorem d213_9 : decode (mcode 213) 9 = .ok (.ishl, 1) := by decide +kernel
theorem d213_10 : decode (mcode 213) 10 = .ok (.iconst 1, 1) := by decide +kernel
theorem d213_11 : decode (mcode 213) 11 = .ok (.isub, 1) := by decide +kernel
theorem d213_12 : decode (mcode 213) 12 = .ok (.istore_n 1, 1) := by decide +kernel
theorem d213_13 : decode (mcode 213) 13 = .ok (.iconst 0, 1) := by decide +kernel
theorem d213_14 : decode (mcode 213) 14 = .ok (.istore_n 2, 1) := by decide +kernel
theorem d213_15 : decode (mcode 213) 15 = .ok (.iload_n 2, 1) := by decide +kernel
theorem d213_16 : decode (mcode 213) 16 = .ok (.aload_n 0, 1) := by decide +kernel
theorem d213_17 : decode (mcode 213) 17 = .ok (.getfield 168, 3) := by decide +kernel
theorem d213_20 : decode (mcode 213) 20 = .ok (.if_icmp .ge 155, 3) := by decide +kernel
theorem d213_23 : decode (mcode 213) 23 = .ok (.iload_n 1, 1) := by decide +kernel
theorem d213_24 : decode (mcode 213) 24 = .ok (.iload_n 2, 1) := by decide +kernel
theorem d213_25 : decode (mcode 213) 25 = .ok (.ishr, 1) := by decide +kernel
theorem d213_26 : decode (mcode 213) 26 = .ok (.iconst 1, 1) := by decide +kernel
theorem d213_27 : decode (mcode 213) 27 = .ok (.iand, 1) := by decide +kernel
theorem d213_28 : decode (mcode 213) 28 = .ok (.ifCond .ne 6, 3) := by decide +kernel
theorem d213_31 : decode (mcode 213) 31 = .ok (.goto 138, 3) := by decide +kernel
theorem d213_34 : decode (mcode 213) 34 = .ok (.iload_n 1, 1) := by decide +kernel
theorem d213_35 : decode (mcode 213) 35 = .ok (.iconst 1, 1) := by decide +kernel
theorem d213_36 : decode (mcode 213) 36 = .ok (.iload_n 2, 1) := by decide +kernel
theorem d213_37 : decode (mcode 213) 37 = .ok (.ishl, 1) := by decide +kernel
theorem d213_38 : decode (mcode 213) 38 = .ok (.iconst (-1), 1) := by decide +kernel
theorem d213_39 : decode (mcode 213) 39 = .ok (.ixor, 1) := by decide +kernel
theorem d213_40 : decode (mcode 213) 40 = .ok (.iand, 1) := by decide +kernel
theorem d213_41 : decode (mcode 213) 41 = .ok (.istore_n 3, 1) := by decide +kernel
theorem d213_42 : decode (mcode 213) 42 = .ok (.iload_n 2, 1) := by decide +kernel
theorem d213_43 : decode (mcode 213) 43 = .ok (.istore 4, 2) := by decide +kernel
theorem d213_45 : decode (mcode 213) 45 = .ok (.aload_n 0, 1) := by decide +kernel
theorem d213_46 : decode (mcode 213) 46 = .ok (.aload_n 0, 1) := by decide +kernel
theorem d213_47 : decode (mcode 213) 47 = .ok (.getfield 22, 3) := by decide +kernel
theorem d213_50 : decode (mcode 213) 50 = .ok (.iload_n 2, 1) := by decide +kernel
theorem d213_51 : decode (mcode 213) 51 = .ok (.iaload, 1) := by decide +kernel
theorem d213_52 : decode (mcode 213) 52 = .ok (.invokevirtual 171, 3) := by decide +kernel
theorem d213_55 : decode (mcode 213) 55 = .ok (.aload_n 0, 1) := by decide +kernel
theorem d213_56 : decode (mcode 213) 56 = .ok (.getfield 28, 3) := by decide +kernel
theorem d213_59 : decode (mcode 213) 59 = .ok (.iload_n 3, 1) := by decide +kernel
theorem d213_60 : decode (mcode 213) 60 = .ok (.iaload, 1) := by decide +kernel
theorem d213_61 : decode (mcode 213) 61 = .ok (.iadd, 1) := by decide +kernel
theorem d213_62 : decode (mcode 213) 62 = .ok (.aload_n 0, 1) := by decide +kernel
theorem d213_63 : decode (mcode 213) 63 = .ok (.getfield 28, 3) := by decide +kernel
theorem d213_66 : decode (mcode 213) 66 = .ok (.iload_n 1, 1) := by decide +kernel
theorem d213_67 : decode (mcode 213) 67 = .ok (.iaload, 1) := by decide +kernel
theorem d213_68 : decode (mcode 213) 68 = .ok (.if_icmp .eq 76, 3) := by decide +kernel
theorem d213_71 : decode (mcode 213) 71 = .ok (.iload_n 2, 1) := by decide +kernel
theorem d213_72 : decode (mcode 213) 72 = .ok (.iconst 1, 1) := by decide +kernel
theorem d213_73 : decode (mcode 213) 73 = .ok (.iadd, 1) := by decide +kernel
theorem d213_74 : decode (mcode 213) 74 = .ok (.istore 4, 2) := by decide +kernel
theorem d213_76 : decode (mcode 213) 76 = .ok (.iload_n 3, 1) := by decide +kernel
theorem d213_77 : decode (mcode 213) 77 = .ok (.iload 4, 2) := by decide +kernel
theorem d213_79 : decode (mcode 213) 79 = .ok (.ishr, 1) := by decide +kernel
theorem d213_80 : decode (mcode 213) 80 = .ok (.iconst 1, 1) := by decide +kernel
theorem d213_81 : decode (mcode 213) 81 = .ok (.iand, 1) := by decide +kernel
theorem d213_82 : decode (mcode 213) 82 = .ok (.ifCond .eq 53, 3) := by decide +kernel
theorem d213_85 : decode (mcode 213) 85 = .ok (.aload_n 0, 1) := by decide +kernel
theorem d213_86 : decode (mcode 213) 86 = .ok (.iload_n 2, 1) := by decide +kernel
theorem d213_87 : decode (mcode 213) 87 = .ok (.iload 4, 2) := by decide +kernel
theorem d213_89 : decode (mcode 213) 89 = .ok (.invokevirtual 174, 3) := by decide +kernel
theorem d213_92 : decode (mcode 213) 92 = .ok (.ifCond .eq 43, 3) := by decide +kernel
theorem d213_95 : decode (mcode 213) 95 = .ok (.aload_n 0, 1) := by decide +kernel
theorem d213_96 : decode (mcode 213) 96 = .ok (.aload_n 0, 1) := by decide +kernel
theorem d213_97 : decode (mcode 213) 97 = .ok (.getfield 22, 3) := by decide +kernel
theorem d213_100 : decode (mcode 213) 100 = .ok (.iload_n 2, 1) := by decide +kernel
theorem d213_101 : decode (mcode 213) 101 = .ok (.iaload, 1) := by decide +kernel
theorem d213_102 : decode (mcode 213) 102 = .ok (.aload_n 0, 1) := by decide +kernel
theorem d213_103 : decode (mcode 213) 103 = .ok (.getfield 22, 3) := by decide +kernel
theorem d213_106 : decode (mcode 213) 106 = .ok (.iload 4, 2) := by decide +kernel
theorem d213_108 : decode (mcode 213) 108 = .ok (.iaload, 1) := by decide +kernel
theorem d213_109 : decode (mcode 213) 109 = .ok (.invokevirtual 142, 3) := by decide +kernel
theorem d213_112 : decode (mcode 213) 112 = .ok (.aload_n 0, 1) := by decide +kernel
theorem d213_113 : decode (mcode 213) 113 = .ok (.getfield 28, 3) := by decide +kernel
theorem d213_116 : decode (mcode 213) 116 = .ok (.iload_n 3, 1) := by decide +kernel
theorem d213_117 : decode (mcode 213) 117 = .ok (.iconst 1, 1) := by decide +kernel
theorem d213_118 : decode (mcode 213) 118 = .ok (.iload 4, 2) := by decide +kernel
theorem d213_120 : decode (mcode 213) 120 = .ok (.ishl, 1) := by decide +kernel
theorem d213_121 : decode (mcode 213) 121 = .ok (.iconst (-1), 1) := by decide +kernel
theorem d213_122 : decode (mcode 213) 122 = .ok (.ixor, 1) := by decide +kernel
theorem d213_123 : decode (mcode 213) 123 = .ok (.iand, 1) := by decide +kernel
theorem d213_124 : decode (mcode 213) 124 = .ok (.iaload, 1) := by decide +kernel
theorem d213_125 : decode (mcode 213) 125 = .ok (.iadd, 1) := by decide +kernel
theorem d213_126 : decode (mcode 213) 126 = .ok (.aload_n 0, 1) := by decide +kernel
theorem d213_127 : decode (mcode 213) 127 = .ok (.getfield 28, 3) := by decide +kernel
theorem d213_130 : decode (mcode 213) 130 = .ok (.iload_n 1, 1) := by decide +kernel
theorem d213_131 : decode (mcode 213) 131 = .ok (.iaload, 1) := by decide +kernel
theorem d213_132 : decode (mcode 213) 132 = .ok (.if_icmp .eq 12, 3) := by decide +kernel
theorem d213_135 : decode (mcode 213) 135 = .ok (.iload 4, 2) := by decide +kernel
theorem d213_137 : decode (mcode 213) 137 = .ok (.iconst 1, 1) := by decide +kernel
theorem d213_138 : decode (mcode 213) 138 = .ok (.iadd, 1) := by decide +kernel
theorem d213_139 : decode (mcode 213) 139 = .ok (.istore 4, 2) := by decide +kernel
theorem d213_141 : decode (mcode 213) 141 = .ok (.goto (-65), 3) := by decide +kernel
theorem d213_144 : decode (mcode 213) 144 = .ok (.aload_n 0, 1) := by decide +kernel
theorem d213_145 : decode (mcode 213) 145 = .ok (.getfield 25, 3) := by decide +kernel
theorem d213_148 : decode (mcode 213) 148 = .ok (.iload_n 2, 1) := by decide +kernel
theorem d213_149 : decode (mcode 213) 149 = .ok (.iload 4, 2) := by decide +kernel
theorem d213_151 : decode (mcode 213) 151 = .ok (.iastore, 1) := by decide +kernel
theorem d213_152 : decode (mcode 213) 152 = .ok (.aload_n 0, 1) := by decide +kernel
theorem d213_153 : decode (mcode 213) 153 = .ok (.getfield 25, 3) := by decide +kernel
theorem d213_156 : decode (mcode 213) 156 = .ok (.iload 4, 2) := by decide +kernel
theorem d213_158 : decode (mcode 213) 158 = .ok (.iload_n 2, 1) := by decide +kernel
theorem d213_159 : decode (mcode 213) 159 = .ok (.iastore, 1) := by decide +kernel
theorem d213_160 : decode (mcode 213) 160 = .ok (.iload_n 3, 1) := by decide +kernel
theorem d213_161 : decode (mcode 213) 161 = .ok (.iconst 1, 1) := by decide +kernel
theorem d213_162 : decode (mcode 213) 162 = .ok (.iload 4, 2) := by decide +kernel
theorem d213_164 : decode (mcode 213) 164 = .ok (.ishl, 1) := by decide +kernel
theorem d213_165 : decode (mcode 213) 165 = .ok (.iconst (-1), 1) := by decide +kernel
theorem d213_166 : decode (mcode 213) 166 = .ok (.ixor, 1) := by decide +kernel
theorem d213_167 : decode (mcode 213) 167 = .ok (.iand, 1) := by decide +kernel
theorem d213_168 : decode (mcode 213) 168 = .ok (.istore_n 1, 1) := by decide +kernel
theorem d213_169 : decode (mcode 213) 169 = .ok (.iinc 2 1, 3) := by decide +kernel
theorem d213_172 : decode (mcode 213) 172 = .ok (.goto (-157), 3) := by decide +kernel
theorem d213_175 : decode (mcode 213) 175 = .ok (.return_, 1) := by decide +kernel
theorem d214_0 : decode (mcode 214) 0 = .ok (.iconst 0, 1) := by decide +kernel
theorem d214_1 : decode (mcode 214) 1 = .ok (.istore_n 1, 1) := by decide +kernel
theorem d214_2 : decode (mcode 214) 2 = .ok (.iload_n 1, 1) := by decide +kernel
theorem d214_3 : decode (mcode 214) 3 = .ok (.aload_n 0, 1) := by decide +kernel
theorem d214_4 : decode (mcode 214) 4 = .ok (.getfield 168, 3) := by decide +kernel
theorem d214_7 : decode (mcode 214) 7 = .ok (.if_icmp .ge 16, 3) := by decide +kernel
theorem d214_10 : decode (mcode 214) 10 = .ok (.aload_n 0, 1) := by decide +kernel
theorem d214_11 : decode (mcode 214) 11 = .ok (.getfield 25, 3) := by decide +kernel
theorem d214_14 : decode (mcode 214) 14 = .ok (.iload_n 1, 1) := by decide +kernel
theorem d214_15 : decode (mcode 214) 15 = .ok (.iconst (-1), 1) := by decide +kernel
theorem d214_16 : decode (mcode 214) 16 = .ok (.iastore, 1) := by decide +kernel
theorem d214_17 : decode (mcode 214) 17 = .ok (.iinc 1 1, 3) := by decide +kernel
theorem d214_20 : decode (mcode 214) 20 = .ok (.goto (-18), 3) := by decide +kernel
theorem d214_23 : decode (mcode 214) 23 = .ok (.aload_n 0, 1) := by decide +kernel
theorem d214_24 : decode (mcode 214) 24 = .ok (.getfield 168, 3) := by decide +kernel
theorem d214_27 : decode (mcode 214) 27 = .ok (.istore_n 1, 1) := by decide +kernel
theorem d214_28 : decode (mcode 214) 28 = .ok (.iload_n 1, 1) := by decide +kernel
theorem d214_29 : decode (mcode 214) 29 = .ok (.ifCond .le 203, 3) := by decide +kernel
theorem d214_32 : decode (mcode 214) 32 = .ok (.iconst (-1), 1) := by decide +kernel
theorem d214_33 : decode (mcode 214) 33 = .ok (.istore_n 2, 1) := by decide +kernel
theorem d214_34 : decode (mcode 214) 34 = .ok (.iconst (-1), 1) := by decide +kernel
theorem d214_35 : decode (mcode 214) 35 = .ok (.istore_n 3, 1) := by decide +kernel
theorem d214_36 : decode (mcode 214) 36 = .ok (.ldc 181, 2) := by decide +kernel
theorem d214_38 : decode (mcode 214) 38 = .ok (.istore 4, 2) := by decide +kernel
theorem d214_40 : decode (mcode 214) 40 = .ok (.iconst 0, 1) := by decide +kernel
theorem d214_41 : decode (mcode 214) 41 = .ok (.istore 5, 2) := by decide +kernel
theorem d214_43 : decode (mcode 214) 43 = .ok (.iload 5, 2) := by decide +kernel
theorem d214_45 : decode (mcode 214) 45 = .ok (.aload_n 0, 1) := by decide +kernel
theorem d214_46 : decode (mcode 214) 46 = .ok (.getfield 168, 3) := by decide +kernel
theorem d214_49 : decode (mcode 214) 49 = .ok (.if_icmp .ge 153, 3) := by decide +kernel
theorem d214_52 : decode (mcode 214) 52 = .ok (.aload_n 0, 1) := by decide +kernel
theorem d214_53 : decode (mcode 214) 53 = .ok (.getfield 25, 3) := by decide +kernel
theorem d214_56 : decode (mcode 214) 56 = .ok (.iload 5, 2) := by decide +kernel
theorem d214_58 : decode (mcode 214) 58 = .ok (.iaload, 1) := by decide +kernel
theorem d214_59 : decode (mcode 214) 59 = .ok (.iconst (-1), 1) := by decide +kernel
theorem d214_60 : decode (mcode 214) 60 = .ok (.if_icmp .eq 6, 3) := by decide +kernel
theorem d214_63 : decode (mcode 214) 63 = .ok (.goto 133, 3) := by decide +kernel
theorem d214_66 : decode (mcode 214) 66 = .ok (.aload_n 0, 1) := by decide +kernel
theorem d214_67 : decode (mcode 214) 67 = .ok (.aload_n 0, 1) := by decide +kernel
theorem d214_68 : decode (mcode 214) 68 = .ok (.getfield 22, 3) := by decide +kernel
theorem d214_71 : decode (mcode 214) 71 = .ok (.iload 5, 2) := by decide +kernel
theorem d214_73 : decode (mcode 214) 73 = .ok (.iaload, 1) := by decide +kernel
theorem d214_74 : decode (mcode 214) 74 = .ok (.invokevirtual 171, 3) := by decide +kernel
theorem d214_77 : decode (mcode 214) 77 = .ok (.iload 4, 2) := by decide +kernel
theorem d214_79 : decode (mcode 214) 79 = .ok (.if_icmp .ge 22, 3) := by decide +kernel
theorem d214_82 : decode (mcode 214) 82 = .ok (.aload_n 0, 1) := by decide +kernel
theorem d214_83 : decode (mcode 214) 83 = .ok (.aload_n 0, 1) := by decide +kernel
theorem d214_84 : decode (mcode 214) 84 = .ok (.getfield 22, 3) := by decide +kernel
theorem d214_87 : decode (mcode 214) 87 = .ok (.iload 5, 2) := by decide +kernel
theorem d214_89 : decode (mcode 214) 89 = .ok (.iaload, 1) := by decide +kernel
theorem d214_90 : decode (mcode 214) 90 = .ok (.invokevirtual 171, 3) := by decide +kernel
theorem d214_93 : decode (mcode 214) 93 = .ok (.istore 4, 2) := by decide +kernel
theorem d214_95 : decode (mcode 214) 95 = .ok (.iload 5, 2) := by decide +kernel
theorem d214_97 : decode (mcode 214) 97 = .ok (.istore_n 2, 1) := by decide +kernel
theorem d214_98 : decode (mcode 214) 98 = .ok (.iload 5, 2) := by decide +kernel
theorem d214_100 : decode (mcode 214) 100 = .ok (.istore_n 3, 1) := by decide +kernel
theorem d214_101 : decode (mcode 214) 101 = .ok (.iload 5, 2) := by decide +kernel
theorem d214_103 : decode (mcode 214) 103 = .ok (.iconst 1, 1) := by decide +kernel
theorem d214_104 : decode (mcode 214) 104 = .ok (.iadd, 1) := by decide +kernel
theorem d214_105 : decode (mcode 214) 105 = .ok (.istore 6, 2) := by decide +kernel
theorem d214_107 : decode (mcode 214) 107 = .ok (.iload 6, 2) := by decide +kernel
theorem d214_109 : decode (mcode 214) 109 = .ok (.aload_n 0, 1) := by decide +kernel
theorem d214_110 : decode (mcode 214) 110 = .ok (.getfield 168, 3) := by decide +kernel
theorem d214_113 : decode (mcode 214) 113 = .ok (.if_icmp .ge 83, 3) := by decide +kernel
theorem d214_116 : decode (mcode 214) 116 = .ok (.aload_n 0, 1) := by decide +kernel
theorem d214_117 : decode (mcode 214) 117 = .ok (.getfield 25, 3) := by decide +kernel
theorem d214_120 : decode (mcode 214) 120 = .ok (.iload 6, 2) := by decide +kernel
theorem d214_122 : decode (mcode 214) 122 = .ok (.iaload, 1) := by decide +kernel
theorem d214_123 : decode (mcode 214) 123 = .ok (.iconst (-1), 1) := by decide +kernel
theorem d214_124 : decode (mcode 214) 124 = .ok (.if_icmp .ne 66, 3) := by decide +kernel
theorem d214_127 : decode (mcode 214) 127 = .ok (.aload_n 0, 1) := by decide +kernel
theorem d214_128 : decode (mcode 214) 128 = .ok (.iload 5, 2) := by decide +kernel
theorem d214_130 : decode (mcode 214) 130 = .ok (.iload 6, 2) := by decide +kernel
theorem d214_132 : decode (mcode 214) 132 = .ok (.invokevirtual 174, 3) := by decide +kernel
theorem d214_135 : decode (mcode 214) 135 = .ok (.ifCond .eq 55, 3) := by decide +kernel
theorem d214_138 : decode (mcode 214) 138 = .ok (.aload_n 0, 1) := by decide +kernel
theorem d214_139 : decode (mcode 214) 139 = .ok (.aload_n 0, 1) := by decide +kernel
theorem d214_140 : decode (mcode 214) 140 = .ok (.getfield 22, 3) := by decide +kernel
theorem d214_143 : decode (mcode 214) 143 = .ok (.iload 5, 2) := by decide +kernel
theorem d214_145 : decode (mcode 214) 145 = .ok (.iaload, 1) := by decide +kernel
theorem d214_146 : decode (mcode 214) 146 = .ok (.aload_n 0, 1) := by decide +kernel
theorem d214_147 : decode (mcode 214) 147 = .ok (.getfield 22, 3) := by decide +kernel
theorem d214_150 : decode (mcode 214) 150 = .ok (.iload 6, 2) := by decide +kernel
theorem d214_152 : decode (mcode 214) 152 = .ok (.iaload, 1) := by decide +kernel
theorem d214_153 : decode (mcode 214) 153 = .ok (.invokevirtual 142, 3) := by decide +kernel
theorem d214_156 : decode (mcode 214) 156 = .ok (.iload 4, 2) := by decide +kernel
theorem d214_158 : decode (mcode 214) 158 = .ok (.if_icmp .lt 6, 3) := by decide +kernel
theorem d214_161 : decode (mcode 214) 161 = .ok (.goto 29, 3) := by decide +kernel
theorem d214_164 : decode (mcode 214) 164 = .ok (.aload_n 0, 1) := by decide +kernel
theorem d214_165 : decode (mcode 214) 165 = .ok (.aload_n 0, 1) := by decide +kernel
theorem d214_166 : decode (mcode 214) 166 = .ok (.getfield 22, 3) := by decide +kernel
theorem d214_169 : decode (mcode 214) 169 = .ok (.iload 5, 2) := by decide +kernel
theorem d214_171 : decode (mcode 214) 171 = .ok (.iaload, 1) := by decide +kernel
theorem d214_172 : decode (mcode 214) 172 = .ok (.aload_n 0, 1) := by decide +kernel
theorem d214_173 : decode (mcode 214) 173 = .ok (.getfield 22, 3) := by decide +kernel
theorem d214_176 : decode (mcode 214) 176 = .ok (.iload 6, 2) := by decide +kernel
theorem d214_178 : decode (mcode 214) 178 = .ok (.iaload, 1) := by decide +kernel
theorem d214_179 : decode (mcode 214) 179 = .ok (.invokevirtual 142, 3) := by decide +kernel
theorem d214_182 : decode (mcode 214) 182 = .ok (.istore 4, 2) := by decide +kernel
theorem d214_184 : decode (mcode 214) 184 = .ok (.iload 5, 2) := by decide +kernel
theorem d214_186 : decode (mcode 214) 186 = .ok (.istore_n 2, 1) := by decide +kernel
theorem d214_187 : decode (mcode 214) 187 = .ok (.iload 6, 2) := by decide +kernel
theorem d214_189 : decode (mcode 214) 189 = .ok (.istore_n 3, 1) := by decide +kernel
theorem d214_190 : decode (mcode 214) 190 = .ok (.iinc 6 1, 3) := by decide +kernel
theorem d214_193 : decode (mcode 214) 193 = .ok (.goto (-86), 3) := by decide +kernel
theorem d214_196 : decode (mcode 214) 196 = .ok (.iinc 5 1, 3) := by decide +kernel
theorem d214_199 : decode (mcode 214) 199 = .ok (.goto (-156), 3) := by decide +kernel
theorem d214_202 : decode (mcode 214) 202 = .ok (.aload_n 0, 1) := by decide +kernel
theorem d214_203 : decode (mcode 214) 203 = .ok (.getfield 25, 3) := by decide +kernel
theorem d214_206 : decode (mcode 214) 206 = .ok (.iload_n 2, 1) := by decide +kernel
theorem d214_207 : decode (mcode 214) 207 = .ok (.iload_n 3, 1) := by decide +kernel
theorem d214_208 : decode (mcode 214) 208 = .ok (.iastore, 1) := by decide +kernel
theorem d214_209 : decode (mcode 214) 209 = .ok (.aload_n 0, 1) := by decide +kernel
theorem d214_210 : decode (mcode 214) 210 = .ok (.getfield 25, 3) := by decide +kernel
theorem d214_213 : decode (mcode 214) 213 = .ok (.iload_n 3, 1) := by decide +kernel
theorem d214_214 : decode (mcode 214) 214 = .ok (.iload_n 2, 1) := by decide +kernel
theorem d214_215 : decode (mcode 214) 215 = .ok (.iastore, 1) := by decide +kernel
theorem d214_216 : decode (mcode 214) 216 = .ok (.iload_n 1, 1) := by decide +kernel
theorem d214_217 : decode (mcode 214) 217 = .ok (.iload_n 2, 1) := by decide +kernel
theorem d214_218 : decode (mcode 214) 218 = .ok (.iload_n 3, 1) := by decide +kernel
theorem d214_219 : decode (mcode 214) 219 = .ok (.if_icmp .ne 7, 3) := by decide +kernel
theorem d214_222 : decode (mcode 214) 222 = .ok (.iconst 1, 1) := by decide +kernel
theorem d214_223 : decode (mcode 214) 223 = .ok (.goto 4, 3) := by decide +kernel
theorem d214_226 : decode (mcode 214) 226 = .ok (.iconst 2, 1) := by decide +kernel
theorem d214_227 : decode (mcode 214) 227 = .ok (.isub, 1) := by decide +kernel
theorem d214_228 : decode (mcode 214) 228 = .ok (.istore_n 1, 1) := by decide +kernel
theorem d214_229 : decode (mcode 214) 229 = .ok (.goto (-201), 3) := by decide +kernel
theorem d214_232 : decode (mcode 214) 232 = .ok (.return_, 1) := by decide +kernel
theorem d215_0 : decode (mcode 215) 0 = .ok (.aload_n 0, 1) := by decide +kernel
theorem d215_1 : decode (mcode 215) 1 = .ok (.getfield 7, 3) := by decide +kernel
theorem d215_4 : decode (mcode 215) 4 = .ok (.sipush 1018, 3) := by decide +kernel
theorem d215_7 : decode (mcode 215) 7 = .ok (.iload_n 1, 1) := by decide +kernel
theorem d215_8 : decode (mcode 215) 8 = .ok (.iadd, 1) := by decide +kernel
theorem d215_9 : decode (mcode 215) 9 = .ok (.aload_n 0, 1) := by decide +kernel
theorem d215_10 : decode (mcode 215) 10 = .ok (.getfield 7, 3) := by decide +kernel
theorem d215_13 : decode (mcode 215) 13 = .ok (.sipush 1018, 3) := by decide +kernel
theorem d215_16 : decode (mcode 215) 16 = .ok (.iload_n 1, 1) := by decide +kernel
theorem d215_17 : decode (mcode 215) 17 = .ok (.iadd, 1) := by decide +kernel
theorem d215_18 : decode (mcode 215) 18 = .ok (.iaload, 1) := by decide +kernel
theorem d215_19 : decode (mcode 215) 19 = .ok (.iconst 1, 1) := by decide +kernel
theorem d215_20 : decode (mcode 215) 20 = .ok (.iadd, 1) := by decide +kernel
theorem d215_21 : decode (mcode 215) 21 = .ok (.iastore, 1) := by decide +kernel
theorem d215_22 : decode (mcode 215) 22 = .ok (.return_, 1) := by decide +kernel
theorem d216_0 : decode (mcode 216) 0 = .ok (.aload_n 0, 1) := by decide +kernel
theorem d216_1 : decode (mcode 216) 1 = .ok (.iload_n 1, 1) := by decide +kernel
theorem d216_2 : decode (mcode 216) 2 = .ok (.invokevirtual 83, 3) := by decide +kernel
theorem d216_5 : decode (mcode 216) 5 = .ok (.istore_n 3, 1) := by decide +kernel
theorem d216_6 : decode (mcode 216) 6 = .ok (.aload_n 0, 1) := by decide +kernel
theorem d216_7 : decode (mcode 216) 7 = .ok (.iload_n 1, 1) := by decide +kernel
theorem d216_8 : decode (mcode 216) 8 = .ok (.invokevirtual 80, 3) := by decide +kernel
theorem d216_11 : decode (mcode 216) 11 = .ok (.istore 4, 2) := by decide +kernel
theorem d216_13 : decode (mcode 216) 13 = .ok (.aload_n 0, 1) := by decide +kernel
theorem d216_14 : decode (mcode 216) 14 = .ok (.invokevirtual 64, 3) := by decide +kernel
theorem d216_17 : decode (mcode 216) 17 = .ok (.istore 5, 2) := by decide +kernel
theorem d216_19 : decode (mcode 216) 19 = .ok (.iload_n 2, 1) := by decide +kernel
theorem d216_20 : decode (mcode 216) 20 = .ok (.ifCond .ne 31, 3) := by decide +kernel
theorem d216_23 : decode (mcode 216) 23 = .ok (.iload_n 3, 1) := by decide +kernel
theorem d216_24 : decode (mcode 216) 24 = .ok (.istore 6, 2) := by decide +kernel
theorem d216_26 : decode (mcode 216) 26 = .ok (.iload 6, 2) := by decide +kernel
theorem d216_28 : decode (mcode 216) 28 = .ok (.ifCond .lt 23, 3) := by decide +kernel
theorem d216_31 : decode (mcode 216) 31 = .ok (.aload_n 0, 1) := by decide +kernel
theorem d216_32 : decode (mcode 216) 32 = .ok (.iconst 2, 1) := by decide +kernel
theorem d216_33 : decode (mcode 216) 33 = .ok (.iload 6, 2) := by decide +kernel
theorem d216_35 : decode (mcode 216) 35 = .ok (.iload 5, 2) := by decide +kernel
theorem d216_37 : decode (mcode 216) 37 = .ok (.imul, 1) := by decide +kernel
theorem d216_38 : decode (mcode 216) 38 = .ok (.iload 4, 2) := by decide +kernel
theorem d216_40 : decode (mcode 216) 40 = .ok (.iadd, 1) := by decide +kernel
theorem d216_41 : decode (mcode 216) 41 = .ok (.imul, 1) := by decide +kernel
theorem d216_42 : decode (mcode 216) 42 = .ok (.invokevirtual 182, 3) := by decide +kernel
theorem d216_45 : decode (mcode 216) 45 = .ok (.iinc 6 (-1), 3) := by decide +kernel
theorem d216_48 : decode (mcode 216) 48 = .ok (.goto (-22), 3) := by decide +kernel
theorem d216_51 : decode (mcode 216) 51 = .ok (.iload_n 2, 1) := by decide +kernel
theorem d216_52 : decode (mcode 216) 52 = .ok (.iconst 1, 1) := by decide +kernel
theorem d216_53 : decode (mcode 216) 53 = .ok (.if_icmp .ne 37, 3) := by decide +kernel
theorem d216_56 : decode (mcode 216) 56 = .ok (.iload_n 3, 1) := by decide +kernel
theorem d216_57 : decode (mcode 216) 57 = .ok (.iconst 1, 1) := by decide +kernel
theorem d216_58 : decode (mcode 216) 58 = .ok (.iadd, 1) := by decide +kernel
theorem d216_59 : decode (mcode 216) 59 = .ok (.istore 6, 2) := by decide +kernel
theorem d216_61 : decode (mcode 216) 61 = .ok (.iload 6, 2) := by decide +kernel
theorem d216_63 : decode (mcode 216) 63 = .ok (.aload_n 0, 1) := by decide +kernel
theorem d216_64 : decode (mcode 216) 64 = .ok (.invokevirtual 60, 3) := by decide +kernel
theorem d216_67 : decode (mcode 216) 67 = .ok (.if_icmp .ge 23, 3) := by decide +kernel
theorem d216_70 : decode (mcode 216) 70 = .ok (.aload_n 0, 1) := by decide +kernel
theorem d216_71 : decode (mcode 216) 71 = .ok (.iconst 2, 1) := by decide +kernel
theorem d216_72 : decode (mcode 216) 72 = .ok (.iload 6, 2) := by decide +kernel
theorem d216_74 : decode (mcode 216) 74 = .ok (.iload 5, 2) := by decide +kernel
theorem d216_76 : decode (mcode 216) 76 = .ok (.imul, 1) := by decide +kernel
theorem d216_77 : decode (mcode 216) 77 = .ok (.iload 4, 2) := by decide +kernel
theorem d216_79 : decode (mcode 216) 79 = .ok (.iadd, 1) := by decide +kernel
theorem d216_80 : decode (mcode 216) 80 = .ok (.imul, 1) := by decide +kernel
theorem d216_81 : decode (mcode 216) 81 = .ok (.invokevirtual 182, 3) := by decide +kernel
theorem d216_84 : decode (mcode 216) 84 = .ok (.iinc 6 1, 3) := by decide +kernel
theorem d216_87 : decode (mcode 216) 87 = .ok (.goto (-26), 3) := by decide +kernel
theorem d216_90 : decode (mcode 216) 90 = .ok (.iload_n 2, 1) := by decide +kernel
theorem d216_91 : decode (mcode 216) 91 = .ok (.iconst 2, 1) := by decide +kernel
theorem d216_92 : decode (mcode 216) 92 = .ok (.if_icmp .ne 33, 3) := by decide +kernel
theorem d216_95 : decode (mcode 216) 95 = .ok (.iload 4, 2) := by decide +kernel
theorem d216_97 : decode (mcode 216) 97 = .ok (.istore 6, 2) := by decide +kernel
theorem d216_99 : decode (mcode 216) 99 = .ok (.iload 6, 2) := by decide +kernel
theorem d216_101 : decode (mcode 216) 101 = .ok (.ifCond .lt 24, 3) := by decide +kernel
theorem d216_104 : decode (mcode 216) 104 = .ok (.aload_n 0, 1) := by decide +kernel
theorem d216_105 : decode (mcode 216) 105 = .ok (.iconst 2, 1) := by decide +kernel
theorem d216_106 : decode (mcode 216) 106 = .ok (.iload_n 3, 1) := by decide +kernel
theorem d216_107 : decode (mcode 216) 107 = .ok (.iload 5, 2) := by decide +kernel
theorem d216_109 : decode (mcode 216) 109 = .ok (.imul, 1) := by decide +kernel
theorem d216_110 : decode (mcode 216) 110 = .ok (.iload 6, 2) := by decide +kernel
theorem d216_112 : decode (mcode 216) 112 = .ok (.iadd, 1) := by decide +kernel
theorem d216_113 : decode (mcode 216) 113 = .ok (.imul, 1) := by decide +kernel
theorem d216_114 : decode (mcode 216) 114 = .ok (.iconst 1, 1) := by decide +kernel
theorem d216_115 : decode (mcode 216) 115 = .ok (.iadd, 1) := by decide +kernel
theorem d216_116 : decode (mcode 216) 116 = .ok (.invokevirtual 182, 3) := by decide +kernel
theorem d216_119 : decode (mcode 216) 119 = .ok (.iinc 6 (-1), 3) := by decide +kernel
theorem d216_122 : decode (mcode 216) 122 = .ok (.goto (-23), 3) := by decide +kernel
theorem d216_125 : decode (mcode 216) 125 = .ok (.iload_n 2, 1) := by decide +kernel
theorem d216_126 : decode (mcode 216) 126 = .ok (.iconst 3, 1) := by decide +kernel
theorem d216_127 : decode (mcode 216) 127 = .ok (.if_icmp .ne 37, 3) := by decide +kernel
theorem d216_130 : decode (mcode 216) 130 = .ok (.iload 4, 2) := by decide +kernel
theorem d216_132 : decode (mcode 216) 132 = .ok (.iconst 1, 1) := by decide +kernel
theorem d216_133 : decode (mcode 216) 133 = .ok (.iadd, 1) := by decide +kernel
theorem d216_134 : decode (mcode 216) 134 = .ok (.istore 6, 2) := by decide +kernel
theorem d216_136 : decode (mcode 216) 136 = .ok (.iload 6, 2) := by decide +kernel
theorem d216_138 : decode (mcode 216) 138 = .ok (.iload 5, 2) := by decide +kernel
theorem d216_140 : decode (mcode 216) 140 = .ok (.if_icmp .ge 24, 3) := by decide +kernel
theorem d216_143 : decode (mcode 216) 143 = .ok (.aload_n 0, 1) := by decide +kernel
theorem d216_144 : decode (mcode 216) 144 = .ok (.iconst 2, 1) := by decide +kernel
theorem d216_145 : decode (mcode 216) 145 = .ok (.iload_n 3, 1) := by decide +kernel
theorem d216_146 : decode (mcode 216) 146 = .ok (.iload 5, 2) := by decide +kernel
theorem d216_148 : decode (mcode 216) 148 = .ok (.imul, 1) := by decide +kernel
theorem d216_149 : decode (mcode 216) 149 = .ok (.iload 6, 2) := by decide +kernel
theorem d216_151 : decode (mcode 216) 151 = .ok (.iadd, 1) := by decide +kernel
theorem d216_152 : decode (mcode 216) 152 = .ok (.imul, 1) := by decide +kernel
theorem d216_153 : decode (mcode 216) 153 = .ok (.iconst 1, 1) := by decide +kernel
theorem d216_154 : decode (mcode 216) 154 = .ok (.iadd, 1) := by decide +kernel
theorem d216_155 : decode (mcode 216) 155 = .ok (.invokevirtual 182, 3) := by decide +kernel
theorem d216_158 : decode (mcode 216) 158 = .ok (.iinc 6 1, 3) := by decide +kernel
theorem d216_161 : decode (mcode 216) 161 = .ok (.goto (-25), 3) := by decide +kernel
theorem d216_164 : decode (mcode 216) 164 = .ok (.return_, 1) := by decide +kernel
theorem d217_0 : decode (mcode 217) 0 = .ok (.aload_n 0, 1) := by decide +kernel
theorem d217_1 : decode (mcode 217) 1 = .ok (.iload_n 1, 1) := by decide +kernel
theorem d217_2 : decode (mcode 217) 2 = .ok (.invokevirtual 83, 3) := by decide +kernel
theorem d217_5 : decode (mcode 217) 5 = .ok (.istore_n 3, 1) := by decide +kernel
theorem d217_6 : decode (mcode 217) 6 = .ok (.aload_n 0, 1) := by decide +kernel
theorem d217_7 : decode (mcode 217) 7 = .ok (.invokevirtual 64, 3) := by decide +kernel
theorem d217_10 : decode (mcode 217) 10 = .ok (.istore 4, 2) := by decide +kernel
theorem d217_12 : decode (mcode 217) 12 = .ok (.aload_n 0, 1) := by decide +kernel
theorem d217_13 : decode (mcode 217) 13 = .ok (.iload_n 1, 1) := by decide +kernel
theorem d217_14 : decode (mcode 217) 14 = .ok (.invokevirtual 80, 3) := by decide +kernel
theorem d217_17 : decode (mcode 217) 17 = .ok (.istore 5, 2) := by decide +kernel
theorem d217_19 : decode (mcode 217) 19 = .ok (.iload 5, 2) := by decide +kernel
theorem d217_21 : decode (mcode 217) 21 = .ok (.aload_n 0, 1) := by decide +kernel
theorem d217_22 : decode (mcode 217) 22 = .ok (.iload_n 2, 1) := by decide +kernel
theorem d217_23 : decode (mcode 217) 23 = .ok (.invokevirtual 80, 3) := by decide +kernel
theorem d217_26 : decode (mcode 217) 26 = .ok (.if_icmp .ge 26, 3) := by decide +kernel
theorem d217_29 : decode (mcode 217) 29 = .ok (.aload_n 0, 1) := by decide +kernel
theorem d217_30 : decode (mcode 217) 30 = .ok (.iconst 2, 1) := by decide +kernel
theorem d217_31 : decode (mcode 217) 31 = .ok (.iload_n 3, 1) := by decide +kernel
theorem d217_32 : decode (mcode 217) 32 = .ok (.iload 4, 2) := by decide +kernel
theorem d217_34 : decode (mcode 217) 34 = .ok (.imul, 1) := by decide +kernel
theorem d217_35 : decode (mcode 217) 35 = .ok (.iload 5, 2) := by decide +kernel
theorem d217_37 : decode (mcode 217) 37 = .ok (.iadd, 1) := by decide +kernel
theorem d217_38 : decode (mcode 217) 38 = .ok (.iconst 1, 1) := by decide +kernel
theorem d217_39 : decode (mcode 217) 39 = .ok (.iadd, 1) := by decide +kernel
theorem d217_40 : decode (mcode 217) 40 = .ok (.imul, 1) := by decide +kernel
theorem d217_41 : decode (mcode 217) 41 = .ok (.iconst 1, 1) := by decide +kernel
theorem d217_42 : decode (mcode 217) 42 = .ok (.iadd, 1) := by decide +kernel
theorem d217_43 : decode (mcode 217) 43 = .ok (.invokevirtual 182, 3) := by decide +kernel
theorem d217_46 : decode (mcode 217) 46 = .ok (.iinc 5 1, 3) := by decide +kernel
theorem d217_49 : decode (mcode 217) 49 = .ok (.goto (-30), 3) := by decide +kernel
theorem d217_52 : decode (mcode 217) 52 = .ok (.aload_n 0, 1) := by decide +kernel
theorem d217_53 : decode (mcode 217) 53 = .ok (.iload_n 1, 1) := by decide +kernel
theorem d217_54 : decode (mcode 217) 54 = .ok (.invokevirtual 80, 3) := by decide +kernel
theorem d217_57 : decode (mcode 217) 57 = .ok (.istore 5, 2) := by decide +kernel
theorem d217_59 : decode (mcode 217) 59 = .ok (.iload 5, 2) := by decide +kernel
theorem d217_61 : decode (mcode 217) 61 = .ok (.aload_n 0, 1) := by decide +kernel
theorem d217_62 : decode (mcode 217) 62 = .ok (.iload_n 2, 1) := by decide +kernel
theorem d217_63 : decode (mcode 217) 63 = .ok (.invokevirtual 80, 3) := by decide +kernel
theorem d217_66 : decode (mcode 217) 66 = .ok (.if_icmp .le 24, 3) := by decide +kernel
theorem d217_69 : decode (mcode 217) 69 = .ok (.aload_n 0, 1) := by decide +kernel
theorem d217_70 : decode (mcode 217) 70 = .ok (.iconst 2, 1) := by decide +kernel
theorem d217_71 : decode (mcode 217) 71 = .ok (.iload_n 3, 1) := by decide +kernel
theorem d217_72 : decode (mcode 217) 72 = .ok (.iload 4, 2) := by decide +kernel
theorem d217_74 : decode (mcode 217) 74 = .ok (.imul, 1) := by decide +kernel
theorem d217_75 : decode (mcode 217) 75 = .ok (.iload 5, 2) := by decide +kernel
theorem d217_77 : decode (mcode 217) 77 = .ok (.iadd, 1) := by decide +kernel
theorem d217_78 : decode (mcode 217) 78 = .ok (.imul, 1) := by decide +kernel
theorem d217_79 : decode (mcode 217) 79 = .ok (.iconst 1, 1) := by decide +kernel
theorem d217_80 : decode (mcode 217) 80 = .ok (.iadd, 1) := by decide +kernel
theorem d217_81 : decode (mcode 217) 81 = .ok (.invokevirtual 182, 3) := by decide +kernel
theorem d217_84 : decode (mcode 217) 84 = .ok (.iinc 5 (-1), 3) := by decide +kernel
theorem d217_87 : decode (mcode 217) 87 = .ok (.goto (-28), 3) := by decide +kernel
theorem d217_90 : decode (mcode 217) 90 = .ok (.iload_n 3, 1) := by decide +kernel
theorem d217_91 : decode (mcode 217) 91 = .ok (.istore 5, 2) := by decide +kernel
theorem d217_93 : decode (mcode 217) 93 = .ok (.iload 5, 2) := by decide +kernel
theorem d217_95 : decode (mcode 217) 95 = .ok (.aload_n 0, 1) := by decide +kernel
theorem d217_96 : decode (mcode 217) 96 = .ok (.iload_n 2, 1) := by decide +kernel
theorem d217_97 : decode (mcode 217) 97 = .ok (.invokevirtual 83, 3) := by decide +kernel
theorem d217_100 : decode (mcode 217) 100 = .ok (.if_icmp .ge 28, 3) := by decide +kernel
theorem d217_103 : decode (mcode 217) 103 = .ok (.aload_n 0, 1) := by decide +kernel
theorem d217_104 : decode (mcode 217) 104 = .ok (.iconst 2, 1) := by decide +kernel
theorem d217_105 : decode (mcode 217) 105 = .ok (.iload 5, 2) := by decide +kernel
theorem d217_107 : decode (mcode 217) 107 = .ok (.iconst 1, 1) := by decide +kernel
theorem d217_108 : decode (mcode 217) 108 = .ok (.iadd, 1) := by decide +kernel
theorem d217_109 : decode (mcode 217) 109 = .ok (.iload 4, 2) := by decide +kernel
theorem d217_111 : decode (mcode 217) 111 = .ok (.imul, 1) := by decide +kernel
theorem d217_112 : decode (mcode 217) 112 = .ok (.aload_n 0, 1) := by decide +kernel
theorem d217_113 : decode (mcode 217) 113 = .ok (.iload_n 2, 1) := by decide +kernel
theorem d217_114 : decode (mcode 217) 114 = .ok (.invokevirtual 80, 3) := by decide +kernel
theorem d217_117 : decode (mcode 217) 117 = .ok (.iadd, 1) := by decide +kernel
theorem d217_118 : decode (mcode 217) 118 = .ok (.imul, 1) := by decide +kernel
theorem d217_119 : decode (mcode 217) 119 = .ok (.invokevirtual 182, 3) := by decide +kernel
theorem d217_122 : decode (mcode 217) 122 = .ok (.iinc 5 1, 3) := by decide +kernel
theorem d217_125 : decode (mcode 217) 125 = .ok (.goto (-32), 3) := by decide +kernel
theorem d217_128 : decode (mcode 217) 128 = .ok (.return_, 1) := by decide +kernel
theorem d218_0 : decode (mcode 218) 0 = .ok (.aload_n 0, 1) := by decide +kernel
theorem d218_1 : decode (mcode 218) 1 = .ok (.invokevirtual 186, 3) := by decide +kernel
theorem d218_4 : decode (mcode 218) 4 = .ok (.iconst 0, 1) := by decide +kernel
theorem d218_5 : decode (mcode 218) 5 = .ok (.istore_n 2, 1) := by decide +kernel
theorem d218_6 : decode (mcode 218) 6 = .ok (.iload_n 2, 1) := by decide +kernel
theorem d218_7 : decode (mcode 218) 7 = .ok (.sipush 288, 3) := by decide +kernel
theorem d218_10 : decode (mcode 218) 10 = .ok (.if_icmp .ge 20, 3) := by decide +kernel
theorem d218_13 : decode (mcode 218) 13 = .ok (.aload_n 0, 1) := by decide +kernel
theorem d218_14 : decode (mcode 218) 14 = .ok (.getfield 7, 3) := by decide +kernel
theorem d218_17 : decode (mcode 218) 17 = .ok (.sipush 1018, 3) := by decide +kernel
theorem d218_20 : decode (mcode 218) 20 = .ok (.iload_n 2, 1) := by decide +kernel
theorem d218_21 : decode (mcode 218) 21 = .ok (.iadd, 1) := by decide +kernel
theorem d218_22 : decode (mcode 218) 22 = .ok (.iconst 0, 1) := by decide +kernel
theorem d218_23 : decode (mcode 218) 23 = .ok (.iastore, 1) := by decide +kernel
theorem d218_24 : decode (mcode 218) 24 = .ok (.iinc 2 1, 3) := by decide +kernel
theorem d218_27 : decode (mcode 218) 27 = .ok (.goto (-21), 3) := by decide +kernel
theorem d218_30 : decode (mcode 218) 30 = .ok (.iload_n 1, 1) := by decide +kernel
theorem d218_31 : decode (mcode 218) 31 = .ok (.ifCond .ne 10, 3) := by decide +kernel
theorem d218_34 : decode (mcode 218) 34 = .ok (.aload_n 0, 1) := by decide +kernel
theorem d218_35 : decode (mcode 218) 35 = .ok (.invokevirtual 189, 3) := by decide +kernel
theorem d218_38 : decode (mcode 218) 38 = .ok (.goto 7, 3) := by decide +kernel
theorem d218_41 : decode (mcode 218) 41 = .ok (.aload_n 0, 1) := by decide +kernel
theorem d218_42 : decode (mcode 218) 42 = .ok (.invokevirtual 192, 3) := by decide +kernel
theorem d218_45 : decode (mcode 218) 45 = .ok (.aload_n 0, 1) := by decide +kernel
theorem d218_46 : decode (mcode 218) 46 = .ok (.getfield 7, 3) := by decide +kernel
theorem d218_49 : decode (mcode 218) 49 = .ok (.iconst 5, 1) := by decide +kernel
theorem d218_50 : decode (mcode 218) 50 = .ok (.iconst 0, 1) := by decide +kernel
theorem d218_51 : decode (mcode 218) 51 = .ok (.iastore, 1) := by decide +kernel
theorem d218_52 : decode (mcode 218) 52 = .ok (.aload_n 0, 1) := by decide +kernel
theorem d218_53 : decode (mcode 218) 53 = .ok (.getfield 7, 3) := by decide +kernel
theorem d218_56 : decode (mcode 218) 56 = .ok (.bipush 6, 2) := by decide +kernel
theorem d218_58 : decode (mcode 218) 58 = .ok (.iconst 0, 1) := by decide +kernel
theorem d218_59 : decode (mcode 218) 59 = .ok (.iastore, 1) := by decide +kernel
theorem d218_60 : decode (mcode 218) 60 = .ok (.iconst 0, 1) := by decide +kernel
theorem d218_61 : decode (mcode 218) 61 = .ok (.istore_n 2, 1) := by decide +kernel
theorem d218_62 : decode (mcode 218) 62 = .ok (.iload_n 2, 1) := by decide +kernel
theorem d218_63 : decode (mcode 218) 63 = .ok (.aload_n 0, 1) := by decide +kernel
theorem d218_64 : decode (mcode 218) 64 = .ok (.getfield 168, 3) := by decide +kernel
theorem d218_67 : decode (mcode 218) 67 = .ok (.if_icmp .ge 221, 3) := by decide +kernel
theorem d218_70 : decode (mcode 218) 70 = .ok (.aload_n 0, 1) := by decide +kernel
theorem d218_71 : decode (mcode 218) 71 = .ok (.getfield 25, 3) := by decide +kernel
theorem d218_74 : decode (mcode 218) 74 = .ok (.iload_n 2, 1) := by decide +kernel
theorem d218_75 : decode (mcode 218) 75 = .ok (.iaload, 1) := by decide +kernel
theorem d218_76 : decode (mcode 218) 76 = .ok (.iload_n 2, 1) := by decide +kernel
theorem d218_77 : decode (mcode 218) 77 = .ok (.if_icmp .ge 6, 3) := by decide +kernel
theorem d218_80 : decode (mcode 218) 80 = .ok (.goto 202, 3) := by decide +kernel
theorem d218_83 : decode (mcode 218) 83 = .ok (.aload_n 0, 1) := by decide +kernel
theorem d218_84 : decode (mcode 218) 84 = .ok (.getfield 25, 3) := by decide +kernel
theorem d218_87 : decode (mcode 218) 87 = .ok (.iload_n 2, 1) := by decide +kernel
theorem d218_88 : decode (mcode 218) 88 = .ok (.iaload, 1) := by decide +kernel
theorem d218_89 : decode (mcode 218) 89 = .ok (.iload_n 2, 1) := by decide +kernel
theorem d218_90 : decode (mcode 218) 90 = .ok (.if_icmp .ne 7, 3) := by decide +kernel
theorem d218_93 : decode (mcode 218) 93 = .ok (.iconst 1, 1) := by decide +kernel
theorem d218_94 : decode (mcode 218) 94 = .ok (.goto 4, 3) := by decide +kernel
theorem d218_97 : decode (mcode 218) 97 = .ok (.iconst 0, 1) := by decide +kernel
theorem d218_98 : decode (mcode 218) 98 = .ok (.istore_n 3, 1) := by decide +kernel
theorem d218_99 : decode (mcode 218) 99 = .ok (.iload_n 3, 1) := by decide +kernel
theorem d218_100 : decode (mcode 218) 100 = .ok (.ifCond .eq 16, 3) := by decide +kernel
theorem d218_103 : decode (mcode 218) 103 = .ok (.aload_n 0, 1) := by decide +kernel
theorem d218_104 : decode (mcode 218) 104 = .ok (.aload_n 0, 1) := by decide +kernel
theorem d218_105 : decode (mcode 218) 105 = .ok (.getfield 22, 3) := by decide +kernel
theorem d218_108 : decode (mcode 218) 108 = .ok (.iload_n 2, 1) := by decide +kernel
theorem d218_109 : decode (mcode 218) 109 = .ok (.iaload, 1) := by decide +kernel
theorem d218_110 : decode (mcode 218) 110 = .ok (.invokevirtual 171, 3) := by decide +kernel
theorem d218_113 : decode (mcode 218) 113 = .ok (.goto 24, 3) := by decide +kernel
theorem d218_116 : decode (mcode 218) 116 = .ok (.aload_n 0, 1) := by decide +kernel
theorem d218_117 : decode (mcode 218) 117 = .ok (.aload_n 0, 1) := by decide +kernel
theorem d218_118 : decode (mcode 218) 118 = .ok (.getfield 22, 3) := by decide +kernel
theorem d218_121 : decode (mcode 218) 121 = .ok (.iload_n 2, 1) := by decide +kernel
theorem d218_122 : decode (mcode 218) 122 = .ok (.iaload, 1) := by decide +kernel
theorem d218_123 : decode (mcode 218) 123 = .ok (.aload_n 0, 1) := by decide +kernel
theorem d218_124 : decode (mcode 218) 124 = .ok (.getfield 22, 3) := by decide +kernel
theorem d218_127 : decode (mcode 218) 127 = .ok (.aload_n 0, 1) := by decide +kernel
theorem d218_128 : decode (mcode 218) 128 = .ok (.getfield 25, 3) := by decide +kernel
theorem d218_131 : decode (mcode 218) 131 = .ok (.iload_n 2, 1) := by decide +kernel
theorem d218_132 : decode (mcode 218) 132 = .ok (.iaload, 1) := by decide +kernel
theorem d218_133 : decode (mcode 218) 133 = .ok (.iaload, 1) := by decide +kernel
theorem d218_134 : decode (mcode 218) 134 = .ok (.invokevirtual 142, 3) := by decide +kernel
theorem d218_137 : decode (mcode 218) 137 = .ok (.istore 4, 2) := by decide +kernel
theorem d218_139 : decode (mcode 218) 139 = .ok (.iload_n 3, 1) := by decide +kernel
theorem d218_140 : decode (mcode 218) 140 = .ok (.ifCond .eq 26, 3) := by decide +kernel
theorem d218_143 : decode (mcode 218) 143 = .ok (.aload_n 0, 1) := by decide +kernel
theorem d218_144 : decode (mcode 218) 144 = .ok (.aload_n 0, 1) := by decide +kernel
theorem d218_145 : decode (mcode 218) 145 = .ok (.getfield 22, 3) := by decide +kernel
theorem d218_148 : decode (mcode 218) 148 = .ok (.iload_n 2, 1) := by decide +kernel
theorem d218_149 : decode (mcode 218) 149 = .ok (.iaload, 1) := by decide +kernel
theorem d218_150 : decode (mcode 218) 150 = .ok (.aload_n 0, 1) := by decide +kernel
theorem d218_151 : decode (mcode 218) 151 = .ok (.aload_n 0, 1) := by decide +kernel
theorem d218_152 : decode (mcode 218) 152 = .ok (.getfield 22, 3) := by decide +kernel
theorem d218_155 : decode (mcode 218) 155 = .ok (.iload_n 2, 1) := by decide +kernel
theorem d218_156 : decode (mcode 218) 156 = .ok (.iaload, 1) := by decide +kernel
theorem d218_157 : decode (mcode 218) 157 = .ok (.invokevirtual 165, 3) := by decide +kernel
theorem d218_160 : decode (mcode 218) 160 = .ok (.invokevirtual 195, 3) := by decide +kernel
theorem d218_163 : decode (mcode 218) 163 = .ok (.goto 24, 3) := by decide +kernel
theorem d218_166 : decode (mcode 218) 166 = .ok (.aload_n 0, 1) := by decide +kernel
theorem d218_167 : decode (mcode 218) 167 = .ok (.aload_n 0, 1) := by decide +kernel
theorem d218_168 : decode (mcode 218) 168 = .ok (.getfield 22, 3) := by decide +kernel
theorem d218_171 : decode (mcode 218) 171 = .ok (.iload_n 2, 1) := by decide +kernel
theorem d218_172 : decode (mcode 218) 172 = .ok (.iaload, 1) := by decide +kernel
theorem d218_173 : decode (mcode 218) 173 = .ok (.aload_n 0, 1) := by decide +kernel
theorem d218_174 : decode (mcode 218) 174 = .ok (.getfield 22, 3) := by decide +kernel
theorem d218_177 : decode (mcode 218) 177 = .ok (.aload_n 0, 1) := by decide +kernel
theorem d218_178 : decode (mcode 218) 178 = .ok (.getfield 25, 3) := by decide +kernel
theorem d218_181 : decode (mcode 218) 181 = .ok (.iload_n 2, 1) := by decide +kernel
theorem d218_182 : decode (mcode 218) 182 = .ok (.iaload, 1) := by decide +kernel
theorem d218_183 : decode (mcode 218) 183 = .ok (.iaload, 1) := by decide +kernel
theorem d218_184 : decode (mcode 218) 184 = .ok (.invokevirtual 198, 3) := by decide +kernel
theorem d218_187 : decode (mcode 218) 187 = .ok (.aload_n 0, 1) := by decide +kernel
theorem d218_188 : decode (mcode 218) 188 = .ok (.getfield 7, 3) := by decide +kernel
theorem d218_191 : decode (mcode 218) 191 = .ok (.iconst 5, 1) := by decide +kernel
theorem d218_192 : decode (mcode 218) 192 = .ok (.iaload, 1) := by decide +kernel
theorem d218_193 : decode (mcode 218) 193 = .ok (.istore 5, 2) := by decide +kernel
theorem d218_195 : decode (mcode 218) 195 = .ok (.aload_n 0, 1) := by decide +kernel
theorem d218_196 : decode (mcode 218) 196 = .ok (.getfield 7, 3) := by decide +kernel
theorem d218_199 : decode (mcode 218) 199 = .ok (.sipush 1594, 3) := by decide +kernel
theorem d218_202 : decode (mcode 218) 202 = .ok (.iload 5, 2) := by decide +kernel
theorem d218_204 : decode (mcode 218) 204 = .ok (.iadd, 1) := by decide +kernel
theorem d218_205 : decode (mcode 218) 205 = .ok (.aload_n 0, 1) := by decide +kernel
theorem d218_206 : decode (mcode 218) 206 = .ok (.getfield 22, 3) := by decide +kernel
theorem d218_209 : decode (mcode 218) 209 = .ok (.iload_n 2, 1) := by decide +kernel
theorem d218_210 : decode (mcode 218) 210 = .ok (.iaload, 1) := by decide +kernel
theorem d218_211 : decode (mcode 218) 211 = .ok (.iastore, 1) := by decide +kernel
theorem d218_212 : decode (mcode 218) 212 = .ok (.aload_n 0, 1) := by decide +kernel
theorem d218_213 : decode (mcode 218) 213 = .ok (.getfield 7, 3) := by decide +kernel
theorem d218_216 : decode (mcode 218) 216 = .ok (.sipush 1738, 3) := by decide +kernel
theorem d218_219 : decode (mcode 218) 219 = .ok (.iload 5, 2) := by decide +kernel
theorem d218_221 : decode (mcode 218) 221 = .ok (.iadd, 1) := by decide +kernel
theorem d218_222 : decode (mcode 218) 222 = .ok (.iload_n 3, 1) := by decide +kernel
theorem d218_223 : decode (mcode 218) 223 = .ok (.ifCond .eq 7, 3) := by decide +kernel
theorem d218_226 : decode (mcode 218) 226 = .ok (.iconst (-1), 1) := by decide +kernel
theorem d218_227 : decode (mcode 218) 227 = .ok (.goto 14, 3) := by decide +kernel
theorem d218_230 : decode (mcode 218) 230 = .ok (.aload_n 0, 1) := by decide +kernel
theorem d218_231 : decode (mcode 218) 231 = .ok (.getfield 22, 3) := by decide +kernel
theorem d218_234 : decode (mcode 218) 234 = .ok (.aload_n 0, 1) := by decide +kernel
theorem d218_235 : decode (mcode 218) 235 = .ok (.getfield 25, 3) := by decide +kernel
theorem d218_238 : decode (mcode 218) 238 = .ok (.iload_n 2, 1) := by decide +kernel
theorem d218_239 : decode (mcode 218) 239 = .ok (.iaload, 1) := by decide +kernel
theorem d218_240 : decode (mcode 218) 240 = .ok (.iaload, 1) := by decide +kernel
theorem d218_241 : decode (mcode 218) 241 = .ok (.iastore, 1) := by decide +kernel
theorem d218_242 : decode (mcode 218) 242 = .ok (.aload_n 0, 1) := by decide +kernel
theorem d218_243 : decode (mcode 218) 243 = .ok (.getfield 7, 3) := by decide +kernel
theorem d218_246 : decode (mcode 218) 246 = .ok (.sipush 1882, 3) := by decide +kernel
theorem d218_249 : decode (mcode 218) 249 = .ok (.iload 5, 2) := by decide +kernel
theorem d218_251 : decode (mcode 218) 251 = .ok (.iadd, 1) := by decide +kernel
theorem d218_252 : decode (mcode 218) 252 = .ok (.iload 4, 2) := by decide +kernel
theorem d218_254 : decode (mcode 218) 254 = .ok (.iastore, 1) := by decide +kernel
theorem d218_255 : decode (mcode 218) 255 = .ok (.aload_n 0, 1) := by decide +kernel
theorem d218_256 : decode (mcode 218) 256 = .ok (.getfield 7, 3) := by decide +kernel
theorem d218_259 : decode (mcode 218) 259 = .ok (.iconst 5, 1) := by decide +kernel
theorem d218_260 : decode (mcode 218) 260 = .ok (.iload 5, 2) := by decide +kernel
theorem d218_262 : decode (mcode 218) 262 = .ok (.iconst 1, 1) := by decide +kernel
theorem d218_263 : decode (mcode 218) 263 = .ok (.iadd, 1) := by decide +kernel
theorem d218_264 : decode (mcode 218) 264 = .ok (.iastore, 1) := by decide +kernel
theorem d218_265 : decode (mcode 218) 265 = .ok (.aload_n 0, 1) := by decide +kernel
theorem d218_266 : decode (mcode 218) 266 = .ok (.getfield 7, 3) := by decide +kernel
theorem d218_269 : decode (mcode 218) 269 = .ok (.bipush 6, 2) := by decide +kernel
theorem d218_271 : decode (mcode 218) 271 = .ok (.aload_n 0, 1) := by decide +kernel
theorem d218_272 : decode (mcode 218) 272 = .ok (.getfield 7, 3) := by decide +kernel
theorem d218_275 : decode (mcode 218) 275 = .ok (.bipush 6, 2) := by decide +kernel
theorem d218_277 : decode (mcode 218) 277 = .ok (.iaload, 1) := by decide +kernel
theorem d218_278 : decode (mcode 218) 278 = .ok (.iload 4, 2) := by decide +kernel
theorem d218_280 : decode (mcode 218) 280 = .ok (.iadd, 1) := by decide +kernel
theorem d218_281 : decode (mcode 218) 281 = .ok (.iastore, 1) := by decide +kernel
theorem d218_282 : decode (mcode 218) 282 = .ok (.iinc 2 1, 3) := by decide +kernel
theorem d218_285 : decode (mcode 218) 285 = .ok (.goto (-223), 3) := by decide +kernel
theorem d218_288 : decode (mcode 218) 288 = .ok (.aload_n 0, 1) := by decide +kernel
theorem d218_289 : decode (mcode 218) 289 = .ok (.getfield 7, 3) := by decide +kernel
theorem d218_292 : decode (mcode 218) 292 = .ok (.bipush 6, 2) := by decide +kernel
theorem d218_294 : decode (mcode 218) 294 = .ok (.iaload, 1) := by decide +kernel
theorem d218_295 : decode (mcode 218) 295 = .ok (.ireturn, 1) := by decide +kernel
theorem d219_0 : decode (mcode 219) 0 = .ok (.aload_n 0, 1) := by decide +kernel
theorem d219_1 : decode (mcode 219) 1 = .ok (.invokevirtual 186, 3) := by decide +kernel
theorem d219_4 : decode (mcode 219) 4 = .ok (.aload_n 0, 1) := by decide +kernel
theorem d219_5 : decode (mcode 219) 5 = .ok (.iload_n 1, 1) := by decide +kernel
theorem d219_6 : decode (mcode 219) 6 = .ok (.iconst 0, 1) := by decide +kernel
theorem d219_7 : decode (mcode 219) 7 = .ok (.iconst 1, 1) := by decide +kernel
theorem d219_8 : decode (mcode 219) 8 = .ok (.invokevirtual 115, 3) := by decide +kernel
theorem d219_11 : decode (mcode 219) 11 = .ok (.ifCond .eq 21, 3) := by decide +kernel
theorem d219_14 : decode (mcode 219) 14 = .ok (.iload_n 1, 1) := by decide +kernel
theorem d219_15 : decode (mcode 219) 15 = .ok (.iconst 1, 1) := by decide +kernel
theorem d219_16 : decode (mcode 219) 16 = .ok (.if_icmp .eq 12, 3) := by decide +kernel
theorem d219_19 : decode (mcode 219) 19 = .ok (.aload_n 0, 1) := by decide +kernel
theorem d219_20 : decode (mcode 219) 20 = .ok (.getfield 168, 3) := by decide +kernel
theorem d219_23 : decode (mcode 219) 23 = .ok (.bipush 12, 2) := by decide +kernel
theorem d219_25 : decode (mcode 219) 25 = .ok (.if_icmp .gt 7, 3) := by decide +kernel
theorem d219_28 : decode (mcode 219) 28 = .ok (.iconst 1, 1) := by decide +kernel
theorem d219_29 : decode (mcode 219) 29 = .ok (.goto 4, 3) := by decide +kernel
theorem d219_32 : decode (mcode 219) 32 = .ok (.iconst 0, 1) := by decide +kernel
theorem d219_33 : decode (mcode 219) 33 = .ok (.ireturn, 1) := by decide +kernel
theorem d220_0 : decode (mcode 220) 0 = .ok (.aload_n 0, 1) := by decide +kernel
theorem d220_1 : decode (mcode 220) 1 = .ok (.iconst 0, 1) := by decide +kernel
theorem d220_2 : decode (mcode 220) 2 = .ok (.putfield 57, 3) := by decide +kernel
theorem d220_5 : decode (mcode 220) 5 = .ok (.aload_n 0, 1) := by decide +kernel
theorem d220_6 : decode (mcode 220) 6 = .ok (.iload_n 1, 1) := by decide +kernel
theorem d220_7 : decode (mcode 220) 7 = .ok (.invokevirtual 201, 3) := by decide +kernel
theorem d220_10 : decode (mcode 220) 10 = .ok (.ifCond .ne 5, 3) := by decide +kernel
theorem d220_13 : decode (mcode 220) 13 = .ok (.iconst (-1), 1) := by decide +kernel
theorem d220_14 : decode (mcode 220) 14 = .ok (.ireturn, 1) := by decide +kernel
theorem d220_15 : decode (mcode 220) 15 = .ok (.aload_n 0, 1) := by decide +kernel
theorem d220_16 : decode (mcode 220) 16 = .ok (.invokevirtual 126, 3) := by decide +kernel
theorem d220_19 : decode (mcode 220) 19 = .ok (.aload_n 0, 1) := by decide +kernel
theorem d220_20 : decode (mcode 220) 20 = .ok (.iload_n 1, 1) := by decide +kernel
theorem d220_21 : decode (mcode 220) 21 = .ok (.invokevirtual 204, 3) := by decide +kernel
theorem d220_24 : decode (mcode 220) 24 = .ok (.istore_n 2, 1) := by decide +kernel
theorem d220_25 : decode (mcode 220) 25 = .ok (.aload_n 0, 1) := by decide +kernel
theorem d220_26 : decode (mcode 220) 26 = .ok (.iconst 0, 1) := by decide +kernel
theorem d220_27 : decode (mcode 220) 27 = .ok (.aload_n 0, 1) := by decide +kernel
theorem d220_28 : decode (mcode 220) 28 = .ok (.getfield 168, 3) := by decide +kernel
theorem d220_31 : decode (mcode 220) 31 = .ok (.iload_n 2, 1) := by decide +kernel
theorem d220_32 : decode (mcode 220) 32 = .ok (.invokevirtual 111, 3) := by decide +kernel
theorem d220_35 : decode (mcode 220) 35 = .ok (.iload_n 2, 1) := by decide +kernel
theorem d220_36 : decode (mcode 220) 36 = .ok (.ireturn, 1) := by decide +kernel
theorem d221_0 : decode (mcode 221) 0 = .ok (.aload_n 0, 1) := by decide +kernel
theorem d221_1 : decode (mcode 221) 1 = .ok (.iconst 0, 1) := by decide +kernel
theorem d221_2 : decode (mcode 221) 2 = .ok (.putfield 57, 3) := by decide +kernel
theorem d221_5 : decode (mcode 221) 5 = .ok (.aload_n 0, 1) := by decide +kernel
theorem d221_6 : decode (mcode 221) 6 = .ok (.iload_n 1, 1) := by decide +kernel
theorem d221_7 : decode (mcode 221) 7 = .ok (.invokevirtual 207, 3) := by decide +kernel
theorem d221_10 : decode (mcode 221) 10 = .ok (.ifCond .eq 26, 3) := by decide +kernel
theorem d221_13 : decode (mcode 221) 13 = .ok (.aload_n 0, 1) := by decide +kernel
theorem d221_14 : decode (mcode 221) 14 = .ok (.getfield 7, 3) := by decide +kernel
theorem d221_17 : decode (mcode 221) 17 = .ok (.sipush 1306, 3) := by decide +kernel
theorem d221_20 : decode (mcode 221) 20 = .ok (.iload_n 1, 1) := by decide +kernel
theorem d221_21 : decode (mcode 221) 21 = .ok (.iadd, 1) := by decide +kernel
theorem d221_22 : decode (mcode 221) 22 = .ok (.iaload, 1) := by decide +kernel
theorem d221_23 : decode (mcode 221) 23 = .ok (.iconst 1, 1) := by decide +kernel
theorem d221_24 : decode (mcode 221) 24 = .ok (.if_icmp .ne 7, 3) := by decide +kernel
theorem d221_27 : decode (mcode 221) 27 = .ok (.iconst 1, 1) := by decide +kernel
theorem d221_28 : decode (mcode 221) 28 = .ok (.goto 4, 3) := by decide +kernel
theorem d221_31 : decode (mcode 221) 31 = .ok (.iconst 0, 1) := by decide +kernel
theorem d221_32 : decode (mcode 221) 32 = .ok (.iload_n 2, 1) := by decide +kernel
theorem d221_33 : decode (mcode 221) 33 = .ok (.if_icmp .ne 5, 3) := by decide +kernel
theorem d221_36 : decode (mcode 221) 36 = .ok (.iconst 0, 1) := by decide +kernel
theorem d221_37 : decode (mcode 221) 37 = .ok (.ireturn, 1) := by decide +kernel
theorem d221_38 : decode (mcode 221) 38 = .ok (.aload_n 0, 1) := by decide +kernel
theorem d221_39 : decode (mcode 221) 39 = .ok (.invokevirtual 126, 3) := by decide +kernel
theorem d221_42 : decode (mcode 221) 42 = .ok (.aload_n 0, 1) := by decide +kernel
theorem d221_43 : decode (mcode 221) 43 = .ok (.getfield 7, 3) := by decide +kernel
theorem d221_46 : decode (mcode 221) 46 = .ok (.sipush 1306, 3) := by decide +kernel
theorem d221_49 : decode (mcode 221) 49 = .ok (.iload_n 1, 1) := by decide +kernel
theorem d221_50 : decode (mcode 221) 50 = .ok (.iadd, 1) := by decide +kernel
theorem d221_51 : decode (mcode 221) 51 = .ok (.iload_n 2, 1) := by decide +kernel
theorem d221_52 : decode (mcode 221) 52 = .ok (.ifCond .eq 7, 3) := by decide +kernel
theorem d221_55 : decode (mcode 221) 55 = .ok (.iconst 1, 1) := by decide +kernel
theorem d221_56 : decode (mcode 221) 56 = .ok (.goto 4, 3) := by decide +kernel
theorem d221_59 : decode (mcode 221) 59 = .ok (.iconst 0, 1) := by decide +kernel
theorem d221_60 : decode (mcode 221) 60 = .ok (.iastore, 1) := by decide +kernel
theorem d221_61 : decode (mcode 221) 61 = .ok (.iconst 1, 1) := by decide +kernel
theorem d221_62 : decode (mcode 221) 62 = .ok (.ireturn, 1) := by decide +kernel
theorem d222_0 : decode (mcode 222) 0 = .ok (.iconst 0, 1) := by decide +kernel
theorem d222_1 : decode (mcode 222) 1 = .ok (.istore_n 1, 1) := by decide +kernel
theorem d222_2 : decode (mcode 222) 2 = .ok (.iconst 0, 1) := by decide +kernel
theorem d222_3 : decode (mcode 222) 3 = .ok (.istore_n 2, 1) := by decide +kernel
theorem d222_4 : decode (mcode 222) 4 = .ok (.iload_n 2, 1) := by decide +kernel
theorem d222_5 : decode (mcode 222) 5 = .ok (.aload_n 0, 1) := by decide +kernel
theorem d222_6 : decode (mcode 222) 6 = .ok (.invokevirtual 67, 3) := by decide +kernel
theorem d222_9 : decode (mcode 222) 9 = .ok (.if_icmp .ge 29, 3) := by decide +kernel
theorem d222_12 : decode (mcode 222) 12 = .ok (.aload_n 0, 1) := by decide +kernel
theorem d222_13 : decode (mcode 222) 13 = .ok (.iload_n 2, 1) := by decide +kernel
theorem d222_14 : decode (mcode 222) 14 = .ok (.invokevirtual 89, 3) := by decide +kernel
theorem d222_17 : decode (mcode 222) 17 = .ok (.ifCond .ne 15, 3) := by decide +kernel
theorem d222_20 : decode (mcode 222) 20 = .ok (.aload_n 0, 1) := by decide +kernel
theorem d222_21 : decode (mcode 222) 21 = .ok (.iload_n 2, 1) := by decide +kernel
theorem d222_22 : decode (mcode 222) 22 = .ok (.invokevirtual 210, 3) := by decide +kernel
theorem d222_25 : decode (mcode 222) 25 = .ok (.ifCond .ne 7, 3) := by decide +kernel
theorem d222_28 : decode (mcode 222) 28 = .ok (.iload_n 1, 1) := by decide +kernel
theorem d222_29 : decode (mcode 222) 29 = .ok (.iconst 1, 1) := by decide +kernel
theorem d222_30 : decode (mcode 222) 30 = .ok (.iadd, 1) := by decide +kernel
theorem d222_31 : decode (mcode 222) 31 = .ok (.istore_n 1, 1) := by decide +kernel
theorem d222_32 : decode (mcode 222) 32 = .ok (.iinc 2 1, 3) := by decide +kernel
theorem d222_35 : decode (mcode 222) 35 = .ok (.goto (-31), 3) := by decide +kernel
theorem d222_38 : decode (mcode 222) 38 = .ok (.iload_n 1, 1) := by decide +kernel
theorem d222_39 : decode (mcode 222) 39 = .ok (.ireturn, 1) := by decide +kernel
theorem d223_0 : decode (mcode 223) 0 = .ok (.aload_n 0, 1) := by decide +kernel
theorem d223_1 : decode (mcode 223) 1 = .ok (.getfield 7, 3) := by decide +kernel
theorem d223_4 : decode (mcode 223) 4 = .ok (.iconst 2, 1) := by decide +kernel
theorem d223_5 : decode (mcode 223) 5 = .ok (.aload_n 0, 1) := by decide +kernel
theorem d223_6 : decode (mcode 223) 6 = .ok (.getfield 7, 3) := by decide +kernel
theorem d223_9 : decode (mcode 223) 9 = .ok (.iconst 2, 1) := by decide +kernel
theorem d223_10 : decode (mcode 223) 10 = .ok (.iaload, 1) := by decide +kernel
theorem d223_11 : decode (mcode 223) 11 = .ok (.iconst 1, 1) := by decide +kernel
theorem d223_12 : decode (mcode 223) 12 = .ok (.iadd, 1) := by decide +kernel
theorem d223_13 : decode (mcode 223) 13 = .ok (.iastore, 1) := by decide +kernel
theorem d223_14 : decode (mcode 223) 14 = .ok (.aload_n 0, 1) := by decide +kernel
theorem d223_15 : decode (mcode 223) 15 = .ok (.getfield 7, 3) := by decide +kernel
theorem d223_18 : decode (mcode 223) 18 = .ok (.sipush 874, 3) := by decide +kernel
theorem d223_21 : decode (mcode 223) 21 = .ok (.iload_n 1, 1) := by decide +kernel
theorem d223_22 : decode (mcode 223) 22 = .ok (.iadd, 1) := by decide +kernel
theorem d223_23 : decode (mcode 223) 23 = .ok (.aload_n 0, 1) := by decide +kernel
theorem d223_24 : decode (mcode 223) 24 = .ok (.getfield 7, 3) := by decide +kernel
theorem d223_27 : decode (mcode 223) 27 = .ok (.iconst 2, 1) := by decide +kernel
theorem d223_28 : decode (mcode 223) 28 = .ok (.iaload, 1) := by decide +kernel
theorem d223_29 : decode (mcode 223) 29 = .ok (.iastore, 1) := by decide +kernel
theorem d223_30 : decode (mcode 223) 30 = .ok (.aload_n 0, 1) := by decide +kernel
theorem d223_31 : decode (mcode 223) 31 = .ok (.getfield 7, 3) := by decide +kernel
theorem d223_34 : decode (mcode 223) 34 = .ok (.sipush 442, 3) := by decide +kernel
theorem d223_37 : decode (mcode 223) 37 = .ok (.iload_n 1, 1) := by decide +kernel
theorem d223_38 : decode (mcode 223) 38 = .ok (.iadd, 1) := by decide +kernel
theorem d223_39 : decode (mcode 223) 39 = .ok (.iload_n 2, 1) := by decide +kernel
theorem d223_40 : decode (mcode 223) 40 = .ok (.iastore, 1) := by decide +kernel
theorem d223_41 : decode (mcode 223) 41 = .ok (.aload_n 0, 1) := by decide +kernel
theorem d223_42 : decode (mcode 223) 42 = .ok (.getfield 7, 3) := by decide +kernel
theorem d223_45 : decode (mcode 223) 45 = .ok (.sipush 586, 3) := by decide +kernel
theorem d223_48 : decode (mcode 223) 48 = .ok (.iload_n 1, 1) := by decide +kernel
theorem d223_49 : decode (mcode 223) 49 = .ok (.iadd, 1) := by decide +kernel
theorem d223_50 : decode (mcode 223) 50 = .ok (.iload_n 3, 1) := by decide +kernel
theorem d223_51 : decode (mcode 223) 51 = .ok (.iastore, 1) := by decide +kernel
theorem d223_52 : decode (mcode 223) 52 = .ok (.aload_n 0, 1) := by decide +kernel
theorem d223_53 : decode (mcode 223) 53 = .ok (.getfield 7, 3) := by decide +kernel
theorem d223_56 : decode (mcode 223) 56 = .ok (.sipush 730, 3) := by decide +kernel
theorem d223_59 : decode (mcode 223) 59 = .ok (.iload_n 1, 1) := by decide +kernel
theorem d223_60 : decode (mcode 223) 60 = .ok (.iadd, 1) := by decide +kernel
theorem d223_61 : decode (mcode 223) 61 = .ok (.iload 4, 2) := by decide +kernel
theorem d223_63 : decode (mcode 223) 63 = .ok (.iastore, 1) := by decide +kernel
theorem d223_64 : decode (mcode 223) 64 = .ok (.return_, 1) := by decide +kernel
theorem d224_0 : decode (mcode 224) 0 = .ok (.iconst (-1), 1) := by decide +kernel
theorem d224_1 : decode (mcode 224) 1 = .ok (.istore_n 1, 1) := by decide +kernel
theorem d224_2 : decode (mcode 224) 2 = .ok (.iconst 0, 1) := by decide +kernel
theorem d224_3 : decode (mcode 224) 3 = .ok (.istore_n 2, 1) := by decide +kernel
theorem d224_4 : decode (mcode 224) 4 = .ok (.iload_n 2, 1) := by decide +kernel
theorem d224_5 : decode (mcode 224) 5 = .ok (.aload_n 0, 1) := by decide +kernel
theorem d224_6 : decode (mcode 224) 6 = .ok (.invokevirtual 67, 3) := by decide +kernel
theorem d224_9 : decode (mcode 224) 9 = .ok (.if_icmp .ge 45, 3) := by decide +kernel
theorem d224_12 : decode (mcode 224) 12 = .ok (.aload_n 0, 1) := by decide +kernel
theorem d224_13 : decode (mcode 224) 13 = .ok (.iload_n 2, 1) := by decide +kernel
theorem d224_14 : decode (mcode 224) 14 = .ok (.invokevirtual 89, 3) := by decide +kernel
theorem d224_17 : decode (mcode 224) 17 = .ok (.ifCond .ne 31, 3) := by decide +kernel
theorem d224_20 : decode (mcode 224) 20 = .ok (.aload_n 0, 1) := by decide +kernel
theorem d224_21 : decode (mcode 224) 21 = .ok (.iload_n 2, 1) := by decide +kernel
theorem d224_22 : decode (mcode 224) 22 = .ok (.invokevirtual 210, 3) := by decide +kernel
theorem d224_25 : decode (mcode 224) 25 = .ok (.ifCond .ne 23, 3) := by decide +kernel
theorem d224_28 : decode (mcode 224) 28 = .ok (.iload_n 1, 1) := by decide +kernel
theorem d224_29 : decode (mcode 224) 29 = .ok (.iconst (-1), 1) := by decide +kernel
theorem d224_30 : decode (mcode 224) 30 = .ok (.if_icmp .eq 16, 3) := by decide +kernel
theorem d224_33 : decode (mcode 224) 33 = .ok (.aload_n 0, 1) := by decide +kernel
theorem d224_34 : decode (mcode 224) 34 = .ok (.iload_n 2, 1) := by decide +kernel
theorem d224_35 : decode (mcode 224) 35 = .ok (.invokevirtual 96, 3) := by decide +kernel
theorem d224_38 : decode (mcode 224) 38 = .ok (.aload_n 0, 1) := by decide +kernel
theorem d224_39 : decode (mcode 224) 39 = .ok (.iload_n 1, 1) := by decide +kernel
theorem d224_40 : decode (mcode 224) 40 = .ok (.invokevirtual 96, 3) := by decide +kernel
theorem d224_43 : decode (mcode 224) 43 = .ok (.if_icmp .le 5, 3) := by decide +kernel
theorem d224_46 : decode (mcode 224) 46 = .ok (.iload_n 2, 1) := by decide +kernel
theorem d224_47 : decode (mcode 224) 47 = .ok (.istore_n 1, 1) := by decide +kernel
theorem d224_48 : decode (mcode 224) 48 = .ok (.iinc 2 1, 3) := by decide +kernel
theorem d224_51 : decode (mcode 224) 51 = .ok (.goto (-47), 3) := by decide +kernel
theorem d224_54 : decode (mcode 224) 54 = .ok (.aload_n 0, 1) := by decide +kernel
theorem d224_55 : decode (mcode 224) 55 = .ok (.getfield 7, 3) := by decide +kernel
theorem d224_58 : decode (mcode 224) 58 = .ok (.iconst 3, 1) := by decide +kernel
theorem d224_59 : decode (mcode 224) 59 = .ok (.iaload, 1) := by decide +kernel
theorem d224_60 : decode (mcode 224) 60 = .ok (.istore_n 2, 1) := by decide +kernel
theorem d224_61 : decode (mcode 224) 61 = .ok (.aload_n 0, 1) := by decide +kernel
theorem d224_62 : decode (mcode 224) 62 = .ok (.getfield 7, 3) := by decide +kernel
theorem d224_65 : decode (mcode 224) 65 = .ok (.iconst 3, 1) := by decide +kernel
theorem d224_66 : decode (mcode 224) 66 = .ok (.iload_n 2, 1) := by decide +kernel
theorem d224_67 : decode (mcode 224) 67 = .ok (.iconst 1, 1) := by decide +kernel
theorem d224_68 : decode (mcode 224) 68 = .ok (.iadd, 1) := by decide +kernel
theorem d224_69 : decode (mcode 224) 69 = .ok (.iastore, 1) := by decide +kernel
theorem d224_70 : decode (mcode 224) 70 = .ok (.aload_n 0, 1) := by decide +kernel
theorem d224_71 : decode (mcode 224) 71 = .ok (.getfield 7, 3) := by decide +kernel
theorem d224_74 : decode (mcode 224) 74 = .ok (.sipush 2170, 3) := by decide +kernel
theorem d224_77 : decode (mcode 224) 77 = .ok (.iload_n 2, 1) := by decide +kernel
theorem d224_78 : decode (mcode 224) 78 = .ok (.iadd, 1) := by decide +kernel
theorem d224_79 : decode (mcode 224) 79 = .ok (.iload_n 1, 1) := by decide +kernel
theorem d224_80 : decode (mcode 224) 80 = .ok (.iastore, 1) := by decide +kernel
theorem d224_81 : decode (mcode 224) 81 = .ok (.aload_n 0, 1) := by decide +kernel
theorem d224_82 : decode (mcode 224) 82 = .ok (.getfield 7, 3) := by decide +kernel
theorem d224_85 : decode (mcode 224) 85 = .ok (.sipush 2026, 3) := by decide +kernel
theorem d224_88 : decode (mcode 224) 88 = .ok (.iload_n 2, 1) := by decide +kernel
theorem d224_89 : decode (mcode 224) 89 = .ok (.iadd, 1) := by decide +kernel
theorem d224_90 : decode (mcode 224) 90 = .ok (.iconst 0, 1) := by decide +kernel
theorem d224_91 : decode (mcode 224) 91 = .ok (.iastore, 1) := by decide +kernel
theorem d224_92 : decode (mcode 224) 92 = .ok (.aload_n 0, 1) := by decide +kernel
theorem d224_93 : decode (mcode 224) 93 = .ok (.iload_n 1, 1) := by decide +kernel
theorem d224_94 : decode (mcode 224) 94 = .ok (.aload_n 0, 1) := by decide +kernel
theorem d224_95 : decode (mcode 224) 95 = .ok (.iload_n 1, 1) := by decide +kernel
theorem d224_96 : decode (mcode 224) 96 = .ok (.invokevirtual 72, 3) := by decide +kernel
theorem d224_99 : decode (mcode 224) 99 = .ok (.iconst (-1), 1) := by decide +kernel
theorem d224_100 : decode (mcode 224) 100 = .ok (.iload_n 2, 1) := by decide +kernel
theorem d224_101 : decode (mcode 224) 101 = .ok (.invokevirtual 213, 3) := by decide +kernel
theorem d224_104 : decode (mcode 224) 104 = .ok (.return_, 1) := by decide +kernel
theorem d225_0 : decode (mcode 225) 0 = .ok (.iconst (-1), 1) := by decide +kernel
theorem d225_1 : decode (mcode 225) 1 = .ok (.istore_n 1, 1) := by decide +kernel
theorem d225_2 : decode (mcode 225) 2 = .ok (.iconst (-1), 1) := by decide +kernel
theorem d225_3 : decode (mcode 225) 3 = .ok (.istore_n 2, 1) := by decide +kernel
theorem d225_4 : decode (mcode 225) 4 = .ok (.iconst (-1), 1) := by decide +kernel
theorem d225_5 : decode (mcode 225) 5 = .ok (.istore_n 3, 1) := by decide +kernel
theorem d225_6 : decode (mcode 225) 6 = .ok (.iconst 0, 1) := by decide +kernel
theorem d225_7 : decode (mcode 225) 7 = .ok (.istore 4, 2) := by decide +kernel
theorem d225_9 : decode (mcode 225) 9 = .ok (.iload 4, 2) := by decide +kernel
theorem d225_11 : decode (mcode 225) 11 = .ok (.aload_n 0, 1) := by decide +kernel
theorem d225_12 : decode (mcode 225) 12 = .ok (.invokevirtual 67, 3) := by decide +kernel
theorem d225_15 : decode (mcode 225) 15 = .ok (.if_icmp .ge 153, 3) := by decide +kernel
theorem d225_18 : decode (mcode 225) 18 = .ok (.aload_n 0, 1) := by decide +kernel
theorem d225_19 : decode (mcode 225) 19 = .ok (.iload 4, 2) := by decide +kernel
theorem d225_21 : decode (mcode 225) 21 = .ok (.invokevirtual 89, 3) := by decide +kernel
theorem d225_24 : decode (mcode 225) 24 = .ok (.ifCond .ne 138, 3) := by decide +kernel
theorem d225_27 : decode (mcode 225) 27 = .ok (.aload_n 0, 1) := by decide +kernel
theorem d225_28 : decode (mcode 225) 28 = .ok (.iload 4, 2) := by decide +kernel
theorem d225_30 : decode (mcode 225) 30 = .ok (.invokevirtual 210, 3) := by decide +kernel
theorem d225_33 : decode (mcode 225) 33 = .ok (.ifCond .eq 6, 3) := by decide +kernel
theorem d225_36 : decode (mcode 225) 36 = .ok (.goto 126, 3) := by decide +kernel
theorem d225_39 : decode (mcode 225) 39 = .ok (.iconst 3, 1) := by decide +kernel
theorem d225_40 : decode (mcode 225) 40 = .ok (.istore 5, 2) := by decide +kernel
theorem d225_42 : decode (mcode 225) 42 = .ok (.iload 5, 2) := by decide +kernel
theorem d225_44 : decode (mcode 225) 44 = .ok (.ifCond .lt 118, 3) := by decide +kernel
theorem d225_47 : decode (mcode 225) 47 = .ok (.aload_n 0, 1) := by decide +kernel
theorem d225_48 : decode (mcode 225) 48 = .ok (.iload 4, 2) := by decide +kernel
theorem d225_50 : decode (mcode 225) 50 = .ok (.iload 5, 2) := by decide +kernel
theorem d225_52 : decode (mcode 225) 52 = .ok (.invokevirtual 129, 3) := by decide +kernel
theorem d225_55 : decode (mcode 225) 55 = .ok (.istore 6, 2) := by decide +kernel
theorem d225_57 : decode (mcode 225) 57 = .ok (.iload 6, 2) := by decide +kernel
theorem d225_59 : decode (mcode 225) 59 = .ok (.iconst (-1), 1) := by decide +kernel
theorem d225_60 : decode (mcode 225) 60 = .ok (.if_icmp .eq 96, 3) := by decide +kernel
theorem d225_63 : decode (mcode 225) 63 = .ok (.aload_n 0, 1) := by decide +kernel
theorem d225_64 : decode (mcode 225) 64 = .ok (.iload 6, 2) := by decide +kernel
theorem d225_66 : decode (mcode 225) 66 = .ok (.invokevirtual 210, 3) := by decide +kernel
theorem d225_69 : decode (mcode 225) 69 = .ok (.ifCond .ne 6, 3) := by decide +kernel
theorem d225_72 : decode (mcode 225) 72 = .ok (.goto 84, 3) := by decide +kernel
theorem d225_75 : decode (mcode 225) 75 = .ok (.aload_n 0, 1) := by decide +kernel
theorem d225_76 : decode (mcode 225) 76 = .ok (.iload 4, 2) := by decide +kernel
theorem d225_78 : decode (mcode 225) 78 = .ok (.iload 5, 2) := by decide +kernel
theorem d225_80 : decode (mcode 225) 80 = .ok (.invokevirtual 217, 3) := by decide +kernel
theorem d225_83 : decode (mcode 225) 83 = .ok (.istore 7, 2) := by decide +kernel
theorem d225_85 : decode (mcode 225) 85 = .ok (.aload_n 0, 1) := by decide +kernel
theorem d225_86 : decode (mcode 225) 86 = .ok (.iload 7, 2) := by decide +kernel
theorem d225_88 : decode (mcode 225) 88 = .ok (.invokevirtual 220, 3) := by decide +kernel
theorem d225_91 : decode (mcode 225) 91 = .ok (.ifCond .ne 65, 3) := by decide +kernel
theorem d225_94 : decode (mcode 225) 94 = .ok (.aload_n 0, 1) := by decide +kernel
theorem d225_95 : decode (mcode 225) 95 = .ok (.iload 7, 2) := by decide +kernel
theorem d225_97 : decode (mcode 225) 97 = .ok (.invokevirtual 223, 3) := by decide +kernel
theorem d225_100 : decode (mcode 225) 100 = .ok (.ifCond .eq 6, 3) := by decide +kernel
theorem d225_103 : decode (mcode 225) 103 = .ok (.goto 53, 3) := by decide +kernel
theorem d225_106 : decode (mcode 225) 106 = .ok (.aload_n 0, 1) := by decide +kernel
theorem d225_107 : decode (mcode 225) 107 = .ok (.iload 7, 2) := by decide +kernel
theorem d225_109 : decode (mcode 225) 109 = .ok (.invokevirtual 226, 3) := by decide +kernel
theorem d225_112 : decode (mcode 225) 112 = .ok (.istore 8, 2) := by decide +kernel
theorem d225_114 : decode (mcode 225) 114 = .ok (.iload 8, 2) := by decide +kernel
theorem d225_116 : decode (mcode 225) 116 = .ok (.iload_n 3, 1) := by decide +kernel
theorem d225_117 : decode (mcode 225) 117 = .ok (.if_icmp .lt 39, 3) := by decide +kernel
theorem d225_120 : decode (mcode 225) 120 = .ok (.iload 8, 2) := by decide +kernel
theorem d225_122 : decode (mcode 225) 122 = .ok (.iload_n 3, 1) := by decide +kernel
theorem d225_123 : decode (mcode 225) 123 = .ok (.if_icmp .ne 24, 3) := by decide +kernel
theorem d225_126 : decode (mcode 225) 126 = .ok (.iload 4, 2) := by decide +kernel
theorem d225_128 : decode (mcode 225) 128 = .ok (.iload_n 2, 1) := by decide +kernel
theorem d225_129 : decode (mcode 225) 129 = .ok (.if_icmp .gt 27, 3) := by decide +kernel
theorem d225_132 : decode (mcode 225) 132 = .ok (.iload 4, 2) := by decide +kernel
theorem d225_134 : decode (mcode 225) 134 = .ok (.iload_n 2, 1) := by decide +kernel
theorem d225_135 : decode (mcode 225) 135 = .ok (.if_icmp .ne 12, 3) := by decide +kernel
theorem d225_138 : decode (mcode 225) 138 = .ok (.iload 6, 2) := by decide +kernel
theorem d225_140 : decode (mcode 225) 140 = .ok (.iload_n 1, 1) := by decide +kernel
theorem d225_141 : decode (mcode 225) 141 = .ok (.if_icmp .le 6, 3) := by decide +kernel
theorem d225_144 : decode (mcode 225) 144 = .ok (.goto 12, 3) := by decide +kernel
theorem d225_147 : decode (mcode 225) 147 = .ok (.iload 6, 2) := by decide +kernel
theorem d225_149 : decode (mcode 225) 149 = .ok (.istore_n 1, 1) := by decide +kernel
theorem d225_150 : decode (mcode 225) 150 = .ok (.iload 4, 2) := by decide +kernel
theorem d225_152 : decode (mcode 225) 152 = .ok (.istore_n 2, 1) := by decide +kernel
theorem d225_153 : decode (mcode 225) 153 = .ok (.iload 8, 2) := by decide +kernel
theorem d225_155 : decode (mcode 225) 155 = .ok (.istore_n 3, 1) := by decide +kernel
theorem d225_156 : decode (mcode 225) 156 = .ok (.iinc 5 (-1), 3) := by decide +kernel
theorem d225_159 : decode (mcode 225) 159 = .ok (.goto (-117), 3) := by decide +kernel
theorem d225_162 : decode (mcode 225) 162 = .ok (.iinc 4 1, 3) := by decide +kernel
theorem d225_165 : decode (mcode 225) 165 = .ok (.goto (-156), 3) := by decide +kernel
theorem d225_168 : decode (mcode 225) 168 = .ok (.iload_n 1, 1) := by decide +kernel
theorem d225_169 : decode (mcode 225) 169 = .ok (.iconst (-1), 1) := by decide +kernel
theorem d225_170 : decode (mcode 225) 170 = .ok (.if_icmp .ne 9, 3) := by decide +kernel
theorem d225_173 : decode (mcode 225) 173 = .ok (.aload_n 0, 1) := by decide +kernel
theorem d225_174 : decode (mcode 225) 174 = .ok (.invokevirtual 229, 3) := by decide +kernel
theorem d225_177 : decode (mcode 225) 177 = .ok (.iconst 1, 1) := by decide +kernel
theorem d225_178 : decode (mcode 225) 178 = .ok (.ireturn, 1) := by decide +kernel
theorem d225_179 : decode (mcode 225) 179 = .ok (.aload_n 0, 1) := by decide +kernel
theorem d225_180 : decode (mcode 225) 180 = .ok (.iload_n 2, 1) := by decide +kernel
theorem d225_181 : decode (mcode 225) 181 = .ok (.aload_n 0, 1) := by decide +kernel
theorem d225_182 : decode (mcode 225) 182 = .ok (.getfield 7, 3) := by decide +kernel
theorem d225_185 : decode (mcode 225) 185 = .ok (.sipush 442, 3) := by decide +kernel
theorem d225_188 : decode (mcode 225) 188 = .ok (.iload_n 1, 1) := by decide +kernel
theorem d225_189 : decode (mcode 225) 189 = .ok (.iadd, 1) := by decide +kernel
theorem d225_190 : decode (mcode 225) 190 = .ok (.iaload, 1) := by decide +kernel
theorem d225_191 : decode (mcode 225) 191 = .ok (.aload_n 0, 1) := by decide +kernel
theorem d225_192 : decode (mcode 225) 192 = .ok (.iload_n 1, 1) := by decide +kernel
theorem d225_193 : decode (mcode 225) 193 = .ok (.iload_n 2, 1) := by decide +kernel
theorem d225_194 : decode (mcode 225) 194 = .ok (.invokevirtual 133, 3) := by decide +kernel
theorem d225_197 : decode (mcode 225) 197 = .ok (.iadd, 1) := by decide +kernel
theorem d225_198 : decode (mcode 225) 198 = .ok (.iload_n 1, 1) := by decide +kernel
theorem d225_199 : decode (mcode 225) 199 = .ok (.aload_n 0, 1) := by decide +kernel
theorem d225_200 : decode (mcode 225) 200 = .ok (.getfield 7, 3) := by decide +kernel
theorem d225_203 : decode (mcode 225) 203 = .ok (.sipush 730, 3) := by decide +kernel
theorem d225_206 : decode (mcode 225) 206 = .ok (.iload_n 1, 1) := by decide +kernel
theorem d225_207 : decode (mcode 225) 207 = .ok (.iadd, 1) := by decide +kernel
theorem d225_208 : decode (mcode 225) 208 = .ok (.iaload, 1) := by decide +kernel
theorem d225_209 : decode (mcode 225) 209 = .ok (.invokevirtual 213, 3) := by decide +kernel
theorem d225_212 : decode (mcode 225) 212 = .ok (.iconst 0, 1) := by decide +kernel
theorem d225_213 : decode (mcode 225) 213 = .ok (.ireturn, 1) := by decide +kernel
theorem d226_0 : decode (mcode 226) 0 = .ok (.aload_n 0, 1) := by decide +kernel
theorem d226_1 : decode (mcode 226) 1 = .ok (.iconst 0, 1) := by decide +kernel
theorem d226_2 : decode (mcode 226) 2 = .ok (.putfield 57, 3) := by decide +kernel
theorem d226_5 : decode (mcode 226) 5 = .ok (.aload_n 0, 1) := by decide +kernel
theorem d226_6 : decode (mcode 226) 6 = .ok (.invokevirtual 108, 3) := by decide +kernel
theorem d226_9 : decode (mcode 226) 9 = .ok (.aload_n 0, 1) := by decide +kernel
theorem d226_10 : decode (mcode 226) 10 = .ok (.invokevirtual 232, 3) := by decide +kernel
theorem d226_13 : decode (mcode 226) 13 = .ok (.istore_n 1, 1) := by decide +kernel
theorem d226_14 : decode (mcode 226) 14 = .ok (.aload_n 0, 1) := by decide +kernel
theorem d226_15 : decode (mcode 226) 15 = .ok (.getfield 7, 3) := by decide +kernel
theorem d226_18 : decode (mcode 226) 18 = .ok (.iconst 4, 1) := by decide +kernel
theorem d226_19 : decode (mcode 226) 19 = .ok (.iload_n 1, 1) := by decide +kernel
theorem d226_20 : decode (mcode 226) 20 = .ok (.ifCond .le 7, 3) := by decide +kernel
theorem d226_23 : decode (mcode 226) 23 = .ok (.iconst 1, 1) := by decide +kernel
theorem d226_24 : decode (mcode 226) 24 = .ok (.goto 4, 3) := by decide +kernel
theorem d226_27 : decode (mcode 226) 27 = .ok (.iconst 0, 1) := by decide +kernel
theorem d226_28 : decode (mcode 226) 28 = .ok (.iastore, 1) := by decide +kernel
theorem d226_29 : decode (mcode 226) 29 = .ok (.iload_n 1, 1) := by decide +kernel
theorem d226_30 : decode (mcode 226) 30 = .ok (.ireturn, 1) := by decide +kernel
theorem d227_0 : decode (mcode 227) 0 = .ok (.aload_n 0, 1) := by decide +kernel
theorem d227_1 : decode (mcode 227) 1 = .ok (.iconst 0, 1) := by decide +kernel
theorem d227_2 : decode (mcode 227) 2 = .ok (.putfield 57, 3) := by decide +kernel
theorem d227_5 : decode (mcode 227) 5 = .ok (.aload_n 0, 1) := by decide +kernel
theorem d227_6 : decode (mcode 227) 6 = .ok (.iload_n 1, 1) := by decide +kernel
theorem d227_7 : decode (mcode 227) 7 = .ok (.iconst 1, 1) := by decide +kernel
theorem d227_8 : decode (mcode 227) 8 = .ok (.sipush 144, 3) := by decide +kernel
theorem d227_11 : decode (mcode 227) 11 = .ok (.invokevirtual 115, 3) := by decide +kernel
theorem d227_14 : decode (mcode 227) 14 = .ok (.ifCond .eq 12, 3) := by decide +kernel
theorem d227_17 : decode (mcode 227) 17 = .ok (.aload_n 0, 1) := by decide +kernel
theorem d227_18 : decode (mcode 227) 18 = .ok (.getfield 7, 3) := by decide +kernel
theorem d227_21 : decode (mcode 227) 21 = .ok (.iconst 4, 1) := by decide +kernel
theorem d227_22 : decode (mcode 227) 22 = .ok (.iaload, 1) := by decide +kernel
theorem d227_23 : decode (mcode 227) 23 = .ok (.ifCond .ne 5, 3) := by decide +kernel
theorem d227_26 : decode (mcode 227) 26 = .ok (.iconst (-1), 1) := by decide +kernel
theorem d227_27 : decode (mcode 227) 27 = .ok (.ireturn, 1) := by decide +kernel
theorem d227_28 : decode (mcode 227) 28 = .ok (.iconst 0, 1) := by decide +kernel
theorem d227_29 : decode (mcode 227) 29 = .ok (.istore_n 2, 1) := by decide +kernel
theorem d227_30 : decode (mcode 227) 30 = .ok (.iload_n 2, 1) := by decide +kernel
theorem d227_31 : decode (mcode 227) 31 = .ok (.iload_n 1, 1) := by decide +kernel
theorem d227_32 : decode (mcode 227) 32 = .ok (.if_icmp .ge 89, 3) := by decide +kernel
theorem d227_35 : decode (mcode 227) 35 = .ok (.aload_n 0, 1) := by decide +kernel
theorem d227_36 : decode (mcode 227) 36 = .ok (.getfield 7, 3) := by decide +kernel
theorem d227_39 : decode (mcode 227) 39 = .ok (.iconst 4, 1) := by decide +kernel
theorem d227_40 : decode (mcode 227) 40 = .ok (.iaload, 1) := by decide +kernel
theorem d227_41 : decode (mcode 227) 41 = .ok (.iconst 1, 1) := by decide +kernel
theorem d227_42 : decode (mcode 227) 42 = .ok (.if_icmp .ne 79, 3) := by decide +kernel
theorem d227_45 : decode (mcode 227) 45 = .ok (.aload_n 0, 1) := by decide +kernel
theorem d227_46 : decode (mcode 227) 46 = .ok (.invokevirtual 235, 3) := by decide +kernel
theorem d227_49 : decode (mcode 227) 49 = .ok (.ifCond .eq 33, 3) := by decide +kernel
theorem d227_52 : decode (mcode 227) 52 = .ok (.aload_n 0, 1) := by decide +kernel
theorem d227_53 : decode (mcode 227) 53 = .ok (.iconst 1, 1) := by decide +kernel
theorem d227_54 : decode (mcode 227) 54 = .ok (.aload_n 0, 1) := by decide +kernel
theorem d227_55 : decode (mcode 227) 55 = .ok (.getfield 7, 3) := by decide +kernel
theorem d227_58 : decode (mcode 227) 58 = .ok (.iconst 3, 1) := by decide +kernel
theorem d227_59 : decode (mcode 227) 59 = .ok (.iaload, 1) := by decide +kernel
theorem d227_60 : decode (mcode 227) 60 = .ok (.iconst 1, 1) := by decide +kernel
theorem d227_61 : decode (mcode 227) 61 = .ok (.isub, 1) := by decide +kernel
theorem d227_62 : decode (mcode 227) 62 = .ok (.aload_n 0, 1) := by decide +kernel
theorem d227_63 : decode (mcode 227) 63 = .ok (.getfield 7, 3) := by decide +kernel
theorem d227_66 : decode (mcode 227) 66 = .ok (.sipush 2170, 3) := by decide +kernel
theorem d227_69 : decode (mcode 227) 69 = .ok (.aload_n 0, 1) := by decide +kernel
theorem d227_70 : decode (mcode 227) 70 = .ok (.getfield 7, 3) := by decide +kernel
theorem d227_73 : decode (mcode 227) 73 = .ok (.iconst 3, 1) := by decide +kernel
theorem d227_74 : decode (mcode 227) 74 = .ok (.iaload, 1) := by decide +kernel
theorem d227_75 : decode (mcode 227) 75 = .ok (.iadd, 1) := by decide +kernel
theorem d227_76 : decode (mcode 227) 76 = .ok (.iconst 1, 1) := by decide +kernel
theorem d227_77 : decode (mcode 227) 77 = .ok (.isub, 1) := by decide +kernel
theorem d227_78 : decode (mcode 227) 78 = .ok (.iaload, 1) := by decide +kernel
theorem d227_79 : decode (mcode 227) 79 = .ok (.invokevirtual 111, 3) := by decide +kernel
theorem d227_82 : decode (mcode 227) 82 = .ok (.iload_n 2, 1) := by decide +kernel
theorem d227_83 : decode (mcode 227) 83 = .ok (.iconst 1, 1) := by decide +kernel
theorem d227_84 : decode (mcode 227) 84 = .ok (.iadd, 1) := by decide +kernel
theorem d227_85 : decode (mcode 227) 85 = .ok (.istore_n 2, 1) := by decide +kernel
theorem d227_86 : decode (mcode 227) 86 = .ok (.aload_n 0, 1) := by decide +kernel
theorem d227_87 : decode (mcode 227) 87 = .ok (.invokevirtual 232, 3) := by decide +kernel
theorem d227_90 : decode (mcode 227) 90 = .ok (.ifCond .le 6, 3) := by decide +kernel
theorem d227_93 : decode (mcode 227) 93 = .ok (.goto (-63), 3) := by decide +kernel
theorem d227_96 : decode (mcode 227) 96 = .ok (.aload_n 0, 1) := by decide +kernel
theorem d227_97 : decode (mcode 227) 97 = .ok (.getfield 7, 3) := by decide +kernel
theorem d227_100 : decode (mcode 227) 100 = .ok (.iconst 4, 1) := by decide +kernel
theorem d227_101 : decode (mcode 227) 101 = .ok (.iconst 0, 1) := by decide +kernel
theorem d227_102 : decode (mcode 227) 102 = .ok (.iastore, 1) := by decide +kernel
theorem d227_103 : decode (mcode 227) 103 = .ok (.aload_n 0, 1) := by decide +kernel
theorem d227_104 : decode (mcode 227) 104 = .ok (.iconst 2, 1) := by decide +kernel
theorem d227_105 : decode (mcode 227) 105 = .ok (.aload_n 0, 1) := by decide +kernel
theorem d227_106 : decode (mcode 227) 106 = .ok (.getfield 7, 3) := by decide +kernel
theorem d227_109 : decode (mcode 227) 109 = .ok (.iconst 3, 1) := by decide +kernel
theorem d227_110 : decode (mcode 227) 110 = .ok (.iaload, 1) := by decide +kernel
theorem d227_111 : decode (mcode 227) 111 = .ok (.aload_n 0, 1) := by decide +kernel
theorem d227_112 : decode (mcode 227) 112 = .ok (.invokevirtual 239, 3) := by decide +kernel
theorem d227_115 : decode (mcode 227) 115 = .ok (.invokevirtual 111, 3) := by decide +kernel
theorem d227_118 : decode (mcode 227) 118 = .ok (.goto (-88), 3) := by decide +kernel
theorem d227_121 : decode (mcode 227) 121 = .ok (.iload_n 2, 1) := by decide +kernel
theorem d227_122 : decode (mcode 227) 122 = .ok (.ireturn, 1) := by decide +kernel
theorem d228_0 : decode (mcode 228) 0 = .ok (.aload_n 0, 1) := by decide +kernel
theorem d228_1 : decode (mcode 228) 1 = .ok (.getfield 7, 3) := by decide +kernel
theorem d228_4 : decode (mcode 228) 4 = .ok (.sipush 442, 3) := by decide +kernel
theorem d228_7 : decode (mcode 228) 7 = .ok (.aload_n 0, 1) := by decide +kernel
theorem d228_8 : decode (mcode 228) 8 = .ok (.iload_n 1, 1) := by decide +kernel
theorem d228_9 : decode (mcode 228) 9 = .ok (.invokevirtual 93, 3) := by decide +kernel
theorem d228_12 : decode (mcode 228) 12 = .ok (.iadd, 1) := by decide +kernel
theorem d228_13 : decode (mcode 228) 13 = .ok (.iaload, 1) := by decide +kernel
theorem d228_14 : decode (mcode 228) 14 = .ok (.i2l, 1) := by decide +kernel
theorem d228_15 : decode (mcode 228) 15 = .ok (.aload_n 0, 1) := by decide +kernel
theorem d228_16 : decode (mcode 228) 16 = .ok (.getfield 7, 3) := by decide +kernel
theorem d228_19 : decode (mcode 228) 19 = .ok (.sipush 442, 3) := by decide +kernel
theorem d228_22 : decode (mcode 228) 22 = .ok (.aload_n 0, 1) := by decide +kernel
theorem d228_23 : decode (mcode 228) 23 = .ok (.iload_n 1, 1) := by decide +kernel
theorem d228_24 : decode (mcode 228) 24 = .ok (.invokevirtual 86, 3) := by decide +kernel
theorem d228_27 : decode (mcode 228) 27 = .ok (.iadd, 1) := by decide +kernel
theorem d228_28 : decode (mcode 228) 28 = .ok (.iaload, 1) := by decide +kernel
theorem d228_29 : decode (mcode 228) 29 = .ok (.i2l, 1) := by decide +kernel
theorem d228_30 : decode (mcode 228) 30 = .ok (.lsub, 1) := by decide +kernel
theorem d228_31 : decode (mcode 228) 31 = .ok (.lstore_n 2, 1) := by decide +kernel
theorem d228_32 : decode (mcode 228) 32 = .ok (.lload_n 2, 1) := by decide +kernel
theorem d228_33 : decode (mcode 228) 33 = .ok (.aload_n 0, 1) := by decide +kernel
theorem d228_34 : decode (mcode 228) 34 = .ok (.aload_n 0, 1) := by decide +kernel
theorem d228_35 : decode (mcode 228) 35 = .ok (.iload_n 1, 1) := by decide +kernel
theorem d228_36 : decode (mcode 228) 36 = .ok (.invokevirtual 86, 3) := by decide +kernel
theorem d228_39 : decode (mcode 228) 39 = .ok (.aload_n 0, 1) := by decide +kernel
theorem d228_40 : decode (mcode 228) 40 = .ok (.iload_n 1, 1) := by decide +kernel
theorem d228_41 : decode (mcode 228) 41 = .ok (.invokevirtual 93, 3) := by decide +kernel
theorem d228_44 : decode (mcode 228) 44 = .ok (.invokevirtual 133, 3) := by decide +kernel
theorem d228_47 : decode (mcode 228) 47 = .ok (.i2l, 1) := by decide +kernel
theorem d228_48 : decode (mcode 228) 48 = .ok (.lcmp, 1) := by decide +kernel
theorem d228_49 : decode (mcode 228) 49 = .ok (.ifCond .eq 7, 3) := by decide +kernel
theorem d228_52 : decode (mcode 228) 52 = .ok (.iconst 1, 1) := by decide +kernel
theorem d228_53 : decode (mcode 228) 53 = .ok (.goto 4, 3) := by decide +kernel
theorem d228_56 : decode (mcode 228) 56 = .ok (.iconst 0, 1) := by decide +kernel
theorem d228_57 : decode (mcode 228) 57 = .ok (.ireturn, 1) := by decide +kernel
theorem d229_0 : decode (mcode 229) 0 = .ok (.aload_n 0, 1) := by decide +kernel
theorem d229_1 : decode (mcode 229) 1 = .ok (.iload_n 1, 1) := by decide +kernel
theorem d229_2 : decode (mcode 229) 2 = .ok (.invokevirtual 207, 3) := by decide +kernel
theorem d229_5 : decode (mcode 229) 5 = .ok (.ifCond .eq 39, 3) := by decide +kernel
theorem d229_8 : decode (mcode 229) 8 = .ok (.aload_n 0, 1) := by decide +kernel
theorem d229_9 : decode (mcode 229) 9 = .ok (.iload_n 1, 1) := by decide +kernel
theorem d229_10 : decode (mcode 229) 10 = .ok (.invokevirtual 220, 3) := by decide +kernel
theorem d229_13 : decode (mcode 229) 13 = .ok (.ifCond .ne 31, 3) := by decide +kernel
theorem d229_16 : decode (mcode 229) 16 = .ok (.aload_n 0, 1) := by decide +kernel
theorem d229_17 : decode (mcode 229) 17 = .ok (.aload_n 0, 1) := by decide +kernel
theorem d229_18 : decode (mcode 229) 18 = .ok (.iload_n 1, 1) := by decide +kernel
theorem d229_19 : decode (mcode 229) 19 = .ok (.invokevirtual 86, 3) := by decide +kernel
theorem d229_22 : decode (mcode 229) 22 = .ok (.invokevirtual 210, 3) := by decide +kernel
theorem d229_25 : decode (mcode 229) 25 = .ok (.ifCond .eq 19, 3) := by decide +kernel
theorem d229_28 : decode (mcode 229) 28 = .ok (.aload_n 0, 1) := by decide +kernel
theorem d229_29 : decode (mcode 229) 29 = .ok (.aload_n 0, 1) := by decide +kernel
theorem d229_30 : decode (mcode 229) 30 = .ok (.iload_n 1, 1) := by decide +kernel
theorem d229_31 : decode (mcode 229) 31 = .ok (.invokevirtual 93, 3) := by decide +kernel
theorem d229_34 : decode (mcode 229) 34 = .ok (.invokevirtual 210, 3) := by decide +kernel
theorem d229_37 : decode (mcode 229) 37 = .ok (.ifCond .eq 7, 3) := by decide +kernel
theorem d229_40 : decode (mcode 229) 40 = .ok (.iconst 1, 1) := by decide +kernel
theorem d229_41 : decode (mcode 229) 41 = .ok (.goto 4, 3) := by decide +kernel
theorem d229_44 : decode (mcode 229) 44 = .ok (.iconst 0, 1) := by decide +kernel
theorem d229_45 : decode (mcode 229) 45 = .ok (.ireturn, 1) := by decide +kernel
theorem d230_0 : decode (mcode 230) 0 = .ok (.aload_n 0, 1) := by decide +kernel
theorem d230_1 : decode (mcode 230) 1 = .ok (.iload_n 1, 1) := by decide +kernel
theorem d230_2 : decode (mcode 230) 2 = .ok (.invokevirtual 242, 3) := by decide +kernel
theorem d230_5 : decode (mcode 230) 5 = .ok (.ifCond .eq 23, 3) := by decide +kernel
theorem d230_8 : decode (mcode 230) 8 = .ok (.aload_n 0, 1) := by decide +kernel
theorem d230_9 : decode (mcode 230) 9 = .ok (.iload_n 1, 1) := by decide +kernel
theorem d230_10 : decode (mcode 230) 10 = .ok (.invokevirtual 223, 3) := by decide +kernel
theorem d230_13 : decode (mcode 230) 13 = .ok (.ifCond .ne 15, 3) := by decide +kernel
theorem d230_16 : decode (mcode 230) 16 = .ok (.aload_n 0, 1) := by decide +kernel
theorem d230_17 : decode (mcode 230) 17 = .ok (.iload_n 1, 1) := by decide +kernel
theorem d230_18 : decode (mcode 230) 18 = .ok (.invokevirtual 245, 3) := by decide +kernel
theorem d230_21 : decode (mcode 230) 21 = .ok (.ifCond .eq 7, 3) := by decide +kernel
theorem d230_24 : decode (mcode 230) 24 = .ok (.iconst 1, 1) := by decide +kernel
theorem d230_25 : decode (mcode 230) 25 = .ok (.goto 4, 3) := by decide +kernel
theorem d230_28 : decode (mcode 230) 28 = .ok (.iconst 0, 1) := by decide +kernel
theorem d230_29 : decode (mcode 230) 29 = .ok (.ireturn, 1) := by decide +kernel
theorem d231_0 : decode (mcode 231) 0 = .ok (.aload_n 0, 1) := by decide +kernel
theorem d231_1 : decode (mcode 231) 1 = .ok (.iload_n 1, 1) := by decide +kernel
theorem d231_2 : decode (mcode 231) 2 = .ok (.invokevirtual 242, 3) := by decide +kernel
theorem d231_5 : decode (mcode 231) 5 = .ok (.ifCond .eq 54, 3) := by decide +kernel
theorem d231_8 : decode (mcode 231) 8 = .ok (.aload_n 0, 1) := by decide +kernel
theorem d231_9 : decode (mcode 231) 9 = .ok (.iload_n 1, 1) := by decide +kernel
theorem d231_10 : decode (mcode 231) 10 = .ok (.invokevirtual 223, 3) := by decide +kernel
theorem d231_13 : decode (mcode 231) 13 = .ok (.ifCond .eq 46, 3) := by decide +kernel
theorem d231_16 : decode (mcode 231) 16 = .ok (.aload_n 0, 1) := by decide +kernel
theorem d231_17 : decode (mcode 231) 17 = .ok (.getfield 7, 3) := by decide +kernel
theorem d231_20 : decode (mcode 231) 20 = .ok (.sipush 730, 3) := by decide +kernel
theorem d231_23 : decode (mcode 231) 23 = .ok (.aload_n 0, 1) := by decide +kernel
theorem d231_24 : decode (mcode 231) 24 = .ok (.iload_n 1, 1) := by decide +kernel
theorem d231_25 : decode (mcode 231) 25 = .ok (.invokevirtual 86, 3) := by decide +kernel
theorem d231_28 : decode (mcode 231) 28 = .ok (.iadd, 1) := by decide +kernel
theorem d231_29 : decode (mcode 231) 29 = .ok (.iaload, 1) := by decide +kernel
theorem d231_30 : decode (mcode 231) 30 = .ok (.aload_n 0, 1) := by decide +kernel
theorem d231_31 : decode (mcode 231) 31 = .ok (.getfield 7, 3) := by decide +kernel
theorem d231_34 : decode (mcode 231) 34 = .ok (.sipush 730, 3) := by decide +kernel
theorem d231_37 : decode (mcode 231) 37 = .ok (.aload_n 0, 1) := by decide +kernel
theorem d231_38 : decode (mcode 231) 38 = .ok (.iload_n 1, 1) := by decide +kernel
theorem d231_39 : decode (mcode 231) 39 = .ok (.invokevirtual 93, 3) := by decide +kernel
theorem d231_42 : decode (mcode 231) 42 = .ok (.iadd, 1) := by decide +kernel
theorem d231_43 : decode (mcode 231) 43 = .ok (.iaload, 1) := by decide +kernel
theorem d231_44 : decode (mcode 231) 44 = .ok (.if_icmp .ne 15, 3) := by decide +kernel
theorem d231_47 : decode (mcode 231) 47 = .ok (.aload_n 0, 1) := by decide +kernel
theorem d231_48 : decode (mcode 231) 48 = .ok (.iload_n 1, 1) := by decide +kernel
theorem d231_49 : decode (mcode 231) 49 = .ok (.invokevirtual 245, 3) := by decide +kernel
theorem d231_52 : decode (mcode 231) 52 = .ok (.ifCond .eq 7, 3) := by decide +kernel
theorem d231_55 : decode (mcode 231) 55 = .ok (.iconst 1, 1) := by decide +kernel
theorem d231_56 : decode (mcode 231) 56 = .ok (.goto 4, 3) := by decide +kernel
theorem d231_59 : decode (mcode 231) 59 = .ok (.iconst 0, 1) := by decide +kernel
theorem d231_60 : decode (mcode 231) 60 = .ok (.ireturn, 1) := by decide +kernel
theorem d232_0 : decode (mcode 232) 0 = .ok (.iconst 0, 1) := by decide +kernel
theorem d232_1 : decode (mcode 232) 1 = .ok (.istore_n 1, 1) := by decide +kernel
theorem d232_2 : decode (mcode 232) 2 = .ok (.iconst 0, 1) := by decide +kernel
theorem d232_3 : decode (mcode 232) 3 = .ok (.istore_n 2, 1) := by decide +kernel
theorem d232_4 : decode (mcode 232) 4 = .ok (.iload_n 2, 1) := by decide +kernel
theorem d232_5 : decode (mcode 232) 5 = .ok (.iconst 2, 1) := by decide +kernel
theorem d232_6 : decode (mcode 232) 6 = .ok (.aload_n 0, 1) := by decide +kernel
theorem d232_7 : decode (mcode 232) 7 = .ok (.invokevirtual 67, 3) := by decide +kernel
theorem d232_10 : decode (mcode 232) 10 = .ok (.imul, 1) := by decide +kernel
theorem d232_11 : decode (mcode 232) 11 = .ok (.if_icmp .ge 21, 3) := by decide +kernel
theorem d232_14 : decode (mcode 232) 14 = .ok (.aload_n 0, 1) := by decide +kernel
theorem d232_15 : decode (mcode 232) 15 = .ok (.iload_n 2, 1) := by decide +kernel
theorem d232_16 : decode (mcode 232) 16 = .ok (.invokevirtual 248, 3) := by decide +kernel
theorem d232_19 : decode (mcode 232) 19 = .ok (.ifCond .eq 7, 3) := by decide +kernel
theorem d232_22 : decode (mcode 232) 22 = .ok (.iload_n 1, 1) := by decide +kernel
theorem d232_23 : decode (mcode 232) 23 = .ok (.iconst 1, 1) := by decide +kernel
theorem d232_24 : decode (mcode 232) 24 = .ok (.iadd, 1) := by decide +kernel
theorem d232_25 : decode (mcode 232) 25 = .ok (.istore_n 1, 1) := by decide +kernel
theorem d232_26 : decode (mcode 232) 26 = .ok (.iinc 2 1, 3) := by decide +kernel
theorem d232_29 : decode (mcode 232) 29 = .ok (.goto (-25), 3) := by decide +kernel
theorem d232_32 : decode (mcode 232) 32 = .ok (.iload_n 1, 1) := by decide +kernel
theorem d232_33 : decode (mcode 232) 33 = .ok (.ireturn, 1) := by decide +kernel
theorem d233_0 : decode (mcode 233) 0 = .ok (.iconst 0, 1) := by decide +kernel
theorem d233_1 : decode (mcode 233) 1 = .ok (.istore_n 1, 1) := by decide +kernel
theorem d233_2 : decode (mcode 233) 2 = .ok (.iconst 0, 1) := by decide +kernel
theorem d233_3 : decode (mcode 233) 3 = .ok (.istore_n 2, 1) := by decide +kernel
theorem d233_4 : decode (mcode 233) 4 = .ok (.iload_n 2, 1) := by decide +kernel
theorem d233_5 : decode (mcode 233) 5 = .ok (.iconst 2, 1) := by decide +kernel
theorem d233_6 : decode (mcode 233) 6 = .ok (.aload_n 0, 1) := by decide +kernel
theorem d233_7 : decode (mcode 233) 7 = .ok (.invokevirtual 67, 3) := by decide +kernel
theorem d233_10 : decode (mcode 233) 10 = .ok (.imul, 1) := by decide +kernel
theorem d233_11 : decode (mcode 233) 11 = .ok (.if_icmp .ge 21, 3) := by decide +kernel
theorem d233_14 : decode (mcode 233) 14 = .ok (.aload_n 0, 1) := by decide +kernel
theorem d233_15 : decode (mcode 233) 15 = .ok (.iload_n 2, 1) := by decide +kernel
theorem d233_16 : decode (mcode 233) 16 = .ok (.invokevirtual 251, 3) := by decide +kernel
theorem d233_19 : decode (mcode 233) 19 = .ok (.ifCond .eq 7, 3) := by decide +kernel
theorem d233_22 : decode (mcode 233) 22 = .ok (.iload_n 1, 1) := by decide +kernel
theorem d233_23 : decode (mcode 233) 23 = .ok (.iconst 1, 1) := by decide +kernel
theorem d233_24 : decode (mcode 233) 24 = .ok (.iadd, 1) := by decide +kernel
theorem d233_25 : decode (mcode 233) 25 = .ok (.istore_n 1, 1) := by decide +kernel
theorem d233_26 : decode (mcode 233) 26 = .ok (.iinc 2 1, 3) := by decide +kernel
theorem d233_29 : decode (mcode 233) 29 = .ok (.goto (-25), 3) := by decide +kernel
theorem d233_32 : decode (mcode 233) 32 = .ok (.iload_n 1, 1) := by decide +kernel
theorem d233_33 : decode (mcode 233) 33 = .ok (.ireturn, 1) := by decide +kernel
theorem d234_0 : decode (mcode 234) 0 = .ok (.iload_n 1, 1) := by decide +kernel
theorem d234_1 : decode (mcode 234) 1 = .ok (.ifCond .lt 17, 3) := by decide +kernel
theorem d234_4 : decode (mcode 234) 4 = .ok (.iload_n 1, 1) := by decide +kernel
theorem d234_5 : decode (mcode 234) 5 = .ok (.aload_n 0, 1) := by decide +kernel
theorem d234_6 : decode (mcode 234) 6 = .ok (.getfield 7, 3) := by decide +kernel
theorem d234_9 : decode (mcode 234) 9 = .ok (.iconst 3, 1) := by decide +kernel
theorem d234_10 : decode (mcode 234) 10 = .ok (.iaload, 1) := by decide +kernel
theorem d234_11 : decode (mcode 234) 11 = .ok (.if_icmp .ge 7, 3) := by decide +kernel
theorem d234_14 : decode (mcode 234) 14 = .ok (.iconst 1, 1) := by decide +kernel
theorem d234_15 : decode (mcode 234) 15 = .ok (.goto 4, 3) := by decide +kernel
theorem d234_18 : decode (mcode 234) 18 = .ok (.iconst 0, 1) := by decide +kernel
theorem d234_19 : decode (mcode 234) 19 = .ok (.ireturn, 1) := by decide +kernel
theorem d235_0 : decode (mcode 235) 0 = .ok (.iconst 0, 1) := by decide +kernel
theorem d235_1 : decode (mcode 235) 1 = .ok (.istore_n 3, 1) := by decide +kernel
theorem d235_2 : decode (mcode 235) 2 = .ok (.iload_n 3, 1) := by decide +kernel
theorem d235_3 : decode (mcode 235) 3 = .ok (.aload_n 0, 1) := by decide +kernel
theorem d235_4 : decode (mcode 235) 4 = .ok (.invokevirtual 67, 3) := by decide +kernel
theorem d235_7 : decode (mcode 235) 7 = .ok (.if_icmp .ge 66, 3) := by decide +kernel
theorem d235_10 : decode (mcode 235) 10 = .ok (.aload_n 0, 1) := by decide +kernel
theorem d235_11 : decode (mcode 235) 11 = .ok (.iload_n 3, 1) := by decide +kernel
theorem d235_12 : decode (mcode 235) 12 = .ok (.invokevirtual 210, 3) := by decide +kernel
theorem d235_15 : decode (mcode 235) 15 = .ok (.ifCond .eq 52, 3) := by decide +kernel
theorem d235_18 : decode (mcode 235) 18 = .ok (.aload_n 0, 1) := by decide +kernel
theorem d235_19 : decode (mcode 235) 19 = .ok (.getfield 7, 3) := by decide +kernel
theorem d235_22 : decode (mcode 235) 22 = .ok (.sipush 730, 3) := by decide +kernel
theorem d235_25 : decode (mcode 235) 25 = .ok (.iload_n 3, 1) := by decide +kernel
theorem d235_26 : decode (mcode 235) 26 = .ok (.iadd, 1) := by decide +kernel
theorem d235_27 : decode (mcode 235) 27 = .ok (.iaload, 1) := by decide +kernel
theorem d235_28 : decode (mcode 235) 28 = .ok (.iload_n 1, 1) := by decide +kernel
theorem d235_29 : decode (mcode 235) 29 = .ok (.if_icmp .eq 6, 3) := by decide +kernel
theorem d235_32 : decode (mcode 235) 32 = .ok (.goto 35, 3) := by decide +kernel
theorem d235_35 : decode (mcode 235) 35 = .ok (.aload_n 0, 1) := by decide +kernel
theorem d235_36 : decode (mcode 235) 36 = .ok (.getfield 7, 3) := by decide +kernel
theorem d235_39 : decode (mcode 235) 39 = .ok (.sipush 442, 3) := by decide +kernel
theorem d235_42 : decode (mcode 235) 42 = .ok (.iload_n 3, 1) := by decide +kernel
theorem d235_43 : decode (mcode 235) 43 = .ok (.iadd, 1) := by decide +kernel
theorem d235_44 : decode (mcode 235) 44 = .ok (.iaload, 1) := by decide +kernel
theorem d235_45 : decode (mcode 235) 45 = .ok (.i2l, 1) := by decide +kernel
theorem d235_46 : decode (mcode 235) 46 = .ok (.ldc2_w 70, 3) := by decide +kernel
theorem d235_49 : decode (mcode 235) 49 = .ok (.iload_n 2, 1) := by decide +kernel
theorem d235_50 : decode (mcode 235) 50 = .ok (.i2l, 1) := by decide +kernel
theorem d235_51 : decode (mcode 235) 51 = .ok (.lmul, 1) := by decide +kernel
theorem d235_52 : decode (mcode 235) 52 = .ok (.ladd, 1) := by decide +kernel
theorem d235_53 : decode (mcode 235) 53 = .ok (.lstore 4, 2) := by decide +kernel
theorem d235_55 : decode (mcode 235) 55 = .ok (.lload 4, 2) := by decide +kernel
theorem d235_57 : decode (mcode 235) 57 = .ok (.lload 4, 2) := by decide +kernel
theorem d235_59 : decode (mcode 235) 59 = .ok (.l2i, 1) := by decide +kernel
theorem d235_60 : decode (mcode 235) 60 = .ok (.i2l, 1) := by decide +kernel
theorem d235_61 : decode (mcode 235) 61 = .ok (.lcmp, 1) := by decide +kernel
theorem d235_62 : decode (mcode 235) 62 = .ok (.ifCond .eq 5, 3) := by decide +kernel
theorem d235_65 : decode (mcode 235) 65 = .ok (.iconst 0, 1) := by decide +kernel
theorem d235_66 : decode (mcode 235) 66 = .ok (.ireturn, 1) := by decide +kernel
theorem d235_67 : decode (mcode 235) 67 = .ok (.iinc 3 1, 3) := by decide +kernel
theorem d235_70 : decode (mcode 235) 70 = .ok (.goto (-68), 3) := by decide +kernel
theorem d235_73 : decode (mcode 235) 73 = .ok (.iconst 1, 1) := by decide +kernel
theorem d235_74 : decode (mcode 235) 74 = .ok (.ireturn, 1) := by decide +kernel
theorem d236_0 : decode (mcode 236) 0 = .ok (.iconst 0, 1) := by decide +kernel
theorem d236_1 : decode (mcode 236) 1 = .ok (.istore_n 3, 1) := by decide +kernel
theorem d236_2 : decode (mcode 236) 2 = .ok (.iload_n 3, 1) := by decide +kernel
theorem d236_3 : decode (mcode 236) 3 = .ok (.aload_n 0, 1) := by decide +kernel
theorem d236_4 : decode (mcode 236) 4 = .ok (.invokevirtual 67, 3) := by decide +kernel
theorem d236_7 : decode (mcode 236) 7 = .ok (.if_icmp .ge 57, 3) := by decide +kernel
theorem d236_10 : decode (mcode 236) 10 = .ok (.aload_n 0, 1) := by decide +kernel
theorem d236_11 : decode (mcode 236) 11 = .ok (.iload_n 3, 1) := by decide +kernel
theorem d236_12 : decode (mcode 236) 12 = .ok (.invokevirtual 210, 3) := by decide +kernel
theorem d236_15 : decode (mcode 236) 15 = .ok (.ifCond .eq 43, 3) := by decide +kernel
theorem d236_18 : decode (mcode 236) 18 = .ok (.aload_n 0, 1) := by decide +kernel
theorem d236_19 : decode (mcode 236) 19 = .ok (.getfield 7, 3) := by decide +kernel
theorem d236_22 : decode (mcode 236) 22 = .ok (.sipush 730, 3) := by decide +kernel
theorem d236_25 : decode (mcode 236) 25 = .ok (.iload_n 3, 1) := by decide +kernel
theorem d236_26 : decode (mcode 236) 26 = .ok (.iadd, 1) := by decide +kernel
theorem d236_27 : decode (mcode 236) 27 = .ok (.iaload, 1) := by decide +kernel
theorem d236_28 : decode (mcode 236) 28 = .ok (.iload_n 1, 1) := by decide +kernel
theorem d236_29 : decode (mcode 236) 29 = .ok (.if_icmp .ne 29, 3) := by decide +kernel
theorem d236_32 : decode (mcode 236) 32 = .ok (.aload_n 0, 1) := by decide +kernel
theorem d236_33 : decode (mcode 236) 33 = .ok (.getfield 7, 3) := by decide +kernel
theorem d236_36 : decode (mcode 236) 36 = .ok (.sipush 442, 3) := by decide +kernel
theorem d236_39 : decode (mcode 236) 39 = .ok (.iload_n 3, 1) := by decide +kernel
theorem d236_40 : decode (mcode 236) 40 = .ok (.iadd, 1) := by decide +kernel
theorem d236_41 : decode (mcode 236) 41 = .ok (.aload_n 0, 1) := by decide +kernel
theorem d236_42 : decode (mcode 236) 42 = .ok (.getfield 7, 3) := by decide +kernel
theorem d236_45 : decode (mcode 236) 45 = .ok (.sipush 442, 3) := by decide +kernel
theorem d236_48 : decode (mcode 236) 48 = .ok (.iload_n 3, 1) := by decide +kernel
theorem d236_49 : decode (mcode 236) 49 = .ok (.iadd, 1) := by decide +kernel
theorem d236_50 : decode (mcode 236) 50 = .ok (.iaload, 1) := by decide +kernel
theorem d236_51 : decode (mcode 236) 51 = .ok (.sipush 255, 3) := by decide +kernel
theorem d236_54 : decode (mcode 236) 54 = .ok (.iload_n 2, 1) := by decide +kernel
theorem d236_55 : decode (mcode 236) 55 = .ok (.imul, 1) := by decide +kernel
theorem d236_56 : decode (mcode 236) 56 = .ok (.iadd, 1) := by decide +kernel
theorem d236_57 : decode (mcode 236) 57 = .ok (.iastore, 1) := by decide +kernel
theorem d236_58 : decode (mcode 236) 58 = .ok (.iinc 3 1, 3) := by decide +kernel
theorem d236_61 : decode (mcode 236) 61 = .ok (.goto (-59), 3) := by decide +kernel
theorem d236_64 : decode (mcode 236) 64 = .ok (.aload_n 0, 1) := by decide +kernel
theorem d236_65 : decode (mcode 236) 65 = .ok (.getfield 7, 3) := by decide +kernel
theorem d236_68 : decode (mcode 236) 68 = .ok (.sipush 2026, 3) := by decide +kernel
theorem d236_71 : decode (mcode 236) 71 = .ok (.iload_n 1, 1) := by decide +kernel
theorem d236_72 : decode (mcode 236) 72 = .ok (.iadd, 1) := by decide +kernel
theorem d236_73 : decode (mcode 236) 73 = .ok (.aload_n 0, 1) := by decide +kernel
theorem d236_74 : decode (mcode 236) 74 = .ok (.getfield 7, 3) := by decide +kernel
theorem d236_77 : decode (mcode 236) 77 = .ok (.sipush 2026, 3) := by decide +kernel
theorem d236_80 : decode (mcode 236) 80 = .ok (.iload_n 1, 1) := by decide +kernel
theorem d236_81 : decode (mcode 236) 81 = .ok (.iadd, 1) := by decide +kernel
theorem d236_82 : decode (mcode 236) 82 = .ok (.iaload, 1) := by decide +kernel
theorem d236_83 : decode (mcode 236) 83 = .ok (.iload_n 2, 1) := by decide +kernel
theorem d236_84 : decode (mcode 236) 84 = .ok (.iadd, 1) := by decide +kernel
theorem d236_85 : decode (mcode 236) 85 = .ok (.iastore, 1) := by decide +kernel
theorem d236_86 : decode (mcode 236) 86 = .ok (.return_, 1) := by decide +kernel
theorem d237_0 : decode (mcode 237) 0 = .ok (.aload_n 0, 1) := by decide +kernel
theorem d237_1 : decode (mcode 237) 1 = .ok (.iconst 0, 1) := by decide +kernel
theorem d237_2 : decode (mcode 237) 2 = .ok (.putfield 57, 3) := by decide +kernel
theorem d237_5 : decode (mcode 237) 5 = .ok (.aload_n 0, 1) := by decide +kernel
theorem d237_6 : decode (mcode 237) 6 = .ok (.iload_n 1, 1) := by decide +kernel
theorem d237_7 : decode (mcode 237) 7 = .ok (.invokevirtual 254, 3) := by decide +kernel
theorem d237_10 : decode (mcode 237) 10 = .ok (.ifCond .eq 12, 3) := by decide +kernel
theorem d237_13 : decode (mcode 237) 13 = .ok (.aload_n 0, 1) := by decide +kernel
theorem d237_14 : decode (mcode 237) 14 = .ok (.iload_n 1, 1) := by decide +kernel
theorem d237_15 : decode (mcode 237) 15 = .ok (.iload_n 2, 1) := by decide +kernel
theorem d237_16 : decode (mcode 237) 16 = .ok (.invokevirtual 257, 3) := by decide +kernel
theorem d237_19 : decode (mcode 237) 19 = .ok (.ifCond .ne 5, 3) := by decide +kernel
theorem d237_22 : decode (mcode 237) 22 = .ok (.iconst 0, 1) := by decide +kernel
theorem d237_23 : decode (mcode 237) 23 = .ok (.ireturn, 1) := by decide +kernel
theorem d237_24 : decode (mcode 237) 24 = .ok (.aload_n 0, 1) := by decide +kernel
theorem d237_25 : decode (mcode 237) 25 = .ok (.invokevirtual 105, 3) := by decide +kernel
theorem d237_28 : decode (mcode 237) 28 = .ok (.aload_n 0, 1) := by decide +kernel
theorem d237_29 : decode (mcode 237) 29 = .ok (.iload_n 1, 1) := by decide +kernel
theorem d237_30 : decode (mcode 237) 30 = .ok (.iload_n 2, 1) := by decide +kernel
theorem d237_31 : decode (mcode 237) 31 = .ok (.invokevirtual 260, 3) := by decide +kernel
theorem d237_34 : decode (mcode 237) 34 = .ok (.aload_n 0, 1) := by decide +kernel
theorem d237_35 : decode (mcode 237) 35 = .ok (.iconst 3, 1) := by decide +kernel
theorem d237_36 : decode (mcode 237) 36 = .ok (.iload_n 1, 1) := by decide +kernel
theorem d237_37 : decode (mcode 237) 37 = .ok (.iload_n 2, 1) := by decide +kernel
theorem d237_38 : decode (mcode 237) 38 = .ok (.invokevirtual 111, 3) := by decide +kernel
theorem d237_41 : decode (mcode 237) 41 = .ok (.iconst 1, 1) := by decide +kernel
theorem d237_42 : decode (mcode 237) 42 = .ok (.ireturn, 1) := by decide +kernel
theorem d238_0 : decode (mcode 238) 0 = .ok (.aload_n 0, 1) := by decide +kernel
theorem d238_1 : decode (mcode 238) 1 = .ok (.getfield 7, 3) := by decide +kernel
theorem d238_4 : decode (mcode 238) 4 = .ok (.sipush 730, 3) := by decide +kernel
theorem d238_7 : decode (mcode 238) 7 = .ok (.aload_n 0, 1) := by decide +kernel
theorem d238_8 : decode (mcode 238) 8 = .ok (.iload_n 1, 1) := by decide +kernel
theorem d238_9 : decode (mcode 238) 9 = .ok (.invokevirtual 86, 3) := by decide +kernel
theorem d238_12 : decode (mcode 238) 12 = .ok (.iadd, 1) := by decide +kernel
theorem d238_13 : decode (mcode 238) 13 = .ok (.iaload, 1) := by decide +kernel
theorem d238_14 : decode (mcode 238) 14 = .ok (.iload_n 2, 1) := by decide +kernel
theorem d238_15 : decode (mcode 238) 15 = .ok (.if_icmp .ne 11, 3) := by decide +kernel
theorem d238_18 : decode (mcode 238) 18 = .ok (.aload_n 0, 1) := by decide +kernel
theorem d238_19 : decode (mcode 238) 19 = .ok (.iload_n 1, 1) := by decide +kernel
theorem d238_20 : decode (mcode 238) 20 = .ok (.invokevirtual 86, 3) := by decide +kernel
theorem d238_23 : decode (mcode 238) 23 = .ok (.goto 8, 3) := by decide +kernel
theorem d238_26 : decode (mcode 238) 26 = .ok (.aload_n 0, 1) := by decide +kernel
theorem d238_27 : decode (mcode 238) 27 = .ok (.iload_n 1, 1) := by decide +kernel
theorem d238_28 : decode (mcode 238) 28 = .ok (.invokevirtual 93, 3) := by decide +kernel
theorem d238_31 : decode (mcode 238) 31 = .ok (.istore_n 3, 1) := by decide +kernel
theorem d238_32 : decode (mcode 238) 32 = .ok (.iload_n 3, 1) := by decide +kernel
theorem d238_33 : decode (mcode 238) 33 = .ok (.aload_n 0, 1) := by decide +kernel
theorem d238_34 : decode (mcode 238) 34 = .ok (.iload_n 1, 1) := by decide +kernel
theorem d238_35 : decode (mcode 238) 35 = .ok (.invokevirtual 86, 3) := by decide +kernel
theorem d238_38 : decode (mcode 238) 38 = .ok (.if_icmp .ne 11, 3) := by decide +kernel
theorem d238_41 : decode (mcode 238) 41 = .ok (.aload_n 0, 1) := by decide +kernel
theorem d238_42 : decode (mcode 238) 42 = .ok (.iload_n 1, 1) := by decide +kernel
theorem d238_43 : decode (mcode 238) 43 = .ok (.invokevirtual 93, 3) := by decide +kernel
theorem d238_46 : decode (mcode 238) 46 = .ok (.goto 8, 3) := by decide +kernel
theorem d238_49 : decode (mcode 238) 49 = .ok (.aload_n 0, 1) := by decide +kernel
theorem d238_50 : decode (mcode 238) 50 = .ok (.iload_n 1, 1) := by decide +kernel
theorem d238_51 : decode (mcode 238) 51 = .ok (.invokevirtual 86, 3) := by decide +kernel
theorem d238_54 : decode (mcode 238) 54 = .ok (.istore 4, 2) := by decide +kernel
theorem d238_56 : decode (mcode 238) 56 = .ok (.aload_n 0, 1) := by decide +kernel
theorem d238_57 : decode (mcode 238) 57 = .ok (.iload_n 3, 1) := by decide +kernel
theorem d238_58 : decode (mcode 238) 58 = .ok (.iload 4, 2) := by decide +kernel
theorem d238_60 : decode (mcode 238) 60 = .ok (.invokevirtual 133, 3) := by decide +kernel
theorem d238_63 : decode (mcode 238) 63 = .ok (.i2l, 1) := by decide +kernel
theorem d238_64 : decode (mcode 238) 64 = .ok (.aload_n 0, 1) := by decide +kernel
theorem d238_65 : decode (mcode 238) 65 = .ok (.getfield 7, 3) := by decide +kernel
theorem d238_68 : decode (mcode 238) 68 = .ok (.sipush 442, 3) := by decide +kernel
theorem d238_71 : decode (mcode 238) 71 = .ok (.iload_n 3, 1) := by decide +kernel
theorem d238_72 : decode (mcode 238) 72 = .ok (.iadd, 1) := by decide +kernel
theorem d238_73 : decode (mcode 238) 73 = .ok (.iaload, 1) := by decide +kernel
theorem d238_74 : decode (mcode 238) 74 = .ok (.i2l, 1) := by decide +kernel
theorem d238_75 : decode (mcode 238) 75 = .ok (.ladd, 1) := by decide +kernel
theorem d238_76 : decode (mcode 238) 76 = .ok (.aload_n 0, 1) := by decide +kernel
theorem d238_77 : decode (mcode 238) 77 = .ok (.getfield 7, 3) := by decide +kernel
theorem d238_80 : decode (mcode 238) 80 = .ok (.sipush 442, 3) := by decide +kernel
theorem d238_83 : decode (mcode 238) 83 = .ok (.iload 4, 2) := by decide +kernel
theorem d238_85 : decode (mcode 238) 85 = .ok (.iadd, 1) := by decide +kernel
theorem d238_86 : decode (mcode 238) 86 = .ok (.iaload, 1) := by decide +kernel
theorem d238_87 : decode (mcode 238) 87 = .ok (.i2l, 1) := by decide +kernel
theorem d238_88 : decode (mcode 238) 88 = .ok (.lsub, 1) := by decide +kernel
theorem d238_89 : decode (mcode 238) 89 = .ok (.ldc2_w 70, 3) := by decide +kernel
theorem d238_92 : decode (mcode 238) 92 = .ok (.ldiv, 1) := by decide +kernel
theorem d238_93 : decode (mcode 238) 93 = .ok (.l2i, 1) := by decide +kernel
theorem d238_94 : decode (mcode 238) 94 = .ok (.ireturn, 1) := by decide +kernel
theorem d239_0 : decode (mcode 239) 0 = .ok (.aload_n 0, 1) := by decide +kernel
theorem d239_1 : decode (mcode 239) 1 = .ok (.iload_n 1, 1) := by decide +kernel
theorem d239_2 : decode (mcode 239) 2 = .ok (.invokevirtual 242, 3) := by decide +kernel
theorem d239_5 : decode (mcode 239) 5 = .ok (.ifCond .ne 5, 3) := by decide +kernel
theorem d239_8 : decode (mcode 239) 8 = .ok (.iconst 0, 1) := by decide +kernel
theorem d239_9 : decode (mcode 239) 9 = .ok (.ireturn, 1) := by decide +kernel
theorem d239_10 : decode (mcode 239) 10 = .ok (.aload_n 0, 1) := by decide +kernel
theorem d239_11 : decode (mcode 239) 11 = .ok (.getfield 7, 3) := by decide +kernel
theorem d239_14 : decode (mcode 239) 14 = .ok (.sipush 730, 3) := by decide +kernel
theorem d239_17 : decode (mcode 239) 17 = .ok (.aload_n 0, 1) := by decide +kernel
theorem d239_18 : decode (mcode 239) 18 = .ok (.iload_n 1, 1) := by decide +kernel
theorem d239_19 : decode (mcode 239) 19 = .ok (.invokevirtual 86, 3) := by decide +kernel
theorem d239_22 : decode (mcode 239) 22 = .ok (.iadd, 1) := by decide +kernel
theorem d239_23 : decode (mcode 239) 23 = .ok (.iaload, 1) := by decide +kernel
theorem d239_24 : decode (mcode 239) 24 = .ok (.istore 4, 2) := by decide +kernel
theorem d239_26 : decode (mcode 239) 26 = .ok (.aload_n 0, 1) := by decide +kernel
theorem d239_27 : decode (mcode 239) 27 = .ok (.getfield 7, 3) := by decide +kernel
theorem d239_30 : decode (mcode 239) 30 = .ok (.sipush 730, 3) := by decide +kernel
theorem d239_33 : decode (mcode 239) 33 = .ok (.aload_n 0, 1) := by decide +kernel
theorem d239_34 : decode (mcode 239) 34 = .ok (.iload_n 1, 1) := by decide +kernel
theorem d239_35 : decode (mcode 239) 35 = .ok (.invokevirtual 93, 3) := by decide +kernel
theorem d239_38 : decode (mcode 239) 38 = .ok (.iadd, 1) := by decide +kernel
theorem d239_39 : decode (mcode 239) 39 = .ok (.iaload, 1) := by decide +kernel
theorem d239_40 : decode (mcode 239) 40 = .ok (.istore 5, 2) := by decide +kernel
theorem d239_42 : decode (mcode 239) 42 = .ok (.iload 4, 2) := by decide +kernel
theorem d239_44 : decode (mcode 239) 44 = .ok (.iload_n 2, 1) := by decide +kernel
theorem d239_45 : decode (mcode 239) 45 = .ok (.if_icmp .ne 9, 3) := by decide +kernel
theorem d239_48 : decode (mcode 239) 48 = .ok (.iload 5, 2) := by decide +kernel
theorem d239_50 : decode (mcode 239) 50 = .ok (.iload_n 3, 1) := by decide +kernel
theorem d239_51 : decode (mcode 239) 51 = .ok (.if_icmp .eq 15, 3) := by decide +kernel
theorem d239_54 : decode (mcode 239) 54 = .ok (.iload 4, 2) := by decide +kernel
theorem d239_56 : decode (mcode 239) 56 = .ok (.iload_n 3, 1) := by decide +kernel
theorem d239_57 : decode (mcode 239) 57 = .ok (.if_icmp .ne 13, 3) := by decide +kernel
theorem d239_60 : decode (mcode 239) 60 = .ok (.iload 5, 2) := by decide +kernel
theorem d239_62 : decode (mcode 239) 62 = .ok (.iload_n 2, 1) := by decide +kernel
theorem d239_63 : decode (mcode 239) 63 = .ok (.if_icmp .ne 7, 3) := by decide +kernel
theorem d239_66 : decode (mcode 239) 66 = .ok (.iconst 1, 1) := by decide +kernel
theorem d239_67 : decode (mcode 239) 67 = .ok (.goto 4, 3) := by decide +kernel
theorem d239_70 : decode (mcode 239) 70 = .ok (.iconst 0, 1) := by decide +kernel
theorem d239_71 : decode (mcode 239) 71 = .ok (.ireturn, 1) := by decide +kernel
theorem d240_0 : decode (mcode 240) 0 = .ok (.iload_n 1, 1) := by decide +kernel
theorem d240_1 : decode (mcode 240) 1 = .ok (.ifCond .ge 9, 3) := by decide +kernel
theorem d240_4 : decode (mcode 240) 4 = .ok (.iload_n 1, 1) := by decide +kernel
theorem d240_5 : decode (mcode 240) 5 = .ok (.i2l, 1) := by decide +kernel
theorem d240_6 : decode (mcode 240) 6 = .ok (.lneg, 1) := by decide +kernel
theorem d240_7 : decode (mcode 240) 7 = .ok (.goto 5, 3) := by decide +kernel
theorem d240_10 : decode (mcode 240) 10 = .ok (.iload_n 1, 1) := by decide +kernel
theorem d240_11 : decode (mcode 240) 11 = .ok (.i2l, 1) := by decide +kernel
theorem d240_12 : decode (mcode 240) 12 = .ok (.lstore_n 3, 1) := by decide +kernel
theorem d240_13 : decode (mcode 240) 13 = .ok (.iload_n 2, 1) := by decide +kernel
theorem d240_14 : decode (mcode 240) 14 = .ok (.ifCond .ge 9, 3) := by decide +kernel
theorem d240_17 : decode (mcode 240) 17 = .ok (.iload_n 2, 1) := by decide +kernel
theorem d240_18 : decode (mcode 240) 18 = .ok (.i2l, 1) := by decide +kernel
theorem d240_19 : decode (mcode 240) 19 = .ok (.lneg, 1) := by decide +kernel
theorem d240_20 : decode (mcode 240) 20 = .ok (.goto 5, 3) := by decide +kernel
theorem d240_23 : decode (mcode 240) 23 = .ok (.iload_n 2, 1) := by decide +kernel
theorem d240_24 : decode (mcode 240) 24 = .ok (.i2l, 1) := by decide +kernel
theorem d240_25 : decode (mcode 240) 25 = .ok (.lstore 5, 2) := by decide +kernel
theorem d240_27 : decode (mcode 240) 27 = .ok (.lload_n 3, 1) := by decide +kernel
theorem d240_28 : decode (mcode 240) 28 = .ok (.lload 5, 2) := by decide +kernel
theorem d240_30 : decode (mcode 240) 30 = .ok (.lcmp, 1) := by decide +kernel
theorem d240_31 : decode (mcode 240) 31 = .ok (.ifCond .eq 18, 3) := by decide +kernel
theorem d240_34 : decode (mcode 240) 34 = .ok (.lload_n 3, 1) := by decide +kernel
theorem d240_35 : decode (mcode 240) 35 = .ok (.lload 5, 2) := by decide +kernel
theorem d240_37 : decode (mcode 240) 37 = .ok (.lcmp, 1) := by decide +kernel
theorem d240_38 : decode (mcode 240) 38 = .ok (.ifCond .ge 7, 3) := by decide +kernel
theorem d240_41 : decode (mcode 240) 41 = .ok (.iconst 1, 1) := by decide +kernel
theorem d240_42 : decode (mcode 240) 42 = .ok (.goto 17, 3) := by decide +kernel
theorem d240_45 : decode (mcode 240) 45 = .ok (.iconst 0, 1) := by decide +kernel
theorem d240_46 : decode (mcode 240) 46 = .ok (.goto 13, 3) := by decide +kernel
theorem d240_49 : decode (mcode 240) 49 = .ok (.iload_n 1, 1) := by decide +kernel
theorem d240_50 : decode (mcode 240) 50 = .ok (.iload_n 2, 1) := by decide +kernel
theorem d240_51 : decode (mcode 240) 51 = .ok (.if_icmp .le 7, 3) := by decide +kernel
theorem d240_54 : decode (mcode 240) 54 = .ok (.iconst 1, 1) := by decide +kernel
theorem d240_55 : decode (mcode 240) 55 = .ok (.goto 4, 3) := by decide +kernel
theorem d240_58 : decode (mcode 240) 58 = .ok (.iconst 0, 1) := by decide +kernel
theorem d240_59 : decode (mcode 240) 59 = .ok (.ireturn, 1) := by decide +kernel
theorem d241_0 : decode (mcode 241) 0 = .ok (.aload_n 0, 1) := by decide +kernel
theorem d241_1 : decode (mcode 241) 1 = .ok (.iconst 0, 1) := by decide +kernel
theorem d241_2 : decode (mcode 241) 2 = .ok (.putfield 263, 3) := by decide +kernel
theorem d241_5 : decode (mcode 241) 5 = .ok (.iconst 0, 1) := by decide +kernel
theorem d241_6 : decode (mcode 241) 6 = .ok (.istore_n 3, 1) := by decide +kernel
theorem d241_7 : decode (mcode 241) 7 = .ok (.iload_n 3, 1) := by decide +kernel
theorem d241_8 : decode (mcode 241) 8 = .ok (.iconst 2, 1) := by decide +kernel
theorem d241_9 : decode (mcode 241) 9 = .ok (.aload_n 0, 1) := by decide +kernel
theorem d241_10 : decode (mcode 241) 10 = .ok (.invokevirtual 67, 3) := by decide +kernel
theorem d241_13 : decode (mcode 241) 13 = .ok (.imul, 1) := by decide +kernel
theorem d241_14 : decode (mcode 241) 14 = .ok (.if_icmp .ge 128, 3) := by decide +kernel
theorem d241_17 : decode (mcode 241) 17 = .ok (.aload_n 0, 1) := by decide +kernel
theorem d241_18 : decode (mcode 241) 18 = .ok (.iload_n 3, 1) := by decide +kernel
theorem d241_19 : decode (mcode 241) 19 = .ok (.iload_n 1, 1) := by decide +kernel
theorem d241_20 : decode (mcode 241) 20 = .ok (.iload_n 2, 1) := by decide +kernel
theorem d241_21 : decode (mcode 241) 21 = .ok (.invokevirtual 266, 3) := by decide +kernel
theorem d241_24 : decode (mcode 241) 24 = .ok (.ifCond .ne 6, 3) := by decide +kernel
theorem d241_27 : decode (mcode 241) 27 = .ok (.goto 109, 3) := by decide +kernel
theorem d241_30 : decode (mcode 241) 30 = .ok (.aload_n 0, 1) := by decide +kernel
theorem d241_31 : decode (mcode 241) 31 = .ok (.iload_n 3, 1) := by decide +kernel
theorem d241_32 : decode (mcode 241) 32 = .ok (.iload_n 1, 1) := by decide +kernel
theorem d241_33 : decode (mcode 241) 33 = .ok (.invokevirtual 269, 3) := by decide +kernel
theorem d241_36 : decode (mcode 241) 36 = .ok (.istore 4, 2) := by decide +kernel
theorem d241_38 : decode (mcode 241) 38 = .ok (.iconst 0, 1) := by decide +kernel
theorem d241_39 : decode (mcode 241) 39 = .ok (.istore 5, 2) := by decide +kernel
theorem d241_41 : decode (mcode 241) 41 = .ok (.iconst 0, 1) := by decide +kernel
theorem d241_42 : decode (mcode 241) 42 = .ok (.istore 6, 2) := by decide +kernel
theorem d241_44 : decode (mcode 241) 44 = .ok (.iload 6, 2) := by decide +kernel
theorem d241_46 : decode (mcode 241) 46 = .ok (.iconst 2, 1) := by decide +kernel
theorem d241_47 : decode (mcode 241) 47 = .ok (.aload_n 0, 1) := by decide +kernel
theorem d241_48 : decode (mcode 241) 48 = .ok (.invokevirtual 67, 3) := by decide +kernel
theorem d241_51 : decode (mcode 241) 51 = .ok (.imul, 1) := by decide +kernel
theorem d241_52 : decode (mcode 241) 52 = .ok (.if_icmp .ge 38, 3) := by decide +kernel
theorem d241_55 : decode (mcode 241) 55 = .ok (.aload_n 0, 1) := by decide +kernel
theorem d241_56 : decode (mcode 241) 56 = .ok (.iload 6, 2) := by decide +kernel
theorem d241_58 : decode (mcode 241) 58 = .ok (.iload_n 1, 1) := by decide +kernel
theorem d241_59 : decode (mcode 241) 59 = .ok (.iload_n 2, 1) := by decide +kernel
theorem d241_60 : decode (mcode 241) 60 = .ok (.invokevirtual 266, 3) := by decide +kernel
theorem d241_63 : decode (mcode 241) 63 = .ok (.ifCond .eq 21, 3) := by decide +kernel
theorem d241_66 : decode (mcode 241) 66 = .ok (.aload_n 0, 1) := by decide +kernel
theorem d241_67 : decode (mcode 241) 67 = .ok (.iload 6, 2) := by decide +kernel
theorem d241_69 : decode (mcode 241) 69 = .ok (.iload_n 1, 1) := by decide +kernel
theorem d241_70 : decode (mcode 241) 70 = .ok (.invokevirtual 269, 3) := by decide +kernel
theorem d241_73 : decode (mcode 241) 73 = .ok (.iload 4, 2) := by decide +kernel
theorem d241_75 : decode (mcode 241) 75 = .ok (.if_icmp .ne 9, 3) := by decide +kernel
theorem d241_78 : decode (mcode 241) 78 = .ok (.iload 5, 2) := by decide +kernel
theorem d241_80 : decode (mcode 241) 80 = .ok (.iconst 1, 1) := by decide +kernel
theorem d241_81 : decode (mcode 241) 81 = .ok (.iadd, 1) := by decide +kernel
theorem d241_82 : decode (mcode 241) 82 = .ok (.istore 5, 2) := by decide +kernel
theorem d241_84 : decode (mcode 241) 84 = .ok (.iinc 6 1, 3) := by decide +kernel
theorem d241_87 : decode (mcode 241) 87 = .ok (.goto (-43), 3) := by decide +kernel
theorem d241_90 : decode (mcode 241) 90 = .ok (.iload 5, 2) := by decide +kernel
theorem d241_92 : decode (mcode 241) 92 = .ok (.aload_n 0, 1) := by decide +kernel
theorem d241_93 : decode (mcode 241) 93 = .ok (.getfield 263, 3) := by decide +kernel
theorem d241_96 : decode (mcode 241) 96 = .ok (.if_icmp .lt 40, 3) := by decide +kernel
theorem d241_99 : decode (mcode 241) 99 = .ok (.iload 5, 2) := by decide +kernel
theorem d241_101 : decode (mcode 241) 101 = .ok (.aload_n 0, 1) := by decide +kernel
theorem d241_102 : decode (mcode 241) 102 = .ok (.getfield 263, 3) := by decide +kernel
theorem d241_105 : decode (mcode 241) 105 = .ok (.if_icmp .ne 19, 3) := by decide +kernel
theorem d241_108 : decode (mcode 241) 108 = .ok (.aload_n 0, 1) := by decide +kernel
theorem d241_109 : decode (mcode 241) 109 = .ok (.iload 4, 2) := by decide +kernel
theorem d241_111 : decode (mcode 241) 111 = .ok (.aload_n 0, 1) := by decide +kernel
theorem d241_112 : decode (mcode 241) 112 = .ok (.getfield 272, 3) := by decide +kernel
theorem d241_115 : decode (mcode 241) 115 = .ok (.invokevirtual 275, 3) := by decide +kernel
theorem d241_118 : decode (mcode 241) 118 = .ok (.ifCond .ne 6, 3) := by decide +kernel
theorem d241_121 : decode (mcode 241) 121 = .ok (.goto 15, 3) := by decide +kernel
theorem d241_124 : decode (mcode 241) 124 = .ok (.aload_n 0, 1) := by decide +kernel
theorem d241_125 : decode (mcode 241) 125 = .ok (.iload 4, 2) := by decide +kernel
theorem d241_127 : decode (mcode 241) 127 = .ok (.putfield 272, 3) := by decide +kernel
theorem d241_130 : decode (mcode 241) 130 = .ok (.aload_n 0, 1) := by decide +kernel
theorem d241_131 : decode (mcode 241) 131 = .ok (.iload 5, 2) := by decide +kernel
theorem d241_133 : decode (mcode 241) 133 = .ok (.putfield 263, 3) := by decide +kernel
theorem d241_136 : decode (mcode 241) 136 = .ok (.iinc 3 1, 3) := by decide +kernel
theorem d241_139 : decode (mcode 241) 139 = .ok (.goto (-132), 3) := by decide +kernel
theorem d241_142 : decode (mcode 241) 142 = .ok (.aload_n 0, 1) := by decide +kernel
theorem d241_143 : decode (mcode 241) 143 = .ok (.getfield 263, 3) := by decide +kernel
theorem d241_146 : decode (mcode 241) 146 = .ok (.ifCond .le 7, 3) := by decide +kernel
theorem d241_149 : decode (mcode 241) 149 = .ok (.iconst 1, 1) := by decide +kernel
theorem d241_150 : decode (mcode 241) 150 = .ok (.goto 4, 3) := by decide +kernel
theorem d241_153 : decode (mcode 241) 153 = .ok (.iconst 0, 1) := by decide +kernel
theorem d241_154 : decode (mcode 241) 154 = .ok (.ireturn, 1) := by decide +kernel
theorem d242_0 : decode (mcode 242) 0 = .ok (.aload_n 0, 1) := by decide +kernel
theorem d242_1 : decode (mcode 242) 1 = .ok (.iconst 0, 1) := by decide +kernel
theorem d242_2 : decode (mcode 242) 2 = .ok (.putfield 57, 3) := by decide +kernel
theorem d242_5 : decode (mcode 242) 5 = .ok (.aload_n 0, 1) := by decide +kernel
theorem d242_6 : decode (mcode 242) 6 = .ok (.iload_n 1, 1) := by decide +kernel
theorem d242_7 : decode (mcode 242) 7 = .ok (.invokevirtual 254, 3) := by decide +kernel
theorem d242_10 : decode (mcode 242) 10 = .ok (.ifCond .eq 35, 3) := by decide +kernel
theorem d242_13 : decode (mcode 242) 13 = .ok (.aload_n 0, 1) := by decide +kernel
theorem d242_14 : decode (mcode 242) 14 = .ok (.iload_n 2, 1) := by decide +kernel
theorem d242_15 : decode (mcode 242) 15 = .ok (.invokevirtual 254, 3) := by decide +kernel
theorem d242_18 : decode (mcode 242) 18 = .ok (.ifCond .eq 27, 3) := by decide +kernel
theorem d242_21 : decode (mcode 242) 21 = .ok (.iload_n 1, 1) := by decide +kernel
theorem d242_22 : decode (mcode 242) 22 = .ok (.iload_n 2, 1) := by decide +kernel
theorem d242_23 : decode (mcode 242) 23 = .ok (.if_icmp .eq 22, 3) := by decide +kernel
theorem d242_26 : decode (mcode 242) 26 = .ok (.aload_n 0, 1) := by decide +kernel
theorem d242_27 : decode (mcode 242) 27 = .ok (.iload_n 3, 1) := by decide +kernel
theorem d242_28 : decode (mcode 242) 28 = .ok (.iconst 0, 1) := by decide +kernel
theorem d242_29 : decode (mcode 242) 29 = .ok (.iconst 1, 1) := by decide +kernel
theorem d242_30 : decode (mcode 242) 30 = .ok (.invokevirtual 115, 3) := by decide +kernel
theorem d242_33 : decode (mcode 242) 33 = .ok (.ifCond .eq 12, 3) := by decide +kernel
theorem d242_36 : decode (mcode 242) 36 = .ok (.aload_n 0, 1) := by decide +kernel
theorem d242_37 : decode (mcode 242) 37 = .ok (.iload_n 1, 1) := by decide +kernel
theorem d242_38 : decode (mcode 242) 38 = .ok (.iload_n 2, 1) := by decide +kernel
theorem d242_39 : decode (mcode 242) 39 = .ok (.invokevirtual 278, 3) := by decide +kernel
theorem d242_42 : decode (mcode 242) 42 = .ok (.ifCond .ne 7, 3) := by decide +kernel
theorem d242_45 : decode (mcode 242) 45 = .ok (.ldc_w 281, 3) := by decide +kernel
theorem d242_48 : decode (mcode 242) 48 = .ok (.ireturn, 1) := by decide +kernel
theorem d242_49 : decode (mcode 242) 49 = .ok (.iload_n 3, 1) := by decide +kernel
theorem d242_50 : decode (mcode 242) 50 = .ok (.ifCond .ne 10, 3) := by decide +kernel
theorem d242_53 : decode (mcode 242) 53 = .ok (.aload_n 0, 1) := by decide +kernel
theorem d242_54 : decode (mcode 242) 54 = .ok (.getfield 272, 3) := by decide +kernel
theorem d242_57 : decode (mcode 242) 57 = .ok (.goto 7, 3) := by decide +kernel
theorem d242_60 : decode (mcode 242) 60 = .ok (.aload_n 0, 1) := by decide +kernel
theorem d242_61 : decode (mcode 242) 61 = .ok (.getfield 263, 3) := by decide +kernel
theorem d242_64 : decode (mcode 242) 64 = .ok (.ireturn, 1) := by decide +kernel
theorem d243_0 : decode (mcode 243) 0 = .ok (.aload_n 0, 1) := by decide +kernel
theorem d243_1 : decode (mcode 243) 1 = .ok (.getfield 7, 3) := by decide +kernel
theorem d243_4 : decode (mcode 243) 4 = .ok (.iconst 3, 1) := by decide +kernel
theorem d243_5 : decode (mcode 243) 5 = .ok (.iaload, 1) := by decide +kernel
theorem d243_6 : decode (mcode 243) 6 = .ok (.istore_n 1, 1) := by decide +kernel
theorem d243_7 : decode (mcode 243) 7 = .ok (.iconst 0, 1) := by decide +kernel
theorem d243_8 : decode (mcode 243) 8 = .ok (.istore_n 2, 1) := by decide +kernel
theorem d243_9 : decode (mcode 243) 9 = .ok (.iload_n 2, 1) := by decide +kernel
theorem d243_10 : decode (mcode 243) 10 = .ok (.aload_n 0, 1) := by decide +kernel
theorem d243_11 : decode (mcode 243) 11 = .ok (.getfield 7, 3) := by decide +kernel
theorem d243_14 : decode (mcode 243) 14 = .ok (.iconst 3, 1) := by decide +kernel
theorem d243_15 : decode (mcode 243) 15 = .ok (.iaload, 1) := by decide +kernel
theorem d243_16 : decode (mcode 243) 16 = .ok (.if_icmp .ge 16, 3) := by decide +kernel
theorem d243_19 : decode (mcode 243) 19 = .ok (.aload_n 0, 1) := by decide +kernel
theorem d243_20 : decode (mcode 243) 20 = .ok (.getfield 31, 3) := by decide +kernel
theorem d243_23 : decode (mcode 243) 23 = .ok (.iload_n 2, 1) := by decide +kernel
theorem d243_24 : decode (mcode 243) 24 = .ok (.iload_n 2, 1) := by decide +kernel
theorem d243_25 : decode (mcode 243) 25 = .ok (.iastore, 1) := by decide +kernel
theorem d243_26 : decode (mcode 243) 26 = .ok (.iinc 2 1, 3) := by decide +kernel
theorem d243_29 : decode (mcode 243) 29 = .ok (.goto (-20), 3) := by decide +kernel
theorem d243_32 : decode (mcode 243) 32 = .ok (.iconst 0, 1) := by decide +kernel
theorem d243_33 : decode (mcode 243) 33 = .ok (.istore_n 2, 1) := by decide +kernel
theorem d243_34 : decode (mcode 243) 34 = .ok (.iconst 0, 1) := by decide +kernel
theorem d243_35 : decode (mcode 243) 35 = .ok (.istore_n 3, 1) := by decide +kernel
theorem d243_36 : decode (mcode 243) 36 = .ok (.iconst (-1), 1) := by decide +kernel
theorem d243_37 : decode (mcode 243) 37 = .ok (.istore 4, 2) := by decide +kernel
theorem d243_39 : decode (mcode 243) 39 = .ok (.iconst (-1), 1) := by decide +kernel
theorem d243_40 : decode (mcode 243) 40 = .ok (.istore 5, 2) := by decide +kernel
theorem d243_42 : decode (mcode 243) 42 = .ok (.iconst 0, 1) := by decide +kernel
theorem d243_43 : decode (mcode 243) 43 = .ok (.istore 6, 2) := by decide +kernel
theorem d243_45 : decode (mcode 243) 45 = .ok (.iload 6, 2) := by decide +kernel
theorem d243_47 : decode (mcode 243) 47 = .ok (.aload_n 0, 1) := by decide +kernel
theorem d243_48 : decode (mcode 243) 48 = .ok (.getfield 7, 3) := by decide +kernel
theorem d243_51 : decode (mcode 243) 51 = .ok (.iconst 3, 1) := by decide +kernel
theorem d243_52 : decode (mcode 243) 52 = .ok (.iaload, 1) := by decide +kernel
theorem d243_53 : decode (mcode 243) 53 = .ok (.if_icmp .ge 89, 3) := by decide +kernel
theorem d243_56 : decode (mcode 243) 56 = .ok (.iload 6, 2) := by decide +kernel
theorem d243_58 : decode (mcode 243) 58 = .ok (.iconst 1, 1) := by decide +kernel
theorem d243_59 : decode (mcode 243) 59 = .ok (.iadd, 1) := by decide +kernel
theorem d243_60 : decode (mcode 243) 60 = .ok (.istore 7, 2) := by decide +kernel
theorem d243_62 : decode (mcode 243) 62 = .ok (.iload 7, 2) := by decide +kernel
theorem d243_64 : decode (mcode 243) 64 = .ok (.aload_n 0, 1) := by decide +kernel
theorem d243_65 : decode (mcode 243) 65 = .ok (.getfield 7, 3) := by decide +kernel
theorem d243_68 : decode (mcode 243) 68 = .ok (.iconst 3, 1) := by decide +kernel
theorem d243_69 : decode (mcode 243) 69 = .ok (.iaload, 1) := by decide +kernel
theorem d243_70 : decode (mcode 243) 70 = .ok (.if_icmp .ge 66, 3) := by decide +kernel
theorem d243_73 : decode (mcode 243) 73 = .ok (.aload_n 0, 1) := by decide +kernel
theorem d243_74 : decode (mcode 243) 74 = .ok (.getfield 31, 3) := by decide +kernel
theorem d243_77 : decode (mcode 243) 77 = .ok (.iload 6, 2) := by decide +kernel
theorem d243_79 : decode (mcode 243) 79 = .ok (.iaload, 1) := by decide +kernel
theorem d243_80 : decode (mcode 243) 80 = .ok (.aload_n 0, 1) := by decide +kernel
theorem d243_81 : decode (mcode 243) 81 = .ok (.getfield 31, 3) := by decide +kernel
theorem d243_84 : decode (mcode 243) 84 = .ok (.iload 7, 2) := by decide +kernel
theorem d243_86 : decode (mcode 243) 86 = .ok (.iaload, 1) := by decide +kernel
theorem d243_87 : decode (mcode 243) 87 = .ok (.if_icmp .eq 43, 3) := by decide +kernel
theorem d243_90 : decode (mcode 243) 90 = .ok (.aload_n 0, 1) := by decide +kernel
theorem d243_91 : decode (mcode 243) 91 = .ok (.iload 6, 2) := by decide +kernel
theorem d243_93 : decode (mcode 243) 93 = .ok (.iload 7, 2) := by decide +kernel
theorem d243_95 : decode (mcode 243) 95 = .ok (.invokevirtual 278, 3) := by decide +kernel
theorem d243_98 : decode (mcode 243) 98 = .ok (.ifCond .eq 32, 3) := by decide +kernel
theorem d243_101 : decode (mcode 243) 101 = .ok (.aload_n 0, 1) := by decide +kernel
theorem d243_102 : decode (mcode 243) 102 = .ok (.getfield 263, 3) := by decide +kernel
theorem d243_105 : decode (mcode 243) 105 = .ok (.iload_n 2, 1) := by decide +kernel
theorem d243_106 : decode (mcode 243) 106 = .ok (.if_icmp .gt 6, 3) := by decide +kernel
theorem d243_109 : decode (mcode 243) 109 = .ok (.goto 21, 3) := by decide +kernel
theorem d243_112 : decode (mcode 243) 112 = .ok (.aload_n 0, 1) := by decide +kernel
theorem d243_113 : decode (mcode 243) 113 = .ok (.getfield 263, 3) := by decide +kernel
theorem d243_116 : decode (mcode 243) 116 = .ok (.istore_n 2, 1) := by decide +kernel
theorem d243_117 : decode (mcode 243) 117 = .ok (.aload_n 0, 1) := by decide +kernel
theorem d243_118 : decode (mcode 243) 118 = .ok (.getfield 272, 3) := by decide +kernel
theorem d243_121 : decode (mcode 243) 121 = .ok (.istore_n 3, 1) := by decide +kernel
theorem d243_122 : decode (mcode 243) 122 = .ok (.iload 6, 2) := by decide +kernel
theorem d243_124 : decode (mcode 243) 124 = .ok (.istore 4, 2) := by decide +kernel
theorem d243_126 : decode (mcode 243) 126 = .ok (.iload 7, 2) := by decide +kernel
theorem d243_128 : decode (mcode 243) 128 = .ok (.istore 5, 2) := by decide +kernel
theorem d243_130 : decode (mcode 243) 130 = .ok (.iinc 7 1, 3) := by decide +kernel
theorem d243_133 : decode (mcode 243) 133 = .ok (.goto (-71), 3) := by decide +kernel
theorem d243_136 : decode (mcode 243) 136 = .ok (.iinc 6 1, 3) := by decide +kernel
theorem d243_139 : decode (mcode 243) 139 = .ok (.goto (-94), 3) := by decide +kernel
theorem d243_142 : decode (mcode 243) 142 = .ok (.iload 4, 2) := by decide +kernel
theorem d243_144 : decode (mcode 243) 144 = .ok (.iconst (-1), 1) := by decide +kernel
theorem d243_145 : decode (mcode 243) 145 = .ok (.if_icmp .ne 5, 3) := by decide +kernel
theorem d243_148 : decode (mcode 243) 148 = .ok (.iload_n 1, 1) := by decide +kernel
theorem d243_149 : decode (mcode 243) 149 = .ok (.ireturn, 1) := by decide +kernel
theorem d243_150 : decode (mcode 243) 150 = .ok (.aload_n 0, 1) := by decide +kernel
theorem d243_151 : decode (mcode 243) 151 = .ok (.getfield 31, 3) := by decide +kernel
theorem d243_154 : decode (mcode 243) 154 = .ok (.iload 5, 2) := by decide +kernel
theorem d243_156 : decode (mcode 243) 156 = .ok (.iaload, 1) := by decide +kernel
theorem d243_157 : decode (mcode 243) 157 = .ok (.istore 6, 2) := by decide +kernel
theorem d243_159 : decode (mcode 243) 159 = .ok (.iconst 0, 1) := by decide +kernel
theorem d243_160 : decode (mcode 243) 160 = .ok (.istore 7, 2) := by decide +kernel
theorem d243_162 : decode (mcode 243) 162 = .ok (.iload 7, 2) := by decide +kernel
theorem d243_164 : decode (mcode 243) 164 = .ok (.aload_n 0, 1) := by decide +kernel
theorem d243_165 : decode (mcode 243) 165 = .ok (.getfield 7, 3) := by decide +kernel
theorem d243_168 : decode (mcode 243) 168 = .ok (.iconst 3, 1) := by decide +kernel
theorem d243_169 : decode (mcode 243) 169 = .ok (.iaload, 1) := by decide +kernel
theorem d243_170 : decode (mcode 243) 170 = .ok (.if_icmp .ge 57, 3) := by decide +kernel
theorem d243_173 : decode (mcode 243) 173 = .ok (.aload_n 0, 1) := by decide +kernel
theorem d243_174 : decode (mcode 243) 174 = .ok (.getfield 31, 3) := by decide +kernel
theorem d243_177 : decode (mcode 243) 177 = .ok (.iload 7, 2) := by decide +kernel
theorem d243_179 : decode (mcode 243) 179 = .ok (.iaload, 1) := by decide +kernel
theorem d243_180 : decode (mcode 243) 180 = .ok (.iload 6, 2) := by decide +kernel
theorem d243_182 : decode (mcode 243) 182 = .ok (.if_icmp .eq 6, 3) := by decide +kernel
theorem d243_185 : decode (mcode 243) 185 = .ok (.goto 36, 3) := by decide +kernel
theorem d243_188 : decode (mcode 243) 188 = .ok (.aload_n 0, 1) := by decide +kernel
theorem d243_189 : decode (mcode 243) 189 = .ok (.iload 7, 2) := by decide +kernel
theorem d243_191 : decode (mcode 243) 191 = .ok (.iload_n 3, 1) := by decide +kernel
theorem d243_192 : decode (mcode 243) 192 = .ok (.invokevirtual 257, 3) := by decide +kernel
theorem d243_195 : decode (mcode 243) 195 = .ok (.ifCond .ne 5, 3) := by decide +kernel
theorem d243_198 : decode (mcode 243) 198 = .ok (.iconst (-1), 1) := by decide +kernel
theorem d243_199 : decode (mcode 243) 199 = .ok (.ireturn, 1) := by decide +kernel
theorem d243_200 : decode (mcode 243) 200 = .ok (.aload_n 0, 1) := by decide +kernel
theorem d243_201 : decode (mcode 243) 201 = .ok (.iload 7, 2) := by decide +kernel
theorem d243_203 : decode (mcode 243) 203 = .ok (.iload_n 3, 1) := by decide +kernel
theorem d243_204 : decode (mcode 243) 204 = .ok (.invokevirtual 260, 3) := by decide +kernel
theorem d243_207 : decode (mcode 243) 207 = .ok (.aload_n 0, 1) := by decide +kernel
theorem d243_208 : decode (mcode 243) 208 = .ok (.getfield 31, 3) := by decide +kernel
theorem d243_211 : decode (mcode 243) 211 = .ok (.iload 7, 2) := by decide +kernel
theorem d243_213 : decode (mcode 243) 213 = .ok (.aload_n 0, 1) := by decide +kernel
theorem d243_214 : decode (mcode 243) 214 = .ok (.getfield 31, 3) := by decide +kernel
theorem d243_217 : decode (mcode 243) 217 = .ok (.iload 4, 2) := by decide +kernel
theorem d243_219 : decode (mcode 243) 219 = .ok (.iaload, 1) := by decide +kernel
theorem d243_220 : decode (mcode 243) 220 = .ok (.iastore, 1) := by decide +kernel
theorem d243_221 : decode (mcode 243) 221 = .ok (.iinc 7 1, 3) := by decide +kernel
theorem d243_224 : decode (mcode 243) 224 = .ok (.goto (-62), 3) := by decide +kernel
theorem d243_227 : decode (mcode 243) 227 = .ok (.iload_n 1, 1) := by decide +kernel
theorem d243_228 : decode (mcode 243) 228 = .ok (.iconst 1, 1) := by decide +kernel
theorem d243_229 : decode (mcode 243) 229 = .ok (.isub, 1) := by decide +kernel
theorem d243_230 : decode (mcode 243) 230 = .ok (.istore_n 1, 1) := by decide +kernel
theorem d243_231 : decode (mcode 243) 231 = .ok (.goto (-199), 3) := by decide +kernel
theorem d244_0 : decode (mcode 244) 0 = .ok (.iconst 0, 1) := by decide +kernel
theorem d244_1 : decode (mcode 244) 1 = .ok (.istore_n 1, 1) := by decide +kernel
theorem d244_2 : decode (mcode 244) 2 = .ok (.iload_n 1, 1) := by decide +kernel
theorem d244_3 : decode (mcode 244) 3 = .ok (.sipush 2314, 3) := by decide +kernel
theorem d244_6 : decode (mcode 244) 6 = .ok (.if_icmp .ge 35, 3) := by decide +kernel
theorem d244_9 : decode (mcode 244) 9 = .ok (.aload_n 0, 1) := by decide +kernel
theorem d244_10 : decode (mcode 244) 10 = .ok (.getfield 7, 3) := by decide +kernel
theorem d244_13 : decode (mcode 244) 13 = .ok (.iload_n 1, 1) := by decide +kernel
theorem d244_14 : decode (mcode 244) 14 = .ok (.iaload, 1) := by decide +kernel
theorem d244_15 : decode (mcode 244) 15 = .ok (.istore_n 2, 1) := by decide +kernel
theorem d244_16 : decode (mcode 244) 16 = .ok (.aload_n 0, 1) := by decide +kernel
theorem d244_17 : decode (mcode 244) 17 = .ok (.getfield 7, 3) := by decide +kernel
theorem d244_20 : decode (mcode 244) 20 = .ok (.iload_n 1, 1) := by decide +kernel
theorem d244_21 : decode (mcode 244) 21 = .ok (.aload_n 0, 1) := by decide +kernel
theorem d244_22 : decode (mcode 244) 22 = .ok (.getfield 13, 3) := by decide +kernel
theorem d244_25 : decode (mcode 244) 25 = .ok (.iload_n 1, 1) := by decide +kernel
theorem d244_26 : decode (mcode 244) 26 = .ok (.iaload, 1) := by decide +kernel
theorem d244_27 : decode (mcode 244) 27 = .ok (.iastore, 1) := by decide +kernel
theorem d244_28 : decode (mcode 244) 28 = .ok (.aload_n 0, 1) := by decide +kernel
theorem d244_29 : decode (mcode 244) 29 = .ok (.getfield 13, 3) := by decide +kernel
theorem d244_32 : decode (mcode 244) 32 = .ok (.iload_n 1, 1) := by decide +kernel
theorem d244_33 : decode (mcode 244) 33 = .ok (.iload_n 2, 1) := by decide +kernel
theorem d244_34 : decode (mcode 244) 34 = .ok (.iastore, 1) := by decide +kernel
theorem d244_35 : decode (mcode 244) 35 = .ok (.iinc 1 1, 3) := by decide +kernel
theorem d244_38 : decode (mcode 244) 38 = .ok (.goto (-36), 3) := by decide +kernel
theorem d244_41 : decode (mcode 244) 41 = .ok (.return_, 1) := by decide +kernel
theorem d245_0 : decode (mcode 245) 0 = .ok (.aload_n 0, 1) := by decide +kernel
theorem d245_1 : decode (mcode 245) 1 = .ok (.iconst 0, 1) := by decide +kernel
theorem d245_2 : decode (mcode 245) 2 = .ok (.putfield 57, 3) := by decide +kernel
theorem d245_5 : decode (mcode 245) 5 = .ok (.iconst 0, 1) := by decide +kernel
theorem d245_6 : decode (mcode 245) 6 = .ok (.istore_n 1, 1) := by decide +kernel
theorem d245_7 : decode (mcode 245) 7 = .ok (.iload_n 1, 1) := by decide +kernel
theorem d245_8 : decode (mcode 245) 8 = .ok (.sipush 2314, 3) := by decide +kernel
theorem d245_11 : decode (mcode 245) 11 = .ok (.if_icmp .ge 21, 3) := by decide +kernel
theorem d245_14 : decode (mcode 245) 14 = .ok (.aload_n 0, 1) := by decide +kernel
theorem d245_15 : decode (mcode 245) 15 = .ok (.getfield 13, 3) := by decide +kernel
theorem d245_18 : decode (mcode 245) 18 = .ok (.iload_n 1, 1) := by decide +kernel
theorem d245_19 : decode (mcode 245) 19 = .ok (.aload_n 0, 1) := by decide +kernel
theorem d245_20 : decode (mcode 245) 20 = .ok (.getfield 7, 3) := by decide +kernel
theorem d245_23 : decode (mcode 245) 23 = .ok (.iload_n 1, 1) := by decide +kernel
theorem d245_24 : decode (mcode 245) 24 = .ok (.iaload, 1) := by decide +kernel
theorem d245_25 : decode (mcode 245) 25 = .ok (.iastore, 1) := by decide +kernel
theorem d245_26 : decode (mcode 245) 26 = .ok (.iinc 1 1, 3) := by decide +kernel
theorem d245_29 : decode (mcode 245) 29 = .ok (.goto (-22), 3) := by decide +kernel
theorem d245_32 : decode (mcode 245) 32 = .ok (.aload_n 0, 1) := by decide +kernel
theorem d245_33 : decode (mcode 245) 33 = .ok (.invokevirtual 282, 3) := by decide +kernel
theorem d245_36 : decode (mcode 245) 36 = .ok (.istore_n 1, 1) := by decide +kernel
theorem d245_37 : decode (mcode 245) 37 = .ok (.aload_n 0, 1) := by decide +kernel
theorem d245_38 : decode (mcode 245) 38 = .ok (.invokevirtual 285, 3) := by decide +kernel
theorem d245_41 : decode (mcode 245) 41 = .ok (.iload_n 1, 1) := by decide +kernel
theorem d245_42 : decode (mcode 245) 42 = .ok (.iconst (-1), 1) := by decide +kernel
theorem d245_43 : decode (mcode 245) 43 = .ok (.if_icmp .ne 5, 3) := by decide +kernel
theorem d245_46 : decode (mcode 245) 46 = .ok (.iconst (-1), 1) := by decide +kernel
theorem d245_47 : decode (mcode 245) 47 = .ok (.ireturn, 1) := by decide +kernel
theorem d245_48 : decode (mcode 245) 48 = .ok (.aload_n 0, 1) := by decide +kernel
theorem d245_49 : decode (mcode 245) 49 = .ok (.invokevirtual 105, 3) := by decide +kernel
theorem d245_52 : decode (mcode 245) 52 = .ok (.aload_n 0, 1) := by decide +kernel
theorem d245_53 : decode (mcode 245) 53 = .ok (.invokevirtual 285, 3) := by decide +kernel
theorem d245_56 : decode (mcode 245) 56 = .ok (.aload_n 0, 1) := by decide +kernel
theorem d245_57 : decode (mcode 245) 57 = .ok (.iconst 5, 1) := by decide +kernel
theorem d245_58 : decode (mcode 245) 58 = .ok (.iload_n 1, 1) := by decide +kernel
theorem d245_59 : decode (mcode 245) 59 = .ok (.aload_n 0, 1) := by decide +kernel
theorem d245_60 : decode (mcode 245) 60 = .ok (.getfield 7, 3) := by decide +kernel
theorem d245_63 : decode (mcode 245) 63 = .ok (.iconst 3, 1) := by decide +kernel
theorem d245_64 : decode (mcode 245) 64 = .ok (.iaload, 1) := by decide +kernel
theorem d245_65 : decode (mcode 245) 65 = .ok (.invokevirtual 111, 3) := by decide +kernel
theorem d245_68 : decode (mcode 245) 68 = .ok (.iload_n 1, 1) := by decide +kernel
theorem d245_69 : decode (mcode 245) 69 = .ok (.ireturn, 1) := by decide +kernel
theorem d246_0 : decode (mcode 246) 0 = .ok (.bipush 24, 2) := by decide +kernel
theorem d246_2 : decode (mcode 246) 2 = .ok (.istore_n 2, 1) := by decide +kernel
theorem d246_3 : decode (mcode 246) 3 = .ok (.iload_n 2, 1) := by decide +kernel
theorem d246_4 : decode (mcode 246) 4 = .ok (.ifCond .lt 35, 3) := by decide +kernel
theorem d246_7 : decode (mcode 246) 7 = .ok (.aload_n 0, 1) := by decide +kernel
theorem d246_8 : decode (mcode 246) 8 = .ok (.getfield 34, 3) := by decide +kernel
theorem d246_11 : decode (mcode 246) 11 = .ok (.aload_n 0, 1) := by decide +kernel
theorem d246_12 : decode (mcode 246) 12 = .ok (.getfield 288, 3) := by decide +kernel
theorem d246_15 : decode (mcode 246) 15 = .ok (.iload_n 1, 1) := by decide +kernel
theorem d246_16 : decode (mcode 246) 16 = .ok (.iload_n 2, 1) := by decide +kernel
theorem d246_17 : decode (mcode 246) 17 = .ok (.ishr, 1) := by decide +kernel
theorem d246_18 : decode (mcode 246) 18 = .ok (.sipush 255, 3) := by decide +kernel
theorem d246_21 : decode (mcode 246) 21 = .ok (.iand, 1) := by decide +kernel
theorem d246_22 : decode (mcode 246) 22 = .ok (.iastore, 1) := by decide +kernel
theorem d246_23 : decode (mcode 246) 23 = .ok (.aload_n 0, 1) := by decide +kernel
theorem d246_24 : decode (mcode 246) 24 = .ok (.aload_n 0, 1) := by decide +kernel
theorem d246_25 : decode (mcode 246) 25 = .ok (.getfield 288, 3) := by decide +kernel
theorem d246_28 : decode (mcode 246) 28 = .ok (.iconst 1, 1) := by decide +kernel
theorem d246_29 : decode (mcode 246) 29 = .ok (.iadd, 1) := by decide +kernel
theorem d246_30 : decode (mcode 246) 30 = .ok (.putfield 288, 3) := by decide +kernel
theorem d246_33 : decode (mcode 246) 33 = .ok (.iinc 2 (-8), 3) := by decide +kernel
theorem d246_36 : decode (mcode 246) 36 = .ok (.goto (-33), 3) := by decide +kernel
theorem d246_39 : decode (mcode 246) 39 = .ok (.return_, 1) := by decide +kernel
theorem d247_0 : decode (mcode 247) 0 = .ok (.aload_n 0, 1) := by decide +kernel
theorem d247_1 : decode (mcode 247) 1 = .ok (.iconst 0, 1) := by decide +kernel
theorem d247_2 : decode (mcode 247) 2 = .ok (.putfield 57, 3) := by decide +kernel
theorem d247_5 : decode (mcode 247) 5 = .ok (.aload_n 0, 1) := by decide +kernel
theorem d247_6 : decode (mcode 247) 6 = .ok (.getfield 288, 3) := by decide +kernel
theorem d247_9 : decode (mcode 247) 9 = .ok (.sipush 380, 3) := by decide +kernel
theorem d247_12 : decode (mcode 247) 12 = .ok (.if_icmp .le 5, 3) := by decide +kernel
theorem d247_15 : decode (mcode 247) 15 = .ok (.iconst (-1), 1) := by decide +kernel
theorem d247_16 : decode (mcode 247) 16 = .ok (.ireturn, 1) := by decide +kernel
theorem d247_17 : decode (mcode 247) 17 = .ok (.aload_n 0, 1) := by decide +kernel
theorem d247_18 : decode (mcode 247) 18 = .ok (.iload_n 1, 1) := by decide +kernel
theorem d247_19 : decode (mcode 247) 19 = .ok (.invokevirtual 291, 3) := by decide +kernel
theorem d247_22 : decode (mcode 247) 22 = .ok (.aload_n 0, 1) := by decide +kernel
theorem d247_23 : decode (mcode 247) 23 = .ok (.iload_n 2, 1) := by decide +kernel
theorem d247_24 : decode (mcode 247) 24 = .ok (.invokevirtual 291, 3) := by decide +kernel
theorem d247_27 : decode (mcode 247) 27 = .ok (.aload_n 0, 1) := by decide +kernel
theorem d247_28 : decode (mcode 247) 28 = .ok (.iload_n 3, 1) := by decide +kernel
theorem d247_29 : decode (mcode 247) 29 = .ok (.invokevirtual 291, 3) := by decide +kernel
theorem d247_32 : decode (mcode 247) 32 = .ok (.aload_n 0, 1) := by decide +kernel
theorem d247_33 : decode (mcode 247) 33 = .ok (.iload 4, 2) := by decide +kernel
theorem d247_35 : decode (mcode 247) 35 = .ok (.invokevirtual 291, 3) := by decide +kernel
theorem d247_38 : decode (mcode 247) 38 = .ok (.aload_n 0, 1) := by decide +kernel
theorem d247_39 : decode (mcode 247) 39 = .ok (.iload 5, 2) := by decide +kernel
theorem d247_41 : decode (mcode 247) 41 = .ok (.invokevirtual 291, 3) := by decide +kernel
theorem d247_44 : decode (mcode 247) 44 = .ok (.aload_n 0, 1) := by decide +kernel
theorem d247_45 : decode (mcode 247) 45 = .ok (.getfield 288, 3) := by decide +kernel
theorem d247_48 : decode (mcode 247) 48 = .ok (.ireturn, 1) := by decide +kernel
theorem d248_0 : decode (mcode 248) 0 = .ok (.aload_n 0, 1) := by decide +kernel
theorem d248_1 : decode (mcode 248) 1 = .ok (.iconst 0, 1) := by decide +kernel
theorem d248_2 : decode (mcode 248) 2 = .ok (.putfield 57, 3) := by decide +kernel
theorem d248_5 : decode (mcode 248) 5 = .ok (.aload_n 0, 1) := by decide +kernel
theorem d248_6 : decode (mcode 248) 6 = .ok (.iload_n 1, 1) := by decide +kernel
theorem d248_7 : decode (mcode 248) 7 = .ok (.iconst 0, 1) := by decide +kernel
theorem d248_8 : decode (mcode 248) 8 = .ok (.aload_n 0, 1) := by decide +kernel
theorem d248_9 : decode (mcode 248) 9 = .ok (.getfield 288, 3) := by decide +kernel
theorem d248_12 : decode (mcode 248) 12 = .ok (.invokevirtual 115, 3) := by decide +kernel
theorem d248_15 : decode (mcode 248) 15 = .ok (.ifCond .ne 5, 3) := by decide +kernel
theorem d248_18 : decode (mcode 248) 18 = .ok (.iconst 0, 1) := by decide +kernel
theorem d248_19 : decode (mcode 248) 19 = .ok (.ireturn, 1) := by decide +kernel
theorem d248_20 : decode (mcode 248) 20 = .ok (.aload_n 0, 1) := by decide +kernel
theorem d248_21 : decode (mcode 248) 21 = .ok (.iload_n 1, 1) := by decide +kernel
theorem d248_22 : decode (mcode 248) 22 = .ok (.putfield 288, 3) := by decide +kernel
theorem d248_25 : decode (mcode 248) 25 = .ok (.iconst 1, 1) := by decide +kernel
theorem d248_26 : decode (mcode 248) 26 = .ok (.ireturn, 1) := by decide +kernel
theorem d249_0 : decode (mcode 249) 0 = .ok (.iload_n 1, 1) := by decide +kernel
theorem d249_1 : decode (mcode 249) 1 = .ok (.bipush 48, 2) := by decide +kernel
theorem d249_3 : decode (mcode 249) 3 = .ok (.if_icmp .lt 14, 3) := by decide +kernel
theorem d249_6 : decode (mcode 249) 6 = .ok (.iload_n 1, 1) := by decide +kernel
theorem d249_7 : decode (mcode 249) 7 = .ok (.bipush 57, 2) := by decide +kernel
theorem d249_9 : decode (mcode 249) 9 = .ok (.if_icmp .gt 8, 3) := by decide +kernel
theorem d249_12 : decode (mcode 249) 12 = .ok (.iload_n 1, 1) := by decide +kernel
theorem d249_13 : decode (mcode 249) 13 = .ok (.bipush 48, 2) := by decide +kernel
theorem d249_15 : decode (mcode 249) 15 = .ok (.isub, 1) := by decide +kernel
theorem d249_16 : decode (mcode 249) 16 = .ok (.ireturn, 1) := by decide +kernel
theorem d249_17 : decode (mcode 249) 17 = .ok (.iload_n 1, 1) := by decide +kernel
theorem d249_18 : decode (mcode 249) 18 = .ok (.bipush 97, 2) := by decide +kernel
theorem d249_20 : decode (mcode 249) 20 = .ok (.if_icmp .lt 19, 3) := by decide +kernel
theorem d249_23 : decode (mcode 249) 23 = .ok (.iload_n 1, 1) := by decide +kernel
theorem d249_24 : decode (mcode 249) 24 = .ok (.bipush 102, 2) := by decide +kernel
theorem d249_26 : decode (mcode 249) 26 = .ok (.if_icmp .gt 13, 3) := by decide +kernel
theorem d249_29 : decode (mcode 249) 29 = .ok (.iload_n 1, 1) := by decide +kernel
theorem d249_30 : decode (mcode 249) 30 = .ok (.bipush 97, 2) := by decide +kernel
theorem d249_32 : decode (mcode 249) 32 = .ok (.isub, 1) := by decide +kernel
theorem d249_33 : decode (mcode 249) 33 = .ok (.bipush 10, 2) := by decide +kernel
theorem d249_35 : decode (mcode 249) 35 = .ok (.iadd, 1) := by decide +kernel
theorem d249_36 : decode (mcode 249) 36 = .ok (.goto 4, 3) := by decide +kernel
theorem d249_39 : decode (mcode 249) 39 = .ok (.iconst (-1), 1) := by decide +kernel
theorem d249_40 : decode (mcode 249) 40 = .ok (.ireturn, 1) := by decide +kernel
theorem d250_0 : decode (mcode 250) 0 = .ok (.iconst 0, 1) := by decide +kernel
theorem d250_1 : decode (mcode 250) 1 = .ok (.istore_n 2, 1) := by decide +kernel
theorem d250_2 : decode (mcode 250) 2 = .ok (.iconst 0, 1) := by decide +kernel
theorem d250_3 : decode (mcode 250) 3 = .ok (.istore_n 3, 1) := by decide +kernel
theorem d250_4 : decode (mcode 250) 4 = .ok (.aload_n 0, 1) := by decide +kernel
theorem d250_5 : decode (mcode 250) 5 = .ok (.iconst 0, 1) := by decide +kernel
theorem d250_6 : decode (mcode 250) 6 = .ok (.putfield 294, 3) := by decide +kernel
theorem d250_9 : decode (mcode 250) 9 = .ok (.aload_n 0, 1) := by decide +kernel
theorem d250_10 : decode (mcode 250) 10 = .ok (.iconst 0, 1) := by decide +kernel
theorem d250_11 : decode (mcode 250) 11 = .ok (.putfield 297, 3) := by decide +kernel
theorem d250_14 : decode (mcode 250) 14 = .ok (.iconst 0, 1) := by decide +kernel
theorem d250_15 : decode (mcode 250) 15 = .ok (.istore 4, 2) := by decide +kernel
theorem d250_17 : decode (mcode 250) 17 = .ok (.iload 4, 2) := by decide +kernel
theorem d250_19 : decode (mcode 250) 19 = .ok (.iload_n 1, 1) := by decide +kernel
theorem d250_20 : decode (mcode 250) 20 = .ok (.if_icmp .gt 253, 3) := by decide +kernel
theorem d250_23 : decode (mcode 250) 23 = .ok (.iload 4, 2) := by decide +kernel
theorem d250_25 : decode (mcode 250) 25 = .ok (.iload_n 1, 1) := by decide +kernel
theorem d250_26 : decode (mcode 250) 26 = .ok (.if_icmp .ge 13, 3) := by decide +kernel
theorem d250_29 : decode (mcode 250) 29 = .ok (.aload_n 0, 1) := by decide +kernel
theorem d250_30 : decode (mcode 250) 30 = .ok (.getfield 34, 3) := by decide +kernel
theorem d250_33 : decode (mcode 250) 33 = .ok (.iload 4, 2) := by decide +kernel
theorem d250_35 : decode (mcode 250) 35 = .ok (.iaload, 1) := by decide +kernel
theorem d250_36 : decode (mcode 250) 36 = .ok (.goto 5, 3) := by decide +kernel
theorem d250_39 : decode (mcode 250) 39 = .ok (.bipush 59, 2) := by decide +kernel
theorem d250_41 : decode (mcode 250) 41 = .ok (.istore 5, 2) := by decide +kernel
theorem d250_43 : decode (mcode 250) 43 = .ok (.iload 5, 2) := by decide +kernel
theorem d250_45 : decode (mcode 250) 45 = .ok (.bipush 59, 2) := by decide +kernel
theorem d250_47 : decode (mcode 250) 47 = .ok (.if_icmp .ne 90, 3) := by decide +kernel
theorem d250_50 : decode (mcode 250) 50 = .ok (.iload_n 3, 1) := by decide +kernel
theorem d250_51 : decode (mcode 250) 51 = .ok (.iconst 2, 1) := by decide +kernel
theorem d250_52 : decode (mcode 250) 52 = .ok (.irem, 1) := by decide +kernel
theorem d250_53 : decode (mcode 250) 53 = .ok (.iconst 1, 1) := by decide +kernel
theorem d250_54 : decode (mcode 250) 54 = .ok (.if_icmp .eq 25, 3) := by decide +kernel
theorem d250_57 : decode (mcode 250) 57 = .ok (.iload_n 3, 1) := by decide +kernel
theorem d250_58 : decode (mcode 250) 58 = .ok (.iconst 4, 1) := by decide +kernel
theorem d250_59 : decode (mcode 250) 59 = .ok (.if_icmp .lt 20, 3) := by decide +kernel
theorem d250_62 : decode (mcode 250) 62 = .ok (.aload_n 0, 1) := by decide +kernel
theorem d250_63 : decode (mcode 250) 63 = .ok (.getfield 294, 3) := by decide +kernel
theorem d250_66 : decode (mcode 250) 66 = .ok (.ifCond .le 16, 3) := by decide +kernel
theorem d250_69 : decode (mcode 250) 69 = .ok (.iload_n 3, 1) := by decide +kernel
theorem d250_70 : decode (mcode 250) 70 = .ok (.iconst 2, 1) := by decide +kernel
theorem d250_71 : decode (mcode 250) 71 = .ok (.idiv, 1) := by decide +kernel
theorem d250_72 : decode (mcode 250) 72 = .ok (.aload_n 0, 1) := by decide +kernel
theorem d250_73 : decode (mcode 250) 73 = .ok (.getfield 297, 3) := by decide +kernel
theorem d250_76 : decode (mcode 250) 76 = .ok (.if_icmp .eq 6, 3) := by decide +kernel
theorem d250_79 : decode (mcode 250) 79 = .ok (.iload 4, 2) := by decide +kernel
theorem d250_81 : decode (mcode 250) 81 = .ok (.ireturn, 1) := by decide +kernel
theorem d250_82 : decode (mcode 250) 82 = .ok (.aload_n 0, 1) := by decide +kernel
theorem d250_83 : decode (mcode 250) 83 = .ok (.iload_n 3, 1) := by decide +kernel
theorem d250_84 : decode (mcode 250) 84 = .ok (.iconst 2, 1) := by decide +kernel
theorem d250_85 : decode (mcode 250) 85 = .ok (.idiv, 1) := by decide +kernel
theorem d250_86 : decode (mcode 250) 86 = .ok (.putfield 297, 3) := by decide +kernel
theorem d250_89 : decode (mcode 250) 89 = .ok (.aload_n 0, 1) := by decide +kernel
theorem d250_90 : decode (mcode 250) 90 = .ok (.aload_n 0, 1) := by decide +kernel
theorem d250_91 : decode (mcode 250) 91 = .ok (.getfield 294, 3) := by decide +kernel
theorem d250_94 : decode (mcode 250) 94 = .ok (.iconst 1, 1) := by decide +kernel
theorem d250_95 : decode (mcode 250) 95 = .ok (.iadd, 1) := by decide +kernel
theorem d250_96 : decode (mcode 250) 96 = .ok (.putfield 294, 3) := by decide +kernel
theorem d250_99 : decode (mcode 250) 99 = .ok (.iload 4, 2) := by decide +kernel
theorem d250_101 : decode (mcode 250) 101 = .ok (.iload_n 1, 1) := by decide +kernel
theorem d250_102 : decode (mcode 250) 102 = .ok (.if_icmp .ne 18, 3) := by decide +kernel
theorem d250_105 : decode (mcode 250) 105 = .ok (.aload_n 0, 1) := by decide +kernel
theorem d250_106 : decode (mcode 250) 106 = .ok (.getfield 294, 3) := by decide +kernel
theorem d250_109 : decode (mcode 250) 109 = .ok (.iconst 2, 1) := by decide +kernel
theorem d250_110 : decode (mcode 250) 110 = .ok (.if_icmp .ge 8, 3) := by decide +kernel
theorem d250_113 : decode (mcode 250) 113 = .ok (.iload 4, 2) := by decide +kernel
theorem d250_115 : decode (mcode 250) 115 = .ok (.goto 4, 3) := by decide +kernel
theorem d250_118 : decode (mcode 250) 118 = .ok (.iconst (-1), 1) := by decide +kernel
theorem d250_119 : decode (mcode 250) 119 = .ok (.ireturn, 1) := by decide +kernel
theorem d250_120 : decode (mcode 250) 120 = .ok (.aload_n 0, 1) := by decide +kernel
theorem d250_121 : decode (mcode 250) 121 = .ok (.getfield 294, 3) := by decide +kernel
theorem d250_124 : decode (mcode 250) 124 = .ok (.bipush 12, 2) := by decide +kernel
theorem d250_126 : decode (mcode 250) 126 = .ok (.if_icmp .ne 6, 3) := by decide +kernel
theorem d250_129 : decode (mcode 250) 129 = .ok (.iload 4, 2) := by decide +kernel
theorem d250_131 : decode (mcode 250) 131 = .ok (.ireturn, 1) := by decide +kernel
theorem d250_132 : decode (mcode 250) 132 = .ok (.iconst 0, 1) := by decide +kernel
theorem d250_133 : decode (mcode 250) 133 = .ok (.istore_n 3, 1) := by decide +kernel
theorem d250_134 : decode (mcode 250) 134 = .ok (.goto 133, 3) := by decide +kernel
theorem d250_137 : decode (mcode 250) 137 = .ok (.iload 5, 2) := by decide +kernel
theorem d250_139 : decode (mcode 250) 139 = .ok (.bipush 46, 2) := by decide +kernel
theorem d250_141 : decode (mcode 250) 141 = .ok (.if_icmp .ne 7, 3) := by decide +kernel
theorem d250_144 : decode (mcode 250) 144 = .ok (.iconst 1, 1) := by decide +kernel
theorem d250_145 : decode (mcode 250) 145 = .ok (.goto 4, 3) := by decide +kernel
theorem d250_148 : decode (mcode 250) 148 = .ok (.iconst 0, 1) := by decide +kernel
theorem d250_149 : decode (mcode 250) 149 = .ok (.istore 6, 2) := by decide +kernel
theorem d250_151 : decode (mcode 250) 151 = .ok (.iload_n 3, 1) := by decide +kernel
theorem d250_152 : decode (mcode 250) 152 = .ok (.bipush 24, 2) := by decide +kernel
theorem d250_154 : decode (mcode 250) 154 = .ok (.if_icmp .eq 18, 3) := by decide +kernel
theorem d250_157 : decode (mcode 250) 157 = .ok (.iload 6, 2) := by decide +kernel
theorem d250_159 : decode (mcode 250) 159 = .ok (.ifCond .ne 16, 3) := by decide +kernel
theorem d250_162 : decode (mcode 250) 162 = .ok (.aload_n 0, 1) := by decide +kernel
theorem d250_163 : decode (mcode 250) 163 = .ok (.iload 5, 2) := by decide +kernel
theorem d250_165 : decode (mcode 250) 165 = .ok (.invokevirtual 300, 3) := by decide +kernel
theorem d250_168 : decode (mcode 250) 168 = .ok (.iconst (-1), 1) := by decide +kernel
theorem d250_169 : decode (mcode 250) 169 = .ok (.if_icmp .ne 6, 3) := by decide +kernel
theorem d250_172 : decode (mcode 250) 172 = .ok (.iload 4, 2) := by decide +kernel
theorem d250_174 : decode (mcode 250) 174 = .ok (.ireturn, 1) := by decide +kernel
theorem d250_175 : decode (mcode 250) 175 = .ok (.iload_n 3, 1) := by decide +kernel
theorem d250_176 : decode (mcode 250) 176 = .ok (.iconst 2, 1) := by decide +kernel
theorem d250_177 : decode (mcode 250) 177 = .ok (.irem, 1) := by decide +kernel
theorem d250_178 : decode (mcode 250) 178 = .ok (.iconst 1, 1) := by decide +kernel
theorem d250_179 : decode (mcode 250) 179 = .ok (.if_icmp .ne 64, 3) := by decide +kernel
